/-! ===== rows of the abstract machine: ends, throws, calls ===== -/
section RowsC
variable {g : Mg} {y : Ly} {J : Jm} {d : Nat} {K : Ou → Wd → Prop} {pc : Nat} {ls : List (Nat × AV)} {st : List AV} {w : Wd}
theorem zq_of {H : Heap} {s t : State} {below : List Frame} {locs : List Loc} {o : Ou} (ht : t.heap = H) (hrun : t.status = .running) (hend : Ended t below (cvo g o)) (ho : oko o) (hH : Hol g y w H) (hK : K o w) (hS : va_S (AA g y) s.heap H locs) (hW : s.WarmedH t.vm) (hs : s.sameButNew ({ t with vm := s.vm } : State) locs 0 0) : Zq g y K below s t :=
  ⟨cvo g o, hrun, hend, o, w, rfl, ho, by rw [ht]; exact hH, hK, hS.F ht, hW, locs, hs, hS.2.2⟩
theorem v_iret {x : Int} (hd : decode J.cc pc = .ok (.ireturn, 1)) (hr : J.ret = some .int) (hK : K (.inl (some (vI x))) w) : V g y J d K pc ls [vI x] w := by
  intro p e s m args below meth c A0 H locs lsA hH hS hl hlo hst
  obtain ⟨h1, h2, h3, h4, h5, -⟩ := A0
  intro T hT X
  have hlocks : meth.locks = false := h5
  obtain ⟨fs, hret, hrun, hended, hW, hframe⟩ := X.leave (v := some (.int (Int32.ofInt x))) (fun h => by rw [h3, hr] at h; cases h)
  have hmeth' : T.vm.method? m = some meth := X.method'
  have hrr : meth.sig.returnType = some .int := by rw [h3, hr]
  refine ⟨T.setFrames fs, ?_, zq_of (o := .inl (some (vI x))) hT hrun hended (ok_hd hst) hH hK hS hW hframe⟩
  jvm_step X.here [X.here.top, h1, h2, hd, hmeth', hrr, narrow, cv]
  (try refine ⟨rfl, ?_⟩); (try refine ⟨rfl, ?_⟩)
  first | (intro acts; rw [hret _ acts rfl rfl rfl]) | rw [hret _ _ rfl rfl rfl]
  exact Steps.refl _
theorem v_zret {x : Int} (hd : decode J.cc pc = .ok (.ireturn, 1)) (hr : J.ret = some .boolean) (hx : x = 0 ∨ x = 1) (hK : K (.inl (some (vI x))) w) : V g y J d K pc ls [vI x] w := by
  intro p e s m args below meth c A0 H locs lsA hH hS hl hlo hst
  obtain ⟨h1, h2, h3, h4, h5, -⟩ := A0
  intro T hT X
  have hlocks : meth.locks = false := h5
  obtain ⟨fs, hret, hrun, hended, hW, hframe⟩ := X.leave (v := some (.int (Int32.ofInt x))) (fun h => by rw [h3, hr] at h; cases h)
  have hmeth' : T.vm.method? m = some meth := X.method'
  have hrr : meth.sig.returnType = some .boolean := by rw [h3, hr]
  have hn : narrow .boolean (.int (Int32.ofInt x)) = .int (Int32.ofInt x) := by rcases hx with rfl | rfl <;> rfl
  refine ⟨T.setFrames fs, ?_, zq_of (o := .inl (some (vI x))) hT hrun hended (ok_hd hst) hH hK hS hW hframe⟩
  jvm_step X.here [X.here.top, h1, h2, hd, hmeth', hrr, hn, cv]
  (try refine ⟨rfl, ?_⟩); (try refine ⟨rfl, ?_⟩)
  first | (intro acts; rw [hret _ acts rfl rfl rfl]) | rw [hret _ _ rfl rfl rfl]
  exact Steps.refl _
theorem v_aret {a : Nat} {C : String} (hd : decode J.cc pc = .ok (.areturn, 1)) (hr : J.ret = some (.object C)) (hK : K (.inl (some (vA a))) w) : V g y J d K pc ls [vA a] w := by
  intro p e s m args below meth c A0 H locs lsA hH hS hl hlo hst
  obtain ⟨h1, h2, h3, h4, h5, -⟩ := A0
  intro T hT X
  have hlocks : meth.locks = false := h5
  obtain ⟨fs, hret, hrun, hended, hW, hframe⟩ := X.leave (v := some (.ref (g.ad a))) (fun h => by rw [h3, hr] at h; cases h)
  have hmeth' : T.vm.method? m = some meth := X.method'
  have hrr : meth.sig.returnType = some (.object C) := by rw [h3, hr]
  refine ⟨T.setFrames fs, ?_, zq_of (o := .inl (some (vA a))) hT hrun hended trivial hH hK hS hW hframe⟩
  jvm_step X.here [X.here.top, h1, h2, hd, hmeth', hrr, cv]
  (try refine ⟨rfl, ?_⟩); (try refine ⟨rfl, ?_⟩)
  first | (intro acts; rw [hret _ acts rfl rfl rfl]) | rw [hret _ _ rfl rfl rfl]
  exact Steps.refl _
theorem v_vret (hd : decode J.cc pc = .ok (.return_, 1)) (hr : J.ret = none) (hK : K (.inl none) w) : V g y J d K pc ls [] w := by
  intro p e s m args below meth c A0 H locs lsA hH hS hl hlo hst
  obtain ⟨h1, h2, h3, h4, h5, -⟩ := A0
  intro T hT X
  have hlocks : meth.locks = false := h5
  obtain ⟨fs, hret, hrun, hended, hW, hframe⟩ := X.leave (v := none) (fun _ => rfl)
  have hmeth' : T.vm.method? m = some meth := X.method'
  have hrr : meth.sig.returnType = none := by rw [h3, hr]
  refine ⟨T.setFrames fs, ?_, zq_of (o := .inl none) hT hrun hended trivial hH hK hS hW hframe⟩
  jvm_step X.here [X.here.top, h1, h2, hd, hmeth', hrr]
  (try refine ⟨rfl, ?_⟩); (try refine ⟨rfl, ?_⟩)
  first | (intro acts; rw [hret _ acts rfl rfl rfl]) | rw [hret _ _ rfl rfl rfl]
  exact Steps.refl _
/-- no row of the exception table covers this pc -/
theorem out_of {c : Code} {hh : List (Nat × Nat × Nat × Nat)} {pc : Nat} (he : c.exceptionTable.toList.map (fun h => (h.startPc, h.endPc, h.handlerPc, h.catchType)) = hh) (hno : hh.all (fun q => !(decide (q.1 ≤ pc) && decide (pc < q.2.1))) = true) : ∀ x ∈ c.exceptionTable.toList, covers x pc = false := by
  intro x hx
  have h1 : (x.startPc, x.endPc, x.handlerPc, x.catchType) ∈ hh := by rw [← he]; exact List.mem_map.mpr ⟨x, hx, rfl⟩
  have h2 := List.all_eq_true.mp hno _ h1
  simp [covers] at h2 ⊢
  omega
theorem v_athrow {a : Nat} (hd : decode J.cc pc = .ok (.athrow, 1)) (hno : J.hh.all (fun q => !(decide (q.1 ≤ pc) && decide (pc < q.2.1))) = true) (hK : K (.inr a) w) : V g y J d K pc ls (vA a :: st) w := by
  intro p e s m args below meth c A0 H locs lsA hH hS hl hlo hst
  obtain ⟨h1, h2, h3, h4, h5, h6, h7, h8, h9, h10, h11⟩ := A0
  intro T hT X
  obtain ⟨q1, q2, q3, q4, q5⟩ := X.athrowLeaves h1 (g := F0 m pc lsA ((vA a :: st).map (cv g))) rfl rfl rfl (out_of h11 hno) (a := g.ad a) (rest := st.map (cv g)) rfl (by rw [h2]; exact hd) h5
  exact ⟨_, q1, zq_of (o := .inr a) hT q2 q3 trivial hH hK hS q4 q5⟩
/-! calls -/
def aft (g : Mg) (T : State) (f : JFrame) : Ou → State
  | .inl v => T.setTop { f with pc := f.pc + 3, stack := (v.map (cv g)).toList ++ f.stack }
  | .inr a => (T.setTop f).pushFrame (.throwing (g.ad a))
theorem cal_core {J' : Jm} {d' : Nat} {a : List AV} {K' : Ou → Wd → Prop} {p : Program} {e : Env} {s : State} {m : MethodId} {sargs : Array Value} {below : List Frame} {meth : Method} {c : Code} {U : State} {Ls : List Loc}
    (hC : Cal g y J' d' a w K') (X : Stand p g.l e (rmd d) s m sargs below meth c U Ls 0 0) {f : JFrame} (hg : f.method = m) (hsize : f.locals.size = c.maxLocals) {ig : Instr} (hdg : decode c.code f.pc = .ok (ig, 3)) (hW : 2 * f.monitorRoom + (f.stack.map fun v => v.category).sum ≤ 8)
    {mk : MethodId} (hn : U.methodNamed? J'.y = some mk) (hd' : d' + 1 ≤ d) (hnl : J'.nL ≤ 45) (hwords : ∀ u ∈ wsJ J', u.before (a.map (cv g)).toArray U = true) (hinit : (Cond.initialized J'.y.cls).before (a.map (cv g)).toArray U = true) (hok : ∀ v ∈ a, okv v) (hH : Hol g y w U.heap) (hK : va_K g.D cls_ (tysl g) U) (hO : Old g (AA g y) U U.heap) (hI : Inj g y) :
    ∃ (o' : Ou) (w' : Wd) (T' : State) (L : List Loc), Stand p g.l e (rmd d) s m sargs below meth c T' (Ls ++ L) 0 0 ∧ (∀ q ∈ L, AA g y q.base) ∧ oko o' ∧ Hol g y w' T'.heap ∧ K' o' w' ∧ U.heap.size ≤ T'.heap.size ∧ (∀ q : Nat, q < U.heap.size → ¬ AA g y q → T'.heap[q]? = U.heap[q]?) ∧
      Steps p.tables e below (doInvoke e (U.setTop f) [] mk (a.map (cv g)).toArray).1 (aft g T' f o') := by
  have hcd : ∃ methY cY, U.vm.method? mk = some methY ∧ methY.code = some cY ∧ cY.maxLocals = J'.nL := by
    have hw := hwords _ List.mem_cons_self
    cases hh : J'.hh with
    | nil =>
      simp only [hh] at hw
      obtain ⟨meth, c, h1, h2, h3, h4, -⟩ := Cond.code_spec hn hw
      exact ⟨meth, c, h1, h2, h4⟩
    | cons q t =>
      simp only [hh] at hw
      obtain ⟨m9, meth, c, hn9, h1, h2, h3, h4, -⟩ := Cond.codeWith_spec hw
      cases hn.symm.trans hn9
      exact ⟨meth, c, h1, h2, h4⟩
  obtain ⟨methY, cY, hmY, hcY, hlY⟩ := hcd
  obtain ⟨kY, hkY, -⟩ := className_of_methodNamed hn
  have hinitY : kY.init = .initialized := Cond.initialized_spec (findClass_of_methodNamed hn) hkY hinit
  have h : At U f.method c below := by rw [hg]; exact X.here
  have happ : (headSpec (wsJ J') (rmd d')).appliesLoose J'.y e.platform (U.calling f mk (a.map (cv g)).toArray) = true :=
    Spec.appliesLoose_calling (g := f) h hdg hn hkY hinitY
      (X.room_calling (g := f) (R' := (headSpec (wsJ J') (rmd d')).room) hsize hmY hcY (by show d' + 1 ≤ d; exact hd') (by
        rw [hlY]
        show _ + (J'.nL + 11) + 64 * d' ≤ 64 * d
        omega) (by show 0 + 0 ≤ 0; exact Nat.le_refl _) (by show 0 + 0 ≤ 0; exact Nat.le_refl _)) (atoms_intro hwords)
  obtain ⟨mid, hmid⟩ := h.above
  have hfr : (U.setTop f).frames = (.java f :: mid) ++ below := by rw [State.frames_setTop' f h.top, hmid]; rfl
  obtain ⟨o, s₂, hsteps, -, hend, hq⟩ := Steps.callFree hC p X.admits X.cas X.clock (acts := []) hfr happ ⟨rfl, hok, hH, va_K.moved (Vm.Alike.refl U.vm) hK, hO.go (fun _ _ _ => rfl) (State.WarmedH.refl U), hI⟩ trivial
  have hq' : Zend g y K' (U.calling f mk (a.map (cv g)).toArray) o s₂ := hq
  rw [State.frames_setTop' f h.top] at hend
  obtain ⟨o', w', rfl, hoo, hH2, hK2, hF2, hW₂, L, ⟨e2, q2, q3, q4, q5, q6⟩, hL⟩ := hq'
  have e3 : s₂ = ({ (U.calling f mk (a.map (cv g)).toArray).setFrames s₂.frames with heap := s₂.heap, slotsUsed := s₂.slotsUsed } : State).setVm s₂.vm := by
    have : s₂ = ({ s₂ with vm := (U.calling f mk (a.map (cv g)).toArray).vm } : State).setVm s₂.vm := rfl
    rw [e2] at this
    exact this
  have hW' : U.WarmedH s₂.vm := hW₂
  obtain ⟨g₀, hg0⟩ := Option.isSome_iff_exists.mp h.top
  obtain ⟨r, hr⟩ := State.topJava?_eq_some.mp hg0
  have hsame : U.sameButNew ({ U with heap := s₂.heap, slotsUsed := s₂.slotsUsed } : State) L 0 0 := by
    refine ⟨?_, q2, q3, q4, q5, q6⟩
    obtain ⟨t, ht, -⟩ := State.frames_cons hr
    show ({ U with heap := s₂.heap, slotsUsed := s₂.slotsUsed } : State) = { U.setFrames U.frames with heap := s₂.heap, slotsUsed := s₂.slotsUsed }
    rw [State.setFrames_self ht]
  have hStand : Stand p g.l e (rmd d) s m sargs below meth c (({ U with heap := s₂.heap, slotsUsed := s₂.slotsUsed } : State).setVm s₂.vm) (Ls ++ L) 0 0 :=
    ⟨X.admits, X.cas, X.clock, X.frames, X.room, X.hears, X.method, X.code, (X.here.setHeapUsed s₂.heap s₂.slotsUsed).setVm hW'.alike, X.tail, State.WarmedH.trans X.warmed hW', X.limits, X.bytes, X.same.trans (hsame.setVm s.vm)⟩
  refine ⟨o', w', _, L, hStand, hL, hoo, hH2, hK2, hF2.1, hF2.2, ?_⟩
  have hr' : (({ U with heap := s₂.heap, slotsUsed := s₂.slotsUsed } : State).setVm s₂.vm).frames = .java g₀ :: r := hr
  have hs2 : s₂ = aft g (({ U with heap := s₂.heap, slotsUsed := s₂.slotsUsed } : State).setVm s₂.vm) f o' := by
    rcases o' with v | b
    · have hend' : Ended s₂ (.java f :: U.frames.tail) (.returned (v.map (cv g))) := by
        cases v with
        | none => exact hend
        | some v => exact hend
      obtain ⟨c₂, i₂, len₂, hc₂, hd₂, hf₂⟩ := hend'
      have hcc : c₂ = c := by
        have h1 : s₂.code? f.method = U.code? f.method := by
          rw [State.code?_eq, State.code?_eq, hW'.alike.method?]
        exact Option.some.inj (hc₂.symm.trans (h1.trans h.code))
      subst hcc
      have hlen : len₂ = 3 := by rw [hdg] at hd₂; cases hd₂; rfl
      subst hlen
      refine e3.trans ?_
      show _ = State.setTop _ _
      rw [hf₂, State.calling_eq h.top, State.setFrames_setFrames, State.setTop_of_frames _ hr', hr]
      rfl
    · have hf₂ : s₂.frames = .throwing (g.ad b) :: .java f :: U.frames.tail := hend
      refine e3.trans ?_
      show _ = State.pushFrame _ _
      rw [hf₂, State.calling_eq h.top, State.setFrames_setFrames, State.pushFrame, State.frames_setTop _ hr', State.setTop_of_frames _ hr', State.setFrames_setFrames, hr]
      rfl
  rw [← hs2]
  exact hsteps
/-- what a call of J' needs of the tables; n: how many parameters -/
def MOK (J' : Jm) (n : Nat) : Prop := (match J'.hh with | [] => Cond.code J'.y J'.cc J'.nL J'.ret | h :: t => Cond.codeWith J'.y J'.cc J'.nL J'.ret (h :: t)) ∈ lw_g ∧ Cond.initialized J'.y.cls ∈ lw_g ∧ (J'.y.cls ≠ "java/lang/invoke/MethodHandle" ∧ J'.y.cls ≠ "java/lang/invoke/VarHandle") ∧ (parseMethodDescriptor J'.y.desc).map (fun d => d.parameters.length) = some n ∧ J'.nL ≤ 45
def MLV (own : String) (idx : Nat) (J' : Jm) (n : Nat) : Prop := Cond.methodLink own idx J'.y ∈ lw_g ∧ Cond.instanceMethod J'.y ∈ lw_g ∧ Cond.selects J'.y.cls J'.y J'.y ∈ lw_g ∧ MOK J' n
def MLS (own : String) (idx : Nat) (J' : Jm) (n : Nat) : Prop := Cond.methodLink own idx J'.y ∈ lw_g ∧ Cond.static J'.y ∈ lw_g ∧ MOK J' n
theorem lw_good : lw_g.all goodWord = true := List.all_eq_true.mpr fun u hu => (List.mem_filter.mp hu).2
theorem lw_at {args a' : Array Value} {s U : State} (h : ∀ u ∈ lw_g, u.before args s = true) (hW : s.WarmedH U.vm) : ∀ u ∈ lw_g, u.before a' U = true :=
  fun u hu => word_at hW (good_of_word (List.all_eq_true.mp lw_good u hu)) (h u hu)
theorem mok_ws {J' : Jm} {n : Nat} (h : MOK J' n) : ∀ u ∈ wsJ J', u ∈ lw_g := fun u hu => by
  rcases List.mem_cons.mp hu with rfl | hu
  · exact h.1
  · exact hu
theorem mok_sig {J' : Jm} {n : Nat} {args : Array Value} {s : State} {mk : MethodId} (hn : s.methodNamed? J'.y = some mk) (h : MOK J' n) (hts : ∀ u ∈ lw_g, u.before args s = true) : ∃ methM, s.vm.method? mk = some methM ∧ n = methM.sig.parameters.length := by
  have hw := hts _ h.1
  have hp := h.2.2.2.1
  cases hh : J'.hh with
  | nil =>
    simp only [hh] at hw
    obtain ⟨meth, c, h1, -, -, -, -, -, -, h8⟩ := Cond.code_spec hn hw
    rw [h8] at hp
    exact ⟨meth, h1, (Option.some.inj hp).symm⟩
  | cons q t =>
    simp only [hh] at hw
    obtain ⟨m9, meth, c, hn9, h1, -, -, -, -, -, -, h8⟩ := Cond.codeWith_spec hw
    cases hn.symm.trans hn9
    rw [h8] at hp
    exact ⟨meth, h1, (Option.some.inj hp).symm⟩
def nx (V0 : List AV → Wd → Prop) (T0 : Nat → Wd → Prop) (st : List AV) : Ou → Wd → Prop
  | .inl none, w' => V0 st w'
  | .inl (some v), w' => V0 (v :: st) w'
  | .inr b, w' => T0 b w'
theorem cat_sum (st : List AV) : ((st.map (cv g)).map fun v => v.category).sum = (st.map aw).sum := by
  rw [List.map_map]
  congr 2
  funext v
  rcases v with x | x | x <;> rfl
/-- behind a call: it came back, or it threw and nobody here catches it -/
theorem call_on {p : Program} {e : Env} {s : State} {m : MethodId} {args : Array Value} {below : List Frame} {meth : Method} {c : Code} {H : Heap} {locs : List Loc} {lsA : Array Slot} (A0 : At0 g y J p s m args meth c) (hS : va_S (AA g y) s.heap H locs) (hl : lv_has lsA J.nL (ls.map (fun q => (q.1, cv g q.2)))) (hlo : ∀ q ∈ ls, okv q.2) (hst : ∀ v ∈ st, okv v)
    (hno : J.hh.all (fun q => !(decide (q.1 ≤ pc) && decide (pc < q.2.1))) = true) {o' : Ou} {w' : Wd} {T' : State} {L : List Loc} (X' : Stand p g.l e (rmd d) s m args below meth c T' (locs ++ L) 0 0) (hL : ∀ q ∈ L, AA g y q.base) (ho : oko o') (hH' : Hol g y w' T'.heap) (hK' : nx (fun st' w' => V g y J d K (pc + 3) ls st' w') (fun b w' => K (.inr b) w') st o' w')
    (hz : H.size ≤ T'.heap.size) (hk : ∀ q : Nat, q < H.size → ¬ AA g y q → T'.heap[q]? = H[q]?) : ∃ t, Steps p.tables e below (aft g T' (F0 m pc lsA (st.map (cv g))) o') t ∧ Zq g y K below s t := by
  have hS' : va_S (AA g y) s.heap T'.heap (locs ++ L) := by
    refine ⟨Nat.le_trans hS.1 hz, fun q h1 h2 => ?_, fun q hq => ?_⟩
    · rw [hk q (Nat.lt_of_lt_of_le h1 hS.1) h2]; exact hS.2.1 q h1 h2
    · rcases List.mem_append.mp hq with h | h
      · exact hS.2.2 q h
      · exact hL q h
  rcases o' with v | b
  · cases v with
    | none =>
      obtain ⟨t, h1, h2⟩ := hK' p e s m args below meth c A0 T'.heap (locs ++ L) lsA hH' hS' hl hlo hst T' rfl X'
      exact ⟨t, h1, h2⟩
    | some v =>
      obtain ⟨t, h1, h2⟩ := hK' p e s m args below meth c A0 T'.heap (locs ++ L) lsA hH' hS' hl hlo (ok_cons ho hst) T' rfl X'
      exact ⟨t, h1, h2⟩
  · obtain ⟨h1, h2, h3, h4, h5, h6, h7, h8, h9, h10, h11⟩ := A0
    obtain ⟨q1, q2, q3, q4, q5⟩ := X'.leaveThrown (g.ad b) (g := F0 m pc lsA (st.map (cv g))) rfl rfl rfl (out_of h11 hno) h5
    exact ⟨_, q1, zq_of (o := .inr b) rfl q2 q3 trivial hH' hK' hS' q4 q5⟩
theorem v_callV {J' : Jm} {d' idx o ci N n : Nat} {T : u_T} {As : List AV} (hd : decode J.cc pc = .ok (.invokevirtual idx, 3)) (hM : MLV J.own idx J' n) (ho : o < y.nn) (hly : y.ly o = (ci, N)) (hci : ci < 100) (hc : cls_[ci]? = some (J'.y.cls, T, N)) (hn : As.length = n) (hr : (st.map aw).sum ≤ 8) (hd' : d' + 1 ≤ d) (hno : J.hh.all (fun q => !(decide (q.1 ≤ pc) && decide (pc < q.2.1))) = true)
    (hC : Cal g y J' d' (vA o :: As) w (nx (fun st' w' => V g y J d K (pc + 3) ls st' w') (fun b w' => K (.inr b) w') st)) : V g y J d K pc ls (As.reverse ++ vA o :: st) w := by
  obtain ⟨hlk, hins, hsel, hmok⟩ := hM
  intro p e s m args below meth c A0 H locs lsA hH hS hl hlo hst
  obtain ⟨h1, h2, h3, h4, h5, h6, h7, h8, h9, h10, h11⟩ := id A0
  intro Tm hT X
  have hstR : ∀ v ∈ st, okv v := fun v hv => hst v (List.mem_append_right _ (List.mem_cons_of_mem _ hv))
  have hstA : ∀ v ∈ vA o :: As, okv v := ok_cons trivial (fun v hv => hst v (List.mem_append_left _ (List.mem_reverse.mpr hv)))
  have hat := ws_at (g := g) (w := w) ho
  rw [cel_o hly hci] at hat
  obtain ⟨r, hr1, cellB, hcB, hclB, hvmB, -⟩ := hH.1 o _ hat
  have hrr : r = (J'.y.cls, T, N) := Option.some.inj (hr1.symm.trans hc)
  subst hrr
  obtain ⟨-, hfc, -⟩ := h8.1 ci _ hc
  obtain ⟨mk, methM, hnamed, hmethM, hstM, habM⟩ := Cond.instanceMethod_spec (h7 _ hins)
  obtain ⟨c2, r2, m2, q1, q2, q3, q4, kP, hkP, hkPi⟩ := Cond.selects_spec (h7 _ hsel)
  cases hfc.symm.trans q1
  cases (State.methodFound?_of_named hnamed hmok.2.2.1).symm.trans q2
  cases hnamed.symm.trans q3
  rw [← hclB] at q4
  have hselP : selectMethod e.platform s.vm cellB.cls mk = .method mk := by rw [Launch.admits_selectMethod X.admits]; exact q4
  obtain ⟨methM', hm', hnn⟩ := mok_sig hnamed hmok h7
  cases hmethM.symm.trans hm'
  obtain ⟨vm₁, X₁, hstep₁⟩ := X.invokevirtual h1 h6 (h7 _ hlk) hnamed hmethM hstM hkP hkPi hmok.2.2.1 (a := g.ad o) (cell := cellB) (by rw [hT]; exact hcB)
    (fun z h => by rw [hvmB] at h; cases h) hselP hmethM habM hkP hkPi (g := F0 m pc lsA ((As.reverse ++ vA o :: st).map (cv g))) rfl (argsL := As.map (cv g)) (rest := st.map (cv g)) (by rw [List.length_map, hn, hnn]) (by simp [cv]) (by rw [h2]; exact hd)
  have hW1 : s.WarmedH vm₁ := X₁.warmed
  obtain ⟨o', w', T', L, X', hL, hoo, hH', hK', hz, hk, hsteps⟩ := cal_core (U := Tm.setVm vm₁) hC X₁ (f := F0 m pc lsA (st.map (cv g))) rfl (hl.1.trans h4.symm) (by rw [h2]; exact hd) (by rw [cat_sum]; show 2 * 0 + _ ≤ 8; omega) (X₁.named hnamed) hd' hmok.2.2.2.2
    (fun u hu => lw_at h7 hW1 u (mok_ws hmok u hu)) (lw_at h7 hW1 _ hmok.2.1) hstA (by show Hol g y w Tm.heap; rw [hT]; exact hH) (va_K.moved hW1.alike h8) (by
      have := h9.go (U := Tm.setVm vm₁) (H := H) hS.2.1 hW1
      show Old g (AA g y) (Tm.setVm vm₁) Tm.heap
      rw [hT]; exact this) h10
  have hheap : (Tm.setVm vm₁).heap = H := hT
  rw [hheap] at hz hk
  obtain ⟨t, ht1, ht2⟩ := call_on A0 hS hl hlo hstR hno X' hL hoo hH' hK' hz hk
  refine ⟨t, hstep₁ t fun acts => ?_, ht2⟩
  rw [doInvoke_state]
  exact hsteps.trans ht1
theorem v_callS {J' : Jm} {d' idx n : Nat} {As : List AV} (hd : decode J.cc pc = .ok (.invokestatic idx, 3)) (hM : MLS J.own idx J' n) (hn : As.length = n) (hr : (st.map aw).sum ≤ 8) (hd' : d' + 1 ≤ d) (hno : J.hh.all (fun q => !(decide (q.1 ≤ pc) && decide (pc < q.2.1))) = true)
    (hC : Cal g y J' d' As w (nx (fun st' w' => V g y J d K (pc + 3) ls st' w') (fun b w' => K (.inr b) w') st)) : V g y J d K pc ls (As.reverse ++ st) w := by
  obtain ⟨hlk, hstat, hmok⟩ := hM
  intro p e s m args below meth c A0 H locs lsA hH hS hl hlo hst
  obtain ⟨h1, h2, h3, h4, h5, h6, h7, h8, h9, h10, h11⟩ := id A0
  intro Tm hT X
  have hstR : ∀ v ∈ st, okv v := fun v hv => hst v (List.mem_append_right _ hv)
  have hstA : ∀ v ∈ As, okv v := fun v hv => hst v (List.mem_append_left _ (List.mem_reverse.mpr hv))
  obtain ⟨mk, hnamed⟩ : ∃ mk, s.methodNamed? J'.y = some mk := by
    have hw := h7 _ hmok.1
    cases hh : J'.hh with
    | nil => simp only [hh] at hw; exact Cond.code_named hw
    | cons q t =>
      simp only [hh] at hw
      obtain ⟨m9, meth, c, hn9, -⟩ := Cond.codeWith_spec hw
      exact ⟨m9, hn9⟩
  obtain ⟨methM, hmethM, hnn⟩ := mok_sig hnamed hmok h7
  have hstatic : methM.isStatic = true := Cond.static_spec hnamed hmethM (h7 _ hstat)
  obtain ⟨kP, hkP, -⟩ := className_of_methodNamed hnamed
  have hinitP : kP.init = .initialized := Cond.initialized_spec (findClass_of_methodNamed hnamed) hkP (h7 _ hmok.2.1)
  obtain ⟨vm₁, X₁, hstep₁⟩ := X.invokestatic h1 h6 (h7 _ hlk) hnamed hmethM hstatic hkP hinitP hmok.2.2.1 (g := F0 m pc lsA ((As.reverse ++ st).map (cv g))) rfl (argsL := As.map (cv g)) (rest := st.map (cv g)) (by rw [List.length_map, hn, hnn]) (by simp) (by rw [h2]; exact hd)
  have hW1 : s.WarmedH vm₁ := X₁.warmed
  obtain ⟨o', w', T', L, X', hL, hoo, hH', hK', hz, hk, hsteps⟩ := cal_core (U := Tm.setVm vm₁) hC X₁ (f := F0 m pc lsA (st.map (cv g))) rfl (hl.1.trans h4.symm) (by rw [h2]; exact hd) (by rw [cat_sum]; show 2 * 0 + _ ≤ 8; omega) (X₁.named hnamed) hd' hmok.2.2.2.2
    (fun u hu => lw_at h7 hW1 u (mok_ws hmok u hu)) (lw_at h7 hW1 _ hmok.2.1) hstA (by show Hol g y w Tm.heap; rw [hT]; exact hH) (va_K.moved hW1.alike h8) (by
      have := h9.go (U := Tm.setVm vm₁) (H := H) hS.2.1 hW1
      show Old g (AA g y) (Tm.setVm vm₁) Tm.heap
      rw [hT]; exact this) h10
  have hheap : (Tm.setVm vm₁).heap = H := hT
  rw [hheap] at hz hk
  obtain ⟨t, ht1, ht2⟩ := call_on A0 hS hl hlo hstR hno X' hL hoo hH' hK' hz hk
  refine ⟨t, hstep₁ t fun acts => ?_, ht2⟩
  rw [doInvoke_state]
  exact hsteps.trans ht1
end RowsC
