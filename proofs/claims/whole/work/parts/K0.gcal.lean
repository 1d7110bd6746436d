/-! ===== constructors: contracts that make cells ===== -/
def rmG (d mc ms : Nat) : Room := { frames := d, cells := mc, slots := ms, locals := 64 * d }
def GEnd (A : Nat → Prop) (mc ms : Nat) (Post : Heap → Prop) (st : State) (o : Outcome) (t : State) : Prop := o = .returned none ∧ Post t.heap ∧ va_F A st t ∧ st.WarmedH t.vm ∧ ∃ L, st.sameButNew ({ t with vm := st.vm } : State) L mc ms ∧ ∀ q ∈ L, A q.base
def GQ (A : Nat → Prop) (mc ms : Nat) (Post : Heap → Prop) (below : List Frame) (s : State) : State → Prop := fun t => ∃ o, t.status = .running ∧ Ended t below o ∧ GEnd A mc ms Post s o t
def GCal (l : Launch) (J : Jm) (d mc ms : Nat) (a : List Value) (A : Nat → Prop) (Pre : State → Prop) (Post : Heap → Prop) : Prop :=
  MetFree l J.y (headSpec (wsJ J) (rmG d mc ms)) (fun args U => args = a.toArray ∧ Pre U) (fun _ _ _ _ _ => True) (fun _ st o t => GEnd A mc ms Post st o t)
def AtG (J : Jm) (p : Program) (s : State) (m : MethodId) (args : Array Value) (meth : Method) (c : Code) : Prop :=
  p.tables.exec = Jvm.exec ∧ c.code = J.cc ∧ meth.sig.returnType = J.ret ∧ c.maxLocals = J.nL ∧ meth.locks = false ∧ s.vm.findClass J.own = some m.cls ∧ (∀ w ∈ lw_g, w.before args s = true) ∧ meth.name = J.y.name
theorem wsJ_nil {J : Jm} (h : J.hh = []) : wsJ J = Cond.code J.y J.cc J.nL J.ret :: lw_g := by
  unfold wsJ
  rw [h]
theorem GCal.ofW {l : Launch} {J : Jm} {d mc ms : Nat} {a : List Value} {A : Nat → Prop} {Pre : State → Prop} {Post : Heap → Prop} (hp : plainName J.y.cls = true) (ho : J.own = J.y.cls) (hh : J.hh = []) (hL : (lg_sl a).length ≤ J.nL)
    (h : ∀ (p : Program) (e : Env) (s : State) (m : MethodId) (below : List Frame) (meth : Method) (c : Code), AtG J p s m a.toArray meth c → Pre s → ∀ lsA : Array Slot, lv_has lsA J.nL (lv_args 0 a) → W p l e (rmG d mc ms) s m a.toArray below meth c s.heap [] 0 0 (GQ A mc ms Post below s) (F0 m 0 lsA [])) : GCal l J d mc ms a A Pre Post := by
  have his : ∀ (args : Array Value) (s : State) (m : MethodId), (headSpec (wsJ J) (rmG d mc ms)).pre.before args s = true → s.methodNamed? J.y = some m → ∃ meth c, s.vm.method? m = some meth ∧ meth.code = some c ∧ c.code = J.cc ∧ c.maxLocals = J.nL ∧ meth.sig.returnType = J.ret ∧ meth.locks = false := by
    intro args s m hpre hn
    have hw := atoms_spec (ws := wsJ J) hpre _ (by rw [wsJ_nil hh]; exact List.mem_cons_self)
    obtain ⟨meth, c, h1, h2, h3, h4, h5, h6, h7, -⟩ := Cond.code_spec hn hw
    exact ⟨meth, c, h1, h2, h3, h4, h5, h6⟩
  refine MetFree.of_bodyS (code := J.cc) (maxLocals := J.nL) (ret := J.ret) hp ?_ ?_
  · intro args s m hpre hn
    exact his args s m hpre hn
  · intro p e s m args below meth c s₁ B hml hP _
    obtain ⟨rfl, hPre⟩ := hP
    have hh0 : s₁.heap = s.heap := by rw [B.state]; rfl
    have X := Stand.of_body B
    have hts : ∀ w ∈ lw_g, w.before a.toArray s = true := fun w hw => atoms_spec (ws := wsJ J) B.pre _ (by rw [wsJ_nil hh]; exact List.mem_cons_of_mem _ hw)
    have hown : s.vm.findClass J.own = some m.cls := by rw [ho]; exact findClass_of_methodNamed B.named
    have hl := lv_entry a (n := J.nL) hL
    have hWk := h p e s m below meth c ⟨B.exec, B.bytes, B.returns, hml, B.notSynchronized, hown, hts, (name_of_methodNamed B.named B.method).1⟩ hPre _ hl
    rw [← hh0] at hWk
    obtain ⟨t, a1, o, b1, b2, b3⟩ := hWk s₁ rfl X
    refine ⟨t, o, ?_, b1, b2, b3⟩
    rw [lg_entry_eq]
    exact a1
theorem g_core {l : Launch} {R : Room} {ce sl : Nat} {J' : Jm} {d' mc ms : Nat} {a : List Value} {A : Nat → Prop} {Pre : State → Prop} {Post : Heap → Prop} {p : Program} {e : Env} {s : State} {m : MethodId} {sargs : Array Value} {below : List Frame} {meth : Method} {c : Code} {U : State} {Ls : List Loc}
    (hC : GCal l J' d' mc ms a A Pre Post) (hh : J'.hh = []) (X : Stand p l e R s m sargs below meth c U Ls ce sl) {f : JFrame} (hg : f.method = m) (hsize : f.locals.size = c.maxLocals) {ig : Instr} (hdg : decode c.code f.pc = .ok (ig, 3)) (hW : 2 * f.monitorRoom + (f.stack.map fun v => v.category).sum ≤ 8)
    {mk : MethodId} (hn : U.methodNamed? J'.y = some mk) (hfr : d' + 1 ≤ R.frames) (hlc : 64 * (d' + 1) ≤ R.locals) (hce : ce + mc ≤ R.cells) (hsl : sl + ms ≤ R.slots) (hnl : J'.nL ≤ 45) (hwords : ∀ u ∈ wsJ J', u.before a.toArray U = true) (hinit : (Cond.initialized J'.y.cls).before a.toArray U = true) (hP : Pre (U.calling f mk a.toArray)) :
    ∃ (T' : State) (L : List Loc), Stand p l e R s m sargs below meth c T' (Ls ++ L) (ce + mc) (sl + ms) ∧ (∀ q ∈ L, A q.base) ∧ Post T'.heap ∧ U.heap.size ≤ T'.heap.size ∧ (∀ q : Nat, q < U.heap.size → ¬ A q → T'.heap[q]? = U.heap[q]?) ∧
      Steps p.tables e below (doInvoke e (U.setTop f) [] mk a.toArray).1 (T'.setTop { f with pc := f.pc + 3 }) := by
  have hcd : ∃ methY cY, U.vm.method? mk = some methY ∧ methY.code = some cY ∧ cY.maxLocals = J'.nL := by
    have hw := hwords _ (by rw [wsJ_nil hh]; exact List.mem_cons_self)
    obtain ⟨meth, c, h1, h2, h3, h4, -⟩ := Cond.code_spec hn hw
    exact ⟨meth, c, h1, h2, h4⟩
  obtain ⟨methY, cY, hmY, hcY, hlY⟩ := hcd
  obtain ⟨kY, hkY, -⟩ := className_of_methodNamed hn
  have hinitY : kY.init = .initialized := Cond.initialized_spec (findClass_of_methodNamed hn) hkY hinit
  have h : _root_.Jvm.At U f.method c below := by rw [hg]; exact X.here
  have happ : (headSpec (wsJ J') (rmG d' mc ms)).appliesLoose J'.y e.platform (U.calling f mk a.toArray) = true :=
    Spec.appliesLoose_calling (g := f) h hdg hn hkY hinitY
      (X.room_calling (g := f) (R' := (headSpec (wsJ J') (rmG d' mc ms)).room) hsize hmY hcY (by show d' + 1 ≤ R.frames; exact hfr) (by
        rw [hlY]
        show _ + (J'.nL + 11) + 64 * d' ≤ R.locals
        omega) (by show ce + mc ≤ R.cells; exact hce) (by show sl + ms ≤ R.slots; exact hsl)) (atoms_intro hwords)
  obtain ⟨mid, hmid⟩ := h.above
  have hfrs : (U.setTop f).frames = (.java f :: mid) ++ below := by rw [State.frames_setTop' f h.top, hmid]; rfl
  obtain ⟨o, s₂, hsteps, -, hend, hq⟩ := Steps.callFree hC p X.admits X.cas X.clock (acts := []) hfrs happ ⟨rfl, hP⟩ trivial
  have hq' : GEnd A mc ms Post (U.calling f mk a.toArray) o s₂ := hq
  rw [State.frames_setTop' f h.top] at hend
  obtain ⟨rfl, hPost, hF2, hW₂, L, ⟨e2, q2, q3, q4, q5, q6⟩, hL⟩ := hq'
  have e3 : s₂ = ({ (U.calling f mk a.toArray).setFrames s₂.frames with heap := s₂.heap, slotsUsed := s₂.slotsUsed } : State).setVm s₂.vm := by
    have : s₂ = ({ s₂ with vm := (U.calling f mk a.toArray).vm } : State).setVm s₂.vm := rfl
    rw [e2] at this
    exact this
  have hW' : U.WarmedH s₂.vm := hW₂
  obtain ⟨g₀, hg0⟩ := Option.isSome_iff_exists.mp h.top
  obtain ⟨r, hr⟩ := State.topJava?_eq_some.mp hg0
  have hsame : U.sameButNew ({ U with heap := s₂.heap, slotsUsed := s₂.slotsUsed } : State) L mc ms := by
    refine ⟨?_, q2, q3, q4, q5, q6⟩
    obtain ⟨t, ht, -⟩ := State.frames_cons hr
    show ({ U with heap := s₂.heap, slotsUsed := s₂.slotsUsed } : State) = { U.setFrames U.frames with heap := s₂.heap, slotsUsed := s₂.slotsUsed }
    rw [State.setFrames_self ht]
  have hStand : Stand p l e R s m sargs below meth c (({ U with heap := s₂.heap, slotsUsed := s₂.slotsUsed } : State).setVm s₂.vm) (Ls ++ L) (ce + mc) (sl + ms) :=
    ⟨X.admits, X.cas, X.clock, X.frames, X.room, X.hears, X.method, X.code, (X.here.setHeapUsed s₂.heap s₂.slotsUsed).setVm hW'.alike, X.tail, State.WarmedH.trans X.warmed hW', X.limits, X.bytes, X.same.trans (hsame.setVm s.vm)⟩
  refine ⟨_, L, hStand, hL, hPost, hF2.1, hF2.2, ?_⟩
  have hr' : (({ U with heap := s₂.heap, slotsUsed := s₂.slotsUsed } : State).setVm s₂.vm).frames = .java g₀ :: r := hr
  have hs2 : s₂ = State.setTop (({ U with heap := s₂.heap, slotsUsed := s₂.slotsUsed } : State).setVm s₂.vm) { f with pc := f.pc + 3 } := by
    have hend' : Ended s₂ (.java f :: U.frames.tail) (.returned none) := hend
    obtain ⟨c₂, i₂, len₂, hc₂, hd₂, hf₂⟩ := hend'
    have hcc : c₂ = c := by
      have h1 : s₂.code? f.method = U.code? f.method := by
        rw [State.code?_eq, State.code?_eq, hW'.alike.method?]
      exact Option.some.inj (hc₂.symm.trans (h1.trans h.code))
    subst hcc
    have hlen : len₂ = 3 := by rw [hdg] at hd₂; cases hd₂; rfl
    subst hlen
    refine e3.trans ?_
    show _ = State.setTop _ _
    rw [hf₂, State.calling_eq h.top, State.setFrames_setFrames, State.setTop_of_frames _ hr', hr]
    rfl
  rw [← hs2]
  exact hsteps
/-- a constructor's call: the link is a plain one or one of nest mates -/
def InL (own : String) (idx : Nat) (J' : Jm) (args : Array Value) (s : State) : Prop := (Cond.methodLink own idx J'.y).before args s = true ∨ ∃ host, (Cond.methodLinkNest own idx J'.y host).before args s = true
/-- what a call of a constructor needs of the tables; n: how many parameters -/
def IOK (J' : Jm) (n : Nat) : Prop := Cond.instanceMethod J'.y ∈ lw_g ∧ J'.y.name = "<init>" ∧ J'.hh = [] ∧ J'.ret = none ∧ MOK J' n
theorem g_call {p : Program} {l : Launch} {e : Env} {R : Room} {s : State} {m : MethodId} {args : Array Value} {below : List Frame} {meth : Method} {c : Code} {H : Heap} {locs : List Loc} {ce sl : Nat} {Q : State → Prop} {cc : ByteArray} {own : String} {J' : Jm} {d' mc ms idx n pc : Nat} {a : Nat} {argsL rest : List Value} {lsA : Array Slot} {A : Nat → Prop} {Pre : State → Prop} {Post : Heap → Prop}
    (hx : p.tables.exec = Jvm.exec) (hb : c.code = cc) (hml : lsA.size = c.maxLocals) (hown : s.vm.findClass own = some m.cls) (hts : ∀ u ∈ lw_g, u.before args s = true) (hd : decode cc pc = .ok (.invokespecial idx, 3)) (hL : InL own idx J' args s) (hI : IOK J' n) (hn : argsL.length = n) (hr : (rest.map fun v => v.category).sum ≤ 8)
    (hfr : d' + 1 ≤ R.frames) (hlc : 64 * (d' + 1) ≤ R.locals) (hce : ce + mc ≤ R.cells) (hsl : sl + ms ≤ R.slots) (hC : GCal l J' d' mc ms (.ref a :: argsL) A Pre Post) (hP : ∀ U : State, U.heap = H → s.WarmedH U.vm → Pre U)
    (hk : ∀ (H1 : Heap) (L : List Loc), Post H1 → H.size ≤ H1.size → H1.size ≤ s.heap.size + (ce + mc) → (∀ q : Nat, q < H.size → ¬ A q → H1[q]? = H[q]?) → (∀ q ∈ L, A q.base) → W p l e R s m args below meth c H1 (locs ++ L) (ce + mc) (sl + ms) Q (F0 m (pc + 3) lsA rest)) :
    W p l e R s m args below meth c H locs ce sl Q (F0 m pc lsA (argsL.reverse ++ .ref a :: rest)) := by
  obtain ⟨hin, hnm, hhh, hret, hM⟩ := hI
  intro T hT X
  have hcode : (Cond.code J'.y J'.cc J'.nL none).before args s = true := by
    have h := hts _ hM.1
    simp only [hhh, hret] at h
    exact h
  have hlen : ∀ sig, parseMethodDescriptor J'.y.desc = some sig → argsL.length = sig.parameters.length := fun sig h => by
    have h2 := hM.2.2.2.1
    rw [h] at h2
    rw [hn]
    exact (Option.some.inj h2).symm
  have hpl : e.platform.magicAccessors = ({} : Platform).magicAccessors := by rw [X.admits.platform]
  have step : ∃ (mk : MethodId) (vm₁ : Vm), s.methodNamed? J'.y = some mk ∧ s.WarmedH vm₁ ∧ ∀ target, (∀ acts, Steps p.tables e below (doInvoke e ((T.setVm vm₁).setTop { (F0 m pc lsA (argsL.reverse ++ .ref a :: rest)) with stack := rest }) acts mk (Value.ref a :: argsL).toArray).1 target) → Steps p.tables e below (T.setTop (F0 m pc lsA (argsL.reverse ++ .ref a :: rest))) target := by
    rcases hL with h | ⟨host, h⟩
    · obtain ⟨mk, methM, cM, kP, vm₁, hnamed, hmethM, hcodeM, -, hlocalsM, -, hkP, -, hW₁, hstep₁⟩ := Steps.initColdArgs (e := e) X.here hx X.warmed hpl hown hnm hM.2.2.1 h (hts _ hin) hcode (f := F0 m pc lsA (argsL.reverse ++ .ref a :: rest)) rfl hlen rfl (by rw [hb]; exact hd)
      exact ⟨mk, vm₁, hnamed, hW₁, hstep₁⟩
    · obtain ⟨mk, methM, cM, kP, vm₁, hnamed, hmethM, hcodeM, -, hlocalsM, -, hkP, -, hW₁, hstep₁⟩ := Steps.initColdArgsNest (e := e) X.here hx X.warmed hpl hown hnm hM.2.2.1 h (hts _ hin) hcode (f := F0 m pc lsA (argsL.reverse ++ .ref a :: rest)) rfl hlen rfl (by rw [hb]; exact hd)
      exact ⟨mk, vm₁, hnamed, hW₁, hstep₁⟩
  obtain ⟨mk, vm₁, hnamed, hW₁, hstep₁⟩ := step
  have X₁ := X.noted hW₁
  have hW1 : s.WarmedH vm₁ := X₁.warmed
  obtain ⟨T', L, X', hLq, hPost, hz, hkk, hsteps⟩ := g_core (U := T.setVm vm₁) (a := .ref a :: argsL) hC hhh X₁ (f := F0 m pc lsA rest) rfl hml (by rw [hb]; exact hd) (by show 2 * 0 + (rest.map fun v => v.category).sum ≤ 8; omega) (X₁.named hnamed) hfr hlc hce hsl hM.2.2.2.2
    (fun u hu => lw_at hts hW1 u (mok_ws hM u hu)) (lw_at hts hW1 _ hM.2.1) (hP _ hT hW1)
  have hheap : (T.setVm vm₁).heap = H := hT
  rw [hheap] at hz hkk
  obtain ⟨t, ht1, ht2⟩ := hk T'.heap L hPost hz X'.same.2.2.1 hkk hLq T' rfl X'
  refine ⟨t, hstep₁ t fun acts => ?_, ht2⟩
  rw [doInvoke_state]
  exact hsteps.trans ht1
