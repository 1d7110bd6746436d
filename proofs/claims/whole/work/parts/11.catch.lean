/-! ===== an exception is caught here: the handler's class is resolved then, cold or warm ===== -/
theorem stepThrowing_cold {e : Env} {s : State} {a : Addr} {f : JFrame} {r : List Frame} {meth : Method} {c : Code} {x : ClassFile.ExceptionTableEntry} (hm : s.vm.method? f.method = some meth) (hc : meth.code = some c) (hs : c.exceptionTable.toList = [x]) (hx : covers x f.pc = true) (h0 : x.catchType ≠ 0)
    {cid : ClassId} {vm' : Vm} (hg : (resolveClass f.method.cls x.catchType).Gives e.toSetting s.vm (.ok cid) vm') (hsz : vm'.classes.size ≤ s.vm.classes.size) {cell : Cell} (hcell : s.heap[a]? = some cell) (hobj : ∀ k, cell.vm ≠ .statics k) (hk : ∃ k, vm'.classes[cell.cls]? = some k) (hcl : ∃ k, vm'.classes[cid]? = some k) (hfit : vm'.assignable cell.cls cid = true) :
    (stepThrowing e s a (.java f :: r)).Is ((s.setVm vm').setFrames (.java { f with pc := x.handlerPc, stack := [.ref a] } :: r)) [] := by
  obtain ⟨han, htb⟩ := hg.op (op := VmOp.resolveClass f.method.cls x.catchType) rfl
  simp only [covers] at hx
  simp only [stepThrowing, searchFrame, vmDo]
  generalize hr : Sem.go _ e false [] s = res
  have hcell' : (s.setVm vm').heap[a]? = some cell := hcell
  obtain ⟨as, rfl, ha⟩ := Sem.eq_ok_of hr (a := Handler.found x.handlerPc) (s' := s.setVm vm') (acts' := []) (by
    simp [_root_.Jvm.W.findHandler_eq hm hc, hs, findHandler.go, hx, h0, han, htb, hsz, hcell, hcell', hobj, hk, hcl, hfit, VmOp.dirties, VmOp.acts])
  exact ⟨rfl, ha⟩
theorem caughtCold {p : Program} {l : Launch} {e : Env} {R : Room} {s : State} {m : MethodId} {args : Array Value} {below : List Frame} {meth : Method} {c : Code} {T : State} {locs : List Loc} {cells slots : Nat} (X : Stand p l e R s m args below meth c T locs cells slots) {g : JFrame} (hg : g.method = m) {x : ClassFile.ExceptionTableEntry} (hs : c.exceptionTable.toList = [x]) (hx : covers x g.pc = true) (h0 : x.catchType ≠ 0)
    {own C : String} (hown : s.vm.findClass own = some m.cls) (hclink : (Cond.classLink own x.catchType C).before args s = true) {a : Addr} {cell : Cell} (hcell : T.heap[a]? = some cell) (hvm : cell.vm = .none) (hcls : s.vm.findClass C = some cell.cls) :
    ∃ vm' : Vm, s.WarmedH vm' ∧ Stand p l e R s m args below meth c (T.setVm vm') locs cells slots ∧ ∀ target, Steps p.tables e below ((T.setVm vm').setTop { g with pc := x.handlerPc, stack := [.ref a] }) target → Steps p.tables e below ((T.setTop g).pushFrame (.throwing a)) target := by
  subst hg
  have hpl : e.platform.magicAccessors = ({} : Platform).magicAccessors := by rw [X.admits.platform]
  obtain ⟨cc, hfcc, hcl⟩ := Cond.classLink_spec hown hclink e.platform hpl
  have hcc : cell.cls = cc := Option.some.inj (hcls.symm.trans hfcc)
  subst hcc
  obtain ⟨hg₁, hwarm₁, -⟩ := State.classEntry (e := e) X.warmed hcl
  have hsz : (T.vm.noted g.method.cls x.catchType (.cls cell.cls)).classes.size ≤ T.vm.classes.size := by simp [Vm.size_noted]
  generalize T.vm.noted g.method.cls x.catchType (.cls cell.cls) = vm₁ at hg₁ hwarm₁ hsz
  have hf1 : vm₁.findClass C = some cell.cls := by rw [hwarm₁.alike.findClass]; exact hcls
  have hat := Vm.classAt_of_findClass hf1
  refine ⟨vm₁, hwarm₁, X.noted hwarm₁, fun target hrest => ?_⟩
  have h : At T g.method c below := X.here
  obtain ⟨hgo, hw⟩ := h.throwing a
  refine Steps.head hgo hw ?_
  have hvmT : ((T.setTop g).pushFrame (.throwing a)).vm = T.vm := Stand.throwing_vm T g a
  rw [stepThread_throwing (frames_entered h.top _), (stepThrowing_cold (s := (T.setTop g).pushFrame (.throwing a)) (f := g) (meth := meth) (c := c) (x := x) (cid := cell.cls) (vm' := vm₁) (by rw [hvmT]; exact X.method') X.code hs hx h0 (by rw [hvmT]; exact hg₁) (by rw [hvmT]; exact hsz) (cell := cell) (by rw [Stand.throwing_heap]; exact hcell) (fun k hk => by rw [hvm] at hk; cases hk) hat hat (va_asg _ _)).1]
  obtain ⟨g₀, hg0⟩ := Option.isSome_iff_exists.mp h.top
  obtain ⟨r, hr⟩ := State.topJava?_eq_some.mp hg0
  have hr1 : (T.setVm vm₁).frames = .java g₀ :: r := hr
  rw [State.setTop_of_frames _ hr1] at hrest
  rw [State.pushFrame, State.setTop_of_frames _ hr, State.setFrames_setFrames]
  rw [hr]
  show Steps p.tables e below (((T.setVm vm₁).setFrames _).setFrames _) target
  rw [State.setFrames_setFrames]
  exact hrest
section RowsE
variable {g : Mg} {y : Ly} {J : Jm} {d : Nat} {K : Ou → Wd → Prop} {pc : Nat} {ls : List (Nat × AV)} {st : List AV} {w : Wd}
/-- behind a call under a handler -/
theorem call_onH {p : Program} {e : Env} {s : State} {m : MethodId} {args : Array Value} {below : List Frame} {meth : Method} {c : Code} {H : Heap} {locs : List Loc} {lsA : Array Slot} (A0 : At0 g y J p s m args meth c) (hS : va_S (AA g y) s.heap H locs) (hl : lv_has lsA J.nL (ls.map (fun q => (q.1, cv g q.2)))) (hlo : ∀ q ∈ ls, okv q.2) (hst : ∀ v ∈ st, okv v)
    {q1 q2 hpc q4 ci N : Nat} {C : String} {T : u_T} (hh : J.hh = [(q1, q2, hpc, q4)]) (hcov : q1 ≤ pc ∧ pc < q2) (hq4 : q4 ≠ 0) (hcl : Cond.classLink J.own q4 C ∈ lw_g) (hc : cls_[ci]? = some (C, T, N)) (hci : ci < 100)
    {o' : Ou} {w' : Wd} {T' : State} {L : List Loc} (X' : Stand p g.l e (rmd d) s m args below meth c T' (locs ++ L) 0 0) (hL : ∀ q ∈ L, AA g y q.base) (ho : oko o') (hH' : Hol g y w' T'.heap) (hK' : nx (fun st' w' => V g y J d K (pc + 3) ls st' w') (fun b w' => (b < y.nn ∧ y.ly b = (ci, N)) ∧ V g y J d K hpc ls [vA b] w') st o' w')
    (hz : H.size ≤ T'.heap.size) (hk : ∀ q : Nat, q < H.size → ¬ AA g y q → T'.heap[q]? = H[q]?) : ∃ t, Steps p.tables e below (aft g T' (F0 m pc lsA (st.map (cv g))) o') t ∧ Zq g y K below s t := by
  have hS' : va_S (AA g y) s.heap T'.heap (locs ++ L) := by
    refine ⟨Nat.le_trans hS.1 hz, fun q h1 h2 => ?_, fun q hq => ?_⟩
    · rw [hk q (Nat.lt_of_lt_of_le h1 hS.1) h2]; exact hS.2.1 q h1 h2
    · rcases List.mem_append.mp hq with h | h
      · exact hS.2.2 q h
      · exact hL q h
  rcases o' with v | b
  · cases v with
    | none =>
      obtain ⟨t, h1, h2⟩ := hK' p e s m args below meth c A0 T'.heap (locs ++ L) lsA hH' hS' hl hlo hst T' rfl X'
      exact ⟨t, h1, h2⟩
    | some v =>
      obtain ⟨t, h1, h2⟩ := hK' p e s m args below meth c A0 T'.heap (locs ++ L) lsA hH' hS' hl hlo (ok_cons ho hst) T' rfl X'
      exact ⟨t, h1, h2⟩
  · obtain ⟨⟨hb, hly⟩, hV⟩ := hK'
    obtain ⟨h1, h2, h3, h4, h5, h6, h7, h8, h9, h10, h11⟩ := id A0
    rw [hh] at h11
    obtain ⟨x, hxe, hx1⟩ : ∃ x, c.exceptionTable.toList = [x] ∧ (x.startPc, x.endPc, x.handlerPc, x.catchType) = (q1, q2, hpc, q4) := by
      cases hcl2 : c.exceptionTable.toList with
      | nil => rw [hcl2] at h11; simp at h11
      | cons x t =>
        rw [hcl2] at h11
        cases t with
        | nil => exact ⟨x, rfl, by simpa using h11⟩
        | cons u t => simp at h11
    simp only [Prod.mk.injEq] at hx1
    obtain ⟨e1, e2, e3, e4⟩ := hx1
    have hat := ws_at (g := g) (w := w') hb
    rw [cel_o hly hci] at hat
    obtain ⟨r, hr1, cellB, hcB, hclB, hvmB, -⟩ := hH'.1 b _ hat
    obtain ⟨-, hfc, -⟩ := h8.1 ci _ hc
    obtain ⟨vm', hW', X2, hgo⟩ := caughtCold X' (g := F0 m pc lsA (st.map (cv g))) rfl hxe (by simp [covers, e1, e2]; exact hcov) (by rw [e4]; exact hq4) (own := J.own) (C := C) h6 (by rw [e4]; exact h7 _ hcl) hcB hvmB (by rw [hclB]; exact hfc)
    obtain ⟨t, ht1, ht2⟩ := hV p e s m args below meth c A0 T'.heap (locs ++ L) lsA hH' hS' hl hlo (ok_cons trivial (fun _ z => absurd z List.not_mem_nil)) (T'.setVm vm') rfl X2
    refine ⟨t, hgo t ?_, ht2⟩
    rw [e3]
    exact ht1
theorem v_callVH {J' : Jm} {d' idx o ci N n : Nat} {T : u_T} {As : List AV} {q1 q2 hpc q4 ci2 N2 : Nat} {C2 : String} {T2 : u_T} (hd : decode J.cc pc = .ok (.invokevirtual idx, 3)) (hM : MLV J.own idx J' n) (ho : o < y.nn) (hly : y.ly o = (ci, N)) (hci : ci < 100) (hc : cls_[ci]? = some (J'.y.cls, T, N)) (hn : As.length = n) (hr : (st.map aw).sum ≤ 8) (hd' : d' + 1 ≤ d)
    (hh : J.hh = [(q1, q2, hpc, q4)]) (hcov : q1 ≤ pc ∧ pc < q2) (hq4 : q4 ≠ 0) (hcl : Cond.classLink J.own q4 C2 ∈ lw_g) (hc2 : cls_[ci2]? = some (C2, T2, N2)) (hci2 : ci2 < 100)
    (hC : Cal g y J' d' (vA o :: As) w (nx (fun st' w' => V g y J d K (pc + 3) ls st' w') (fun b w' => (b < y.nn ∧ y.ly b = (ci2, N2)) ∧ V g y J d K hpc ls [vA b] w') st)) : V g y J d K pc ls (As.reverse ++ vA o :: st) w := by
  obtain ⟨hlk, hins, hsel, hmok⟩ := hM
  intro p e s m args below meth c A0 H locs lsA hH hS hl hlo hst
  obtain ⟨h1, h2, h3, h4, h5, h6, h7, h8, h9, h10, h11⟩ := id A0
  intro Tm hT X
  have hstR : ∀ v ∈ st, okv v := fun v hv => hst v (List.mem_append_right _ (List.mem_cons_of_mem _ hv))
  have hstA : ∀ v ∈ vA o :: As, okv v := ok_cons trivial (fun v hv => hst v (List.mem_append_left _ (List.mem_reverse.mpr hv)))
  have hat := ws_at (g := g) (w := w) ho
  rw [cel_o hly hci] at hat
  obtain ⟨r, hr1, cellB, hcB, hclB, hvmB, -⟩ := hH.1 o _ hat
  have hrr : r = (J'.y.cls, T, N) := Option.some.inj (hr1.symm.trans hc)
  subst hrr
  obtain ⟨-, hfc, -⟩ := h8.1 ci _ hc
  obtain ⟨mk, methM, hnamed, hmethM, hstM, habM⟩ := Cond.instanceMethod_spec (h7 _ hins)
  obtain ⟨c2, r2, m2, q1, q2, q3, q4, kP, hkP, hkPi⟩ := Cond.selects_spec (h7 _ hsel)
  cases hfc.symm.trans q1
  cases (State.methodFound?_of_named hnamed hmok.2.2.1).symm.trans q2
  cases hnamed.symm.trans q3
  rw [← hclB] at q4
  have hselP : selectMethod e.platform s.vm cellB.cls mk = .method mk := by rw [Launch.admits_selectMethod X.admits]; exact q4
  obtain ⟨methM', hm', hnn⟩ := mok_sig hnamed hmok h7
  cases hmethM.symm.trans hm'
  obtain ⟨vm₁, X₁, hstep₁⟩ := X.invokevirtual h1 h6 (h7 _ hlk) hnamed hmethM hstM hkP hkPi hmok.2.2.1 (a := g.ad o) (cell := cellB) (by rw [hT]; exact hcB)
    (fun z h => by rw [hvmB] at h; cases h) hselP hmethM habM hkP hkPi (g := F0 m pc lsA ((As.reverse ++ vA o :: st).map (cv g))) rfl (argsL := As.map (cv g)) (rest := st.map (cv g)) (by rw [List.length_map, hn, hnn]) (by simp [cv]) (by rw [h2]; exact hd)
  have hW1 : s.WarmedH vm₁ := X₁.warmed
  obtain ⟨o', w', T', L, X', hL, hoo, hH', hK', hz, hk, hsteps⟩ := cal_core (U := Tm.setVm vm₁) hC X₁ (f := F0 m pc lsA (st.map (cv g))) rfl (hl.1.trans h4.symm) (by rw [h2]; exact hd) (by rw [cat_sum]; show 2 * 0 + _ ≤ 8; omega) (X₁.named hnamed) hd' hmok.2.2.2.2
    (fun u hu => lw_at h7 hW1 u (mok_ws hmok u hu)) (lw_at h7 hW1 _ hmok.2.1) hstA (by show Hol g y w Tm.heap; rw [hT]; exact hH) (va_K.moved hW1.alike h8) (by
      have := h9.go (U := Tm.setVm vm₁) (H := H) hS.2.1 hW1
      show Old g (AA g y) (Tm.setVm vm₁) Tm.heap
      rw [hT]; exact this) h10
  have hheap : (Tm.setVm vm₁).heap = H := hT
  rw [hheap] at hz hk
  obtain ⟨t, ht1, ht2⟩ := call_onH A0 hS hl hlo hstR hh hcov hq4 hcl hc2 hci2 X' hL hoo hH' hK' hz hk
  refine ⟨t, hstep₁ t fun acts => ?_, ht2⟩
  rw [doInvoke_state]
  exact hsteps.trans ht1
theorem v_callSH {J' : Jm} {d' idx n : Nat} {As : List AV} {q1 q2 hpc q4 ci2 N2 : Nat} {C2 : String} {T2 : u_T} (hd : decode J.cc pc = .ok (.invokestatic idx, 3)) (hM : MLS J.own idx J' n) (hn : As.length = n) (hr : (st.map aw).sum ≤ 8) (hd' : d' + 1 ≤ d)
    (hh : J.hh = [(q1, q2, hpc, q4)]) (hcov : q1 ≤ pc ∧ pc < q2) (hq4 : q4 ≠ 0) (hcl : Cond.classLink J.own q4 C2 ∈ lw_g) (hc2 : cls_[ci2]? = some (C2, T2, N2)) (hci2 : ci2 < 100)
    (hC : Cal g y J' d' As w (nx (fun st' w' => V g y J d K (pc + 3) ls st' w') (fun b w' => (b < y.nn ∧ y.ly b = (ci2, N2)) ∧ V g y J d K hpc ls [vA b] w') st)) : V g y J d K pc ls (As.reverse ++ st) w := by
  obtain ⟨hlk, hstat, hmok⟩ := hM
  intro p e s m args below meth c A0 H locs lsA hH hS hl hlo hst
  obtain ⟨h1, h2, h3, h4, h5, h6, h7, h8, h9, h10, h11⟩ := id A0
  intro Tm hT X
  have hstR : ∀ v ∈ st, okv v := fun v hv => hst v (List.mem_append_right _ hv)
  have hstA : ∀ v ∈ As, okv v := fun v hv => hst v (List.mem_append_left _ (List.mem_reverse.mpr hv))
  obtain ⟨mk, hnamed⟩ : ∃ mk, s.methodNamed? J'.y = some mk := by
    have hw := h7 _ hmok.1
    cases hh : J'.hh with
    | nil => simp only [hh] at hw; exact Cond.code_named hw
    | cons q t =>
      simp only [hh] at hw
      obtain ⟨m9, meth, c, hn9, -⟩ := Cond.codeWith_spec hw
      exact ⟨m9, hn9⟩
  obtain ⟨methM, hmethM, hnn⟩ := mok_sig hnamed hmok h7
  have hstatic : methM.isStatic = true := Cond.static_spec hnamed hmethM (h7 _ hstat)
  obtain ⟨kP, hkP, -⟩ := className_of_methodNamed hnamed
  have hinitP : kP.init = .initialized := Cond.initialized_spec (findClass_of_methodNamed hnamed) hkP (h7 _ hmok.2.1)
  obtain ⟨vm₁, X₁, hstep₁⟩ := X.invokestatic h1 h6 (h7 _ hlk) hnamed hmethM hstatic hkP hinitP hmok.2.2.1 (g := F0 m pc lsA ((As.reverse ++ st).map (cv g))) rfl (argsL := As.map (cv g)) (rest := st.map (cv g)) (by rw [List.length_map, hn, hnn]) (by simp) (by rw [h2]; exact hd)
  have hW1 : s.WarmedH vm₁ := X₁.warmed
  obtain ⟨o', w', T', L, X', hL, hoo, hH', hK', hz, hk, hsteps⟩ := cal_core (U := Tm.setVm vm₁) hC X₁ (f := F0 m pc lsA (st.map (cv g))) rfl (hl.1.trans h4.symm) (by rw [h2]; exact hd) (by rw [cat_sum]; show 2 * 0 + _ ≤ 8; omega) (X₁.named hnamed) hd' hmok.2.2.2.2
    (fun u hu => lw_at h7 hW1 u (mok_ws hmok u hu)) (lw_at h7 hW1 _ hmok.2.1) hstA (by show Hol g y w Tm.heap; rw [hT]; exact hH) (va_K.moved hW1.alike h8) (by
      have := h9.go (U := Tm.setVm vm₁) (H := H) hS.2.1 hW1
      show Old g (AA g y) (Tm.setVm vm₁) Tm.heap
      rw [hT]; exact this) h10
  have hheap : (Tm.setVm vm₁).heap = H := hT
  rw [hheap] at hz hk
  obtain ⟨t, ht1, ht2⟩ := call_onH A0 hS hl hlo hstR hh hcov hq4 hcl hc2 hci2 X' hL hoo hH' hK' hz hk
  refine ⟨t, hstep₁ t fun acts => ?_, ht2⟩
  rw [doInvoke_state]
  exact hsteps.trans ht1
/-- a String constant is the receiver -/
theorem v_callG {J' : Jm} {d' idx o n : Nat} {As : List AV} (hd : decode J.cc pc = .ok (.invokevirtual idx, 3)) (hM : MLV J.own idx J' n) (hJ : J'.y.cls = "java/lang/String") (ho : 1001 ≤ o ∧ o < 1060) (hn : As.length = n) (hr : (st.map aw).sum ≤ 8) (hd' : d' + 1 ≤ d) (hno : J.hh.all (fun q => !(decide (q.1 ≤ pc) && decide (pc < q.2.1))) = true)
    (hC : Cal g y J' d' (vA o :: As) w (nx (fun st' w' => V g y J d K (pc + 3) ls st' w') (fun b w' => K (.inr b) w') st)) : V g y J d K pc ls (As.reverse ++ vA o :: st) w := by
  obtain ⟨hlk, hins, hsel, hmok⟩ := hM
  intro p e s m args below meth c A0 H locs lsA hH hS hl hlo hst
  obtain ⟨h1, h2, h3, h4, h5, h6, h7, h8, h9, h10, h11⟩ := id A0
  intro Tm hT X
  have hstR : ∀ v ∈ st, okv v := fun v hv => hst v (List.mem_append_right _ (List.mem_cons_of_mem _ hv))
  have hstA : ∀ v ∈ vA o :: As, okv v := ok_cons trivial (fun v hv => hst v (List.mem_append_left _ (List.mem_reverse.mpr hv)))
  obtain ⟨cellB, hcB, hobj, hfc, -⟩ := ((h9.2.2.2.1 (o - 1001) (by omega)).1).kept hS.2.1
  rw [show 1001 + (o - 1001) = o by omega] at hcB
  obtain ⟨mk, methM, hnamed, hmethM, hstM, habM⟩ := Cond.instanceMethod_spec (h7 _ hins)
  obtain ⟨c2, r2, m2, q1, q2, q3, q4, kP, hkP, hkPi⟩ := Cond.selects_spec (h7 _ hsel)
  rw [hJ] at q1
  cases hfc.symm.trans q1
  cases (State.methodFound?_of_named hnamed hmok.2.2.1).symm.trans q2
  cases hnamed.symm.trans q3
  have hselP : selectMethod e.platform s.vm cellB.cls mk = .method mk := by rw [Launch.admits_selectMethod X.admits]; exact q4
  obtain ⟨methM', hm', hnn⟩ := mok_sig hnamed hmok h7
  cases hmethM.symm.trans hm'
  obtain ⟨vm₁, X₁, hstep₁⟩ := X.invokevirtual h1 h6 (h7 _ hlk) hnamed hmethM hstM hkP hkPi hmok.2.2.1 (a := g.ad o) (cell := cellB) (by rw [hT]; exact hcB)
    (fun z h => by rw [h] at hobj; cases hobj) hselP hmethM habM hkP hkPi (g := F0 m pc lsA ((As.reverse ++ vA o :: st).map (cv g))) rfl (argsL := As.map (cv g)) (rest := st.map (cv g)) (by rw [List.length_map, hn, hnn]) (by simp [cv]) (by rw [h2]; exact hd)
  have hW1 : s.WarmedH vm₁ := X₁.warmed
  obtain ⟨o', w', T', L, X', hL, hoo, hH', hK', hz, hk, hsteps⟩ := cal_core (U := Tm.setVm vm₁) hC X₁ (f := F0 m pc lsA (st.map (cv g))) rfl (hl.1.trans h4.symm) (by rw [h2]; exact hd) (by rw [cat_sum]; show 2 * 0 + _ ≤ 8; omega) (X₁.named hnamed) hd' hmok.2.2.2.2
    (fun u hu => lw_at h7 hW1 u (mok_ws hmok u hu)) (lw_at h7 hW1 _ hmok.2.1) hstA (by show Hol g y w Tm.heap; rw [hT]; exact hH) (va_K.moved hW1.alike h8) (by
      have := h9.go (U := Tm.setVm vm₁) (H := H) hS.2.1 hW1
      show Old g (AA g y) (Tm.setVm vm₁) Tm.heap
      rw [hT]; exact this) h10
  have hheap : (Tm.setVm vm₁).heap = H := hT
  rw [hheap] at hz hk
  obtain ⟨t, ht1, ht2⟩ := call_on A0 hS hl hlo hstR hno X' hL hoo hH' hK' hz hk
  refine ⟨t, hstep₁ t fun acts => ?_, ht2⟩
  rw [doInvoke_state]
  exact hsteps.trans ht1
end RowsE
