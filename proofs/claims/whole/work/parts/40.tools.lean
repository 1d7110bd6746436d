/-! ===== tools: more room; the JDK's own members ===== -/
section Tools
variable {g : Mg} {y : Ly} {d : Nat} {K : Ou → Wd → Prop} {w : Wd}
theorem Cal.mono {J : Jm} {d' : Nat} {a : List AV} (h : Cal g y J d a w K) (hd : d ≤ d') : Cal g y J d' a w K := by
  intro p e ha hc hcl s m args below hf happ hP hK
  refine h p e ha hc hcl s m args below hf ?_ hP hK
  rw [Spec.appliesLoose_iff hf] at happ ⊢
  obtain ⟨a1, a2, a3, a4, a5, a6, a7, a8⟩ := happ
  refine ⟨a1, a2, a3, a4, a5, a6, ?_, a8⟩
  unfold State.hasRoom at a7 ⊢
  simp only [Bool.and_eq_true] at a7 ⊢
  obtain ⟨⟨⟨⟨b1, b2⟩, b3⟩, b4⟩, b5⟩ := a7
  have c1 := of_decide_eq_true b1
  obtain ⟨c2, c3, c4, c5, c6⟩ := of_decide_eq_true b2
  simp only [headSpec, rmd] at c1 c2 c3 c4 c5 b3 b4 ⊢
  exact ⟨⟨⟨⟨decide_eq_true (by omega), decide_eq_true ⟨by omega, by omega, by omega, by omega, c6⟩⟩, b3⟩, b4⟩, b5⟩
/-- a method of a class some of whose members the machine runs by rows of its own: not this one -/
theorem Cal.ofVF {J : Jm} {a : List AV} (hp : plainFor J.y = true) (ho : J.own = J.y.cls) (hh : J.hh = []) (hL : (lg_sl (a.map (cv g))).length ≤ J.nL) (h : V g y J d K 0 (aLoc 0 a) [] w) : Cal g y J d a w K := by
  have his : ∀ (args : Array Value) (s : State) (m : MethodId), (headSpec (wsJ J) (rmd d)).pre.before args s = true → s.methodNamed? J.y = some m → ∃ meth c, s.vm.method? m = some meth ∧ meth.code = some c ∧ c.code = J.cc ∧ c.maxLocals = J.nL ∧ meth.sig.returnType = J.ret ∧ meth.locks = false ∧ c.exceptionTable.toList.map (fun h => (h.startPc, h.endPc, h.handlerPc, h.catchType)) = J.hh := by
    intro args s m hpre hn
    have hw := atoms_spec (ws := wsJ J) hpre _ List.mem_cons_self
    simp only [hh] at hw
    obtain ⟨meth, c, h1, h2, h3, h4, h5, h6, h7, -⟩ := Cond.code_spec hn hw
    refine ⟨meth, c, h1, h2, h3, h4, h5, h6, ?_⟩
    have : c.exceptionTable = #[] := by simpa using h7
    rw [this, hh]; rfl
  refine MetFree.of_bodySF (code := J.cc) (maxLocals := J.nL) (ret := J.ret) hp ?_ ?_
  · intro args s m hpre hn
    obtain ⟨meth, c, h1, h2, h3, h4, h5, h6, -⟩ := his args s m hpre hn
    exact ⟨meth, c, h1, h2, h3, h4, h5, h6⟩
  · intro p e s m args below meth c s₁ B hml hP _
    obtain ⟨rfl, hok, hH, hK, hO, hI⟩ := hP
    have hh0 : s₁.heap = s.heap := by rw [B.state]; rfl
    have X := Stand.of_body B
    obtain ⟨meth', c', q1, q2, q3, q4, q5, q6, q7⟩ := his _ s m B.pre B.named
    cases B.method.symm.trans q1
    cases X.code.symm.trans q2
    have hts : ∀ w ∈ lw_g, w.before ((a.map (cv g)).toArray) s = true := fun w hw => atoms_spec (ws := wsJ J) B.pre _ (List.mem_cons_of_mem _ hw)
    have hown : s.vm.findClass J.own = some m.cls := by rw [ho]; exact findClass_of_methodNamed B.named
    have hA : At0 g y J p s m ((a.map (cv g)).toArray) meth c := ⟨B.exec, B.bytes, B.returns, hml, B.notSynchronized, hown, hts, hK, hO, hI, q7⟩
    have hl := lv_entry (a.map (cv g)) (n := J.nL) hL
    rw [← aLoc_map] at hl
    have hWk := h p e s m ((a.map (cv g)).toArray) below meth c hA s.heap [] _ hH va_S.rf hl (aLoc_ok hok 0) (fun v hv => absurd hv List.not_mem_nil)
    rw [← hh0] at hWk
    obtain ⟨t, a1, o, b1, b2, b3⟩ := hWk s₁ rfl X
    refine ⟨t, o, ?_, b1, b2, b3⟩
    rw [lg_entry_eq]
    exact a1
def fillw (w : Wd) (o n : Nat) (v : Int) : Wd := fun a b => if a = o ∧ b < n then v else w a b
theorem fillw_0 (w : Wd) (o : Nat) (v : Int) : fillw w o 0 v = w := by funext a b; simp [fillw]
theorem fillw_s (w : Wd) (o i : Nat) (v : Int) : up (fillw w o i v) o i v = fillw w o (i + 1) v := by
  funext a b
  simp only [up, fillw]
  by_cases ha : a = o
  · subst ha
    by_cases hb : b = i
    · subst hb; simp
    · by_cases hb2 : b < i
      · simp [hb, hb2, Nat.lt_succ_of_lt hb2]
      · have : ¬ b < i + 1 := by omega
        simp [hb, hb2, this]
  · simp [ha]
theorem fillw_in {w : Wd} {o n b : Nat} {v : Int} (h : b < n) : fillw w o n v o b = v := by simp [fillw, h]
theorem fillw_ne {w : Wd} {o n a b : Nat} {v : Int} (h : a ≠ o) : fillw w o n v a b = w a b := by simp [fillw, h]
theorem dfl_0 : decode jAr_fill.cc 0 = .ok (.iconst 0, 1) := by decide +kernel
theorem dfl_1 : decode jAr_fill.cc 1 = .ok (.istore_n 2, 1) := by decide +kernel
theorem dfl_2 : decode jAr_fill.cc 2 = .ok (.aload_n 0, 1) := by decide +kernel
theorem dfl_3 : decode jAr_fill.cc 3 = .ok (.arraylength, 1) := by decide +kernel
theorem dfl_4 : decode jAr_fill.cc 4 = .ok (.istore_n 3, 1) := by decide +kernel
theorem dfl_5 : decode jAr_fill.cc 5 = .ok (.iload_n 2, 1) := by decide +kernel
theorem dfl_6 : decode jAr_fill.cc 6 = .ok (.iload_n 3, 1) := by decide +kernel
theorem dfl_7 : decode jAr_fill.cc 7 = .ok (.if_icmp .ge 13, 3) := by decide +kernel
theorem dfl_10 : decode jAr_fill.cc 10 = .ok (.aload_n 0, 1) := by decide +kernel
theorem dfl_11 : decode jAr_fill.cc 11 = .ok (.iload_n 2, 1) := by decide +kernel
theorem dfl_12 : decode jAr_fill.cc 12 = .ok (.iload_n 1, 1) := by decide +kernel
theorem dfl_13 : decode jAr_fill.cc 13 = .ok (.iastore, 1) := by decide +kernel
theorem dfl_14 : decode jAr_fill.cc 14 = .ok (.iinc 2 1, 3) := by decide +kernel
theorem dfl_17 : decode jAr_fill.cc 17 = .ok (.goto (-12), 3) := by decide +kernel
theorem dfl_20 : decode jAr_fill.cc 20 = .ok (.return_, 1) := by decide +kernel
theorem fill_loop {o n : Nat} {v : Int} (ho : o < y.nn) (hl : y.ly o = (100, n)) (hr : ∀ k, y.rf o k = none) (hn : n < 1000000) (h : K (.inl none) (fillw w o n v)) :
    ∀ (m i : Nat), i + m = n → V g y jAr_fill d K 5 [(0, vA o), (1, vI v), (2, vI (i : Int)), (3, vI (n : Int))] [] (fillw w o i v) := by
  intro m
  induction m with
  | zero =>
    intro i hi
    have e : i = n := by omega
    subst e
    refine v_iload_n (pc := 5) dfl_5 rfl (.tail _ (.tail _ (.head _))) ?_
    refine v_iload_n (pc := 6) dfl_6 rfl (.tail _ (.tail _ (.tail _ (.head _)))) ?_
    refine v_icmpge (pc := 7) (tgt := 20) dfl_7 (by decide) (fun c => ?_) (fun c => absurd (Int.le_refl _) c)
    exact v_vret (pc := 20) dfl_20 rfl h
  | succ m ih =>
    intro i hi
    refine v_iload_n (pc := 5) dfl_5 rfl (.tail _ (.tail _ (.head _))) ?_
    refine v_iload_n (pc := 6) dfl_6 rfl (.tail _ (.tail _ (.tail _ (.head _)))) ?_
    refine v_icmpge (pc := 7) (tgt := 20) dfl_7 (by decide) (fun c => absurd c (by omega)) (fun c => ?_)
    refine v_aload_n (pc := 10) dfl_10 rfl (.head _) ?_
    refine v_iload_n (pc := 11) dfl_11 rfl (.tail _ (.tail _ (.head _))) ?_
    refine v_iload_n (pc := 12) dfl_12 rfl (.tail _ (.head _)) ?_
    refine v_iast (pc := 13) dfl_13 ho hl (hr _) ⟨by omega, by omega⟩ ?_
    refine v_iinc (pc := 14) (ls' := [(2, vI (wr ((i : Int) + 1))), (0, vA o), (1, vI v), (3, vI (n : Int))]) dfl_14 (.tail _ (.tail _ (.head _))) (by decide) rfl ?_
    refine v_goto (pc := 17) (tgt := 5) dfl_17 (by decide) ?_
    have e : wr ((i : Int) + 1) = ((i + 1 : Nat) : Int) := by rw [wr_id (by constructor <;> omega)]; omega
    rw [e]
    have e2 : ((i : Int)).toNat = i := by omega
    rw [e2, fillw_s]
    exact v_sub (List.forall_mem_cons.mpr ⟨.tail _ (.head _), List.forall_mem_cons.mpr ⟨.tail _ (.tail _ (.head _)), List.forall_mem_cons.mpr ⟨.head _, List.forall_mem_cons.mpr ⟨.tail _ (.tail _ (.tail _ (.head _))), fun _ z => absurd z List.not_mem_nil⟩⟩⟩⟩) (ih (i + 1) (by omega))
/-- Arrays.fill(int[], int) -/
theorem sp_fill {o n : Nat} {v : Int} (ho : o < y.nn) (hl : y.ly o = (100, n)) (hr : ∀ k, y.rf o k = none) (hn : n < 1000000) (h : K (.inl none) (fillw w o n v)) : Cal g y jAr_fill d [vA o, vI v] w K := by
  refine Cal.ofV (by decide) rfl (Nat.le_of_ble_eq_true rfl) ?_
  show V g y jAr_fill d K 0 [(0, vA o), (1, vI v)] [] w
  refine v_iconst (pc := 0) dfl_0 (by decide) ?_
  refine v_istore_n (pc := 1) (ls' := [(2, vI 0), (0, vA o), (1, vI v)]) dfl_1 rfl (by decide) rfl ?_
  refine v_aload_n (pc := 2) dfl_2 rfl (.tail _ (.head _)) ?_
  refine v_alen (pc := 3) (n := n) dfl_3 ho hl (by decide) hn ?_
  refine v_istore_n (pc := 4) (ls' := [(3, vI (n : Int)), (2, vI 0), (0, vA o), (1, vI v)]) dfl_4 rfl (by decide) rfl ?_
  have := fill_loop (g := g) (d := d) ho hl hr hn h n 0 (by omega)
  rw [fillw_0] at this
  exact v_sub (List.forall_mem_cons.mpr ⟨.tail _ (.tail _ (.head _)), List.forall_mem_cons.mpr ⟨.tail _ (.tail _ (.tail _ (.head _))), List.forall_mem_cons.mpr ⟨.tail _ (.head _), List.forall_mem_cons.mpr ⟨.head _, fun _ z => absurd z List.not_mem_nil⟩⟩⟩⟩) this
theorem sp_min {a b : Int} (h : K (.inl (some (vI (if b < a then b else a)))) w) : Cal g y jMt_min d [vI a, vI b] w K := by
  refine Cal.ofVF (by decide +kernel) rfl rfl (Nat.le_of_ble_eq_true rfl) (s_Mt_min ⟨fun c => ?_, fun c => ?_⟩)
  · rwa [if_pos c] at h
  · rwa [if_neg c] at h
theorem sp_max {a b : Int} (h : K (.inl (some (vI (if a < b then b else a)))) w) : Cal g y jMt_max d [vI a, vI b] w K := by
  refine Cal.ofVF (by decide +kernel) rfl rfl (Nat.le_of_ble_eq_true rfl) (s_Mt_max ⟨fun c => ?_, fun c => ?_⟩)
  · rwa [if_pos c] at h
  · rwa [if_neg c] at h
theorem lCmp_eq {a b : Int} (ha : inL a) (hb : inL b) : lCmp a b = if b < a then 1 else if a = b then 0 else -1 := by
  unfold lCmp lg_cmp
  have e2 : (Int64.ofInt a > Int64.ofInt b) ↔ b < a := by rw [gt_iff_lt, Int64.lt_iff_toInt_lt, l_to, l_to, wrL_id ha, wrL_id hb]
  have e3 : (Int64.ofInt a = Int64.ofInt b) ↔ a = b := ⟨fun q => by have := congrArg Int64.toInt q; rwa [l_to, l_to, wrL_id ha, wrL_id hb] at this, fun q => by rw [q]⟩
  by_cases h1 : b < a
  · rw [if_pos (e2.mpr h1), if_pos h1]; rfl
  · rw [if_neg (fun z => h1 (e2.mp z)), if_neg h1]
    by_cases h2 : a = b
    · rw [if_pos (e3.mpr h2), if_pos h2]; rfl
    · rw [if_neg (fun z => h2 (e3.mp z)), if_neg h2]; rfl
theorem sp_minL {a b : Int} (ha : inL a) (hb : inL b) (h : K (.inl (some (vL (if b < a then b else a)))) w) : Cal g y jMt_min_2 d [vL a, vL b] w K := by
  refine Cal.ofVF (by decide +kernel) rfl rfl (Nat.le_of_ble_eq_true rfl) (s_Mt_min_2 ⟨fun c => ?_, fun c => ?_⟩)
  · rw [lCmp_eq ha hb] at c
    by_cases h1 : b < a
    · rwa [if_pos h1] at h
    · rw [if_neg h1] at c
      split at c <;> omega
  · rw [lCmp_eq ha hb] at c
    by_cases h1 : b < a
    · rw [if_pos h1] at c; omega
    · rwa [if_neg h1] at h
theorem sp_coder {o : Nat} (ho : 1001 ≤ o ∧ o < 1060) (h : K (.inl (some (vI 0))) w) : Cal g y jSg_coder d [vA o] w K :=
  Cal.ofV (by decide) rfl (Nat.le_of_ble_eq_true rfl) (s_Sg_coder ho ⟨rfl, h⟩)
theorem sp_isLatin1 {o : Nat} (ho : 1001 ≤ o ∧ o < 1060) (h : K (.inl (some (vI 1))) w) : Cal g y jSg_isLatin1 d [vA o] w K :=
  Cal.ofV (by decide) rfl (Nat.le_of_ble_eq_true rfl) (s_Sg_isLatin1 ho h)
theorem iShr_0 {a : Int} (h : inI a) : iShr a 0 = a := by
  unfold iShr
  rw [pk_shr (Int32.ofInt a) (Int32.ofInt 0 &&& 31) 0 (by decide), i_to, wr_id h]
  simp
/-- String.length() of a constant -/
theorem sp_length {o : Nat} (ho : 1001 ≤ o ∧ o < 1060) (h : K (.inl (some (vI ((sB (o - 1001)).length : Int)))) w) : Cal g y jSg_length (d + 1) [vA o] w K := by
  refine Cal.ofV (by decide) rfl (Nat.le_of_ble_eq_true rfl) (s_Sg_length ho (sp_coder ho ?_))
  show K (.inl (some (vI (iShr ((sB (o + 1000 - 2001)).length : Int) 0)))) w
  have e : o + 1000 - 2001 = o - 1001 := by omega
  have hl := (sB_in (o - 1001) (by omega)).1
  rw [e, iShr_0 (by constructor <;> omega)]
  exact h
/-! String.checkIndex: the formatter that it hands on is whatever the static holds -/
def yPre : MethodName := ⟨"jdk/internal/util/Preconditions", "checkIndex", "(IILjava/util/function/BiFunction;)I"⟩
theorem dpr_0 : decode prog_26_method_11_code 0 = .ok (.iload_n 0, 1) := by decide +kernel
theorem dpr_1 : decode prog_26_method_11_code 1 = .ok (.ifCond .lt 8, 3) := by decide +kernel
theorem dpr_4 : decode prog_26_method_11_code 4 = .ok (.iload_n 0, 1) := by decide +kernel
theorem dpr_5 : decode prog_26_method_11_code 5 = .ok (.iload_n 1, 1) := by decide +kernel
theorem dpr_6 : decode prog_26_method_11_code 6 = .ok (.if_icmp .lt 10, 3) := by decide +kernel
theorem dpr_16 : decode prog_26_method_11_code 16 = .ok (.iload_n 0, 1) := by decide +kernel
theorem dpr_17 : decode prog_26_method_11_code 17 = .ok (.ireturn, 1) := by decide +kernel
theorem c_Pre (l : Launch) (i n : Int32) (v : Value) (hv : v.category = 1) (h1 : ¬ i < 0) (h2 : i < n) : Met l yPre (Cond.code yPre prog_26_method_11_code 3 (some .int) :: lw_g) (rmd 0) (fun a _ => a = #[.int i, .int n, v]) (QcRead i) 0 0 (fun _ => False) := by
  refine Met.ofW (cc := prog_26_method_11_code) (maxL := 3) (ret := some .int) (by decide) rfl ?_
  intro p e s m args below meth c s₁ B hml hva
  subst hva
  have hx := B.exec
  have hb := B.bytes
  have hr := B.returns
  have hlocks := B.notSynchronized
  have hl := lv_entry ([.int i, .int n, v]) (n := 3) (by simp [lg_sl, hv, show (Value.int i).category = 1 from rfl, show (Value.int n).category = 1 from rfl])
  have e0 : (#[.int i, .int n, v] : Array Value) = ([.int i, .int n, v] : List Value).toArray := rfl
  rw [e0, lg_entry_eq]
  generalize (lg_sl ([.int i, .int n, v]) ++ List.replicate (3 - (lg_sl ([.int i, .int n, v])).length) Slot.unset).toArray = ls at hl ⊢
  refine lv_iload_n hx hb dpr_0 rfl (lv_at hl 0 rfl) ?_
  refine lv_if_lt (tgt := 9) hx hb dpr_1 (by decide) (fun c => absurd c h1) (fun _ => ?_)
  refine lv_iload_n hx hb dpr_4 rfl (lv_at hl 0 rfl) ?_
  refine lv_iload_n hx hb dpr_5 rfl (lv_at hl 1 rfl) ?_
  refine lv_icmp_lt (tgt := 16) hx hb dpr_6 (by decide) (fun _ => ?_) (fun c => absurd h2 c)
  refine lv_iload_n hx hb dpr_16 rfl (lv_at hl 0 rfl) ?_
  exact W.iret (v := i) hx hb hr (fun t ht hW => ⟨rfl, ht⟩) (fun q hq => absurd hq List.not_mem_nil) dpr_17
theorem dck_0 : decode jSg_checkIndex.cc 0 = .ok (.iload_n 0, 1) := by decide +kernel
theorem dck_1 : decode jSg_checkIndex.cc 1 = .ok (.iload_n 1, 1) := by decide +kernel
theorem dck_2 : decode jSg_checkIndex.cc 2 = .ok (.getstatic 1053, 3) := by decide +kernel
theorem dck_5 : decode jSg_checkIndex.cc 5 = .ok (.invokestatic 1059, 3) := by decide +kernel
theorem dck_8 : decode jSg_checkIndex.cc 8 = .ok (.pop, 1) := by decide +kernel
theorem dck_9 : decode jSg_checkIndex.cc 9 = .ok (.return_, 1) := by decide +kernel
set_option maxRecDepth 20000 in
theorem wck_0 : Cond.fieldLink "java/lang/String" 1053 "jdk/internal/util/Preconditions" "SIOOBE_FORMATTER" "Ljava/util/function/BiFunction;" ∈ lw_g := mt_3 128 rfl rfl
set_option maxRecDepth 20000 in
theorem wck_1 : Cond.methodLink "java/lang/String" 1059 yPre ∈ lw_g := mt_3 130 rfl rfl
set_option maxRecDepth 20000 in
theorem wck_2 : Cond.static yPre ∈ lw_g := mt_3 131 rfl rfl
set_option maxRecDepth 20000 in
theorem wck_3 : Cond.initialized "jdk/internal/util/Preconditions" ∈ lw_g := mt_1 23 rfl rfl
set_option maxRecDepth 20000 in
theorem wck_4 : Cond.code yPre prog_26_method_11_code 3 (some .int) ∈ lw_g := mt_3 132 rfl rfl
theorem sp_checkIndex {i n : Int} (hin : 0 ≤ i ∧ i < n) (hK : K (.inl none) w) : Cal g y jSg_checkIndex (d + 1) [vI i, vI n] w K := by
  refine Cal.ofV (by decide) rfl (Nat.le_of_ble_eq_true rfl) ?_
  show V g y jSg_checkIndex (d + 1) K 0 [(0, vI i), (1, vI n)] [] w
  intro p e s m args below meth c A0 H locs lsA hH hS hl hlo hst
  obtain ⟨h1, h2, h3, h4, h5, h6, h7, h8, h9, h10, h11⟩ := id A0
  have oki : inI i := hlo (0, vI i) (.head _)
  have okn : inI n := hlo (1, vI n) (.tail _ (.head _))
  refine lv_iload_n h1 h2 dck_0 rfl (mem_cv (v := vI i) hl (.head _)) ?_
  refine lv_iload_n h1 h2 dck_1 rfl (mem_cv (v := vI n) hl (.tail _ (.head _))) ?_
  have hgo : ∀ v : Value, v.category = 1 → W p g.l e (rmd (d + 1)) s m args below meth c H locs 0 0 (Zq g y K below s) (F0 m 5 lsA [v, .int (Int32.ofInt n), .int (Int32.ofInt i)]) := by
    intro v hv T hT X
    have hM := c_Pre g.l (Int32.ofInt i) (Int32.ofInt n) v hv (fun z => by have := (i_lt oki in0).mp z; omega) ((i_lt oki okn).mpr hin.2)
    have hcw : CallB (rmd (d + 1)) s args "java/lang/String" 1059 yPre prog_26_method_11_code 3 (some .int) (Cond.code yPre prog_26_method_11_code 3 (some .int) :: lw_g) (rmd 0) 0 0 3 := by
      refine ⟨rfl, rfl, ?_, ?_, fun u hu a' U hW => ?_, List.mem_cons_self, h7 _ wck_4, h7 _ wck_3, by decide, fun sig hs => ?_, h7 _ wck_1⟩
      · show 0 + 1 ≤ d + 1; omega
      · show 8 + (3 + 11) + 64 * 0 ≤ 64 * (d + 1); omega
      · rcases List.mem_cons.mp hu with rfl | hu
        · exact lw_at h7 hW _ wck_4
        · exact lw_at h7 hW _ hu
      · have hq : (parseMethodDescriptor yPre.desc).map (fun d => d.parameters.length) = some 3 := by decide +kernel
        rw [hs] at hq
        exact (Option.some.inj hq).symm
    obtain ⟨v', st0, t, T', L, e0, X', hL, e1, e2, hq, go⟩ := va_runS (As := [.int (Int32.ofInt i), .int (Int32.ofInt n), v]) (rest := []) (g := F0 m 5 lsA [v, .int (Int32.ofInt n), .int (Int32.ofInt i)]) (cc := jSg_checkIndex.cc) (nL := jSg_checkIndex.nL) (Ts := lw_g) ⟨h1, h2, h4, h6, h7⟩ hM ⟨hcw, h7 _ wck_2⟩ ⟨fun a U g mk q => q, fun U hU hW => rfl⟩ rfl rfl hl.1 rfl (Nat.le_of_ble_eq_true rfl) dck_5 ⟨Nat.le_refl _, Nat.le_refl _⟩ T hT X
    obtain ⟨q1, q2⟩ := hq
    have hv' : v' = some (.int (Int32.ofInt i)) := Outcome.returned.inj q1
    subst hv'
    have hLn : L = [] := by
      cases L with
      | nil => rfl
      | cons a b => exact (hL a List.mem_cons_self).elim
    subst hLn
    have k9 : W p g.l e (rmd (d + 1)) s m args below meth c H locs 0 0 (Zq g y K below s) (F0 m 8 lsA [.int (Int32.ofInt i)]) :=
      lv_pop h1 h2 dck_8 rfl ((v_vret (pc := 9) dck_9 rfl hK) p e s m args below meth c A0 H locs lsA hH hS hl hlo (fun _ z => absurd z List.not_mem_nil))
    rw [List.append_nil] at X'
    obtain ⟨t2, s2, z2⟩ := k9 T' (by rw [e1, q2, e0]) X'
    exact ⟨t2, go t2 s2, z2⟩
  rcases h9.2.2.2.2.2.1 with hz | ⟨t, hz⟩
  · exact va_gets h1 h2 hz hS h6 (h7 _ wck_0) (fun _ h => h) dck_2 (hgo _ rfl)
  · exact va_gets h1 h2 hz hS h6 (h7 _ wck_0) (fun _ h => h) dck_2 (hgo _ rfl)
theorem ch_id : ∀ b : Fin 128, i2cF (iAnd (b.val : Int) 255) = (b.val : Int) ∧ narrow .char (.int (Int32.ofInt (b.val : Int))) = .int (Int32.ofInt (b.val : Int)) := by decide +kernel
/-- String.charAt(i) of a constant -/
theorem sp_charAt {o : Nat} {i : Int} (ho : 1001 ≤ o ∧ o < 1060) (hi : 0 ≤ i ∧ i < ((sB (o - 1001)).length : Int)) (h : K (.inl (some (vI ((sB (o - 1001)).getD i.toNat 0)))) w) : Cal g y jSg_charAt (d + 3) [vA o, vI i] w K := by
  have e : o + 1000 - 2001 = o - 1001 := by omega
  have hb := sB_get (i := o - 1001) (j := i.toNat) (by omega)
  obtain ⟨b, hbe⟩ : ∃ b : Fin 128, (sB (o - 1001)).getD i.toNat 0 = (b.val : Int) := ⟨⟨((sB (o - 1001)).getD i.toNat 0).toNat, by omega⟩, by simp only []; omega⟩
  have hc := ch_id b
  refine Cal.ofV (by decide) rfl (Nat.le_of_ble_eq_true rfl) (s_Sg_charAt ho (sp_isLatin1 ho ⟨fun z => absurd z (by decide), fun _ => ?_⟩))
  refine Cal.ofV (by decide) rfl (Nat.le_of_ble_eq_true rfl) (s_SL_charAt (by omega) (sp_checkIndex (by rw [e]; exact hi) ⟨by rw [e]; exact hi, ?_⟩))
  rw [e, hbe, hc.1]
  refine ⟨hc.2, ?_⟩
  refine ⟨hc.2, ?_⟩
  rw [← hbe]
  exact h
end Tools
