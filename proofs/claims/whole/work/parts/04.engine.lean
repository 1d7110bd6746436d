/-! ===== String constants: their bytes; which entry of which class is which ===== -/
def sB (i : Nat) : List Int := match i with
  | 0 => [59, 123, 125, 40, 41, 44, 46, 58, 61, 60, 62, 43, 45, 42, 47, 37, 33]
  | 1 => [61, 61, 33, 61, 60, 61, 62, 61, 38, 38, 124, 124]
  | 2 => [99, 111, 108, 117, 109, 110, 32, 110, 111, 100, 101, 32, 105, 110, 116, 32, 98, 111, 111, 108, 32, 116, 114, 117, 101, 32, 102, 97, 108, 115, 101, 32, 102, 111, 108, 100, 32, 103, 108, 111, 98, 97, 108, 32, 115, 117, 109, 32, 108, 101, 97, 115, 116, 32, 109, 111, 115, 116, 32, 102, 105, 114, 115, 116, 32, 97, 108, 108, 32, 115, 111, 109, 101, 32, 115, 116, 97, 114, 116, 32, 114, 111, 117, 110, 100, 32, 108, 101, 116, 32, 115, 101, 110, 100, 32, 97, 108, 111, 110, 103, 32, 97, 103, 97, 105, 110, 115, 116, 32, 103, 105, 118, 101, 32, 105, 102, 32, 101, 108, 115, 101, 32, 108, 111, 111, 112, 32, 104, 97, 108, 116, 32, 97, 114, 99, 32, 104, 97, 115, 32, 105, 100, 32, 116, 117, 114, 110, 32, 110, 111, 100, 101, 115, 32, 100, 101, 103, 114, 101, 101, 32, 105, 110, 100, 101, 103, 114, 101, 101, 32, 100, 114, 97, 119, 32]
  | 3 => [115, 116, 97, 114, 116]
  | 4 => [114, 111, 117, 110, 100]
  | 5 => [99, 111, 108, 117, 109, 110]
  | 6 => [110, 111, 100, 101]
  | 7 => [102, 111, 108, 100]
  | 8 => [103, 108, 111, 98, 97, 108]
  | 9 => [105, 110, 116]
  | 10 => [98, 111, 111, 108]
  | 11 => [116, 114, 117, 101]
  | 12 => [102, 97, 108, 115, 101]
  | 13 => [115, 117, 109]
  | 14 => [108, 101, 97, 115, 116]
  | 15 => [109, 111, 115, 116]
  | 16 => [102, 105, 114, 115, 116]
  | 17 => [97, 108, 108]
  | 18 => [115, 111, 109, 101]
  | 19 => [108, 101, 116]
  | 20 => [115, 101, 110, 100]
  | 21 => [97, 108, 111, 110, 103]
  | 22 => [97, 103, 97, 105, 110, 115, 116]
  | 23 => [103, 105, 118, 101]
  | 24 => [105, 102]
  | 25 => [101, 108, 115, 101]
  | 26 => [108, 111, 111, 112]
  | 27 => [104, 97, 108, 116]
  | 28 => [97, 114, 99]
  | 29 => [104, 97, 115]
  | 30 => [105, 100]
  | 31 => [116, 117, 114, 110]
  | 32 => [110, 111, 100, 101, 115]
  | 33 => [100, 101, 103, 114, 101, 101]
  | 34 => [105, 110, 100, 101, 103, 114, 101, 101]
  | 35 => [100, 114, 97, 119]
  | 36 => [61, 61]
  | 37 => [33, 61]
  | 38 => [60, 61]
  | 39 => [62, 61]
  | 40 => [38, 38]
  | 41 => [124, 124]
  | 42 => [59]
  | 43 => [123]
  | 44 => [125]
  | 45 => [40]
  | 46 => [41]
  | 47 => [44]
  | 48 => [46]
  | 49 => [58]
  | 50 => [61]
  | 51 => [60]
  | 52 => [62]
  | 53 => [43]
  | 54 => [45]
  | 55 => [42]
  | 56 => [47]
  | 57 => [37]
  | 58 => [33]
  | _ => []
def strT : List (String × Nat × String × Nat) := [("VertexLanguage$Text", 91, ";{}(),.:=<>+-*/%!", 0), ("VertexLanguage$Text", 98, "==!=<=>=&&||", 1), ("VertexLanguage$Text", 107, "column node int bool true false fold global sum least most first all some start round let send along against give if else loop halt arc has id turn nodes degree indegree draw ", 2), ("VertexLanguageModel", 48, "start", 3), ("VertexLanguageModel", 50, "round", 4), ("VertexLanguageModel", 52, "column", 5), ("VertexLanguageModel", 54, "node", 6), ("VertexLanguageModel", 56, "fold", 7), ("VertexLanguageModel", 58, "global", 8), ("VertexLanguageModel", 60, "int", 9), ("VertexLanguageModel", 62, "bool", 10), ("VertexLanguageModel", 64, "true", 11), ("VertexLanguageModel", 66, "false", 12), ("VertexLanguageModel", 68, "sum", 13), ("VertexLanguageModel", 70, "least", 14), ("VertexLanguageModel", 72, "most", 15), ("VertexLanguageModel", 74, "first", 16), ("VertexLanguageModel", 76, "all", 17), ("VertexLanguageModel", 78, "some", 18), ("VertexLanguageModel", 80, "let", 19), ("VertexLanguageModel", 82, "send", 20), ("VertexLanguageModel", 84, "along", 21), ("VertexLanguageModel", 86, "against", 22), ("VertexLanguageModel", 88, "give", 23), ("VertexLanguageModel", 90, "if", 24), ("VertexLanguageModel", 92, "else", 25), ("VertexLanguageModel", 94, "loop", 26), ("VertexLanguageModel", 96, "halt", 27), ("VertexLanguageModel", 98, "arc", 28), ("VertexLanguageModel", 100, "has", 29), ("VertexLanguageModel", 102, "id", 30), ("VertexLanguageModel", 104, "turn", 31), ("VertexLanguageModel", 106, "nodes", 32), ("VertexLanguageModel", 108, "degree", 33), ("VertexLanguageModel", 110, "indegree", 34), ("VertexLanguageModel", 112, "draw", 35), ("VertexLanguageModel", 118, "==", 36), ("VertexLanguageModel", 120, "!=", 37), ("VertexLanguageModel", 122, "<=", 38), ("VertexLanguageModel", 124, ">=", 39), ("VertexLanguageModel", 126, "&&", 40), ("VertexLanguageModel", 128, "||", 41), ("VertexLanguageModel", 130, ";", 42), ("VertexLanguageModel", 132, "{", 43), ("VertexLanguageModel", 134, "}", 44), ("VertexLanguageModel", 136, "(", 45), ("VertexLanguageModel", 138, ")", 46), ("VertexLanguageModel", 140, ",", 47), ("VertexLanguageModel", 142, ".", 48), ("VertexLanguageModel", 144, ":", 49), ("VertexLanguageModel", 146, "=", 50), ("VertexLanguageModel", 148, "<", 51), ("VertexLanguageModel", 150, ">", 52), ("VertexLanguageModel", 152, "+", 53), ("VertexLanguageModel", 154, "-", 54), ("VertexLanguageModel", 156, "*", 55), ("VertexLanguageModel", 158, "/", 56), ("VertexLanguageModel", 160, "%", 57), ("VertexLanguageModel", 162, "!", 58)]
/-! ===== the machine's side of a world; a layout; what a heap holds of a world ===== -/
abbrev Mg : Type := Launch × (Nat → Nat) × va_G × (Nat → ClassId)
abbrev Mg.l (g : Mg) : Launch := g.1
abbrev Mg.ad (g : Mg) : Nat → Nat := g.2.1
abbrev Mg.D (g : Mg) : va_G := g.2.2.1
abbrev Mg.dA (g : Mg) : Nat → ClassId := g.2.2.2
/-- a layout: of a cell its kind (below 100 the class; 100 ints, 101 bytes, 102 booleans, 103 moments, 104 Strings) and its size; the references that never change; how many cells -/
abbrev Ly : Type := (Nat → Nat × Nat) × (Nat → Nat → Option Nat) × Nat
abbrev Ly.ly (y : Ly) : Nat → Nat × Nat := y.1
abbrev Ly.rf (y : Ly) : Nat → Nat → Option Nat := y.2.1
abbrev Ly.nn (y : Ly) : Nat := y.2.2
def cv (g : Mg) : AV → Value
  | .inl x => .int (Int32.ofInt x)
  | .inr (.inl a) => .ref (g.ad a)
  | .inr (.inr x) => .long (Int64.ofInt x)
def okv : AV → Prop
  | .inl x => inI x
  | .inr (.inl _) => True
  | .inr (.inr x) => inL x
def cfv (g : Mg) (t : FieldType) (x : Int) : Value := match t with
  | .int => .int (Int32.ofInt x)
  | .boolean => .int (Int32.ofInt x)
  | _ => if x < 0 then .null else .ref (g.ad x.toNat)
def cel (g : Mg) (y : Ly) (w : Wd) (o : Nat) : va_E :=
  if (y.ly o).1 < 100 then .inr ((y.ly o).1, (List.range (y.ly o).2).map (fun k => cfv g (fty (y.ly o).1 k) (w o k)))
  else if (y.ly o).1 < 103 then .inl (g.dA (y.ly o).1, (y.ly o).2, .inl (fun j => Int32.ofInt (w o j)))
  else .inl (g.dA (y.ly o).1, (y.ly o).2, .inr (.inr (.inr (.inr (fun j => if w o j < 0 then none else some (g.ad (w o j).toNat))))))
def wsl (g : Mg) (y : Ly) (w : Wd) : va_W := (List.range y.nn).map (fun o => (g.ad o, cel g y w o))
def AA (g : Mg) (y : Ly) : Nat → Prop := fun q => ∃ o, o < y.nn ∧ q = g.ad o
def tysl (g : Mg) : List (ClassId × FieldType) := [(g.dA 100, .int), (g.dA 101, .byte), (g.dA 102, .boolean), (g.dA 103, .object "VertexLanguage$Moment"), (g.dA 104, .object "java/lang/String")]
def Inj (g : Mg) (y : Ly) : Prop := ∀ i j, i < y.nn → j < y.nn → g.ad i = g.ad j → i = j
/-- what a place may hold: of bytes, of booleans, of all others -/
def rng (y : Ly) (o k : Nat) (x : Int) : Prop := if (y.ly o).1 = 101 then -128 ≤ x ∧ x ≤ 127 else if (y.ly o).1 = 102 ∨ ((y.ly o).1 < 100 ∧ fty (y.ly o).1 k = .boolean) then 0 ≤ x ∧ x ≤ 1 else inI x
theorem rng.I {y : Ly} {o k : Nat} {x : Int} (h : rng y o k x) : inI x := by
  unfold rng at h
  split at h
  · omega
  · split at h
    · omega
    · exact h
def Hol (g : Mg) (y : Ly) (w : Wd) (H : Heap) : Prop := va_P g.D cls_ (wsl g y w) H ∧ (∀ o, o < y.nn → ∀ k, k < (y.ly o).2 → rng y o k (w o k)) ∧ ∀ o k r, y.rf o k = some r → w o k = r
def mostL : List Int := [4, 8, 4, 4, 8]
/-- the entries of the model's class that name the Stop's own fields -/
def nstT : List (Nat × String) := [(11, "what"), (16, "place")]
def Old (g : Mg) (A : Nat → Prop) (U : State) (H : Heap) : Prop :=
  va_Z "VertexLanguage$Lot" "MOST" "[I" (.ref (g.ad 1000)) A U H ∧ va_T .int (g.ad 1000) 5 (fun j => .int (Int32.ofInt (mostL.getD j 0))) A U H ∧ va_Z "java/lang/String" "COMPACT_STRINGS" "Z" (.int 1) A U H ∧
  (∀ i, i < 59 → va_O "java/lang/String" (g.ad (1001 + i)) A U H ∧ va_OF "java/lang/String" "coder" "B" (.int 0) (g.ad (1001 + i)) A U H ∧ va_OF "java/lang/String" "value" "[B" (.ref (g.ad (2001 + i))) (g.ad (1001 + i)) A U H ∧ va_T .byte (g.ad (2001 + i)) (sB i).length (fun j => .int (Int32.ofInt ((sB i).getD j 0))) A U H) ∧
  (∀ q ∈ strT, vk_R q.1 q.2.1 q.2.2.1 (g.ad (1001 + q.2.2.2)) U) ∧
  va_Zq "jdk/internal/util/Preconditions" "SIOOBE_FORMATTER" "Ljava/util/function/BiFunction;" A U H ∧
  ∀ q ∈ nstT, va_Nw (.fieldLinkNest "VertexLanguageModel" q.1 "VertexLanguageModel$Stop" q.2 "I" "VertexLanguageModel") U
theorem Old.go {g : Mg} {A : Nat → Prop} {s U : State} {H : Heap} (h : Old g A s s.heap) (hk : ∀ q : Nat, q < s.heap.size → ¬ A q → H[q]? = s.heap[q]?) (hW : s.WarmedH U.vm) : Old g A U H := by
  obtain ⟨h1, h2, h3, h4, h5, h7, h6⟩ := h
  have hal := hW.alike
  exact ⟨(h1.kept hk).moved hal, (h2.kept hk).moved hal, (h3.kept hk).moved hal, fun i hi => ⟨((h4 i hi).1.kept hk).moved hal, ((h4 i hi).2.1.kept hk).moved hal, ((h4 i hi).2.2.1.kept hk).moved hal, ((h4 i hi).2.2.2.kept hk).moved hal⟩, fun q hq => (h5 q hq).warm hW, (h7.kept hk).moved hal, fun q hq => va_Nw.warmF hW (h6 q hq)⟩
/-- the words that stay true under warmer tables -/
def lw_g : List Cond := lw_tbl.filter goodWord
theorem mg {u : Cond} (h : u ∈ lw_tbl) (hg : goodWord u = true) : u ∈ lw_g := List.mem_filter.mpr ⟨h, hg⟩
theorem lays_g {C : String} {T : u_T} {N : Nat} (h : ∀ u ∈ u_ws C T N, u ∈ lw_tbl) : ∀ u ∈ u_ws C T N, u ∈ lw_g := fun u hu => mg (h u hu) (by
  obtain ⟨k, -, rfl⟩ := List.mem_map.mp hu
  unfold u_lay
  split <;> rfl)
/-! ===== a method; where its walk stands; its end; a call of it ===== -/
abbrev Jm : Type := String × MethodName × ByteArray × Nat × Option FieldType × List (Nat × Nat × Nat × Nat)
abbrev Jm.own (J : Jm) : String := J.1
abbrev Jm.y (J : Jm) : MethodName := J.2.1
abbrev Jm.cc (J : Jm) : ByteArray := J.2.2.1
abbrev Jm.nL (J : Jm) : Nat := J.2.2.2.1
abbrev Jm.ret (J : Jm) : Option FieldType := J.2.2.2.2.1
abbrev Jm.hh (J : Jm) : List (Nat × Nat × Nat × Nat) := J.2.2.2.2.2
def At0 (g : Mg) (y : Ly) (J : Jm) (p : Program) (s : State) (m : MethodId) (args : Array Value) (meth : Method) (c : Code) : Prop :=
  p.tables.exec = Jvm.exec ∧ c.code = J.cc ∧ meth.sig.returnType = J.ret ∧ c.maxLocals = J.nL ∧ meth.locks = false ∧ s.vm.findClass J.own = some m.cls ∧ (∀ w ∈ lw_g, w.before args s = true) ∧ va_K g.D cls_ (tysl g) s ∧ Old g (AA g y) s s.heap ∧ Inj g y ∧ c.exceptionTable.toList.map (fun h => (h.startPc, h.endPc, h.handlerPc, h.catchType)) = J.hh
abbrev Ou : Type := Option AV ⊕ Nat
def cvo (g : Mg) : Ou → Outcome
  | .inl none => .returned none
  | .inl (some v) => .returned (some (cv g v))
  | .inr a => .threw (g.ad a)
def oko : Ou → Prop
  | .inl none => True
  | .inl (some v) => okv v
  | .inr _ => True
def Zend (g : Mg) (y : Ly) (K : Ou → Wd → Prop) (st : State) (o : Outcome) (t : State) : Prop :=
  ∃ (o' : Ou) (w' : Wd), o = cvo g o' ∧ oko o' ∧ Hol g y w' t.heap ∧ K o' w' ∧ va_F (AA g y) st t ∧ st.WarmedH t.vm ∧ ∃ L, st.sameButNew ({ t with vm := st.vm } : State) L 0 0 ∧ ∀ q ∈ L, AA g y q.base
def Zq (g : Mg) (y : Ly) (K : Ou → Wd → Prop) (below : List Frame) (s : State) : State → Prop := fun t => ∃ o, t.status = .running ∧ Ended t below o ∧ Zend g y K s o t
def rmd (d : Nat) : Room := { frames := d, cells := 0, slots := 0, locals := 64 * d }
def V (g : Mg) (y : Ly) (J : Jm) (d : Nat) (K : Ou → Wd → Prop) (pc : Nat) (ls : List (Nat × AV)) (st : List AV) (w : Wd) : Prop :=
  ∀ (p : Program) (e : Env) (s : State) (m : MethodId) (args : Array Value) (below : List Frame) (meth : Method) (c : Code), At0 g y J p s m args meth c → ∀ (H : Heap) (locs : List Loc) (lsA : Array Slot), Hol g y w H → va_S (AA g y) s.heap H locs → lv_has lsA J.nL (ls.map (fun q => (q.1, cv g q.2))) → (∀ q ∈ ls, okv q.2) → (∀ v ∈ st, okv v) →
    W p g.l e (rmd d) s m args below meth c H locs 0 0 (Zq g y K below s) (F0 m pc lsA (st.map (cv g)))
def wsJ (J : Jm) : List Cond := (match J.hh with | [] => Cond.code J.y J.cc J.nL J.ret | h :: t => Cond.codeWith J.y J.cc J.nL J.ret (h :: t)) :: lw_g
def Cal (g : Mg) (y : Ly) (J : Jm) (d : Nat) (a : List AV) (w : Wd) (K : Ou → Wd → Prop) : Prop :=
  MetFree g.l J.y (headSpec (wsJ J) (rmd d)) (fun args U => args = (a.map (cv g)).toArray ∧ (∀ v ∈ a, okv v) ∧ Hol g y w U.heap ∧ va_K g.D cls_ (tysl g) U ∧ Old g (AA g y) U U.heap ∧ Inj g y) (fun _ _ _ _ _ => True) (fun _ st o t => Zend g y K st o t)
/-! ===== from the walk to the call ===== -/
def aw : AV → Nat
  | .inl _ => 1
  | .inr (.inl _) => 1
  | .inr (.inr _) => 2
def aLoc : Nat → List AV → List (Nat × AV)
  | _, [] => []
  | i, v :: t => (i, v) :: aLoc (i + aw v) t
theorem aLoc_map (g : Mg) : ∀ (a : List AV) (i : Nat), (aLoc i a).map (fun q => (q.1, cv g q.2)) = lv_args i (a.map (cv g))
  | [], _ => rfl
  | v :: t, i => by
    have e : (if (cv g v).category = 2 then i + 2 else i + 1) = i + aw v := by rcases v with x | x | x <;> rfl
    rw [aLoc, List.map_cons, List.map_cons, lv_args, e, aLoc_map g t]
theorem aLoc_ok {a : List AV} (h : ∀ v ∈ a, okv v) : ∀ (i : Nat), ∀ q ∈ aLoc i a, okv q.2 := by
  induction a with
  | nil => intro i q hq; simp [aLoc] at hq
  | cons v t ih =>
    intro i q hq
    rw [aLoc] at hq
    rcases List.mem_cons.mp hq with rfl | hq
    · exact h v List.mem_cons_self
    · exact ih (fun u hu => h u (List.mem_cons_of_mem _ hu)) _ q hq
theorem Cal.ofV {g : Mg} {y : Ly} {J : Jm} {d : Nat} {a : List AV} {w : Wd} {K : Ou → Wd → Prop} (hp : plainName J.y.cls = true) (ho : J.own = J.y.cls) (hL : (lg_sl (a.map (cv g))).length ≤ J.nL) (h : V g y J d K 0 (aLoc 0 a) [] w) : Cal g y J d a w K := by
  have his : ∀ (args : Array Value) (s : State) (m : MethodId), (headSpec (wsJ J) (rmd d)).pre.before args s = true → s.methodNamed? J.y = some m → ∃ meth c, s.vm.method? m = some meth ∧ meth.code = some c ∧ c.code = J.cc ∧ c.maxLocals = J.nL ∧ meth.sig.returnType = J.ret ∧ meth.locks = false ∧ c.exceptionTable.toList.map (fun h => (h.startPc, h.endPc, h.handlerPc, h.catchType)) = J.hh := by
    intro args s m hpre hn
    have hw := atoms_spec (ws := wsJ J) hpre _ List.mem_cons_self
    cases hh : J.hh with
    | nil =>
      simp only [wsJ, hh] at hw
      obtain ⟨meth, c, h1, h2, h3, h4, h5, h6, h7, -⟩ := Cond.code_spec hn hw
      refine ⟨meth, c, h1, h2, h3, h4, h5, h6, ?_⟩
      have : c.exceptionTable = #[] := by simpa using h7
      rw [this]; rfl
    | cons q t =>
      simp only [wsJ, hh] at hw
      obtain ⟨m9, meth, c, hn9, h1, h2, h3, h4, h7, h5, h6, -⟩ := Cond.codeWith_spec hw
      cases hn.symm.trans hn9
      exact ⟨meth, c, h1, h2, h3, h4, h5, h6, h7⟩
  refine MetFree.of_bodyS (code := J.cc) (maxLocals := J.nL) (ret := J.ret) hp ?_ ?_
  · intro args s m hpre hn
    obtain ⟨meth, c, h1, h2, h3, h4, h5, h6, -⟩ := his args s m hpre hn
    exact ⟨meth, c, h1, h2, h3, h4, h5, h6⟩
  · intro p e s m args below meth c s₁ B hml hP _
    obtain ⟨rfl, hok, hH, hK, hO, hI⟩ := hP
    have hh0 : s₁.heap = s.heap := by rw [B.state]; rfl
    have X := Stand.of_body B
    obtain ⟨meth', c', q1, q2, q3, q4, q5, q6, q7⟩ := his _ s m B.pre B.named
    cases B.method.symm.trans q1
    cases X.code.symm.trans q2
    have hts : ∀ w ∈ lw_g, w.before ((a.map (cv g)).toArray) s = true := fun w hw => atoms_spec (ws := wsJ J) B.pre _ (List.mem_cons_of_mem _ hw)
    have hown : s.vm.findClass J.own = some m.cls := by rw [ho]; exact findClass_of_methodNamed B.named
    have hA : At0 g y J p s m ((a.map (cv g)).toArray) meth c := ⟨B.exec, B.bytes, B.returns, hml, B.notSynchronized, hown, hts, hK, hO, hI, q7⟩
    have hl := lv_entry (a.map (cv g)) (n := J.nL) hL
    rw [← aLoc_map] at hl
    have hWk := h p e s m ((a.map (cv g)).toArray) below meth c hA s.heap [] _ hH va_S.rf hl (aLoc_ok hok 0) (fun v hv => absurd hv List.not_mem_nil)
    rw [← hh0] at hWk
    obtain ⟨t, a1, o, b1, b2, b3⟩ := hWk s₁ rfl X
    refine ⟨t, o, ?_, b1, b2, b3⟩
    rw [lg_entry_eq]
    exact a1
