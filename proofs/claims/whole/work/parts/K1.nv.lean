/-! ===== constructors: a world that grows ===== -/
abbrev Lk (ly : Nat → Nat × Nat) (k : Nat) : Ly := (ly, (fun _ _ => none), k)
/-- what a new place of a kind holds -/
def dT : FieldType → Int
  | .int => 0
  | .boolean => 0
  | _ => -1
/-- what a new cell holds -/
def dfl (ly : Nat → Nat × Nat) (o j : Nat) : Int := if (ly o).1 < 100 then dT (fty (ly o).1 j) else if (ly o).1 < 103 then 0 else -1
def HoK (g : Mg) (ly : Nat → Nat × Nat) (lo n k : Nat) (w : Wd) (H : Heap) : Prop := Hol g (Lk ly k) w H ∧ H.size = lo + k ∧ k ≤ n ∧ ∀ o, k ≤ o → ∀ j, w o j = dfl ly o j
/-- links of nest mates' constructors -/
def nwM : List (String × Nat × String) := [("VertexLanguage", 15, "VertexLanguage$Text"), ("VertexLanguage$Program", 36, "VertexLanguage$Code"), ("VertexLanguage$Machine", 25, "VertexLanguage$Moment")]
def Xtr (A : Nat → Prop) (U : State) (H : Heap) : Prop := (∀ q ∈ nwM, va_Nw (.methodLinkNest q.1 q.2.1 ⟨q.2.2, "<init>", "()V"⟩ "VertexLanguage") U) ∧ va_AO "VertexLanguage$Moment" U ∧ va_AO "java/lang/String" U ∧ va_Zq "java/lang/Throwable" "UNASSIGNED_STACK" "[Ljava/lang/StackTraceElement;" A U H ∧ va_Zq "java/lang/Throwable" "SUPPRESSED_SENTINEL" "Ljava/util/List;" A U H
theorem Xtr.go {A : Nat → Prop} {s U : State} {H : Heap} (h : Xtr A s s.heap) (hk : ∀ q : Nat, q < s.heap.size → ¬ A q → H[q]? = s.heap[q]?) (hW : s.WarmedH U.vm) : Xtr A U H := by
  obtain ⟨h1, h2, h3, h4, h5⟩ := h
  have hal := hW.alike
  exact ⟨fun q hq => va_Nw.warmM hW (h1 q hq), h2.moved hal, h3.moved hal, (h4.kept hk).moved hal, (h5.kept hk).moved hal⟩
abbrev up_A (lo : Nat) : Nat → Prop := fun q => lo ≤ q
def AtN (g : Mg) (lo n k0 : Nat) (J : Jm) (p : Program) (s : State) (m : MethodId) (args : Array Value) (meth : Method) (c : Code) : Prop :=
  AtG J p s m args meth c ∧ va_K g.D cls_ (tysl g) s ∧ Old g (up_A lo) s s.heap ∧ Xtr (up_A lo) s s.heap ∧ (∀ o, o < n → g.ad o = lo + o) ∧ s.heap.size = lo + k0
def NPre (g : Mg) (ly : Nat → Nat × Nat) (lo n k0 : Nat) (w : Wd) (U : State) : Prop := HoK g ly lo n k0 w U.heap ∧ va_K g.D cls_ (tysl g) U ∧ Old g (up_A lo) U U.heap ∧ Xtr (up_A lo) U U.heap ∧ (∀ o, o < n → g.ad o = lo + o)
def NPost (g : Mg) (ly : Nat → Nat × Nat) (lo n k1 : Nat) (K : Wd → Prop) (H : Heap) : Prop := ∃ w', HoK g ly lo n k1 w' H ∧ K w'
def NV (g : Mg) (ly : Nat → Nat × Nat) (sz : Nat → Nat) (lo n : Nat) (J : Jm) (d k0 k1 : Nat) (K : Wd → Prop) (pc : Nat) (ls : List (Nat × AV)) (st : List AV) (k : Nat) (w : Wd) : Prop :=
  ∀ (p : Program) (e : Env) (s : State) (m : MethodId) (args : Array Value) (below : List Frame) (meth : Method) (c : Code), AtN g lo n k0 J p s m args meth c → ∀ (H : Heap) (locs : List Loc) (lsA : Array Slot) (ce sl : Nat), ce + k0 = k → sl + sz k0 = sz k → HoK g ly lo n k w H → va_S (up_A lo) s.heap H locs → lv_has lsA J.nL (ls.map (fun q => (q.1, cv g q.2))) → (∀ q ∈ ls, okv q.2) → (∀ v ∈ st, okv v) →
    W p g.l e (rmG d (k1 - k0) (sz k1 - sz k0)) s m args below meth c H locs ce sl (GQ (up_A lo) (k1 - k0) (sz k1 - sz k0) (NPost g ly lo n k1 K) below s) (F0 m pc lsA (st.map (cv g)))
def NCal (g : Mg) (ly : Nat → Nat × Nat) (sz : Nat → Nat) (lo n : Nat) (J : Jm) (d k0 k1 : Nat) (a : List AV) (w : Wd) (K : Wd → Prop) : Prop :=
  GCal g.l J d (k1 - k0) (sz k1 - sz k0) (a.map (cv g)) (up_A lo) (fun U => NPre g ly lo n k0 w U ∧ ∀ v ∈ a, okv v) (NPost g ly lo n k1 K)
section NRows
variable {g : Mg} {ly : Nat → Nat × Nat} {sz : Nat → Nat} {lo n : Nat} {J : Jm} {d k0 k1 : Nat} {K : Wd → Prop} {pc : Nat} {ls : List (Nat × AV)} {st : List AV} {k : Nat} {w : Wd}
theorem NCal.ofV {a : List AV} (hp : plainName J.y.cls = true) (ho : J.own = J.y.cls) (hh : J.hh = []) (hL : (lg_sl (a.map (cv g))).length ≤ J.nL) (h : NV g ly sz lo n J d k0 k1 K 0 (aLoc 0 a) [] k0 w) : NCal g ly sz lo n J d k0 k1 a w K := by
  refine GCal.ofW hp ho hh hL ?_
  intro p e s m below meth c A0 hP lsA hl
  obtain ⟨⟨b1, b2, b3, b4, b5⟩, hok⟩ := hP
  refine h p e s m _ below meth c ⟨A0, b2, b3, b4, b5, b1.2.1⟩ s.heap [] lsA 0 0 (Nat.zero_add _) (Nat.zero_add _) b1 va_S.rf ?_ (aLoc_ok hok 0) (fun v hv => absurd hv List.not_mem_nil)
  rw [aLoc_map]
  exact hl
theorem n_step {pc' : Nat} {st' : List AV} (kk : NV g ly sz lo n J d k0 k1 K pc' ls st' k w) (ho : (∀ v ∈ st, okv v) → (∀ q ∈ ls, okv q.2) → ∀ v ∈ st', okv v)
    (hw : ∀ (p : Program) (e : Env) (s : State) (m : MethodId) (args : Array Value) (below : List Frame) (meth : Method) (c : Code) (H : Heap) (locs : List Loc) (lsA : Array Slot) (ce sl : Nat) (Q : State → Prop), AtN g lo n k0 J p s m args meth c → va_S (up_A lo) s.heap H locs → (∀ v ∈ st, okv v) → lv_has lsA J.nL (ls.map (fun q => (q.1, cv g q.2))) →
      W p g.l e (rmG d (k1 - k0) (sz k1 - sz k0)) s m args below meth c H locs ce sl Q (F0 m pc' lsA (st'.map (cv g))) → W p g.l e (rmG d (k1 - k0) (sz k1 - sz k0)) s m args below meth c H locs ce sl Q (F0 m pc lsA (st.map (cv g)))) : NV g ly sz lo n J d k0 k1 K pc ls st k w := by
  intro p e s m args below meth c A0 H locs lsA ce sl hce hsl hH hS hl hlo hst
  exact hw p e s m args below meth c H locs lsA ce sl _ A0 hS hst hl (kk p e s m args below meth c A0 H locs lsA ce sl hce hsl hH hS hl hlo (ho hst hlo))
theorem n_iconst {x : Int} (hd : decode J.cc pc = .ok (.iconst x, 1)) (hn : inI x) (kk : NV g ly sz lo n J d k0 k1 K (pc + 1) ls (vI x :: st) k w) : NV g ly sz lo n J d k0 k1 K pc ls st k w :=
  n_step kk (fun h _ => ok_cons hn h) (fun p e s m args below meth c H locs lsA ce sl Q A hS hst hl kk => lv_iconst A.1.1 A.1.2.1 hd rfl kk)
theorem n_bipush {x : Int} (hd : decode J.cc pc = .ok (.bipush x, 2)) (hn : inI x) (hv : (Int8.ofInt x).toInt32 = Int32.ofInt x) (kk : NV g ly sz lo n J d k0 k1 K (pc + 2) ls (vI x :: st) k w) : NV g ly sz lo n J d k0 k1 K pc ls st k w :=
  n_step kk (fun h _ => ok_cons hn h) (fun p e s m args below meth c H locs lsA ce sl Q A hS hst hl kk => lv_bipush A.1.1 A.1.2.1 hd hv kk)
theorem n_sipush {x : Int} (hd : decode J.cc pc = .ok (.sipush x, 3)) (hn : inI x) (hv : (Int16.ofInt x).toInt32 = Int32.ofInt x) (kk : NV g ly sz lo n J d k0 k1 K (pc + 3) ls (vI x :: st) k w) : NV g ly sz lo n J d k0 k1 K pc ls st k w :=
  n_step kk (fun h _ => ok_cons hn h) (fun p e s m args below meth c H locs lsA ce sl Q A hS hst hl kk => lv_sipush A.1.1 A.1.2.1 hd hv kk)
theorem n_ldcs {i x : Nat} {tx : String} (hd : decode J.cc pc = .ok (.ldc i, 2)) (hc : (J.own, i, tx, x) ∈ strT) (kk : NV g ly sz lo n J d k0 k1 K (pc + 2) ls (vA (1001 + x) :: st) k w) : NV g ly sz lo n J d k0 k1 K pc ls st k w :=
  n_step kk (fun h _ => ok_cons trivial h) (fun p e s m args below meth c H locs lsA ce sl Q A hS hst hl kk => va_ldcS A.1.1 A.1.2.1 A.1.2.2.2.2.2.1 (A.2.2.1.2.2.2.2.1 _ hc) hd kk)
theorem n_iload_n {q : Fin 4} {i : Nat} {x : Int} (hd : decode J.cc pc = .ok (.iload_n q, 1)) (hi : (q : Nat) = i) (hm : (i, vI x) ∈ ls) (kk : NV g ly sz lo n J d k0 k1 K (pc + 1) ls (vI x :: st) k w) : NV g ly sz lo n J d k0 k1 K pc ls st k w :=
  n_step kk (fun h h2 => ok_cons (h2 _ hm) h) (fun p e s m args below meth c H locs lsA ce sl Q A hS hst hl kk => lv_iload_n A.1.1 A.1.2.1 hd hi (mem_cv hl hm) kk)
theorem n_aload_n {q : Fin 4} {i : Nat} {x : Nat} (hd : decode J.cc pc = .ok (.aload_n q, 1)) (hi : (q : Nat) = i) (hm : (i, vA x) ∈ ls) (kk : NV g ly sz lo n J d k0 k1 K (pc + 1) ls (vA x :: st) k w) : NV g ly sz lo n J d k0 k1 K pc ls st k w :=
  n_step kk (fun h h2 => ok_cons (h2 _ hm) h) (fun p e s m args below meth c H locs lsA ce sl Q A hS hst hl kk => lv_aload_n A.1.1 A.1.2.1 hd hi (mem_cv hl hm) kk)
theorem n_dup {v : AV} (hd : decode J.cc pc = .ok (.dup, 1)) (hv : aw v = 1) (kk : NV g ly sz lo n J d k0 k1 K (pc + 1) ls (v :: v :: st) k w) : NV g ly sz lo n J d k0 k1 K pc ls (v :: st) k w :=
  n_step kk (fun h _ => ok_cons (ok_hd h) h) (fun p e s m args below meth c H locs lsA ce sl Q A hS hst hl kk => lv_dup A.1.1 A.1.2.1 hd (by rcases v with x | x | x <;> first | rfl | cases hv) kk)
theorem n_goto {off : Int} {tgt : Nat} (hd : decode J.cc pc = .ok (.goto off, 3)) (ht : (pc : Int) + off = (tgt : Int)) (kk : NV g ly sz lo n J d k0 k1 K tgt ls st k w) : NV g ly sz lo n J d k0 k1 K pc ls st k w :=
  n_step kk (fun h _ => h) (fun p e s m args below meth c H locs lsA ce sl Q A hS hst hl kk => lv_goto A.1.1 A.1.2.1 hd ht kk)
theorem n_icmpge {off a b : Int} {tgt : Nat} (hd : decode J.cc pc = .ok (.if_icmp .ge off, 3)) (ht : (pc : Int) + off = (tgt : Int)) (kt : b ≤ a → NV g ly sz lo n J d k0 k1 K tgt ls st k w) (kf : ¬ b ≤ a → NV g ly sz lo n J d k0 k1 K (pc + 3) ls st k w) : NV g ly sz lo n J d k0 k1 K pc ls (vI b :: vI a :: st) k w := by
  intro p e s m args below meth c A0 H locs lsA ce sl hce hsl hH hS hl hlo hst
  have q := i_le (ok_hd hst) (ok_hd (ok_tl hst))
  exact lv_icmp_ge A0.1.1 A0.1.2.1 hd ht (fun h => kt (q.mp h) p e s m args below meth c A0 H locs lsA ce sl hce hsl hH hS hl hlo (ok_tl (ok_tl hst))) (fun h => kf (fun z => h (q.mpr z)) p e s m args below meth c A0 H locs lsA ce sl hce hsl hH hS hl hlo (ok_tl (ok_tl hst)))
theorem n_istore_n {q : Fin 4} {i : Nat} {x : Int} {ls' : List (Nat × AV)} (hd : decode J.cc pc = .ok (.istore_n q, 1)) (hi : (q : Nat) = i) (hn : i < J.nL) (hl' : aS1 i (vI x) ls = ls') (kk : NV g ly sz lo n J d k0 k1 K (pc + 1) ls' st k w) : NV g ly sz lo n J d k0 k1 K pc ls (vI x :: st) k w := by
  subst hl'
  intro p e s m args below meth c A0 H locs lsA ce sl hce hsl hH hS hl hlo hst
  refine lv_istore_n A0.1.1 A0.1.2.1 hd hi hl hn (aS1_map i (vI x) ls) (fun ls2 h2 => ?_)
  exact kk p e s m args below meth c A0 H locs ls2 ce sl hce hsl hH hS h2 (ok_filter (ok_hd hst) hlo) (ok_tl hst)
theorem n_iinc {i : Nat} {b x : Int} {ls' : List (Nat × AV)} (hd : decode J.cc pc = .ok (.iinc i b, 3)) (hm : (i, vI x) ∈ ls) (hn : i < J.nL) (hl' : aS1 i (vI (wr (x + b))) ls = ls') (kk : NV g ly sz lo n J d k0 k1 K (pc + 3) ls' st k w) : NV g ly sz lo n J d k0 k1 K pc ls st k w := by
  subst hl'
  intro p e s m args below meth c A0 H locs lsA ce sl hce hsl hH hS hl hlo hst
  obtain ⟨j, hj⟩ := List.getElem?_of_mem (List.mem_map.mpr ⟨(i, vI x), hm, rfl⟩ : (i, cv g (vI x)) ∈ ls.map (fun q => (q.1, cv g q.2)))
  refine lv_iinc (v := Int32.ofInt (wr (x + b))) A0.1.1 A0.1.2.1 hd hl (k := j) hj (i_add x b) hn (aS1_map i (vI (wr (x + b))) ls) (fun ls2 h2 => ?_)
  exact kk p e s m args below meth c A0 H locs ls2 ce sl hce hsl hH hS h2 (ok_filter (wr_in _) hlo) hst
theorem n_obj {idx o : Nat} (hd : decode J.cc pc = .ok (.invokespecial idx, 3)) (hl1 : Cond.methodLink J.own idx Lib.objectInit ∈ lw_g) (hl2 : Cond.instanceMethod Lib.objectInit ∈ lw_g) (hl3 : Cond.code Lib.objectInit ⟨#[0xb1]⟩ 1 none ∈ lw_g) (hd1 : 1 ≤ d) (hr : (st.map aw).sum ≤ 8) (kk : NV g ly sz lo n J d k0 k1 K (pc + 3) ls st k w) : NV g ly sz lo n J d k0 k1 K pc ls (vA o :: st) k w :=
  n_step kk (fun h _ => ok_tl h) (fun p e s m args below meth c H locs lsA ce sl Q A hS hst hl kk => by
    obtain ⟨a1, a2, a3, a4, a5, a6, a7, a8⟩ := A.1
    exact W.objInit a1 a2 a6 (a7 _ hl1) (a7 _ hl2) (a7 _ hl3) rfl (hl.1.trans a4.symm) rfl hd hd1 (by show 2 * 0 + ((st.map (cv g)).map fun v => v.category).sum + 12 ≤ 64 * d; rw [cat_sum]; omega) kk)
theorem n_vret (hd : decode J.cc pc = .ok (.return_, 1)) (hr : J.ret = none) (hK : K w) (h01 : k0 ≤ k1) : NV g ly sz lo n J d k0 k1 K pc ls [] k1 w := by
  intro p e s m args below meth c A0 H locs lsA ce sl hce hsl hH hS hl hlo hst
  obtain ⟨⟨h1, h2, h3, h4, h5, h6, h7, h8⟩, -⟩ := A0
  intro T hT X
  have hlocks : meth.locks = false := h5
  obtain ⟨fs, hret, hrun, hended, hW, hframe⟩ := X.leave (v := none) (fun _ => rfl)
  have hmeth' : T.vm.method? m = some meth := X.method'
  have hrr : meth.sig.returnType = none := by rw [h3, hr]
  have e1 : ce = k1 - k0 := by omega
  have e2 : sl = sz k1 - sz k0 := by omega
  subst e1
  subst e2
  refine ⟨T.setFrames fs, ?_, .returned none, hrun, hended, rfl, ⟨w, by show HoK g ly lo n k1 w T.heap; rw [hT]; exact hH, hK⟩, hS.F hT, hW, locs, hframe, hS.2.2⟩
  jvm_step X.here [X.here.top, h1, h2, hd, hmeth', hrr]
  (try refine ⟨rfl, ?_⟩); (try refine ⟨rfl, ?_⟩)
  first | (intro acts; rw [hret _ acts rfl rfl rfl]) | rw [hret _ _ rfl rfl rfl]
  exact Steps.refl _
end NRows
