/-! ===== rows of the abstract machine: constants, locals, stack, numbers ===== -/
section RowsA
variable {g : Mg} {y : Ly} {J : Jm} {d : Nat} {K : Ou → Wd → Prop} {pc : Nat} {ls : List (Nat × AV)} {st : List AV} {w : Wd}
theorem v_step {pc' : Nat} {st' : List AV} (k : V g y J d K pc' ls st' w) (ho : (∀ v ∈ st, okv v) → (∀ q ∈ ls, okv q.2) → ∀ v ∈ st', okv v)
    (hw : ∀ (p : Program) (e : Env) (s : State) (m : MethodId) (args : Array Value) (below : List Frame) (meth : Method) (c : Code) (H : Heap) (locs : List Loc) (lsA : Array Slot) (Q : State → Prop), At0 g y J p s m args meth c → (∀ v ∈ st, okv v) → lv_has lsA J.nL (ls.map (fun q => (q.1, cv g q.2))) →
      W p g.l e (rmd d) s m args below meth c H locs 0 0 Q (F0 m pc' lsA (st'.map (cv g))) → W p g.l e (rmd d) s m args below meth c H locs 0 0 Q (F0 m pc lsA (st.map (cv g))))
 : V g y J d K pc ls st w := by
  intro p e s m args below meth c A0 H locs lsA hH hS hl hlo hst
  exact hw p e s m args below meth c H locs lsA _ A0 hst hl (k p e s m args below meth c A0 H locs lsA hH hS hl hlo (ho hst hlo))
theorem ok_cons {v : AV} {t : List AV} (h : okv v) (ht : ∀ u ∈ t, okv u) : ∀ u ∈ v :: t, okv u := fun u hu => by
  rcases List.mem_cons.mp hu with rfl | hu
  · exact h
  · exact ht u hu
theorem ok_tl {v : AV} {t : List AV} (h : ∀ u ∈ v :: t, okv u) : ∀ u ∈ t, okv u := fun u hu => h u (List.mem_cons_of_mem _ hu)
theorem ok_hd {v : AV} {t : List AV} (h : ∀ u ∈ v :: t, okv u) : okv v := h v List.mem_cons_self
theorem v_iconst {n : Int} (hd : decode J.cc pc = .ok (.iconst n, 1)) (hn : inI n) (k : V g y J d K (pc + 1) ls (vI n :: st) w) : V g y J d K pc ls st w :=
  v_step k (fun h _ => ok_cons hn h) (fun p e s m args below meth c H locs lsA Q A hst hl kk => lv_iconst A.1 A.2.1 hd rfl kk)
theorem v_bipush {n : Int} (hd : decode J.cc pc = .ok (.bipush n, 2)) (hn : inI n) (hv : (Int8.ofInt n).toInt32 = Int32.ofInt n) (k : V g y J d K (pc + 2) ls (vI n :: st) w) : V g y J d K pc ls st w :=
  v_step k (fun h _ => ok_cons hn h) (fun p e s m args below meth c H locs lsA Q A hst hl kk => lv_bipush A.1 A.2.1 hd hv kk)
theorem v_sipush {n : Int} (hd : decode J.cc pc = .ok (.sipush n, 3)) (hn : inI n) (hv : (Int16.ofInt n).toInt32 = Int32.ofInt n) (k : V g y J d K (pc + 3) ls (vI n :: st) w) : V g y J d K pc ls st w :=
  v_step k (fun h _ => ok_cons hn h) (fun p e s m args below meth c H locs lsA Q A hst hl kk => lv_sipush A.1 A.2.1 hd hv kk)
theorem v_lconst {n : Fin 2} {x : Int} (hd : decode J.cc pc = .ok (.lconst n, 1)) (hn : inL x) (hv : Int64.ofNat (n : Nat) = Int64.ofInt x) (k : V g y J d K (pc + 1) ls (vL x :: st) w) : V g y J d K pc ls st w :=
  v_step k (fun h _ => ok_cons hn h) (fun p e s m args below meth c H locs lsA Q A hst hl kk => lv_lconst A.1 A.2.1 hd hv kk)
theorem v_ldc {i : Nat} {n : Int} (hd : decode J.cc pc = .ok (.ldc i, 2)) (hn : inI n) (hc : Cond.constant J.own i (Int32.ofInt n) ∈ lw_g) (k : V g y J d K (pc + 2) ls (vI n :: st) w) : V g y J d K pc ls st w :=
  v_step k (fun h _ => ok_cons hn h) (fun p e s m args below meth c H locs lsA Q A hst hl kk => lv_ldc A.1 A.2.1 A.2.2.2.2.2.1 (A.2.2.2.2.2.2.1 _ hc) hd kk)
theorem v_ldcw {i : Nat} {n : Int} (hd : decode J.cc pc = .ok (.ldc_w i, 3)) (hn : inI n) (hc : Cond.constant J.own i (Int32.ofInt n) ∈ lw_g) (k : V g y J d K (pc + 3) ls (vI n :: st) w) : V g y J d K pc ls st w :=
  v_step k (fun h _ => ok_cons hn h) (fun p e s m args below meth c H locs lsA Q A hst hl kk => lv_ldcw A.1 A.2.1 A.2.2.2.2.2.1 (A.2.2.2.2.2.2.1 _ hc) hd kk)
theorem v_ldc2 {i : Nat} {n : Int} (hd : decode J.cc pc = .ok (.ldc2_w i, 3)) (hn : inL n) (hc : Cond.constantLong J.own i (Int64.ofInt n) ∈ lw_g) (k : V g y J d K (pc + 3) ls (vL n :: st) w) : V g y J d K pc ls st w :=
  v_step k (fun h _ => ok_cons hn h) (fun p e s m args below meth c H locs lsA Q A hst hl kk => lv_ldc2 A.1 A.2.1 A.2.2.2.2.2.1 (A.2.2.2.2.2.2.1 _ hc) hd kk)
theorem v_ldcs {i n : Nat} {tx : String} (hd : decode J.cc pc = .ok (.ldc i, 2)) (hc : (J.own, i, tx, n) ∈ strT) (k : V g y J d K (pc + 2) ls (vA (1001 + n) :: st) w) : V g y J d K pc ls st w :=
  v_step k (fun h _ => ok_cons trivial h) (fun p e s m args below meth c H locs lsA Q A hst hl kk => va_ldcS A.1 A.2.1 A.2.2.2.2.2.1 (A.2.2.2.2.2.2.2.2.1.2.2.2.2.1 _ hc) hd kk)
theorem mem_cv {lsA : Array Slot} {n : Nat} {i : Nat} {v : AV} (hl : lv_has lsA n (ls.map (fun q => (q.1, cv g q.2)))) (h : (i, v) ∈ ls) : lsA[i]? = some (.val (cv g v)) := hl.2.2 (i, cv g v) (List.mem_map.mpr ⟨(i, v), h, rfl⟩)
theorem v_iload_n {q : Fin 4} {i : Nat} {x : Int} (hd : decode J.cc pc = .ok (.iload_n q, 1)) (hi : (q : Nat) = i) (hm : (i, vI x) ∈ ls) (k : V g y J d K (pc + 1) ls (vI x :: st) w) : V g y J d K pc ls st w :=
  v_step k (fun h h2 => ok_cons (h2 _ hm) h) (fun p e s m args below meth c H locs lsA Q A hst hl kk => lv_iload_n A.1 A.2.1 hd hi (mem_cv hl hm) kk)
theorem v_iload {i : Nat} {x : Int} (hd : decode J.cc pc = .ok (.iload i, 2)) (hm : (i, vI x) ∈ ls) (k : V g y J d K (pc + 2) ls (vI x :: st) w) : V g y J d K pc ls st w :=
  v_step k (fun h h2 => ok_cons (h2 _ hm) h) (fun p e s m args below meth c H locs lsA Q A hst hl kk => lv_iload A.1 A.2.1 hd (mem_cv hl hm) kk)
theorem v_aload_n {q : Fin 4} {i : Nat} {x : Nat} (hd : decode J.cc pc = .ok (.aload_n q, 1)) (hi : (q : Nat) = i) (hm : (i, vA x) ∈ ls) (k : V g y J d K (pc + 1) ls (vA x :: st) w) : V g y J d K pc ls st w :=
  v_step k (fun h h2 => ok_cons (h2 _ hm) h) (fun p e s m args below meth c H locs lsA Q A hst hl kk => lv_aload_n A.1 A.2.1 hd hi (mem_cv hl hm) kk)
theorem v_aload {i : Nat} {x : Nat} (hd : decode J.cc pc = .ok (.aload i, 2)) (hm : (i, vA x) ∈ ls) (k : V g y J d K (pc + 2) ls (vA x :: st) w) : V g y J d K pc ls st w :=
  v_step k (fun h h2 => ok_cons (h2 _ hm) h) (fun p e s m args below meth c H locs lsA Q A hst hl kk => lv_aload A.1 A.2.1 hd (mem_cv hl hm) kk)
theorem v_lload_n {q : Fin 4} {i : Nat} {x : Int} (hd : decode J.cc pc = .ok (.lload_n q, 1)) (hi : (q : Nat) = i) (hm : (i, vL x) ∈ ls) (k : V g y J d K (pc + 1) ls (vL x :: st) w) : V g y J d K pc ls st w :=
  v_step k (fun h h2 => ok_cons (h2 _ hm) h) (fun p e s m args below meth c H locs lsA Q A hst hl kk => lv_lload_n A.1 A.2.1 hd hi (mem_cv hl hm) kk)
theorem v_lload {i : Nat} {x : Int} (hd : decode J.cc pc = .ok (.lload i, 2)) (hm : (i, vL x) ∈ ls) (k : V g y J d K (pc + 2) ls (vL x :: st) w) : V g y J d K pc ls st w :=
  v_step k (fun h h2 => ok_cons (h2 _ hm) h) (fun p e s m args below meth c H locs lsA Q A hst hl kk => lv_lload A.1 A.2.1 hd (mem_cv hl hm) kk)
/-- what stays of the locals when place i is written by a value of one word; of two -/
def aS1 (i : Nat) (v : AV) (ls : List (Nat × AV)) : List (Nat × AV) := (i, v) :: ls.filter (fun q => !(q.1 == i) && !(q.1 + 1 == i && aw q.2 == 2))
def aS2 (i : Nat) (v : AV) (ls : List (Nat × AV)) : List (Nat × AV) := (i, v) :: ls.filter (fun q => !(q.1 == i) && (!(q.1 == i + 1) && !(q.1 + 1 == i && aw q.2 == 2)))
theorem aw_cat (v : AV) : ((cv g v).category == 2) = (aw v == 2) := by rcases v with x | x | x <;> rfl
theorem aS1_map (i : Nat) (v : AV) (ls : List (Nat × AV)) : (i, cv g v) :: (ls.map (fun q => (q.1, cv g q.2))).filter (fun q => !(q.1 == i) && !(q.1 + 1 == i && q.2.category == 2)) = (aS1 i v ls).map (fun q => (q.1, cv g q.2)) := by
  rw [aS1, List.map_cons, List.filter_map]
  congr 2
  apply List.filter_congr
  intro q _
  simp only [Function.comp, aw_cat]
theorem aS2_map (i : Nat) (v : AV) (ls : List (Nat × AV)) : (i, cv g v) :: (ls.map (fun q => (q.1, cv g q.2))).filter (fun q => !(q.1 == i) && (!(q.1 == i + 1) && !(q.1 + 1 == i && q.2.category == 2))) = (aS2 i v ls).map (fun q => (q.1, cv g q.2)) := by
  rw [aS2, List.map_cons, List.filter_map]
  congr 2
  apply List.filter_congr
  intro q _
  simp only [Function.comp, aw_cat]
theorem ok_filter {i : Nat} {v : AV} {f : Nat × AV → Bool} (hv : okv v) (h : ∀ q ∈ ls, okv q.2) : ∀ q ∈ (i, v) :: ls.filter f, okv q.2 := fun q hq => by
  rcases List.mem_cons.mp hq with rfl | hq
  · exact hv
  · exact h q (List.mem_filter.mp hq).1
theorem v_istore_n {q : Fin 4} {i : Nat} {x : Int} {ls' : List (Nat × AV)} (hd : decode J.cc pc = .ok (.istore_n q, 1)) (hi : (q : Nat) = i) (hn : i < J.nL) (hl' : aS1 i (vI x) ls = ls') (k : V g y J d K (pc + 1) ls' st w) : V g y J d K pc ls (vI x :: st) w := by
  subst hl'
  intro p e s m args below meth c A0 H locs lsA hH hS hl hlo hst
  refine lv_istore_n A0.1 A0.2.1 hd hi hl hn (aS1_map i (vI x) ls) (fun ls2 h2 => ?_)
  exact k p e s m args below meth c A0 H locs ls2 hH hS h2 (ok_filter (ok_hd hst) hlo) (ok_tl hst)
theorem v_istore {i : Nat} {x : Int} {ls' : List (Nat × AV)} (hd : decode J.cc pc = .ok (.istore i, 2)) (hn : i < J.nL) (hl' : aS1 i (vI x) ls = ls') (k : V g y J d K (pc + 2) ls' st w) : V g y J d K pc ls (vI x :: st) w := by
  subst hl'
  intro p e s m args below meth c A0 H locs lsA hH hS hl hlo hst
  refine lv_istore A0.1 A0.2.1 hd hl hn (aS1_map i (vI x) ls) (fun ls2 h2 => ?_)
  exact k p e s m args below meth c A0 H locs ls2 hH hS h2 (ok_filter (ok_hd hst) hlo) (ok_tl hst)
theorem v_astore_n {q : Fin 4} {i : Nat} {x : Nat} {ls' : List (Nat × AV)} (hd : decode J.cc pc = .ok (.astore_n q, 1)) (hi : (q : Nat) = i) (hn : i < J.nL) (hl' : aS1 i (vA x) ls = ls') (k : V g y J d K (pc + 1) ls' st w) : V g y J d K pc ls (vA x :: st) w := by
  subst hl'
  intro p e s m args below meth c A0 H locs lsA hH hS hl hlo hst
  refine lv_astore_n A0.1 A0.2.1 hd hi hl hn (aS1_map i (vA x) ls) (fun ls2 h2 => ?_)
  exact k p e s m args below meth c A0 H locs ls2 hH hS h2 (ok_filter (ok_hd hst) hlo) (ok_tl hst)
theorem v_astore {i : Nat} {x : Nat} {ls' : List (Nat × AV)} (hd : decode J.cc pc = .ok (.astore i, 2)) (hn : i < J.nL) (hl' : aS1 i (vA x) ls = ls') (k : V g y J d K (pc + 2) ls' st w) : V g y J d K pc ls (vA x :: st) w := by
  subst hl'
  intro p e s m args below meth c A0 H locs lsA hH hS hl hlo hst
  refine lv_astore A0.1 A0.2.1 hd hl hn (aS1_map i (vA x) ls) (fun ls2 h2 => ?_)
  exact k p e s m args below meth c A0 H locs ls2 hH hS h2 (ok_filter (ok_hd hst) hlo) (ok_tl hst)
theorem v_lstore_n {q : Fin 4} {i : Nat} {x : Int} {ls' : List (Nat × AV)} (hd : decode J.cc pc = .ok (.lstore_n q, 1)) (hi : (q : Nat) = i) (hn : i + 1 < J.nL) (hl' : aS2 i (vL x) ls = ls') (k : V g y J d K (pc + 1) ls' st w) : V g y J d K pc ls (vL x :: st) w := by
  subst hl'
  intro p e s m args below meth c A0 H locs lsA hH hS hl hlo hst
  refine lv_lstore_n A0.1 A0.2.1 hd hi hl hn (aS2_map i (vL x) ls) (fun ls2 h2 => ?_)
  exact k p e s m args below meth c A0 H locs ls2 hH hS h2 (ok_filter (ok_hd hst) hlo) (ok_tl hst)
theorem v_lstore {i : Nat} {x : Int} {ls' : List (Nat × AV)} (hd : decode J.cc pc = .ok (.lstore i, 2)) (hn : i + 1 < J.nL) (hl' : aS2 i (vL x) ls = ls') (k : V g y J d K (pc + 2) ls' st w) : V g y J d K pc ls (vL x :: st) w := by
  subst hl'
  intro p e s m args below meth c A0 H locs lsA hH hS hl hlo hst
  refine lv_lstore A0.1 A0.2.1 hd hl hn (aS2_map i (vL x) ls) (fun ls2 h2 => ?_)
  exact k p e s m args below meth c A0 H locs ls2 hH hS h2 (ok_filter (ok_hd hst) hlo) (ok_tl hst)
theorem v_iinc {i : Nat} {n x : Int} {ls' : List (Nat × AV)} (hd : decode J.cc pc = .ok (.iinc i n, 3)) (hm : (i, vI x) ∈ ls) (hn : i < J.nL) (hl' : aS1 i (vI (wr (x + n))) ls = ls') (k : V g y J d K (pc + 3) ls' st w) : V g y J d K pc ls st w := by
  subst hl'
  intro p e s m args below meth c A0 H locs lsA hH hS hl hlo hst
  obtain ⟨kk, hkk⟩ := List.getElem?_of_mem (List.mem_map.mpr ⟨(i, vI x), hm, rfl⟩ : (i, cv g (vI x)) ∈ ls.map (fun q => (q.1, cv g q.2)))
  refine lv_iinc (v := Int32.ofInt (wr (x + n))) A0.1 A0.2.1 hd hl (k := kk) hkk (i_add x n) hn (aS1_map i (vI (wr (x + n))) ls) (fun ls2 h2 => ?_)
  exact k p e s m args below meth c A0 H locs ls2 hH hS h2 (ok_filter (wr_in _) hlo) hst
/-- fewer locals -/
theorem v_sub {ls' : List (Nat × AV)} (h : ∀ q ∈ ls', q ∈ ls) (k : V g y J d K pc ls' st w) : V g y J d K pc ls st w := by
  intro p e s m args below meth c A0 H locs lsA hH hS hl hlo hst
  refine k p e s m args below meth c A0 H locs lsA hH hS ⟨hl.1, hl.2.1, fun q hq => ?_⟩ (fun q hq => hlo q (h q hq)) hst
  obtain ⟨a, ha, rfl⟩ := List.mem_map.mp hq
  exact hl.2.2 _ (List.mem_map.mpr ⟨a, h a ha, rfl⟩)
/-- what stands on the stack is within -/
theorem v_ok (k : (∀ v ∈ st, okv v) → (∀ q ∈ ls, okv q.2) → V g y J d K pc ls st w) : V g y J d K pc ls st w := by
  intro p e s m args below meth c A0 H locs lsA hH hS hl hlo hst
  exact k hst hlo p e s m args below meth c A0 H locs lsA hH hS hl hlo hst
/-- what the world holds is within -/
theorem v_rng (k : (∀ o, o < y.nn → ∀ k, k < (y.ly o).2 → rng y o k (w o k)) → V g y J d K pc ls st w) : V g y J d K pc ls st w := by
  intro p e s m args below meth c A0 H locs lsA hH hS hl hlo hst
  exact k hH.2.1 p e s m args below meth c A0 H locs lsA hH hS hl hlo hst
def iDiv (a b : Int) : Int := (Int32.ofInt a / Int32.ofInt b).toInt
def iRem (a b : Int) : Int := (Int32.ofInt a - Int32.ofInt a / Int32.ofInt b * Int32.ofInt b).toInt
def iAnd (a b : Int) : Int := (Int32.ofInt a &&& Int32.ofInt b).toInt
def iOr (a b : Int) : Int := (Int32.ofInt a ||| Int32.ofInt b).toInt
def iXor (a b : Int) : Int := (Int32.ofInt a ^^^ Int32.ofInt b).toInt
def iShl (a b : Int) : Int := (Int32.ofInt a <<< (Int32.ofInt b &&& 31)).toInt
def iShr (a b : Int) : Int := (Int32.ofInt a >>> (Int32.ofInt b &&& 31)).toInt
def iUshr (a b : Int) : Int := (((Int32.ofInt a).toUInt32 >>> ((Int32.ofInt b).toUInt32 &&& Int32.toUInt32 31)).toInt32).toInt
def i2bF (a : Int) : Int := ((Int32.ofInt a).toInt8.toInt32).toInt
def i2cF (a : Int) : Int := (((Int32.ofInt a).toUInt32 % 65536).toInt32).toInt
def i2lF (a : Int) : Int := ((Int32.ofInt a).toInt64).toInt
def l2iF (a : Int) : Int := ((Int64.ofInt a).toInt32).toInt
def lAdd (a b : Int) : Int := (Int64.ofInt a + Int64.ofInt b).toInt
def lSub (a b : Int) : Int := (Int64.ofInt a - Int64.ofInt b).toInt
def lMul (a b : Int) : Int := (Int64.ofInt a * Int64.ofInt b).toInt
def lAnd (a b : Int) : Int := (Int64.ofInt a &&& Int64.ofInt b).toInt
def lRem (a b : Int) : Int := (Int64.ofInt a - Int64.ofInt a / Int64.ofInt b * Int64.ofInt b).toInt
def lCmp (a b : Int) : Int := (lg_cmp (Int64.ofInt a) (Int64.ofInt b)).toInt
theorem v_iadd {a b : Int} (hd : decode J.cc pc = .ok (.iadd, 1)) (k : V g y J d K (pc + 1) ls (vI (wr (a + b)) :: st) w) : V g y J d K pc ls (vI b :: vI a :: st) w :=
  v_step k (fun h _ => ok_cons (wr_in _) (ok_tl (ok_tl h))) (fun p e s m args below meth c H locs lsA Q A hst hl kk => lv_iadd A.1 A.2.1 hd (by rw [i_add]; exact kk))
theorem v_isub {a b : Int} (hd : decode J.cc pc = .ok (.isub, 1)) (k : V g y J d K (pc + 1) ls (vI (wr (a - b)) :: st) w) : V g y J d K pc ls (vI b :: vI a :: st) w :=
  v_step k (fun h _ => ok_cons (wr_in _) (ok_tl (ok_tl h))) (fun p e s m args below meth c H locs lsA Q A hst hl kk => lv_isub A.1 A.2.1 hd (by rw [i_sub]; exact kk))
theorem v_imul {a b : Int} (hd : decode J.cc pc = .ok (.imul, 1)) (k : V g y J d K (pc + 1) ls (vI (wr (a * b)) :: st) w) : V g y J d K pc ls (vI b :: vI a :: st) w :=
  v_step k (fun h _ => ok_cons (wr_in _) (ok_tl (ok_tl h))) (fun p e s m args below meth c H locs lsA Q A hst hl kk => lv_imul A.1 A.2.1 hd (by rw [i_mul]; exact kk))
theorem v_ineg {a : Int} (hd : decode J.cc pc = .ok (.ineg, 1)) (k : V g y J d K (pc + 1) ls (vI (wr (-a)) :: st) w) : V g y J d K pc ls (vI a :: st) w :=
  v_step k (fun h _ => ok_cons (wr_in _) (ok_tl h)) (fun p e s m args below meth c H locs lsA Q A hst hl kk => lv_ineg A.1 A.2.1 hd (by rw [i_neg]; exact kk))
theorem v_idiv {a b : Int} (hd : decode J.cc pc = .ok (.idiv, 1)) (hne : ¬ b = 0) (k : V g y J d K (pc + 1) ls (vI (iDiv a b) :: st) w) : V g y J d K pc ls (vI b :: vI a :: st) w :=
  v_step k (fun h _ => ok_cons (i_in _) (ok_tl (ok_tl h))) (fun p e s m args below meth c H locs lsA Q A hst hl kk => lv_idiv A.1 A.2.1 hd (fun h => hne ((i_eq (ok_hd hst) (by decide : inI 0)).mp h)) (by rw [← i_of (Int32.ofInt a / Int32.ofInt b)]; exact kk))
theorem v_irem {a b : Int} (hd : decode J.cc pc = .ok (.irem, 1)) (hne : ¬ b = 0) (k : V g y J d K (pc + 1) ls (vI (iRem a b) :: st) w) : V g y J d K pc ls (vI b :: vI a :: st) w :=
  v_step k (fun h _ => ok_cons (i_in _) (ok_tl (ok_tl h))) (fun p e s m args below meth c H locs lsA Q A hst hl kk => lv_irem A.1 A.2.1 hd (fun h => hne ((i_eq (ok_hd hst) (by decide : inI 0)).mp h)) (by rw [← i_of (Int32.ofInt a - Int32.ofInt a / Int32.ofInt b * Int32.ofInt b)]; exact kk))
theorem v_iand {a b : Int} (hd : decode J.cc pc = .ok (.iand, 1)) (k : V g y J d K (pc + 1) ls (vI (iAnd a b) :: st) w) : V g y J d K pc ls (vI b :: vI a :: st) w :=
  v_step k (fun h _ => ok_cons (i_in _) (ok_tl (ok_tl h))) (fun p e s m args below meth c H locs lsA Q A hst hl kk => lv_iand A.1 A.2.1 hd (by rw [← i_of (Int32.ofInt a &&& Int32.ofInt b)]; exact kk))
theorem v_ior {a b : Int} (hd : decode J.cc pc = .ok (.ior, 1)) (k : V g y J d K (pc + 1) ls (vI (iOr a b) :: st) w) : V g y J d K pc ls (vI b :: vI a :: st) w :=
  v_step k (fun h _ => ok_cons (i_in _) (ok_tl (ok_tl h))) (fun p e s m args below meth c H locs lsA Q A hst hl kk => lv_ior A.1 A.2.1 hd (by rw [← i_of (Int32.ofInt a ||| Int32.ofInt b)]; exact kk))
theorem v_ixor {a b : Int} (hd : decode J.cc pc = .ok (.ixor, 1)) (k : V g y J d K (pc + 1) ls (vI (iXor a b) :: st) w) : V g y J d K pc ls (vI b :: vI a :: st) w :=
  v_step k (fun h _ => ok_cons (i_in _) (ok_tl (ok_tl h))) (fun p e s m args below meth c H locs lsA Q A hst hl kk => lv_ixor A.1 A.2.1 hd (by rw [← i_of (Int32.ofInt a ^^^ Int32.ofInt b)]; exact kk))
theorem v_iushr {a b : Int} (hd : decode J.cc pc = .ok (.iushr, 1)) (k : V g y J d K (pc + 1) ls (vI (iUshr a b) :: st) w) : V g y J d K pc ls (vI b :: vI a :: st) w :=
  v_step k (fun h _ => ok_cons (i_in _) (ok_tl (ok_tl h))) (fun p e s m args below meth c H locs lsA Q A hst hl kk => lv_iushr A.1 A.2.1 hd rfl (by rw [← i_of (((Int32.ofInt a).toUInt32 >>> ((Int32.ofInt b).toUInt32 &&& Int32.toUInt32 31)).toInt32)]; exact kk))
theorem v_i2b {a : Int} (hd : decode J.cc pc = .ok (.i2b, 1)) (k : V g y J d K (pc + 1) ls (vI (i2bF a) :: st) w) : V g y J d K pc ls (vI a :: st) w :=
  v_step k (fun h _ => ok_cons (i_in _) (ok_tl h)) (fun p e s m args below meth c H locs lsA Q A hst hl kk => lv_i2b A.1 A.2.1 hd rfl (by rw [← i_of ((Int32.ofInt a).toInt8.toInt32)]; exact kk))
theorem v_i2c {a : Int} (hd : decode J.cc pc = .ok (.i2c, 1)) (k : V g y J d K (pc + 1) ls (vI (i2cF a) :: st) w) : V g y J d K pc ls (vI a :: st) w :=
  v_step k (fun h _ => ok_cons (i_in _) (ok_tl h)) (fun p e s m args below meth c H locs lsA Q A hst hl kk => lv_i2c A.1 A.2.1 hd rfl (by rw [← i_of (((Int32.ofInt a).toUInt32 % 65536).toInt32)]; exact kk))
theorem i2l_id (a : Int) (h : inI a) : (Int32.ofInt a).toInt64 = Int64.ofInt a := l_ext (by rw [l_to, wrL_id (inI_L h), Int32.toInt_toInt64, i_to, wr_id h])
theorem v_i2l {a : Int} (hd : decode J.cc pc = .ok (.i2l, 1)) (k : V g y J d K (pc + 1) ls (vL a :: st) w) : V g y J d K pc ls (vI a :: st) w :=
  v_step k (fun h _ => ok_cons (inI_L (ok_hd h)) (ok_tl h)) (fun p e s m args below meth c H locs lsA Q A hst hl kk => lv_i2l A.1 A.2.1 hd (i2l_id a (ok_hd hst)) kk)
theorem v_l2i {a : Int} (hd : decode J.cc pc = .ok (.l2i, 1)) (k : V g y J d K (pc + 1) ls (vI (l2iF a) :: st) w) : V g y J d K pc ls (vL a :: st) w :=
  v_step k (fun h _ => ok_cons (i_in _) (ok_tl h)) (fun p e s m args below meth c H locs lsA Q A hst hl kk => lv_l2i A.1 A.2.1 hd rfl (by rw [← i_of ((Int64.ofInt a).toInt32)]; exact kk))
theorem v_ladd {a b : Int} (hd : decode J.cc pc = .ok (.ladd, 1)) (k : V g y J d K (pc + 1) ls (vL (lAdd a b) :: st) w) : V g y J d K pc ls (vL b :: vL a :: st) w :=
  v_step k (fun h _ => ok_cons (l_in _) (ok_tl (ok_tl h))) (fun p e s m args below meth c H locs lsA Q A hst hl kk => lv_ladd A.1 A.2.1 hd (by rw [← l_of (Int64.ofInt a + Int64.ofInt b)]; exact kk))
theorem v_lsub {a b : Int} (hd : decode J.cc pc = .ok (.lsub, 1)) (k : V g y J d K (pc + 1) ls (vL (lSub a b) :: st) w) : V g y J d K pc ls (vL b :: vL a :: st) w :=
  v_step k (fun h _ => ok_cons (l_in _) (ok_tl (ok_tl h))) (fun p e s m args below meth c H locs lsA Q A hst hl kk => lv_lsub A.1 A.2.1 hd (by rw [← l_of (Int64.ofInt a - Int64.ofInt b)]; exact kk))
theorem v_lmul {a b : Int} (hd : decode J.cc pc = .ok (.lmul, 1)) (k : V g y J d K (pc + 1) ls (vL (lMul a b) :: st) w) : V g y J d K pc ls (vL b :: vL a :: st) w :=
  v_step k (fun h _ => ok_cons (l_in _) (ok_tl (ok_tl h))) (fun p e s m args below meth c H locs lsA Q A hst hl kk => lv_lmul A.1 A.2.1 hd (by rw [← l_of (Int64.ofInt a * Int64.ofInt b)]; exact kk))
theorem v_land {a b : Int} (hd : decode J.cc pc = .ok (.land, 1)) (k : V g y J d K (pc + 1) ls (vL (lAnd a b) :: st) w) : V g y J d K pc ls (vL b :: vL a :: st) w :=
  v_step k (fun h _ => ok_cons (l_in _) (ok_tl (ok_tl h))) (fun p e s m args below meth c H locs lsA Q A hst hl kk => lv_land A.1 A.2.1 hd (by rw [← l_of (Int64.ofInt a &&& Int64.ofInt b)]; exact kk))
theorem l_ne {b : Int} (hb : inL b) (h : ¬ b = 0) : ¬ Int64.ofInt b = 0 := fun q => h (by
  have := congrArg Int64.toInt q
  rw [l_to, wrL_id hb] at this
  exact this)
theorem v_lrem {a b : Int} (hd : decode J.cc pc = .ok (.lrem, 1)) (hne : ¬ b = 0) (k : V g y J d K (pc + 1) ls (vL (lRem a b) :: st) w) : V g y J d K pc ls (vL b :: vL a :: st) w :=
  v_step k (fun h _ => ok_cons (l_in _) (ok_tl (ok_tl h))) (fun p e s m args below meth c H locs lsA Q A hst hl kk => lv_lrem A.1 A.2.1 hd (l_ne (ok_hd hst) hne) (by rw [← l_of (Int64.ofInt a - Int64.ofInt a / Int64.ofInt b * Int64.ofInt b)]; exact kk))
theorem v_lcmp {a b : Int} (hd : decode J.cc pc = .ok (.lcmp, 1)) (k : V g y J d K (pc + 1) ls (vI (lCmp a b) :: st) w) : V g y J d K pc ls (vL b :: vL a :: st) w :=
  v_step k (fun h _ => ok_cons (i_in _) (ok_tl (ok_tl h))) (fun p e s m args below meth c H locs lsA Q A hst hl kk => W.lcmp A.1 A.2.1 hd (by rw [← i_of (lg_cmp (Int64.ofInt a) (Int64.ofInt b))]; exact kk))
theorem cat1 {v : AV} (h : aw v = 1) : (cv g v).category = 1 := by
  rcases v with x | x | x
  · rfl
  · rfl
  · cases h
theorem v_dup {v : AV} (hd : decode J.cc pc = .ok (.dup, 1)) (ha : aw v = 1) (k : V g y J d K (pc + 1) ls (v :: v :: st) w) : V g y J d K pc ls (v :: st) w :=
  v_step k (fun h _ => ok_cons (ok_hd h) h) (fun p e s m args below meth c H locs lsA Q A hst hl kk => lv_dup A.1 A.2.1 hd (cat1 ha) kk)
theorem v_dup2 {v u : AV} (hd : decode J.cc pc = .ok (.dup2, 1)) (ha : aw v = 1) (hb : aw u = 1) (k : V g y J d K (pc + 1) ls (v :: u :: v :: u :: st) w) : V g y J d K pc ls (v :: u :: st) w :=
  v_step k (fun h _ => ok_cons (ok_hd h) (ok_cons (ok_hd (ok_tl h)) h)) (fun p e s m args below meth c H locs lsA Q A hst hl kk => lv_dup2_11 A.1 A.2.1 hd (cat1 ha) (cat1 hb) kk)
theorem v_pop {v : AV} (hd : decode J.cc pc = .ok (.pop, 1)) (ha : aw v = 1) (k : V g y J d K (pc + 1) ls st w) : V g y J d K pc ls (v :: st) w :=
  v_step k (fun h _ => ok_tl h) (fun p e s m args below meth c H locs lsA Q A hst hl kk => lv_pop A.1 A.2.1 hd (cat1 ha) kk)
end RowsA
