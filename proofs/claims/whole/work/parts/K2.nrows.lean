/-! ===== constructors: rows that make and write cells ===== -/
/-- kinds of fields that the layouts know -/
def okT : FieldType → Bool
  | .int => true
  | .boolean => true
  | .object _ => true
  | .array _ => true
  | _ => false
section NMake
variable {g : Mg} {ly : Nat → Nat × Nat} {sz : Nat → Nat} {lo n : Nat} {J : Jm} {d k0 k1 : Nat} {K : Wd → Prop} {pc : Nat} {ls : List (Nat × AV)} {st : List AV} {k : Nat} {w : Wd}
theorem dfl_rng {m o j : Nat} : rng (Lk ly m) o j (dfl ly o j) := by
  unfold rng dfl
  by_cases h1 : (ly o).1 = 101
  · rw [if_pos h1, if_neg (by omega), if_pos (by omega)]; decide
  · rw [if_neg h1]
    by_cases h2 : (ly o).1 < 100
    · rw [if_pos h2]
      by_cases h3 : fty (ly o).1 j = .boolean
      · rw [if_pos (Or.inr ⟨h2, h3⟩), h3]; exact ⟨by decide, by decide⟩
      · rw [if_neg (by
          rintro (z | ⟨-, z⟩)
          · have z : (ly o).1 = 102 := z
            omega
          · exact h3 z)]
        cases fty (ly o).1 j <;> first | (show inI 0; decide) | (show inI (-1); decide)
    · rw [if_neg h2]
      by_cases h3 : (ly o).1 = 102
      · rw [if_pos (Or.inl h3), if_pos (by omega)]; decide
      · rw [if_neg (by
          rintro (z | ⟨z, -⟩)
          · exact h3 z
          · exact h2 z)]
        split <;> decide
theorem dfl_val {t : FieldType} (h : okT t = true) {x : Int} (hx : x = dT t) : cfv g t x = defaultValue t := by
  subst hx
  cases t <;> first | rfl | cases h
/-- one more cell -/
theorem hok_new {H H1 : Heap} (h : HoK g ly lo n k w H) (hkn : k < n) (had : g.ad k = lo + k) (hz : H1.size = lo + k + 1) (ho : ∀ q : Nat, q < lo + k → H1[q]? = H[q]?) (hat : va_at g.D cls_ (g.ad k, cel g (Lk ly (k + 1)) w k) H1) : HoK g ly lo n (k + 1) w H1 := by
  obtain ⟨⟨h1, h2, h3⟩, h4, h5, h6⟩ := h
  refine ⟨⟨?_, fun o ho2 j hj => ?_, fun o j r hr => by cases hr⟩, by omega, by omega, fun o ho2 j => h6 o (by omega) j⟩
  · have e : wsl g (Lk ly (k + 1)) w = wsl g (Lk ly k) w ++ [(g.ad k, cel g (Lk ly (k + 1)) w k)] := by
      show (List.range (k + 1)).map _ = (List.range k).map _ ++ _
      rw [List.range_succ, List.map_append]
      rfl
    rw [e]
    have hk : ∀ (i : Nat) (x : Nat × va_E), (wsl g (Lk ly k) w)[i]? = some x → H1[x.1]? = H[x.1]? := fun i x hx => ho x.1 (by rw [← h4]; exact (h1 i x hx).lt)
    refine (h1.kept hk).app (fun i x hx => ?_)
    have hz : i < 1 := (List.getElem?_eq_some_iff.mp hx).1
    rw [show i = 0 by omega] at hx
    cases hx
    exact hat
  · by_cases e : o < k
    · exact h2 o e j hj
    · have ho2 : o < k + 1 := ho2
      have e2 : o = k := by omega
      subst e2
      rw [h6 o (Nat.le_refl _) j]
      exact dfl_rng
theorem s_new {s : State} {H H1 : Heap} {locs : List Loc} (hS : va_S (up_A lo) s.heap H locs) (hs : H.size = lo + k) (hz : H1.size = lo + k + 1) (ho : ∀ q : Nat, q < lo + k → H1[q]? = H[q]?) : va_S (up_A lo) s.heap H1 locs :=
  ⟨Nat.le_trans hS.1 (by omega), fun x h1 h2 => (ho x (by have := hS.1; omega)).trans (hS.2.1 x h1 h2), hS.2.2⟩
theorem n_new {i ci N Ns : Nat} {C : String} {T : u_T} (hd : decode J.cc pc = .ok (.new i, 3)) (hcl : Cond.classLink J.own i C ∈ lw_g) (hins : Cond.instantiable C Ns ∈ lw_g) (hini : Cond.initialized C ∈ lw_g) (hc : cls_[ci]? = some (C, T, N)) (hft : ∀ j, j < N → okT (fty ci j) = true) (hly : ly k = (ci, N)) (hci : ci < 100) (hkn : k < n) (hk1 : k + 1 ≤ k1) (hsz : sz (k + 1) = sz k + Ns) (hs1 : sz (k + 1) ≤ sz k1)
    (kk : NV g ly sz lo n J d k0 k1 K (pc + 3) ls (vA k :: st) (k + 1) w) : NV g ly sz lo n J d k0 k1 K pc ls st k w := by
  intro p e s m args below meth c A0 H locs lsA ce sl hce hsl hH hS hl hlo hst
  obtain ⟨⟨h1, h2, h3, h4, h5, h6, h7, h8⟩, hK, hO, hX, had, hs0⟩ := id A0
  have hKn := hK.1 ci _ hc
  have hadk := had k hkn
  refine W.newcK h1 h2 h6 (h7 _ hcl) (h7 _ hins) (h7 _ hini) rfl hd (by show ce + 1 ≤ k1 - k0; omega) (by show sl + Ns ≤ sz k1 - sz k0; omega) hKn.2.1 hH.2.1 fun H1 kC hkC e1 z1 o1 => ?_
  have hat : va_at g.D cls_ (g.ad k, cel g (Lk ly (k + 1)) w k) H1 := by
    rw [cel_o (y := Lk ly (k + 1)) hly hci]
    refine ⟨_, hc, ?_⟩
    show t_OB (g.ad k) _ _ _ H1 _
    rw [hadk]
    refine (u_born (fty ci) h7 (cls_in ci _ hc) hKn hkC e1 (cls_ty ci _ hc)).to (fun j hj => ?_)
    have hj : j < N := hj
    have hw := hH.2.2.2 k (Nat.le_refl _) j
    unfold dfl at hw
    rw [hly, if_pos hci] at hw
    rw [← dfl_val (g := g) (hft j hj) hw]
    simp [vp_V, hj]
  have hk := kk p e s m args below meth c A0 H1 locs lsA (ce + 1) (sl + Ns) (by omega) (by omega) (hok_new hH hkn hadk z1 o1 hat) (s_new hS hH.2.1 z1 o1) hl hlo (ok_cons trivial hst)
  rw [List.map_cons] at hk
  have e9 : cv g (vA k) = .ref (lo + k) := by show Value.ref (g.ad k) = _; rw [hadk]
  rw [e9] at hk
  exact hk
theorem n_newa {at_ : ArrayType} {kd N t0 : Nat} {ty : FieldType} (hd : decode J.cc pc = .ok (.newarray at_, 2)) (hty : newarray.typeOf at_ = ty) (ht : (tysl g)[t0]? = some (g.dA kd, ty)) (hra : ∀ (U : State) (cA : ClassId), va_RA U cA ty → U.vm.findClass ("[" ++ ty.toString) = some cA) (hdv : defaultValue ty = .int 0) (harr : Cond.arrayClass ty ∈ lw_g) (hly : ly k = (kd, N)) (hkd1 : ¬ kd < 100) (hkd2 : kd < 103) (hN : N < 100000) (hb : componentBytes ty ≤ 8) (hkn : k < n) (hk1 : k + 1 ≤ k1) (hsz : sz (k + 1) = sz k + N) (hs1 : sz (k + 1) ≤ sz k1)
    (kk : NV g ly sz lo n J d k0 k1 K (pc + 2) ls (vA k :: st) (k + 1) w) : NV g ly sz lo n J d k0 k1 K pc ls (vI (N : Int) :: st) k w := by
  intro p e s m args below meth c A0 H locs lsA ce sl hce hsl hH hS hl hlo hst
  obtain ⟨⟨h1, h2, h3, h4, h5, h6, h7, h8⟩, hK, hO, hX, had, hs0⟩ := id A0
  have hadk := had k hkn
  subst hty
  have hi : inI (N : Int) := by unfold inI; omega
  have hbb : N * componentBytes (newarray.typeOf at_) ≤ 536870912 := Nat.le_trans (Nat.mul_le_mul (Nat.le_of_lt hN) hb) (by decide)
  refine va_newaK (N := N) h1 h2 (h7 _ harr) rfl hd rfl (by
    rw [Int32.lt_iff_toInt_lt, i_to, wr_id hi]
    show ¬ ((N : Int) < 0)
    omega) (by rw [i_nat hi]; rfl) hbb (by show ce + 1 ≤ k1 - k0; omega) (by show sl + N ≤ sz k1 - sz k0; omega) hH.2.1 fun H1 cA e1 z1 o1 hAr hNm => ?_
  have hcA : cA = g.dA kd := Option.some.inj (hNm.symm.trans (hra s _ (hK.2 t0 _ ht).2))
  subst hcA
  have hat : va_at g.D cls_ (g.ad k, cel g (Lk ly (k + 1)) w k) H1 := by
    rw [cel_a (y := Lk ly (k + 1)) hly hkd1 hkd2]
    show H1[g.ad k]? = some (vp_cell _ _)
    rw [hadk, vp_cell_i, e1, hdv]
    congr 2
    funext j
    have hw := hH.2.2.2 k (Nat.le_refl _) j
    unfold dfl at hw
    rw [hly, if_neg hkd1, if_pos hkd2] at hw
    rw [hw]; rfl
  have hk := kk p e s m args below meth c A0 H1 locs lsA (ce + 1) (sl + N) (by omega) (by omega) (hok_new hH hkn hadk z1 o1 hat) (s_new hS hH.2.1 z1 o1) hl hlo (ok_cons trivial (ok_tl hst))
  rw [List.map_cons] at hk
  have e9 : cv g (vA k) = .ref (lo + k) := by show Value.ref (g.ad k) = _; rw [hadk]
  rw [e9] at hk
  exact hk
theorem n_newI {N : Nat} (hd : decode J.cc pc = .ok (.newarray .int, 2)) (hly : ly k = (100, N)) (hN : N < 100000) (hkn : k < n) (hk1 : k + 1 ≤ k1) (hsz : sz (k + 1) = sz k + N) (hs1 : sz (k + 1) ≤ sz k1) (harr : Cond.arrayClass .int ∈ lw_g) (kk : NV g ly sz lo n J d k0 k1 K (pc + 2) ls (vA k :: st) (k + 1) w) : NV g ly sz lo n J d k0 k1 K pc ls (vI (N : Int) :: st) k w :=
  n_newa (t0 := 0) (ty := .int) hd rfl rfl (fun _ _ h => h) rfl harr hly (by decide) (by decide) hN (by decide) hkn hk1 hsz hs1 kk
theorem n_newB {N : Nat} (hd : decode J.cc pc = .ok (.newarray .byte, 2)) (hly : ly k = (101, N)) (hN : N < 100000) (hkn : k < n) (hk1 : k + 1 ≤ k1) (hsz : sz (k + 1) = sz k + N) (hs1 : sz (k + 1) ≤ sz k1) (harr : Cond.arrayClass .byte ∈ lw_g) (kk : NV g ly sz lo n J d k0 k1 K (pc + 2) ls (vA k :: st) (k + 1) w) : NV g ly sz lo n J d k0 k1 K pc ls (vI (N : Int) :: st) k w :=
  n_newa (t0 := 1) (ty := .byte) hd rfl rfl (fun _ _ h => h) rfl harr hly (by decide) (by decide) hN (by decide) hkn hk1 hsz hs1 kk
theorem n_newZ {N : Nat} (hd : decode J.cc pc = .ok (.newarray .boolean, 2)) (hly : ly k = (102, N)) (hN : N < 100000) (hkn : k < n) (hk1 : k + 1 ≤ k1) (hsz : sz (k + 1) = sz k + N) (hs1 : sz (k + 1) ≤ sz k1) (harr : Cond.arrayClass .boolean ∈ lw_g) (kk : NV g ly sz lo n J d k0 k1 K (pc + 2) ls (vA k :: st) (k + 1) w) : NV g ly sz lo n J d k0 k1 K pc ls (vI (N : Int) :: st) k w :=
  n_newa (t0 := 2) (ty := .boolean) hd rfl rfl (fun _ _ h => h) rfl harr hly (by decide) (by decide) hN (by decide) hkn hk1 hsz hs1 kk
theorem n_newQ {i kd N t0 : Nat} {C : String} (hd : decode J.cc pc = .ok (.anewarray i, 3)) (hcl : Cond.classLink J.own i C ∈ lw_g) (hov : C = "VertexLanguage$Moment" ∨ C = "java/lang/String") (ht : (tysl g)[t0]? = some (g.dA kd, .object C)) (hly : ly k = (kd, N)) (hkd : ¬ kd < 103) (hN : N < 100000) (hkn : k < n) (hk1 : k + 1 ≤ k1) (hsz : sz (k + 1) = sz k + N) (hs1 : sz (k + 1) ≤ sz k1)
    (kk : NV g ly sz lo n J d k0 k1 K (pc + 3) ls (vA k :: st) (k + 1) w) : NV g ly sz lo n J d k0 k1 K pc ls (vI (N : Int) :: st) k w := by
  intro p e s m args below meth c A0 H locs lsA ce sl hce hsl hH hS hl hlo hst
  obtain ⟨⟨h1, h2, h3, h4, h5, h6, h7, h8⟩, hK, hO, hX, had, hs0⟩ := id A0
  have hadk := had k hkn
  have hi : inI (N : Int) := by unfold inI; omega
  have hao : va_AO C s := by
    rcases hov with rfl | rfl
    · exact hX.2.1
    · exact hX.2.2.1
  have hnat : (Int32.ofInt (N : Int)).toNatClampNeg = N := by rw [i_nat hi]; rfl
  refine W.anew h1 h2 h6 (h7 _ hcl) (va_AO.use hao) rfl hd rfl (by
    rw [Int32.lt_iff_toInt_lt, i_to, wr_id hi]
    show ¬ ((N : Int) < 0)
    omega) (by rw [hnat]; omega) (by show ce + 1 ≤ k1 - k0; omega) (by rw [hnat]; show sl + N ≤ sz k1 - sz k0; omega) fun cA kA comp f1 f2 f3 f4 => ?_
  obtain ⟨kA', comp', r1, r2, r3, r4⟩ := (hK.2 t0 _ ht).2
  have hcA : cA = g.dA kd := Option.some.inj (f1.symm.trans r4)
  subst hcA
  rw [hnat]
  generalize hH1 : H.push ({ cls := g.dA kd, slots := Array.replicate N .null, vm := .none } : Cell) = H1
  have z1 : H1.size = lo + k + 1 := by rw [← hH1, Array.size_push, hH.2.1]
  have e1 : H1[lo + k]? = some (arrV (g.dA kd) N (fun _ => .null)) := by rw [← hH1, ← hH.2.1, Array.getElem?_push_size, ← arrV_new]
  have o1 : ∀ q : Nat, q < lo + k → H1[q]? = H[q]? := fun q hq => by rw [← hH1, Array.getElem?_push, if_neg (by rw [hH.2.1]; exact Nat.ne_of_lt hq)]
  have hat : va_at g.D cls_ (g.ad k, cel g (Lk ly (k + 1)) w k) H1 := by
    rw [cel_q (y := Lk ly (k + 1)) hly hkd]
    show H1[g.ad k]? = some (vp_cell _ _)
    rw [hadk, vp_cell_q, e1]
    congr 2
    funext j
    have hw := hH.2.2.2 k (Nat.le_refl _) j
    unfold dfl at hw
    rw [hly, if_neg (by show ¬ kd < 100; omega), if_neg hkd] at hw
    rw [hw]; rfl
  have hk := kk p e s m args below meth c A0 H1 locs lsA (ce + 1) (sl + N) (by omega) (by omega) (hok_new hH hkn hadk z1 o1 hat) (s_new hS hH.2.1 z1 o1) hl hlo (ok_cons trivial (ok_tl hst))
  rw [List.map_cons] at hk
  have e9 : cv g (vA k) = .ref H.size := by show Value.ref (g.ad k) = _; rw [hadk, hH.2.1]
  rw [e9] at hk
  exact hk
/-! writing -/
theorem n_D {s : State} {m : MethodId} {args : Array Value} {meth : Method} {c : Code} {p : Program} {H : Heap} (A0 : AtN g lo n k0 J p s m args meth c) (hH : HoK g ly lo n k w H) : va_D (up_A lo) (wsl g (Lk ly k) w) := by
  obtain ⟨-, -, -, -, had, -⟩ := A0
  have hkn := hH.2.2.1
  refine ⟨fun i j p q hp hq e => ?_, fun i q hq => ?_⟩
  · obtain ⟨h1, rfl⟩ := ws_get hp
    obtain ⟨h2, rfl⟩ := ws_get hq
    have h1 : i < k := h1
    have h2 : j < k := h2
    have e : g.ad i = g.ad j := e
    rw [had i (by omega), had j (by omega)] at e
    omega
  · obtain ⟨h1, rfl⟩ := ws_get hq
    have h1 : i < k := h1
    show lo ≤ g.ad i
    rw [had i (by omega)]
    omega
theorem hok_up {H H1 : Heap} {o j : Nat} {x : Int} (h : HoK g ly lo n k w H) (ho : o < k) (hz : H1.size = H.size) (hr : rng (Lk ly k) o j x) (hP : va_P g.D cls_ ((wsl g (Lk ly k) w).set o (g.ad o, cel g (Lk ly k) (up w o j x) o)) H1) : HoK g ly lo n k (up w o j x) H1 :=
  ⟨hol_up (y := Lk ly k) h.1 hr rfl hP, by rw [hz]; exact h.2.1, h.2.2.1, fun o2 h2 j2 => by rw [up_ne w x (fun z => by omega)]; exact h.2.2.2 o2 h2 j2⟩
/-- entry i of class own names its own final field f of class number ci, which has N -/
def FF (own : String) (i ci f N : Nat) : Prop := ∃ (C : String) (T : u_T), cls_[ci]? = some (C, T, N) ∧ f < N ∧ ci < 100 ∧ (T f).2.2.2 = true ∧ (T f).1 = own ∧ (Cond.fieldLink own i (T f).1 (T f).2.1 (T f).2.2.1 ∈ lw_g)
theorem set_up {ci N o f : Nat} {v : AV} {x : Int} (hv : cfv g (fty ci f) x = cv g v) : ((List.range N).map (fun j => cfv g (fty ci j) (w o j))).set f (cv g v) = (List.range N).map (fun j => cfv g (fty ci j) (up w o f x o j)) := by
  apply List.ext_getElem?
  intro j
  rw [List.getElem?_set]
  by_cases hj : j < N
  · by_cases hjk : f = j
    · subst hjk
      rw [if_pos rfl]
      simp [hj, up_same, hv]
    · rw [if_neg hjk]
      have e : up w o f x o j = w o j := up_ne w x (fun z => hjk z.2.symm)
      simp [hj, e]
  · by_cases hjk : f = j
    · rw [if_pos hjk, if_neg (by simp; omega)]; simp [hj]
    · rw [if_neg hjk]; simp [hj]
/-- the heap's size is the same behind a write: by the count of cells -/
theorem n_size {p : Program} {e : Env} {s : State} {m : MethodId} {args : Array Value} {below : List Frame} {meth : Method} {c : Code} {R : Room} {Tm : State} {H H1 : Heap} {locs : List Loc} {ce sl o : Nat} {E : va_E} (A0 : AtN g lo n k0 J p s m args meth c) (hH : HoK g ly lo n k w H) (ho : o < k) (hce : ce + k0 = k) (hP1 : va_P g.D cls_ ((wsl g (Lk ly k) w).set o (g.ad o, E)) H1) (hT : Tm.heap = H1) (X : Stand p g.l e R s m args below meth c Tm locs ce sl) : H1.size = H.size := by
  obtain ⟨-, -, -, -, had, hs0⟩ := A0
  have q1 : Tm.heap.size ≤ s.heap.size + ce := X.same.2.2.1
  rw [hT, hs0] at q1
  have q3 := hH.2.1
  have q4 := hH.2.2.1
  have q2 : lo + k ≤ H1.size := by
    by_cases e : o = k - 1
    · have h9 : ((wsl g (Lk ly k) w).set o (g.ad o, E))[o]? = some (g.ad o, E) := by
        rw [List.getElem?_set, if_pos rfl, if_pos (by show o < ((List.range k).map _).length; simp; omega)]
      have h8 : g.ad o < H1.size := (hP1 o _ h9).lt
      rw [had o (by omega)] at h8
      omega
    · have h9 : ((wsl g (Lk ly k) w).set o (g.ad o, E))[k - 1]? = some (g.ad (k - 1), cel g (Lk ly k) w (k - 1)) := by
        rw [List.getElem?_set, if_neg e]; exact ws_at (g := g) (y := Lk ly k) (w := w) (o := k - 1) (by show k - 1 < k; omega)
      have h8 : g.ad (k - 1) < H1.size := (hP1 (k - 1) _ h9).lt
      rw [had (k - 1) (by omega)] at h8
      omega
  omega
theorem n_putf {o i ci f N : Nat} {v : AV} {x : Int} (hd : decode J.cc pc = .ok (.putfield i, 3)) (hf : FP J.own i ci f N ∨ (FF J.own i ci f N ∧ J.y.name = "<init>")) (ho : o < k) (hly : ly o = (ci, N)) (hv : cfv g (fty ci f) x = cv g v) (hn : narrow (fty ci f) (cv g v) = cv g v) (hfit : fits (fty ci f) (cv g v) = true) (hok : okv v → rng (Lk ly k) o f x) (kk : NV g ly sz lo n J d k0 k1 K (pc + 3) ls st k (up w o f x)) : NV g ly sz lo n J d k0 k1 K pc ls (v :: vA o :: st) k w := by
  intro p e s m args below meth c A0 H locs lsA ce sl hce hsl hH hS hl hlo hst
  obtain ⟨⟨h1, h2, h3, h4, h5, h6, h7, h8⟩, hK, hO, hX, had, hs0⟩ := id A0
  have go : ∀ (C : String) (T : u_T), cls_[ci]? = some (C, T, N) → f < N → ci < 100 → ∀ (H1 : Heap) (locs1 : List Loc), va_P g.D cls_ ((wsl g (Lk ly k) w).set o (g.ad o, .inr (ci, ((List.range N).map (fun j => cfv g (fty ci j) (w o j))).set f (cv g v)))) H1 → va_S (up_A lo) s.heap H1 locs1 → W p g.l e (rmG d (k1 - k0) (sz k1 - sz k0)) s m args below meth c H1 locs1 ce sl (GQ (up_A lo) (k1 - k0) (sz k1 - sz k0) (NPost g ly lo n k1 K) below s) (F0 m (pc + 3) lsA (st.map (cv g))) := by
    intro C T hc hf hci H1 locs1 hP1 hS1 Tm hT X
    rw [set_up hv, ← cel_o (y := Lk ly k) (w := up w o f x) hly hci] at hP1
    have hz : H1.size = H.size := n_size A0 hH ho hce hP1 hT X
    exact kk p e s m args below meth c A0 H1 locs1 lsA ce sl hce hsl (hok_up hH ho hz (hok (ok_hd hst)) hP1) hS1 hl hlo (ok_tl (ok_tl hst)) Tm hT X
  have hat := ws_at (g := g) (y := Lk ly k) (w := w) ho
  have hD := n_D A0 hH
  rcases hf with ⟨C, T, hc, hk, hci, hfin, hlk⟩ | ⟨⟨C, T, hc, hk, hci, hfin, hdec, hlk⟩, hnm⟩
  · rw [cel_o (y := Lk ly k) hly hci] at hat
    exact va_put (D := g.D) (cl := cls_) (C := C) (T := T) (N := N) (ci := ci) (index := i) (own := J.own) (ref := (T f).1) h1 h2 h7 (cls_in ci _ hc) (fty ci) (cls_ty ci _ hc) (cls_nm ci _ hc) h6 hK hH.1.1 hD hS o hat hc f hk (h7 _ hlk) (fun _ h => h) hfin (v := cv g v) (cls_ty ci _ hc f hk) hn hfit (by simpa using hk) hd (fun H1 locs1 hP1 hD1 hS1 => go C T hc hk hci H1 locs1 hP1 hS1)
  · rw [cel_o (y := Lk ly k) hly hci] at hat
    exact va_putF (D := g.D) (cl := cls_) (C := C) (T := T) (N := N) (ci := ci) (index := i) (own := J.own) (ref := (T f).1) h1 h2 h7 (cls_in ci _ hc) (fty ci) (cls_ty ci _ hc) (cls_nm ci _ hc) h6 hK hH.1.1 hD hS o hat hc f hk (h7 _ hlk) (fun _ h => h) hfin (h8.trans hnm) hdec (v := cv g v) (cls_ty ci _ hc f hk) hn hfit (by simpa using hk) hd (fun H1 locs1 hP1 hD1 hS1 => go C T hc hk hci H1 locs1 hP1 hS1)
theorem n_putr {o i ci f N r : Nat} (hd : decode J.cc pc = .ok (.putfield i, 3)) (hf : FP J.own i ci f N ∨ (FF J.own i ci f N ∧ J.y.name = "<init>")) (ho : o < k) (hly : ly o = (ci, N)) (hci : ci < 100) (ht : (∃ C, fty ci f = .object C) ∨ ∃ t, fty ci f = .array t) (hr : r < 2000) (kk : NV g ly sz lo n J d k0 k1 K (pc + 3) ls st k (up w o f (r : Int))) : NV g ly sz lo n J d k0 k1 K pc ls (vA r :: vA o :: st) k w := by
  have hn : ¬ ((r : Int) < 0) := by omega
  refine n_putf (x := (r : Int)) hd hf ho hly ?_ ?_ ?_ (fun h => ?_) kk
  · rcases ht with ⟨C, h⟩ | ⟨t, h⟩ <;> rw [h] <;> simp [cfv, cv, hn]
  · rcases ht with ⟨C, h⟩ | ⟨t, h⟩ <;> rw [h] <;> rfl
  · rcases ht with ⟨C, h⟩ | ⟨t, h⟩ <;> rw [h] <;> rfl
  · unfold rng
    show if (ly o).1 = 101 then _ else _
    rw [hly, if_neg (by show ¬ ci = 101; omega), if_neg (by
      rintro (z | ⟨-, z⟩)
      · have z : (ly o).1 = 102 := z
        rw [hly] at z
        have z : ci = 102 := z
        omega
      · have z : fty (ly o).1 f = .boolean := z
        rw [hly] at z
        have z : fty ci f = .boolean := z
        rcases ht with ⟨C, h⟩ | ⟨t, h⟩ <;> rw [h] at z <;> cases z)]
    constructor <;> omega
theorem n_puti {o i ci f N : Nat} {x : Int} (hd : decode J.cc pc = .ok (.putfield i, 3)) (hf : FP J.own i ci f N ∨ (FF J.own i ci f N ∧ J.y.name = "<init>")) (ho : o < k) (hly : ly o = (ci, N)) (hci : ci < 100) (ht : fty ci f = .int) (kk : NV g ly sz lo n J d k0 k1 K (pc + 3) ls st k (up w o f x)) : NV g ly sz lo n J d k0 k1 K pc ls (vI x :: vA o :: st) k w := by
  refine n_putf hd hf ho hly (by rw [ht]; rfl) (by rw [ht]; rfl) (by rw [ht]; rfl) (fun h => ?_) kk
  unfold rng
  show if (ly o).1 = 101 then _ else _
  rw [hly, if_neg (by show ¬ ci = 101; omega), if_neg (by
      rintro (z | ⟨-, z⟩)
      · have z : (ly o).1 = 102 := z
        rw [hly] at z
        have z : ci = 102 := z
        omega
      · have z : fty (ly o).1 f = .boolean := z
        rw [hly] at z
        have z : fty ci f = .boolean := z
        rw [ht] at z; cases z)]
  exact h
theorem n_getr {o i ci f N r : Nat} (hd : decode J.cc pc = .ok (.getfield i, 3)) (hf : FL J.own i ci f N) (ho : o < k) (hly : ly o = (ci, N)) (ht : (∃ C, fty ci f = .object C) ∨ ∃ t, fty ci f = .array t) (hr : w o f = (r : Int)) (kk : NV g ly sz lo n J d k0 k1 K (pc + 3) ls (vA r :: st) k w) : NV g ly sz lo n J d k0 k1 K pc ls (vA o :: st) k w := by
  obtain ⟨C, T, hc, hk, hci, -, hlk⟩ := hf
  intro p e s m args below meth c A0 H locs lsA ce sl hce hsl hH hS hl hlo hst
  obtain ⟨⟨h1, h2, h3, h4, h5, h6, h7, h8⟩, hK, hO, hX, had, hs0⟩ := id A0
  have hat := ws_at (g := g) (y := Lk ly k) (w := w) ho
  rw [cel_o (y := Lk ly k) hly hci] at hat
  have hn : ¬ ((r : Int) < 0) := by omega
  have hv : cfv g (fty ci f) (w o f) = cv g (vA r) := by
    rw [hr]
    rcases ht with ⟨C, h⟩ | ⟨t, h⟩ <;> rw [h] <;> simp [cfv, cv, hn]
  refine va_get (D := g.D) (cl := cls_) (C := C) (T := T) (N := N) (ci := ci) (index := i) (own := J.own) (ref := (T f).1) h1 h2 h7 (cls_in ci _ hc) h6 hK hH.1.1 o hat hc f hk (h7 _ hlk) (fun _ h => h) (v := cv g (vA r)) (by simp [hk, hv]) hd ?_
  exact kk p e s m args below meth c A0 H locs lsA ce sl hce hsl hH hS hl hlo (ok_cons trivial (ok_tl hst))
end NMake
