/-! ===== constructors: rows of references, calls ===== -/
section NCalls
variable {g : Mg} {ly : Nat → Nat × Nat} {sz : Nat → Nat} {lo n : Nat} {J : Jm} {d k0 k1 : Nat} {K : Wd → Prop} {pc : Nat} {ls : List (Nat × AV)} {st : List AV} {k : Nat} {w : Wd}
theorem qup {o j r : Nat} : va_up (fun j => if w o j < 0 then none else some (g.ad (w o j).toNat)) j (some (g.ad r)) = fun i => if up w o j (r : Int) o i < 0 then none else some (g.ad (up w o j (r : Int) o i).toNat) := by
  have hn : ¬ ((r : Int) < 0) := by omega
  funext i
  by_cases hi : i = j
  · subst hi; simp [va_up, up_same, hn]
  · have e : up w o j (r : Int) o i = w o i := up_ne w _ (fun z => hi z.2)
    simp [va_up, hi, e]
theorem n_astq {o kd N t0 r : Nat} {i : Int} {E : String} (hd : decode J.cc pc = .ok (.aastore, 1)) (ho : o < k) (hly : ly o = (kd, N)) (hkd : ¬ kd < 103) (ht : (tysl g)[t0]? = some (g.dA kd, .object E)) (hb : 0 ≤ i ∧ i < (N : Int)) (hr : r < 2000)
    (hany : ∀ (p : Program) (s : State) (m : MethodId) (args : Array Value) (meth : Method) (c : Code) (H : Heap) (locs : List Loc), AtN g lo n k0 J p s m args meth c → HoK g ly lo n k w H → va_S (up_A lo) s.heap H locs → va_Any E s H (g.ad r))
    (kk : NV g ly sz lo n J d k0 k1 K (pc + 1) ls st k (up w o i.toNat (r : Int))) : NV g ly sz lo n J d k0 k1 K pc ls (vA r :: vI i :: vA o :: st) k w := by
  intro p e s m args below meth c A0 H locs lsA ce sl hce hsl hH hS hl hlo hst
  obtain ⟨⟨h1, h2, h3, h4, h5, h6, h7, h8⟩, hK, hO, hX, had, hs0⟩ := id A0
  have hat := ws_at (g := g) (y := Lk ly k) (w := w) ho
  rw [cel_q (y := Lk ly k) hly hkd] at hat
  have hii : inI i := ok_hd (ok_tl hst)
  refine va_astqM (D := g.D) (cl := cls_) h1 h2 hK hH.1.1 (n_D A0 hH) hS o t0 hat ht (hany p s m args meth c H locs A0 hH hS) (in_of hii hb) hd (fun H1 locs1 hP1 hD1 hS1 => ?_)
  rw [i_nat hii, qup, ← cel_q (y := Lk ly k) (w := up w o i.toNat (r : Int)) hly hkd] at hP1
  intro Tm hT X
  have hz : H1.size = H.size := n_size A0 hH ho hce hP1 hT X
  refine kk p e s m args below meth c A0 H1 locs1 lsA ce sl hce hsl (hok_up hH ho hz ?_ hP1) hS1 hl hlo (ok_tl (ok_tl (ok_tl hst))) Tm hT X
  unfold rng
  show if (ly o).1 = 101 then _ else _
  rw [hly, if_neg (by show ¬ kd = 101; omega), if_neg (by
      rintro (z | ⟨z, -⟩)
      · have z : (ly o).1 = 102 := z
        rw [hly] at z
        have z : kd = 102 := z
        omega
      · have z : (ly o).1 < 100 := z
        rw [hly] at z
        have z : kd < 100 := z
        omega)]
  constructor <;> omega
theorem any_str {p : Program} {s : State} {m : MethodId} {args : Array Value} {meth : Method} {c : Code} {H : Heap} {locs : List Loc} {i : Nat} (hi : i < 59) (A0 : AtN g lo n k0 J p s m args meth c) (hS : va_S (up_A lo) s.heap H locs) : va_Any "java/lang/String" s H (g.ad (1001 + i)) := by
  obtain ⟨⟨cell, q1, q2, q3, q4⟩, -⟩ := A0.2.2.1.2.2.2.1 i hi
  have hlt : g.ad (1001 + i) < s.heap.size := (Array.getElem?_eq_some_iff.mp q1).1
  obtain ⟨kC, hkC, -⟩ := Vm.findClass_spec q3
  refine ⟨cell, by rw [hS.2.1 _ hlt q4]; exact q1, q2, ⟨kC, hkC⟩, fun comp h => ?_⟩
  cases q3.symm.trans h
  exact va_asg _ _
theorem n_astS {o N r : Nat} {i : Int} (hd : decode J.cc pc = .ok (.aastore, 1)) (ho : o < k) (hly : ly o = (104, N)) (hb : 0 ≤ i ∧ i < (N : Int)) (hr : r < 59) (kk : NV g ly sz lo n J d k0 k1 K (pc + 1) ls st k (up w o i.toNat ((1001 + r : Nat) : Int))) : NV g ly sz lo n J d k0 k1 K pc ls (vA (1001 + r) :: vI i :: vA o :: st) k w :=
  n_astq (t0 := 4) hd ho hly (by decide) rfl hb (by omega) (fun p s m args meth c H locs A0 hH hS => any_str hr A0 hS) kk
theorem n_astM {o N r : Nat} {i : Int} (hd : decode J.cc pc = .ok (.aastore, 1)) (ho : o < k) (hly : ly o = (103, N)) (hb : 0 ≤ i ∧ i < (N : Int)) (hr : r < k) (hr2 : r < 2000) (hlr : ly r = (6, 8)) (kk : NV g ly sz lo n J d k0 k1 K (pc + 1) ls st k (up w o i.toNat (r : Int))) : NV g ly sz lo n J d k0 k1 K pc ls (vA r :: vI i :: vA o :: st) k w :=
  n_astq (t0 := 3) hd ho hly (by decide) rfl hb hr2 (fun p s m args meth c H locs A0 hH hS => by
    have hat := ws_at (g := g) (y := Lk ly k) (w := w) hr
    rw [cel_o (y := Lk ly k) hlr (by decide)] at hat
    refine va_rAny (r := (cR6, cT6, 8)) A0.2.1 hH.1.1 hat rfl (fun comp c0 q1 q2 => ?_)
    cases q1.symm.trans q2
    exact va_asg _ _) kk
theorem n_aald {o kd N t0 r : Nat} {i : Int} {E : String} (hd : decode J.cc pc = .ok (.aaload, 1)) (ho : o < k) (hly : ly o = (kd, N)) (hkd : ¬ kd < 103) (ht : (tysl g)[t0]? = some (g.dA kd, .object E)) (hb : 0 ≤ i ∧ i < (N : Int)) (hr : w o i.toNat = (r : Int)) (kk : NV g ly sz lo n J d k0 k1 K (pc + 1) ls (vA r :: st) k w) : NV g ly sz lo n J d k0 k1 K pc ls (vI i :: vA o :: st) k w := by
  intro p e s m args below meth c A0 H locs lsA ce sl hce hsl hH hS hl hlo hst
  obtain ⟨⟨h1, h2, h3, h4, h5, h6, h7, h8⟩, hK, hO, hX, had, hs0⟩ := id A0
  have hat := ws_at (g := g) (y := Lk ly k) (w := w) ho
  rw [cel_q (y := Lk ly k) hly hkd] at hat
  have hn : ¬ ((r : Int) < 0) := by omega
  refine va_aldq (D := g.D) (cl := cls_) h1 h2 hK hH.1.1 o t0 hat ht (in_of (ok_hd hst) hb) hd ?_
  rw [i_nat (ok_hd hst), hr, if_neg hn]
  exact kk p e s m args below meth c A0 H locs lsA ce sl hce hsl hH hS hl hlo (ok_cons trivial (ok_tl (ok_tl hst)))
theorem n_most {i : Nat} (hd : decode J.cc pc = .ok (.getstatic i, 3)) (hl : MST J.own i) (hd2 : decode J.cc (pc + 3) = .ok (.arraylength, 1)) (kk : NV g ly sz lo n J d k0 k1 K (pc + 4) ls (vI 5 :: st) k w) : NV g ly sz lo n J d k0 k1 K pc ls st k w := by
  intro p e s m args below meth c A0 H locs lsA ce sl hce hsl hH hS hl2 hlo hst
  obtain ⟨⟨h1, h2, h3, h4, h5, h6, h7, h8⟩, hK, hO, hX, had, hs0⟩ := id A0
  refine va_gets h1 h2 hO.1 hS h6 (h7 _ hl) (fun _ h => h) hd ?_
  refine va_tlen h1 h2 hO.2.1 hS (v := Int32.ofInt 5) rfl hd2 ?_
  exact kk p e s m args below meth c A0 H locs lsA ce sl hce hsl hH hS hl2 hlo (ok_cons (by show inI 5; decide) hst)
theorem n_call {J' : Jm} {d' idx n' k2 o : Nat} {As : List AV} (hd : decode J.cc pc = .ok (.invokespecial idx, 3)) (hL : Cond.methodLink J.own idx J'.y ∈ lw_g ∨ ∃ q ∈ nwM, q.1 = J.own ∧ q.2.1 = idx ∧ J'.y = ⟨q.2.2, "<init>", "()V"⟩) (hI : IOK J' n') (hn : As.length = n') (hr : (st.map aw).sum ≤ 8) (hd' : d' + 1 ≤ d) (hk : k ≤ k2) (hk2 : k2 ≤ k1) (hs1 : sz k ≤ sz k2) (hs2 : sz k2 ≤ sz k1)
    (hC : NCal g ly sz lo n J' d' k k2 (vA o :: As) w (fun w' => NV g ly sz lo n J d k0 k1 K (pc + 3) ls st k2 w')) : NV g ly sz lo n J d k0 k1 K pc ls (As.reverse ++ vA o :: st) k w := by
  intro p e s m args below meth c A0 H locs lsA ce sl hce hsl hH hS hl hlo hst
  obtain ⟨⟨h1, h2, h3, h4, h5, h6, h7, h8⟩, hK, hO, hX, had, hs0⟩ := id A0
  have hstR : ∀ v ∈ st, okv v := fun v hv => hst v (List.mem_append_right _ (List.mem_cons_of_mem _ hv))
  have hstA : ∀ v ∈ vA o :: As, okv v := ok_cons trivial (fun v hv => hst v (List.mem_append_left _ (List.mem_reverse.mpr hv)))
  have hlk : InL J.own idx J' args s := by
    rcases hL with h | ⟨q, hq, e1, e2, e3⟩
    · exact Or.inl (h7 _ h)
    · refine Or.inr ⟨"VertexLanguage", ?_⟩
      rw [e3, ← e1, ← e2]
      exact va_Nw.use rfl (hX.1 q hq)
  have e0 : (As.reverse ++ vA o :: st).map (cv g) = (As.map (cv g)).reverse ++ .ref (g.ad o) :: st.map (cv g) := by
    rw [List.map_append, List.map_reverse]; rfl
  rw [e0]
  have hC' : GCal g.l J' d' (k2 - k) (sz k2 - sz k) (.ref (g.ad o) :: As.map (cv g)) (up_A lo) (fun U => NPre g ly lo n k w U ∧ ∀ v ∈ vA o :: As, okv v) (NPost g ly lo n k2 (fun w' => NV g ly sz lo n J d k0 k1 K (pc + 3) ls st k2 w')) := hC
  refine g_call (R := rmG d (k1 - k0) (sz k1 - sz k0)) h1 h2 (hl.1.trans h4.symm) h6 h7 hd hlk hI (by rw [List.length_map]; exact hn) (by rw [cat_sum]; exact hr) hd' (by show 64 * (d' + 1) ≤ 64 * d; omega) (by show ce + (k2 - k) ≤ k1 - k0; omega) (by show sl + (sz k2 - sz k) ≤ sz k1 - sz k0; omega) hC' (fun U hU hW => ?_) (fun H1 L hP hz1 hz2 hkk hL => ?_)
  · refine ⟨⟨by rw [hU]; exact hH, va_K.moved hW.alike hK, ?_, ?_, had⟩, hstA⟩
    · rw [hU]; exact hO.go hS.2.1 hW
    · rw [hU]; exact hX.go hS.2.1 hW
  · obtain ⟨w', hH1, hNV⟩ := hP
    refine hNV p e s m args below meth c A0 H1 (locs ++ L) lsA (ce + (k2 - k)) (sl + (sz k2 - sz k)) (by omega) (by omega) hH1 ?_ hl hlo hstR
    refine ⟨Nat.le_trans hS.1 hz1, fun q q1 q2 => ?_, fun q hq => ?_⟩
    · rw [hkk q (Nat.lt_of_lt_of_le q1 hS.1) q2]; exact hS.2.1 q q1 q2
    · rcases List.mem_append.mp hq with h | h
      · exact hS.2.2 q h
      · exact hL q h
/-- a call of a method that makes no cells, over a layout of the same cells -/
theorem n_callV {y : Ly} {J' : Jm} {d' idx o ci N n' : Nat} {T : u_T} {As : List AV} (hy1 : y.ly = ly) (hy2 : y.nn = k) (hrf : ∀ o j r, y.rf o j = some r → w o j = r) (hd : decode J.cc pc = .ok (.invokevirtual idx, 3)) (hM : MLV J.own idx J' n') (ho : o < k) (hly : ly o = (ci, N)) (hci : ci < 100) (hc : cls_[ci]? = some (J'.y.cls, T, N)) (hn : As.length = n') (hr : (st.map aw).sum ≤ 8) (hd' : d' + 1 ≤ d) (hk1 : k ≤ k1) (hs1 : sz k ≤ sz k1)
    (hC : Cal g y J' d' (vA o :: As) w (fun o' w' => o' = .inl none ∧ (∀ o, k ≤ o → ∀ j, w' o j = w o j) ∧ NV g ly sz lo n J d k0 k1 K (pc + 3) ls st k w')) : NV g ly sz lo n J d k0 k1 K pc ls (As.reverse ++ vA o :: st) k w := by
  intro p e s m args below meth c A0 H locs lsA ce sl hce hsl hH hS hl hlo hst
  obtain ⟨⟨h1, h2, h3, h4, h5, h6, h7, h8⟩, hK, hO, hX, had, hs0⟩ := id A0
  obtain ⟨yl, yr, yn⟩ := y
  have hy1 : yl = ly := hy1
  have hy2 : yn = k := hy2
  subst hy1
  subst hy2
  have hkn := hH.2.2.1
  have hHy : Hol g (yl, yr, yn) w H := ⟨hH.1.1, hH.1.2.1, hrf⟩
  have hAA : ∀ q, AA g (yl, yr, yn) q → lo ≤ q := by
    rintro q ⟨o, ho, rfl⟩
    have ho : o < yn := ho
    rw [had o (by omega)]; omega
  have hInj : Inj g (yl, yr, yn) := fun i j hi hj h => by
    have hi : i < yn := hi
    have hj : j < yn := hj
    rw [had i (by omega), had j (by omega)] at h; omega
  have hstR : ∀ v ∈ st, okv v := fun v hv => hst v (List.mem_append_right _ (List.mem_cons_of_mem _ hv))
  have hstA : ∀ v ∈ vA o :: As, okv v := ok_cons trivial (fun v hv => hst v (List.mem_append_left _ (List.mem_reverse.mpr hv)))
  obtain ⟨hlk, hins, hsel, hmok⟩ := hM
  intro Tm hT X
  have hat := ws_at (g := g) (y := Lk yl yn) (w := w) ho
  rw [cel_o (y := Lk yl yn) hly hci] at hat
  obtain ⟨r, hr1, cellB, hcB, hclB, hvmB, -⟩ := hH.1.1 o _ hat
  have hrr : r = (J'.y.cls, T, N) := Option.some.inj (hr1.symm.trans hc)
  subst hrr
  obtain ⟨-, hfc, -⟩ := hK.1 ci _ hc
  obtain ⟨mk, methM, hnamed, hmethM, hstM, habM⟩ := Cond.instanceMethod_spec (h7 _ hins)
  obtain ⟨c2, r2, m2, q1, q2, q3, q4, kP, hkP, hkPi⟩ := Cond.selects_spec (h7 _ hsel)
  cases hfc.symm.trans q1
  cases (State.methodFound?_of_named hnamed hmok.2.2.1).symm.trans q2
  cases hnamed.symm.trans q3
  rw [← hclB] at q4
  have hselP : selectMethod e.platform s.vm cellB.cls mk = .method mk := by rw [Launch.admits_selectMethod X.admits]; exact q4
  obtain ⟨methM', hm', hnn⟩ := mok_sig hnamed hmok h7
  cases hmethM.symm.trans hm'
  obtain ⟨vm₁, X₁, hstep₁⟩ := X.invokevirtual h1 h6 (h7 _ hlk) hnamed hmethM hstM hkP hkPi hmok.2.2.1 (a := g.ad o) (cell := cellB) (by rw [hT]; exact hcB)
    (fun z h => by rw [hvmB] at h; cases h) hselP hmethM habM hkP hkPi (g := F0 m pc lsA ((As.reverse ++ vA o :: st).map (cv g))) rfl (argsL := As.map (cv g)) (rest := st.map (cv g)) (by rw [List.length_map, hn, hnn]) (by simp [cv]) (by rw [h2]; exact hd)
  have hW1 : s.WarmedH vm₁ := X₁.warmed
  obtain ⟨o', w', T', L, X', hL, hoo, hH', hK', hz, hk, hsteps⟩ := cal_gen (U := Tm.setVm vm₁) hC X₁ (f := F0 m pc lsA (st.map (cv g))) rfl (hl.1.trans h4.symm) (by rw [h2]; exact hd) (by rw [cat_sum]; show 2 * 0 + _ ≤ 8; omega) (X₁.named hnamed) (by show d' + 1 ≤ d; exact hd') (by show 64 * (d' + 1) ≤ 64 * d; omega)
    (by show ce ≤ k1 - k0; omega) (by show sl ≤ sz k1 - sz k0; omega) hmok.2.2.2.2
    (fun u hu => lw_at h7 hW1 u (mok_ws hmok u hu)) (lw_at h7 hW1 _ hmok.2.1) hstA (by show Hol g _ w Tm.heap; rw [hT]; exact hHy) (va_K.moved hW1.alike hK) (by
      have := (hO.go (U := Tm.setVm vm₁) (H := H) hS.2.1 hW1).mono hAA
      show Old g _ (Tm.setVm vm₁) Tm.heap
      rw [hT]; exact this) hInj
  have hheap : (Tm.setVm vm₁).heap = H := hT
  rw [hheap] at hz hk
  obtain ⟨rfl, hdf, hNV⟩ := hK'
  have q9 : T'.heap.size ≤ s.heap.size + ce := X'.same.2.2.1
  have q8 := hH.2.1
  have hH2 : HoK g yl lo n yn w' T'.heap := ⟨⟨hH'.1, hH'.2.1, fun o j r h => by cases h⟩, by omega, hkn, fun o2 h2 j2 => by rw [hdf o2 h2 j2]; exact hH.2.2.2 o2 h2 j2⟩
  have hS2 : va_S (up_A lo) s.heap T'.heap (locs ++ L) := by
    refine ⟨Nat.le_trans hS.1 hz, fun q q1 q2 => ?_, fun q hq => ?_⟩
    · rw [hk q (Nat.lt_of_lt_of_le q1 hS.1) (fun z => q2 (hAA q z))]; exact hS.2.1 q q1 q2
    · rcases List.mem_append.mp hq with h | h
      · exact hS.2.2 q h
      · exact hAA _ (hL q h)
  obtain ⟨t, ht1, ht2⟩ := hNV p e s m args below meth c A0 T'.heap (locs ++ L) lsA ce sl hce hsl hH2 hS2 hl hlo hstR T' rfl X'
  refine ⟨t, hstep₁ t fun acts => ?_, ht2⟩
  rw [doInvoke_state]
  exact hsteps.trans ht1
end NCalls
