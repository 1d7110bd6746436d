/-! ===== the law, from its entry ===== -/
theorem hok_obj {g : Mg} {ly : Nat → Nat × Nat} {lo n k : Nat} {w : Wd} {s : State} {args : Array Value} {H H1 : Heap} {ci N : Nat} {C : String} {T : u_T} {kC : Class} (h7 : ∀ u ∈ lw_g, u.before args s = true) (hK : va_K g.D cls_ (tysl g) s) (hH : HoK g ly lo n k w H) (hc : cls_[ci]? = some (C, T, N)) (hft : ∀ j, j < N → okT (fty ci j) = true) (hly : ly k = (ci, N)) (hci : ci < 100) (hkn : k < n) (hadk : g.ad k = lo + k) (hkC : s.vm.classes[g.D.1 ci]? = some kC) (e1 : H1[lo + k]? = some (blank (g.D.1 ci) kC)) (z1 : H1.size = lo + k + 1) (o1 : ∀ q : Nat, q < lo + k → H1[q]? = H[q]?) : HoK g ly lo n (k + 1) w H1 := by
  have hKn := hK.1 ci _ hc
  refine hok_new hH hkn hadk z1 o1 ?_
  rw [cel_o (y := Lk ly (k + 1)) hly hci]
  refine ⟨_, hc, ?_⟩
  show t_OB (g.ad k) _ _ _ H1 _
  rw [hadk]
  refine (u_born (fty ci) h7 (cls_in ci _ hc) hKn hkC e1 (cls_ty ci _ hc)).to (fun j hj => ?_)
  have hj : j < N := hj
  have hw := hH.2.2.2 k (Nat.le_refl _) j
  unfold dfl at hw
  rw [hly, if_pos hci] at hw
  rw [← dfl_val (g := g) (hft j hj) hw]
  simp [vp_V, hj]
theorem hok_0 {g : Mg} {ly : Nat → Nat × Nat} {lo n : Nat} {H : Heap} (hz : H.size = lo) : HoK g ly lo n 0 (dfl ly) H :=
  ⟨⟨fun k q h => by have h : ([] : List (Nat × va_E))[k]? = some q := h; simp at h, fun o ho => absurd ho (Nat.not_lt_zero _), fun o k r h => by cases h⟩, hz, Nat.zero_le _, fun o _ j => rfl⟩
theorem Xtr.mono {A A' : Nat → Prop} {U : State} {H : Heap} (h : Xtr A U H) (hA : ∀ q, A' q → A q) : Xtr A' U H :=
  ⟨h.1, h.2.1, h.2.2.1, h.2.2.2.1.narrow hA, h.2.2.2.2.narrow hA⟩
theorem dw_0 : decode code 0 = .ok (.new 7, 3) := by decide +kernel
theorem dw_3 : decode code 3 = .ok (.dup, 1) := by decide +kernel
theorem dw_4 : decode code 4 = .ok (.invokespecial 9, 3) := by decide +kernel
theorem dw_7 : decode code 7 = .ok (.astore_n 1, 1) := by decide +kernel
theorem dw_8 : decode code 8 = .ok (.new 10, 3) := by decide +kernel
theorem dw_11 : decode code 11 = .ok (.dup, 1) := by decide +kernel
theorem dw_12 : decode code 12 = .ok (.invokespecial 12, 3) := by decide +kernel
theorem dw_15 : decode code 15 = .ok (.astore_n 2, 1) := by decide +kernel
theorem dw_16 : decode code 16 = .ok (.iconst 0, 1) := by decide +kernel
theorem dw_17 : decode code 17 = .ok (.istore_n 3, 1) := by decide +kernel
set_option maxHeartbeats 4000000 in
set_option maxRecDepth 100000 in
theorem whole_start {p : Program} {e : Env} {s : State} {m : MethodId} {below : List Frame} {meth : Method} {c : Code} (l : Launch) {b L : Nat} {xs : Nat → Int32} (hL : L ≤ 384) (C0 : lw_At p s m meth c b L xs) : W p l e room_1 s m #[Value.ref b] below meth c s.heap [] 0 0 (lw_Z below #[Value.ref b] s) (entryFrame m ([Value.ref b] : List Value).toArray 4) := by
  obtain ⟨g, rfl, hK, hO, had, h900⟩ := st_g l C0
  have hX := st_xtr C0
  obtain ⟨h1, h2, h3, h4, h6, h7t, hXs, hbl, h5, hgv⟩ := id C0
  have h7 : ∀ u ∈ lw_g, u.before #[Value.ref b] s = true := fun u hu => h7t u (List.mem_filter.mp hu).1
  have hl := lv_entry ([.ref b]) (n := 4) (Nat.le_of_ble_eq_true rfl)
  rw [lg_entry_eq]
  generalize (lg_sl ([.ref b]) ++ List.replicate (4 - (lg_sl ([.ref b])).length) Slot.unset).toArray = lsA at hl ⊢
  have hl : lv_has lsA 4 [(0, .ref b)] := hl
  have A9 : AtL g b L xs p s m meth c := ⟨h1, h2, C0, hK, hO, had, h900⟩
  obtain ⟨base, hbase⟩ : ∃ base, base = s.heap.size := ⟨_, rfl⟩
  have hadC : ∀ o, o < 105 → g.ad o = base + o := fun o ho => by rw [hbase]; exact had o (by omega)
  have hadM : ∀ o, o < 54 → (gM g).ad o = base + 105 + o := fun o ho => by rw [gM_lo ho, had _ (by omega), hbase]; omega
  have hO : Old g (up_A base) s s.heap := by rw [hbase]; exact hO
  have hX : Xtr (up_A base) s s.heap := by rw [hbase]; exact hX
  have hS0 : va_S (up_A base) s.heap s.heap [] := va_S.rf
  have hH0 : HoK g LC.ly base 105 0 (dfl LC.ly) s.heap := hok_0 hbase.symm
  refine W.newcK (g := F0 m 0 lsA []) (C := cR11) (n := 7) (cC := g.D.1 11) (h := base + 0) h1 h2 h6 (h7 _ (mt_1 26 rfl rfl)) (h7 _ (mt_1 27 rfl rfl)) (h7 _ (mt_1 1 rfl rfl)) rfl dw_0 (by decide) (by decide) (hK.1 11 _ rfl).2.1 hH0.2.1 fun H1 kC hkC e1 z1 o1 => ?_
  have hH1 : HoK g LC.ly base 105 1 (dfl LC.ly) H1 := hok_obj (ci := 11) (C := cR11) (T := cT11) (N := 7) h7 hK hH0 rfl ft_11 rfl (by decide) (by decide) (hadC 0 (by decide)) hkC e1 z1 o1
  have hS1 : va_S (up_A base) s.heap H1 [] := s_new hS0 hH0.2.1 z1 o1
  have hz0 : base + 0 = g.ad 0 := (hadC 0 (by decide)).symm
  rw [hz0]
  refine lv_dup (pc := 3) h1 h2 dw_3 rfl ?_
  have hC1 : GCal g.l jVL_init 12 (105 - 1) (szC 105 - szC 1) [.ref (g.ad 0)] (up_A base) (fun U => NPre g LC.ly base 105 1 (dfl LC.ly) U ∧ ∀ v ∈ [vA 0], okv v) (NPost g LC.ly base 105 105 (fun w => w = wC0)) := n_VL (K := fun w => w = wC0) rfl
  refine g_call (pc := 4) (R := room_1) (J' := jVL_init) (d' := 12) (mc := 105 - 1) (ms := szC 105 - szC 1) (a := g.ad 0) (argsL := []) (rest := [.ref (g.ad 0)]) h1 h2 (hl.1.trans h4.symm) h6 h7 dw_4 (Or.inl (h7 _ (mt_1 28 rfl rfl))) iok_VL_init rfl (by show 1 + 0 ≤ 8; decide) (by decide) (by decide) (by decide) (by decide) hC1 (fun U hU hW => ?_) (fun H2 L1 hP hz1 hz2 hkk hL1 => ?_)
  · refine ⟨⟨by rw [hU]; exact hH1, va_K.moved hW.alike hK, ?_, ?_, hadC⟩, ok_cons trivial (fun v hv => absurd hv List.not_mem_nil)⟩
    · rw [hU]; exact hO.go hS1.2.1 hW
    · rw [hU]; exact hX.go hS1.2.1 hW
  obtain ⟨w1, hH2, hw1⟩ := hP
  subst hw1
  have hS2 : va_S (up_A base) s.heap H2 ([] ++ L1) := by
    refine ⟨Nat.le_trans hS1.1 hz1, fun q q1 q2 => ?_, fun q hq => ?_⟩
    · rw [hkk q (Nat.lt_of_lt_of_le q1 hS1.1) q2]; exact hS1.2.1 q q1 q2
    · exact hL1 q (by simpa using hq)
  refine lv_astore_n (pc := 7) (lv' := [(1, .ref (g.ad 0)), (0, .ref b)]) h1 h2 dw_7 rfl hl (by decide) rfl (fun lsB hlB => ?_)
  have hz2 : H2.size = base + 105 := hH2.2.1
  have hK2 : va_K (gM g).D cls_ (tysl (gM g)) s := hK
  have hM0 : HoK (gM g) LM.ly (base + 105) 54 0 (dfl LM.ly) H2 := hok_0 hz2
  refine W.newcK (g := F0 m 8 lsB []) (C := cR13) (n := 93) (cC := g.D.1 13) (h := base + 105 + 0) h1 h2 h6 (h7 _ (mt_6 70 rfl rfl)) (h7 _ (mt_6 71 rfl rfl)) (h7 _ (mt_1 14 rfl rfl)) rfl dw_8 (by decide) (by decide) (hK.1 13 _ rfl).2.1 hM0.2.1 fun H3 kC3 hkC3 e3 z3 o3 => ?_
  have hM1 : HoK (gM g) LM.ly (base + 105) 54 1 (dfl LM.ly) H3 := hok_obj (g := gM g) (ci := 13) (C := cR13) (T := cT13) (N := 93) h7 hK2 hM0 rfl ft_13 rfl (by decide) (by decide) (hadM 0 (by decide)) hkC3 e3 z3 o3
  have hS3 : va_S (up_A base) s.heap H3 ([] ++ L1) := ⟨Nat.le_trans hS2.1 (by omega), fun q q1 q2 => by
      have q3 : q < base := by rw [hbase]; exact q1
      rw [o3 q (by omega)]; exact hS2.2.1 q q1 q2, hS2.2.2⟩
  have hz9 : base + 105 + 0 = (gM g).ad 0 := (hadM 0 (by decide)).symm
  rw [hz9]
  refine lv_dup (pc := 11) h1 h2 dw_11 rfl ?_
  have hC3 : GCal g.l jMd_init 12 (54 - 1) (szM 54 - szM 1) [.ref ((gM g).ad 0)] (up_A (base + 105)) (fun U => NPre (gM g) LM.ly (base + 105) 54 1 (dfl LM.ly) U ∧ ∀ v ∈ [vA 0], okv v) (NPost (gM g) LM.ly (base + 105) 54 54 (fun w => w = wM0)) := n_Md (g := gM g) (K := fun w => w = wM0) rfl
  have hup : ∀ q, up_A (base + 105) q → up_A base q := fun q hq => Nat.le_trans (Nat.le_add_right _ _) hq
  refine g_call (pc := 12) (R := room_1) (J' := jMd_init) (d' := 12) (mc := 54 - 1) (ms := szM 54 - szM 1) (a := (gM g).ad 0) (argsL := []) (rest := [.ref ((gM g).ad 0)]) h1 h2 (hlB.1.trans h4.symm) h6 h7 dw_12 (Or.inl (h7 _ (mt_6 72 rfl rfl))) iok_Md_init rfl (by show 1 + 0 ≤ 8; decide) (by decide) (by decide) (by decide) (by decide) hC3 (fun U hU hW => ?_) (fun H4 L2 hP hz3 hz4 hkk4 hL2 => ?_)
  · refine ⟨⟨by rw [hU]; exact hM1, va_K.moved hW.alike hK2, ?_, ?_, hadM⟩, ok_cons trivial (fun v hv => absurd hv List.not_mem_nil)⟩
    · rw [hU]; exact ((hO.go (U := U) hS3.2.1 hW).mono hup).gm
    · rw [hU]; exact (hX.go (U := U) hS3.2.1 hW).mono hup
  obtain ⟨w2, hH4, hw2⟩ := hP
  subst hw2
  have hS4 : va_S (fun q => s.heap.size ≤ q) s.heap H4 (([] ++ L1) ++ L2) := by
    refine ⟨Nat.le_trans hS3.1 hz3, fun q q1 q2 => ?_, fun q hq => ?_⟩
    · have q3 : q < base := by rw [hbase]; exact q1
      rw [hkk4 q (Nat.lt_of_lt_of_le q1 hS3.1) (fun z => by have z : base + 105 ≤ q := z; omega)]
      exact hS3.2.1 q q1 (fun z => by have z : base ≤ q := z; omega)
    · rcases List.mem_append.mp hq with h | h
      · have := hS3.2.2 q h
        show s.heap.size ≤ q.base
        rw [← hbase]; exact this
      · have := hup _ (hL2 q h)
        show s.heap.size ≤ q.base
        rw [← hbase]; exact this
  have hHC : Hol g LC wC0 H4 := by
    have hc : Hol g LC wC0 H2 := ⟨hH2.1.1, hH2.1.2.1, wC0_rf⟩
    refine hc.kept (fun o ho => ?_)
    have ho : o < 105 := ho
    rw [hadC o ho]
    rw [hkk4 _ (by omega) (fun z => by have z : base + 105 ≤ base + o := z; omega), o3 _ (by omega)]
  have hHM : Hol (gM g) LM wM0 H4 := ⟨hH4.1.1, hH4.1.2.1, wM0_rf⟩
  refine lv_astore_n (pc := 15) (lv' := [(2, .ref ((gM g).ad 0)), (1, .ref (g.ad 0)), (0, .ref b)]) h1 h2 dw_15 rfl hlB (by decide) rfl (fun lsC hlC => ?_)
  refine lv_iconst (pc := 16) (v := 0) h1 h2 dw_16 (by decide) ?_
  refine lv_istore_n (pc := 17) (lv' := [(3, .int 0), (2, .ref ((gM g).ad 0)), (1, .ref (g.ad 0)), (0, .ref b)]) h1 h2 dw_17 rfl hlC (by decide) rfl (fun lsD hlD => ?_)
  have hlE : lv_has lsD 4 ((LsI 0).map (fun q => (q.1, cv g q.2))) := by
    rw [← h900] at hlD
    exact hlD
  exact law_loop hL (by decide) (by decide) (L + 1) 0 wC0 wM0 (by omega) (by omega) inv_w0 p e s m below meth c A9 H4 _ lsD ⟨hHC, hHM⟩ hS4 hlE (fun q hq => by
    unfold LsI at hq
    simp only [List.mem_cons, List.not_mem_nil, or_false] at hq
    rcases hq with rfl | rfl | rfl | rfl
    · show inI ((0 : Nat) : Int); decide
    · trivial
    · trivial
    · trivial) (fun v hv => absurd hv List.not_mem_nil)
