/-! ===== what the Statement gives at the start ===== -/
set_option maxRecDepth 20000 in
theorem tb_MO : Cond.laysStatic "VertexLanguage$Lot" "MOST" "[I" ∈ lw_tbl := List.mem_append_right _ (List.mem_append_left _ (List.mem_of_getElem? (i := 90) rfl))
set_option maxRecDepth 20000 in
theorem tb_CS : Cond.laysStatic "java/lang/String" "COMPACT_STRINGS" "Z" ∈ lw_tbl := List.mem_append_right _ (List.mem_append_right _ (List.mem_append_right _ (List.mem_append_left _ (List.mem_of_getElem? (i := 113) rfl))))
set_option maxRecDepth 20000 in
theorem tb_SF : Cond.laysStatic "jdk/internal/util/Preconditions" "SIOOBE_FORMATTER" "Ljava/util/function/BiFunction;" ∈ lw_tbl := List.mem_append_right _ (List.mem_append_right _ (List.mem_append_right _ (List.mem_append_left _ (List.mem_of_getElem? (i := 129) rfl))))
set_option maxRecDepth 20000 in
theorem tb_US : Cond.laysStatic "java/lang/Throwable" "UNASSIGNED_STACK" "[Ljava/lang/StackTraceElement;" ∈ lw_tbl := List.mem_append_right _ (List.mem_append_right _ (List.mem_append_right _ (List.mem_append_right _ (List.mem_append_right _ (List.mem_append_right _ (List.mem_append_left _ (List.mem_of_getElem? (i := 103) rfl)))))))
set_option maxRecDepth 20000 in
theorem tb_SS : Cond.laysStatic "java/lang/Throwable" "SUPPRESSED_SENTINEL" "Ljava/util/List;" ∈ lw_tbl := List.mem_append_right _ (List.mem_append_right _ (List.mem_append_right _ (List.mem_append_right _ (List.mem_append_right _ (List.mem_append_right _ (List.mem_append_left _ (List.mem_of_getElem? (i := 105) rfl)))))))
set_option maxRecDepth 20000 in
theorem tb_AM : Cond.arrayOver (.object "VertexLanguage$Moment") ∈ lw_tbl := List.mem_append_right _ (List.mem_append_right _ (List.mem_append_left _ (List.mem_of_getElem? (i := 114) rfl)))
set_option maxRecDepth 20000 in
theorem tb_AS : Cond.arrayOver (.object "java/lang/String") ∈ lw_tbl := List.mem_append_right _ (List.mem_append_right _ (List.mem_append_right _ (List.mem_append_right _ (List.mem_append_right _ (List.mem_append_right _ (List.mem_append_left _ (List.mem_of_getElem? (i := 147) rfl)))))))
set_option maxRecDepth 20000 in
theorem tb_N1 : Cond.methodLinkNest "VertexLanguage" 15 ⟨"VertexLanguage$Text", "<init>", "()V"⟩ "VertexLanguage" ∈ lw_tbl := List.mem_append_right _ (List.mem_append_left _ (List.mem_of_getElem? (i := 36) rfl))
set_option maxRecDepth 20000 in
theorem tb_N2 : Cond.methodLinkNest "VertexLanguage$Program" 36 ⟨"VertexLanguage$Code", "<init>", "()V"⟩ "VertexLanguage" ∈ lw_tbl := List.mem_append_right _ (List.mem_append_left _ (List.mem_of_getElem? (i := 115) rfl))
set_option maxRecDepth 20000 in
theorem tb_N3 : Cond.methodLinkNest "VertexLanguage$Machine" 25 ⟨"VertexLanguage$Moment", "<init>", "()V"⟩ "VertexLanguage" ∈ lw_tbl := List.mem_append_right _ (List.mem_append_right _ (List.mem_append_left _ (List.mem_of_getElem? (i := 116) rfl)))
set_option maxRecDepth 20000 in
theorem tb_F1 : Cond.fieldLinkNest "VertexLanguageModel" 11 "VertexLanguageModel$Stop" "what" "I" "VertexLanguageModel" ∈ lw_tbl := List.mem_append_right _ (List.mem_append_right _ (List.mem_append_right _ (List.mem_append_right _ (List.mem_append_right _ (List.mem_append_right _ (List.mem_append_left _ (List.mem_of_getElem? (i := 127) rfl)))))))
set_option maxRecDepth 20000 in
theorem tb_F2 : Cond.fieldLinkNest "VertexLanguageModel" 16 "VertexLanguageModel$Stop" "place" "I" "VertexLanguageModel" ∈ lw_tbl := List.mem_append_right _ (List.mem_append_right _ (List.mem_append_right _ (List.mem_append_right _ (List.mem_append_right _ (List.mem_append_right _ (List.mem_append_left _ (List.mem_of_getElem? (i := 128) rfl)))))))
set_option maxRecDepth 20000 in
theorem tb_iLot : Cond.initialized "VertexLanguage$Lot" ∈ lw_tbl := List.mem_append_right _ (List.mem_append_left _ (List.mem_of_getElem? (i := 4) rfl))
set_option maxRecDepth 20000 in
theorem tb_iStr : Cond.initialized "java/lang/String" ∈ lw_tbl := List.mem_append_right _ (List.mem_append_left _ (List.mem_of_getElem? (i := 21) rfl))
set_option maxRecDepth 20000 in
theorem tb_iPre : Cond.initialized "jdk/internal/util/Preconditions" ∈ lw_tbl := List.mem_append_right _ (List.mem_append_left _ (List.mem_of_getElem? (i := 23) rfl))
set_option maxRecDepth 20000 in
theorem tb_iThr : Cond.initialized "java/lang/Throwable" ∈ lw_tbl := List.mem_append_right _ (List.mem_append_left _ (List.mem_of_getElem? (i := 15) rfl))
set_option maxRecDepth 20000 in
theorem tb_st : ∀ q ∈ strT, Cond.stringRef q.1 q.2.1 q.2.2.1 ∈ lw_tbl := fun q hq => List.mem_append_right _ ((by decide +kernel : ∀ q ∈ strT, Cond.stringRef q.1 q.2.1 q.2.2.1 ∈ tables_1) q hq)
set_option maxRecDepth 20000 in
theorem cls_is : ∀ (ci : Nat) (q : vw_C), cls_[ci]? = some q → ∃ n, Cond.instantiable q.1 n ∈ lw_g := by
  intro ci q h
  match ci, h with
  | 0, h => cases h; exact ⟨6, mt_1 114 rfl rfl⟩
  | 1, h => cases h; exact ⟨6, mt_1 206 rfl rfl⟩
  | 2, h => cases h; exact ⟨9, mt_1 231 rfl rfl⟩
  | 3, h => cases h; exact ⟨13, mt_2 49 rfl rfl⟩
  | 4, h => cases h; exact ⟨7, mt_1 84 rfl rfl⟩
  | 5, h => cases h; exact ⟨13, mt_2 108 rfl rfl⟩
  | 6, h => cases h; exact ⟨8, mt_2 115 rfl rfl⟩
  | 7, h => cases h; exact ⟨11, mt_1 78 rfl rfl⟩
  | 8, h => cases h; exact ⟨7, mt_1 200 rfl rfl⟩
  | 9, h => cases h; exact ⟨7, mt_1 35 rfl rfl⟩
  | 10, h => cases h; exact ⟨18, mt_2 161 rfl rfl⟩
  | 11, h => cases h; exact ⟨7, mt_1 27 rfl rfl⟩
  | 12, h => cases h; exact ⟨8, mt_6 77 rfl rfl⟩
  | 13, h => cases h; exact ⟨93, mt_6 71 rfl rfl⟩
  | n + 14, h => simp [cls_] at h
/-- the terms of the String constants; what is given of them -/
def zsT (i : Nat) : Term := .string (strT.getD i ("", 0, "", 0)).1 (strT.getD i ("", 0, "", 0)).2.1
def zsV (i : Nat) : Term := .field (zsT i) "java/lang/String" "value" "[B"
def exS (i : Nat) : List Cond := [.exactly (zsT i) "java/lang/String", .eq (.field (zsT i) "java/lang/String" "coder" "B") (.int 0), .arrayOf (zsV i) .byte, .eq (.length (zsV i)) (.int (Int32.ofNat (sB i).length))] ++ (List.range (sB i).length).map (fun j => .eq (.elem (zsV i) (.int (Int32.ofNat j))) (.int (Int32.ofInt ((sB i).getD j 0))))
set_option maxRecDepth 100000 in
theorem exS_all : ((flatC (Cond.and given_1 narrow_1)).drop 32).take 611 = ([2, 1, 0] ++ (List.range 56).map (fun j => j + 3)).flatMap exS := by decide +kernel
theorem exS_in {i : Nat} (hi : i < 59) : ∀ u ∈ exS i, u ∈ flatC (Cond.and given_1 narrow_1) := by
  intro u hu
  have h1 : i ∈ [2, 1, 0] ++ (List.range 56).map (fun j => j + 3) := by
    by_cases h : i < 3
    · rcases (by omega : i = 0 ∨ i = 1 ∨ i = 2) with rfl | rfl | rfl <;> decide
    · exact List.mem_append_right _ (List.mem_map.mpr ⟨i - 3, List.mem_range.mpr (by omega), by omega⟩)
  have h2 : u ∈ ([2, 1, 0] ++ (List.range 56).map (fun j => j + 3)).flatMap exS := List.mem_flatMap.mpr ⟨i, h1, hu⟩
  rw [← exS_all] at h2
  exact List.mem_of_mem_drop (List.mem_of_mem_take h2)
set_option maxRecDepth 20000 in
theorem sB_len : ∀ i, i < 59 → (sB i).length < 2 ^ 31 := by decide +kernel
theorem strT_at : ∀ q ∈ strT, q.2.2.2 < 59 ∧ (strT.getD q.2.2.2 ("", 0, "", 0)).1 = q.1 ∧ (strT.getD q.2.2.2 ("", 0, "", 0)).2.1 = q.2.1 := by decide +kernel
set_option maxRecDepth 20000 in
theorem nrw_1 : Cond.arrayOf (.static "VertexLanguage$Lot" "MOST" "[I") .int ∈ flatC (Cond.and given_1 narrow_1) := by decide +kernel
set_option maxRecDepth 20000 in
theorem nrw_2 : Cond.eq (.length (.static "VertexLanguage$Lot" "MOST" "[I")) (.int (Int32.ofNat 5)) ∈ flatC (Cond.and given_1 narrow_1) := by decide +kernel
set_option maxRecDepth 20000 in
theorem nrw_3 : ∀ j, j < 5 → Cond.eq (.elem (.static "VertexLanguage$Lot" "MOST" "[I") (.int (Int32.ofNat j))) (.int (Int32.ofInt (mostL.getD j 0))) ∈ flatC (Cond.and given_1 narrow_1) := by decide +kernel
set_option maxRecDepth 20000 in
theorem nrw_4 : Cond.eq (.static "java/lang/String" "COMPACT_STRINGS" "Z") (.int 1) ∈ flatC (Cond.and given_1 narrow_1) := by decide +kernel
set_option maxRecDepth 20000 in
theorem nrw_5 : Cond.isRef (.static "jdk/internal/util/Preconditions" "SIOOBE_FORMATTER" "Ljava/util/function/BiFunction;") ∈ flatC (Cond.and given_1 narrow_1) := by decide +kernel
set_option maxRecDepth 20000 in
theorem nrw_6 : Cond.isRef (.static "java/lang/Throwable" "UNASSIGNED_STACK" "[Ljava/lang/StackTraceElement;") ∈ flatC (Cond.and given_1 narrow_1) := by decide +kernel
set_option maxRecDepth 20000 in
theorem nrw_7 : Cond.isRef (.static "java/lang/Throwable" "SUPPRESSED_SENTINEL" "Ljava/util/List;") ∈ flatC (Cond.and given_1 narrow_1) := by decide +kernel
/-- the addresses -/
def adF (base b t : Nat) (aK aV : Nat → Nat) (o : Nat) : Nat := if o < 159 then base + o else if o = 900 then b else if o = 1000 then t else if o < 2001 then aK (o - 1001) else aV (o - 2001)
section Start
variable {p : Program} {s : State} {m : MethodId} {meth : Method} {c : Code} {b L : Nat} {xs : Nat → Int32}
theorem st_cls (C0 : lw_At p s m meth c b L xs) : ∃ D : va_G, ∀ (ci : Nat) (q : vw_C), cls_[ci]? = some q → u_Kn s q.1 q.2.1 q.2.2 (D.1 ci) (D.2 ci) := by
  obtain ⟨h1, h2, h3, h4, h6, h7t, hX, hbl, h5, hgv⟩ := C0
  have h7 : ∀ u ∈ lw_g, u.before #[Value.ref b] s = true := fun u hu => h7t u (List.mem_filter.mp hu).1
  have h0 : ∀ ci : Nat, ∃ q : ClassId × (Nat → Nat), ∀ r, cls_[ci]? = some r → u_Kn s r.1 r.2.1 r.2.2 q.1 q.2 := by
    intro ci
    cases hc : cls_[ci]? with
    | none => exact ⟨(0, fun _ => 0), fun r h => by cases h⟩
    | some r =>
      obtain ⟨n, hn⟩ := cls_is ci r hc
      obtain ⟨cC, iS, h⟩ := u_known (C := r.1) (T := r.2.1) (N := r.2.2) (n := n) h7 (cls_in ci r hc) (h7 _ hn)
      exact ⟨(cC, iS), fun r' h' => by cases h'; exact h⟩
  obtain ⟨f, hf⟩ := Classical.axiomOfChoice h0
  exact ⟨(fun ci => (f ci).1, fun ci => (f ci).2), fun ci q hq => hf ci q hq⟩
theorem st_arr (C0 : lw_At p s m meth c b L xs) : ∃ dA : Nat → ClassId, ∀ (k : Nat) (q : ClassId × FieldType), ([(dA 100, .int), (dA 101, .byte), (dA 102, .boolean), (dA 103, .object "VertexLanguage$Moment"), (dA 104, .object "java/lang/String")] : List (ClassId × FieldType))[k]? = some q → ArrOfT s q.1 q.2 ∧ va_RA s q.1 q.2 := by
  obtain ⟨h1, h2, h3, h4, h6, h7t, hX, hbl, h5, hgv⟩ := C0
  have h7 : ∀ u ∈ lw_g, u.before #[Value.ref b] s = true := fun u hu => h7t u (List.mem_filter.mp hu).1
  obtain ⟨c0, k0, p0, a1, a2, a3⟩ := Cond.arrayClass_spec (h7 _ (mt_1 76 rfl rfl))
  obtain ⟨c1, k1, p1, b1, b2, b3⟩ := Cond.arrayClass_spec (h7 _ (mt_1 75 rfl rfl))
  obtain ⟨c2, k2, p2, d1, d2, d3⟩ := Cond.arrayClass_spec (h7 _ (mt_2 25 rfl rfl))
  obtain ⟨p3, c3, k3, e1, e2, e3, e4, e5⟩ := Cond.arrayOver_spec (h7t _ tb_AM)
  obtain ⟨p4, c4, k4, f1, f2, f3, f4, f5⟩ := Cond.arrayOver_spec (h7t _ tb_AS)
  refine ⟨fun k => if k = 100 then c0 else if k = 101 then c1 else if k = 102 then c2 else if k = 103 then c3 else c4, fun k q hq => ?_⟩
  match k, hq with
  | 0, hq => cases hq; exact ⟨fun n z => ⟨(fun k h => by cases h), k0, a2, p0, a3⟩, a1⟩
  | 1, hq => cases hq; exact ⟨fun n z => ⟨(fun k h => by cases h), k1, b2, p1, b3⟩, b1⟩
  | 2, hq => cases hq; exact ⟨fun n z => ⟨(fun k h => by cases h), k2, d2, p2, d3⟩, d1⟩
  | 3, hq => cases hq; exact ⟨fun n z => ⟨(fun k h => by cases h), k3, e3, p3, e4⟩, k3, p3, e3, e4, e1, e5⟩
  | 4, hq => cases hq; exact ⟨fun n z => ⟨(fun k h => by cases h), k4, f3, p4, f4⟩, k4, p4, f3, f4, f1, f5⟩
  | k + 5, hq => simp at hq
theorem st_str (C0 : lw_At p s m meth c b L xs) : ∃ aK aV : Nat → Nat, ∀ i, i < 59 → (zsT i).eval #[Value.ref b] s none [] s = some (.ref (aK i)) ∧ va_O "java/lang/String" (aK i) (up_A s.heap.size) s s.heap ∧ va_OF "java/lang/String" "coder" "B" (.int 0) (aK i) (up_A s.heap.size) s s.heap ∧ va_OF "java/lang/String" "value" "[B" (.ref (aV i)) (aK i) (up_A s.heap.size) s s.heap ∧ va_T .byte (aV i) (sB i).length (fun j => .int (Int32.ofInt ((sB i).getD j 0))) (up_A s.heap.size) s s.heap := by
  have hgv := C0.2.2.2.2.2.2.2.2.2
  have hfl := flat_of_before _ hgv
  have hA : ∀ a : Nat, a < s.heap.size → ¬ up_A s.heap.size a := fun a h z => Nat.not_le.mpr h z
  have h0 : ∀ i : Nat, ∃ q : Nat × Nat, i < 59 → (zsT i).eval #[Value.ref b] s none [] s = some (.ref q.1) ∧ va_O "java/lang/String" q.1 (up_A s.heap.size) s s.heap ∧ va_OF "java/lang/String" "coder" "B" (.int 0) q.1 (up_A s.heap.size) s s.heap ∧ va_OF "java/lang/String" "value" "[B" (.ref q.2) q.1 (up_A s.heap.size) s s.heap ∧ va_T .byte q.2 (sB i).length (fun j => .int (Int32.ofInt ((sB i).getD j 0))) (up_A s.heap.size) s s.heap := by
    intro i
    by_cases hi : i < 59
    · have hx := fun u hu => hfl u (exS_in hi u hu)
      have x1 := hx (.exactly (zsT i) "java/lang/String") (List.mem_append_left _ (.head _))
      have x2 := hx (.eq (.field (zsT i) "java/lang/String" "coder" "B") (.int 0)) (List.mem_append_left _ (.tail _ (.head _)))
      have x3 := hx (.arrayOf (zsV i) .byte) (List.mem_append_left _ (.tail _ (.tail _ (.head _))))
      have x4 := hx (.eq (.length (zsV i)) (.int (Int32.ofNat (sB i).length))) (List.mem_append_left _ (.tail _ (.tail _ (.tail _ (.head _)))))
      have x5 : ∀ j, j < (sB i).length → (Cond.eq (.elem (zsV i) (.int (Int32.ofNat j))) (.int (Int32.ofInt ((sB i).getD j 0)))).before #[Value.ref b] s = true := fun j hj => hx _ (List.mem_append_right _ (List.mem_map.mpr ⟨j, List.mem_range.mpr hj, rfl⟩))
      obtain ⟨a, c, cA, kA, q1, q2, q3, q4, q5, q6, -⟩ := Cond.exactly_spec (args := #[Value.ref b]) (first := s) (o := none) (s := s) (idx := []) (t := zsT i) (cls := "java/lang/String") x1
      obtain ⟨t, ht, hT⟩ := va_Tof (f := fun j => .int (Int32.ofInt ((sB i).getD j 0))) (A := up_A s.heap.size) (sB_len i hi) x3 (va_eqt x4) (fun j hj => va_eqt (x5 j hj)) hA
      exact ⟨(a, t), fun _ => ⟨q1, ⟨cA, q3, q5, by rw [q6]; exact q2, hA a (Array.getElem?_eq_some_iff.mp q3).1⟩, vk_OFof q1 (va_eqt x2) hA, vk_OFof q1 ht hA, hT⟩⟩
    · exact ⟨(0, 0), fun h => absurd h hi⟩
  obtain ⟨ad, had⟩ := Classical.axiomOfChoice h0
  exact ⟨fun i => (ad i).1, fun i => (ad i).2, fun i hi => had i hi⟩
theorem st_xtr (C0 : lw_At p s m meth c b L xs) : Xtr (up_A s.heap.size) s s.heap := by
  obtain ⟨h1, h2, h3, h4, h6, h7, hX, hbl, h5, hgv⟩ := C0
  have hfl := flat_of_before _ hgv
  have hA : ∀ a : Nat, a < s.heap.size → ¬ up_A s.heap.size a := fun a h z => Nat.not_le.mpr h z
  refine ⟨fun q hq => ?_, va_AO.of (h7 _ tb_AM), va_AO.of (h7 _ tb_AS), va_Zqof (h7 _ tb_US) (h7 _ tb_iThr) (hfl _ nrw_6) hA, va_Zqof (h7 _ tb_SS) (h7 _ tb_iThr) (hfl _ nrw_7) hA⟩
  unfold nwM at hq
  simp only [List.mem_cons, List.not_mem_nil, or_false] at hq
  rcases hq with rfl | rfl | rfl
  · exact va_Nw.of rfl (h7 _ tb_N1)
  · exact va_Nw.of rfl (h7 _ tb_N2)
  · exact va_Nw.of rfl (h7 _ tb_N3)
/-- the machine's side of the worlds, at the start -/
theorem st_g (l : Launch) (C0 : lw_At p s m meth c b L xs) : ∃ g : Mg, g.l = l ∧ va_K g.D cls_ (tysl g) s ∧ Old g (up_A s.heap.size) s s.heap ∧ (∀ o, o < 159 → g.ad o = s.heap.size + o) ∧ g.ad 900 = b := by
  obtain ⟨D, hD⟩ := st_cls C0
  obtain ⟨dA, hdA⟩ := st_arr C0
  obtain ⟨aK, aV, hstr⟩ := st_str C0
  obtain ⟨h1, h2, h3, h4, h6, h7, hX, hbl, h5, hgv⟩ := C0
  have hfl := flat_of_before _ hgv
  have hA : ∀ a : Nat, a < s.heap.size → ¬ up_A s.heap.size a := fun a h z => Nat.not_le.mpr h z
  obtain ⟨t, ht, hT⟩ := va_Tof (f := fun j => .int (Int32.ofInt (mostL.getD j 0))) (A := up_A s.heap.size) (N := 5) (by decide) (hfl _ nrw_1) (va_eqt (hfl _ nrw_2)) (fun j hj => va_eqt (hfl _ (nrw_3 j hj))) hA
  have e1 : adF s.heap.size b t aK aV 1000 = t := rfl
  have e2 : ∀ i, i < 59 → adF s.heap.size b t aK aV (1001 + i) = aK i := fun i hi => by
    unfold adF
    rw [if_neg (by omega), if_neg (by omega), if_neg (by omega), if_pos (by omega), Nat.add_sub_cancel_left]
  have e3 : ∀ i, i < 59 → adF s.heap.size b t aK aV (2001 + i) = aV i := fun i hi => by
    unfold adF
    rw [if_neg (by omega), if_neg (by omega), if_neg (by omega), if_neg (by omega), Nat.add_sub_cancel_left]
  refine ⟨(l, adF s.heap.size b t aK aV, D, dA), rfl, ⟨hD, hdA⟩, ⟨?_, ?_, va_Zof (h7 _ tb_CS) (h7 _ tb_iStr) (va_eqt (hfl _ nrw_4)) hA, fun i hi => ?_, fun q hq => ?_, va_Zqof (h7 _ tb_SF) (h7 _ tb_iPre) (hfl _ nrw_5) hA, fun q hq => ?_⟩, fun o ho => ?_, rfl⟩
  · show va_Z _ _ _ (.ref (adF s.heap.size b t aK aV 1000)) _ _ _
    rw [e1]
    exact va_Zof (h7 _ tb_MO) (h7 _ tb_iLot) ht hA
  · show va_T _ (adF s.heap.size b t aK aV 1000) _ _ _ _ _
    rw [e1]
    exact hT
  · show va_O _ (adF s.heap.size b t aK aV (1001 + i)) _ _ _ ∧ va_OF _ _ _ _ (adF s.heap.size b t aK aV (1001 + i)) _ _ _ ∧ va_OF _ _ _ (.ref (adF s.heap.size b t aK aV (2001 + i))) (adF s.heap.size b t aK aV (1001 + i)) _ _ _ ∧ va_T _ (adF s.heap.size b t aK aV (2001 + i)) _ _ _ _ _
    rw [e2 i hi, e3 i hi]
    exact (hstr i hi).2
  · obtain ⟨q1, q2, q3⟩ := strT_at q hq
    show vk_R _ _ _ (adF s.heap.size b t aK aV (1001 + q.2.2.2)) _
    rw [e2 _ q1]
    refine vk_R.of (A := #[Value.ref b]) (h7 _ (tb_st q hq)) ?_
    have := (hstr _ q1).1
    unfold zsT at this
    rw [q2, q3] at this
    exact this
  · unfold nstT at hq
    simp only [List.mem_cons, List.not_mem_nil, or_false] at hq
    rcases hq with rfl | rfl
    · exact va_Nw.of rfl (h7 _ tb_F1)
    · exact va_Nw.of rfl (h7 _ tb_F2)
  · show adF s.heap.size b t aK aV o = _
    unfold adF
    rw [if_pos ho]
end Start
