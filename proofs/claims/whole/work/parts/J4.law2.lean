/-! ===== the law: calls, its loop ===== -/
section LawLoop
variable {g : Mg} {bs L : Nat} {xs : Nat → Int32} {ce sl pc : Nat} {ls : List (Nat × AV)} {st : List AV} {wc wm : Wd}
theorem l_callC {J' : Jm} {d' idx n : Nat} {T : u_T} {I : List Int} (hd' : d' ≤ 1311) (hce : ce ≤ 600128) (hsl : sl ≤ 7301098) (hd : decode code pc = .ok (.invokevirtual idx, 3)) (hM : MLV R_law idx J' n) (hc : cls_[11]? = some (J'.y.cls, T, 7)) (hn : I.length = n) (hr : (st.map aw).sum ≤ 8)
    (hC : Cal g LC J' d' (vA 0 :: I.map vI) wc (fun o w' => ∃ x : Int, o = .inl (some (vI x)) ∧ LV g bs L xs ce sl (pc + 3) ls (vI x :: st) w' wm)) : LV g bs L xs ce sl pc ls ((I.map vI).reverse ++ vA 0 :: st) wc wm := by
  intro p e s m below meth c A0 H locs lsA hH hS hl hlo hst
  obtain ⟨a1, a2, a3, a4, a5, a6, a7⟩ := id A0
  have hAA : ∀ q, AA g LC q → s.heap.size ≤ q := by
    rintro q ⟨o, ho, rfl⟩
    have ho : o < 105 := ho
    rw [a6 o (by omega)]; omega
  have hI : Inj g LC := fun i j hi hj h => by
    have hi : i < 105 := hi
    have hj : j < 105 := hj
    rw [a6 i (by omega), a6 j (by omega)] at h; omega
  have hstR : ∀ v ∈ st, okv v := fun v hv => hst v (List.mem_append_right _ (List.mem_cons_of_mem _ hv))
  have hok : ∀ x ∈ I, inI x := fun x hx => hst (vI x) (List.mem_append_left _ (List.mem_reverse.mpr (List.mem_map.mpr ⟨x, hx, rfl⟩)))
  have e0 : ((I.map vI).reverse ++ vA 0 :: st).map (cv g) = ((I.map vI).map (cv g)).reverse ++ .ref (g.ad 0) :: st.map (cv g) := by
    rw [List.map_append, List.map_reverse]; rfl
  rw [e0]
  refine law_call (g := g) (y := LC) (w := wc) (o := 0) (ci := 11) (N := 7) a3 a4 (a5.mono hAA) hI hH.1 hS hAA (fun q hq z => Nat.not_le.mpr hq z) hl.1 hd' hce hsl hd hM (by decide) (by decide) (by decide) hc hn (by rw [cat_sum]; exact hr) hok hC (fun o' w' H1 locs1 hK hoo hH1 hz hkk hS1 => ?_)
  obtain ⟨x, rfl, hLV⟩ := hK
  refine ⟨x, rfl, hLV p e s m below meth c A0 H1 locs1 lsA ⟨hH1, hH.2.kept (fun o ho => ?_)⟩ hS1 hl hlo (ok_cons hoo hstR)⟩
  have ho : o < 54 := ho
  have hlt : (gM g).ad o < H.size := ((hH.2.1 o _ (ws_at (g := gM g) (w := wm) (y := LM) ho)).lt)
  refine hkk _ hlt ?_
  rintro ⟨o2, h2, h3⟩
  have h2 : o2 < 105 := h2
  rw [gM_lo ho, a6 _ (by omega), a6 _ (by omega)] at h3
  omega
theorem l_callM {J' : Jm} {d' idx n : Nat} {T : u_T} {I : List Int} (hd' : d' ≤ 1311) (hce : ce ≤ 600128) (hsl : sl ≤ 7301098) (hd : decode code pc = .ok (.invokevirtual idx, 3)) (hM : MLV R_law idx J' n) (hc : cls_[13]? = some (J'.y.cls, T, 93)) (hn : I.length = n) (hr : (st.map aw).sum ≤ 8)
    (hC : Cal (gM g) LM J' d' (vA 0 :: I.map vI) wm (fun o w' => ∃ x : Int, o = .inl (some (vI x)) ∧ LV g bs L xs ce sl (pc + 3) ls (vI x :: st) wc w')) : LV g bs L xs ce sl pc ls ((I.map vI).reverse ++ vA 105 :: st) wc wm := by
  intro p e s m below meth c A0 H locs lsA hH hS hl hlo hst
  obtain ⟨a1, a2, a3, a4, a5, a6, a7⟩ := id A0
  have hAA : ∀ q, AA (gM g) LM q → s.heap.size ≤ q := by
    rintro q ⟨o, ho, rfl⟩
    have ho : o < 54 := ho
    rw [gM_lo ho, a6 _ (by omega)]; omega
  have hI : Inj (gM g) LM := fun i j hi hj h => by
    have hi : i < 54 := hi
    have hj : j < 54 := hj
    rw [gM_lo hi, gM_lo hj, a6 _ (by omega), a6 _ (by omega)] at h; omega
  have hstR : ∀ v ∈ st, okv v := fun v hv => hst v (List.mem_append_right _ (List.mem_cons_of_mem _ hv))
  have hok : ∀ x ∈ I, inI x := fun x hx => hst (vI x) (List.mem_append_left _ (List.mem_reverse.mpr (List.mem_map.mpr ⟨x, hx, rfl⟩)))
  have e1 : ∀ I : List Int, (I.map vI).map (cv g) = (I.map vI).map (cv (gM g)) := fun I => by
    rw [List.map_map, List.map_map]; rfl
  have e0 : ((I.map vI).reverse ++ vA 105 :: st).map (cv g) = ((I.map vI).map (cv (gM g))).reverse ++ .ref ((gM g).ad 0) :: st.map (cv g) := by
    rw [List.map_append, List.map_reverse, e1]; rfl
  rw [e0]
  refine law_call (g := gM g) (y := LM) (w := wm) (o := 0) (ci := 13) (N := 93) a3 a4 (a5.mono hAA).gm hI hH.2 hS hAA (fun q hq z => Nat.not_le.mpr hq z) hl.1 hd' hce hsl hd hM (by decide) (by decide) (by decide) hc hn (by rw [cat_sum]; exact hr) hok hC (fun o' w' H1 locs1 hK hoo hH1 hz hkk hS1 => ?_)
  obtain ⟨x, rfl, hLV⟩ := hK
  refine ⟨x, rfl, hLV p e s m below meth c A0 H1 locs1 lsA ⟨hH.1.kept (fun o ho => ?_), hH1⟩ hS1 hl hlo (ok_cons hoo hstR)⟩
  have ho : o < 105 := ho
  have hlt : g.ad o < H.size := ((hH.1.1 o _ (ws_at (g := g) (w := wc) (y := LC) ho)).lt)
  refine hkk _ hlt ?_
  rintro ⟨o2, h2, h3⟩
  have h2 : o2 < 54 := h2
  rw [gM_lo h2, a6 _ (by omega), a6 _ (by omega)] at h3
  omega
theorem l_end (hce : ce ≤ 600128) (hsl : sl ≤ 7301098) (hd : decode code pc = .ok (.ireturn, 1)) : LV g bs L xs ce sl pc ls [vI 1] wc wm := by
  intro p e s m below meth c A0 H locs lsA hH hS hl hlo hst
  obtain ⟨a1, a2, a3, a4, a5, a6, a7⟩ := id A0
  refine va_forget (fun q hq => hS.2.2 q hq) ?_
  refine W.widen (k := 600128) (n := 7301098) hce hsl ?_
  exact lw_ret a1 a2 a3.2.2.1 a3.2.2.2.2.2.2.2.2.1 hd
/-- the locals in the loop -/
def LsI (i : Nat) : List (Nat × AV) := [(3, vI (i : Int)), (2, vA 105), (1, vA 0), (0, vA 900)]
abbrev sx (xs : Nat → Int32) (k : Nat) : Int := (xs k).toInt
def AD (pc : Nat) (j : Int) : Prop := decode code pc = .ok (.aload_n 0, 1) ∧ decode code (pc + 1) = .ok (.iload_n 3, 1) ∧ decode code (pc + 2) = .ok (.iconst j, 1) ∧ decode code (pc + 3) = .ok (.iadd, 1) ∧ decode code (pc + 4) = .ok (.iaload, 1)
theorem l_arg {i : Nat} (j : Nat) (hL : L ≤ 384) (hi : i + 6 ≤ L) (hj : j < 6) (h : AD pc (j : Int)) (k : LV g bs L xs ce sl (pc + 5) (LsI i) (vI (sx xs (i + j)) :: st) wc wm) : LV g bs L xs ce sl pc (LsI i) st wc wm := by
  obtain ⟨d0, d1, d2, d3, d4⟩ := h
  refine l_aload_n (i := 0) (x := 900) d0 rfl (by simp [LsI]) ?_
  refine l_iload_n (i := 3) (x := (i : Int)) d1 rfl (by simp [LsI]) ?_
  refine l_iconst d2 (by unfold inI; omega) ?_
  refine l_iadd d3 ?_
  rw [wr_id (by unfold inI; omega)]
  refine l_sld (x := sx xs (i + j)) d4 (by omega) ?_ k
  show sx xs (i + j) = sx xs _
  congr 1
theorem ad_125 : AD 125 1 := ⟨by decide +kernel, by decide +kernel, by decide +kernel, by decide +kernel, by decide +kernel⟩
theorem ad_130 : AD 130 2 := ⟨by decide +kernel, by decide +kernel, by decide +kernel, by decide +kernel, by decide +kernel⟩
theorem ad_135 : AD 135 3 := ⟨by decide +kernel, by decide +kernel, by decide +kernel, by decide +kernel, by decide +kernel⟩
theorem ad_140 : AD 140 4 := ⟨by decide +kernel, by decide +kernel, by decide +kernel, by decide +kernel, by decide +kernel⟩
theorem ad_145 : AD 145 5 := ⟨by decide +kernel, by decide +kernel, by decide +kernel, by decide +kernel, by decide +kernel⟩
theorem ad_154 : AD 154 1 := ⟨by decide +kernel, by decide +kernel, by decide +kernel, by decide +kernel, by decide +kernel⟩
theorem ad_159 : AD 159 2 := ⟨by decide +kernel, by decide +kernel, by decide +kernel, by decide +kernel, by decide +kernel⟩
theorem ad_164 : AD 164 3 := ⟨by decide +kernel, by decide +kernel, by decide +kernel, by decide +kernel, by decide +kernel⟩
theorem ad_169 : AD 169 4 := ⟨by decide +kernel, by decide +kernel, by decide +kernel, by decide +kernel, by decide +kernel⟩
theorem ad_174 : AD 174 5 := ⟨by decide +kernel, by decide +kernel, by decide +kernel, by decide +kernel, by decide +kernel⟩
theorem lc_feed_d : decode code 124 = .ok (.aload_n 1, 1) ∧ decode code 150 = .ok (.invokevirtual 13, 3) ∧ decode code 153 = .ok (.aload_n 2, 1) ∧ decode code 179 = .ok (.invokevirtual 17, 3) ∧ decode code 182 = .ok (.if_icmp .eq 449, 3) := ⟨by decide +kernel, by decide +kernel, by decide +kernel, by decide +kernel, by decide +kernel⟩
theorem lc_feed {i : Nat} (hL : L ≤ 384) (hi : i + 6 ≤ L) (hce : ce ≤ 600128) (hsl : sl ≤ 7301098) (hI : Inv wc wm) (k : ∀ wc' wm', Inv wc' wm' → LV g bs L xs ce sl 631 (LsI i) [] wc' wm') : LV g bs L xs ce sl 124 (LsI i) [] wc wm := by
  obtain ⟨d0, d1, d2, d3, d4⟩ := lc_feed_d
  refine l_aload_n (i := 1) (x := 0) d0 rfl (by simp [LsI]) ?_
  refine l_arg 1 hL hi (by decide) ad_125 ?_
  refine l_arg 2 hL hi (by decide) ad_130 ?_
  refine l_arg 3 hL hi (by decide) ad_135 ?_
  refine l_arg 4 hL hi (by decide) ad_140 ?_
  refine l_arg 5 hL hi (by decide) ad_145 ?_
  refine l_callC (d' := 1200) (T := cT11) (I := [sx xs (i + 1), sx xs (i + 2), sx xs (i + 3), sx xs (i + 4), sx xs (i + 5)]) (st := []) (by decide) hce hsl d1 ml_Lw_13 rfl rfl (by decide) ?_
  refine b_feed  (by decide)  hI (fun x wc' hB => ⟨x, rfl, ?_⟩)
  refine l_aload_n (i := 2) (x := 105) d2 rfl (by simp [LsI]) ?_
  refine l_arg 1 hL hi (by decide) ad_154 ?_
  refine l_arg 2 hL hi (by decide) ad_159 ?_
  refine l_arg 3 hL hi (by decide) ad_164 ?_
  refine l_arg 4 hL hi (by decide) ad_169 ?_
  refine l_arg 5 hL hi (by decide) ad_174 ?_
  refine l_callM (d' := 1200) (T := cT13) (I := [sx xs (i + 1), sx xs (i + 2), sx xs (i + 3), sx xs (i + 4), sx xs (i + 5)]) (st := [vI x]) (by decide) hce hsl d3 ml_Lw_17 rfl rfl (by show 1 + 0 ≤ 8; decide) ?_
  refine hB _ _ _ (by decide) (fun wm' hI' => ⟨x, rfl, ?_⟩)
  exact l_icmpeq (tgt := 631) d4 (by decide) (fun _ => k wc' wm' hI') (fun z => absurd rfl z)
theorem ad_188 : AD 188 1 := ⟨by decide +kernel, by decide +kernel, by decide +kernel, by decide +kernel, by decide +kernel⟩
theorem ad_197 : AD 197 1 := ⟨by decide +kernel, by decide +kernel, by decide +kernel, by decide +kernel, by decide +kernel⟩
theorem lc_end_d : decode code 187 = .ok (.aload_n 1, 1) ∧ decode code 193 = .ok (.invokevirtual 18, 3) ∧ decode code 196 = .ok (.aload_n 2, 1) ∧ decode code 202 = .ok (.invokevirtual 22, 3) ∧ decode code 205 = .ok (.if_icmp .eq 426, 3) := ⟨by decide +kernel, by decide +kernel, by decide +kernel, by decide +kernel, by decide +kernel⟩
theorem lc_end {i : Nat} (hL : L ≤ 384) (hi : i + 6 ≤ L) (hce : ce ≤ 600128) (hsl : sl ≤ 7301098) (hI : Inv wc wm) (k : ∀ wc' wm', Inv wc' wm' → LV g bs L xs ce sl 631 (LsI i) [] wc' wm') : LV g bs L xs ce sl 187 (LsI i) [] wc wm := by
  obtain ⟨d0, d1, d2, d3, d4⟩ := lc_end_d
  refine l_aload_n (i := 1) (x := 0) d0 rfl (by simp [LsI]) ?_
  refine l_arg 1 hL hi (by decide) ad_188 ?_
  refine l_callC (d' := 1200) (T := cT11) (I := [sx xs (i + 1)]) (st := []) (by decide) hce hsl d1 ml_Lw_18 rfl rfl (by decide) ?_
  refine b_end (i_in (xs (i + 1)))  hI (fun x wc' hB => ⟨x, rfl, ?_⟩)
  refine l_aload_n (i := 2) (x := 105) d2 rfl (by simp [LsI]) ?_
  refine l_arg 1 hL hi (by decide) ad_197 ?_
  refine l_callM (d' := 1200) (T := cT13) (I := [sx xs (i + 1)]) (st := [vI x]) (by decide) hce hsl d3 ml_Lw_22 rfl rfl (by show 1 + 0 ≤ 8; decide) ?_
  refine hB _ _ _ (by decide) (fun wm' hI' => ⟨x, rfl, ?_⟩)
  exact l_icmpeq (tgt := 631) d4 (by decide) (fun _ => k wc' wm' hI') (fun z => absurd rfl z)
theorem lc_program_d : decode code 210 = .ok (.aload_n 1, 1) ∧ decode code 211 = .ok (.invokevirtual 23, 3) ∧ decode code 214 = .ok (.aload_n 2, 1) ∧ decode code 215 = .ok (.invokevirtual 27, 3) ∧ decode code 218 = .ok (.if_icmp .eq 413, 3) := ⟨by decide +kernel, by decide +kernel, by decide +kernel, by decide +kernel, by decide +kernel⟩
theorem lc_program {i : Nat} (hL : L ≤ 384) (hi : i + 6 ≤ L) (hce : ce ≤ 600128) (hsl : sl ≤ 7301098) (hI : Inv wc wm) (k : ∀ wc' wm', Inv wc' wm' → LV g bs L xs ce sl 631 (LsI i) [] wc' wm') : LV g bs L xs ce sl 210 (LsI i) [] wc wm := by
  obtain ⟨d0, d1, d2, d3, d4⟩ := lc_program_d
  refine l_aload_n (i := 1) (x := 0) d0 rfl (by simp [LsI]) ?_
  refine l_callC (d' := 1200) (T := cT11) (I := []) (st := []) (by decide) hce hsl d1 ml_Lw_23 rfl rfl (by decide) ?_
  refine b_program  (by decide)  hI (fun x wc' hB => ⟨x, rfl, ?_⟩)
  refine l_aload_n (i := 2) (x := 105) d2 rfl (by simp [LsI]) ?_
  refine l_callM (d' := 1200) (T := cT13) (I := []) (st := [vI x]) (by decide) hce hsl d3 ml_Lw_27 rfl rfl (by show 1 + 0 ≤ 8; decide) ?_
  refine hB _ _ _ (by decide) (fun wm' hI' => ⟨x, rfl, ?_⟩)
  exact l_icmpeq (tgt := 631) d4 (by decide) (fun _ => k wc' wm' hI') (fun z => absurd rfl z)
theorem ad_224 : AD 224 1 := ⟨by decide +kernel, by decide +kernel, by decide +kernel, by decide +kernel, by decide +kernel⟩
theorem ad_233 : AD 233 1 := ⟨by decide +kernel, by decide +kernel, by decide +kernel, by decide +kernel, by decide +kernel⟩
theorem lc_fault_d : decode code 223 = .ok (.aload_n 1, 1) ∧ decode code 229 = .ok (.invokevirtual 28, 3) ∧ decode code 232 = .ok (.aload_n 2, 1) ∧ decode code 238 = .ok (.invokevirtual 31, 3) ∧ decode code 241 = .ok (.if_icmp .eq 390, 3) := ⟨by decide +kernel, by decide +kernel, by decide +kernel, by decide +kernel, by decide +kernel⟩
theorem lc_fault {i : Nat} (hL : L ≤ 384) (hi : i + 6 ≤ L) (hce : ce ≤ 600128) (hsl : sl ≤ 7301098) (hI : Inv wc wm) (k : ∀ wc' wm', Inv wc' wm' → LV g bs L xs ce sl 631 (LsI i) [] wc' wm') : LV g bs L xs ce sl 223 (LsI i) [] wc wm := by
  obtain ⟨d0, d1, d2, d3, d4⟩ := lc_fault_d
  refine l_aload_n (i := 1) (x := 0) d0 rfl (by simp [LsI]) ?_
  refine l_arg 1 hL hi (by decide) ad_224 ?_
  refine l_callC (d' := 1200) (T := cT11) (I := [sx xs (i + 1)]) (st := []) (by decide) hce hsl d1 ml_Lw_28 rfl rfl (by decide) ?_
  refine b_fault  (by decide)  hI (fun x wc' hB => ⟨x, rfl, ?_⟩)
  refine l_aload_n (i := 2) (x := 105) d2 rfl (by simp [LsI]) ?_
  refine l_arg 1 hL hi (by decide) ad_233 ?_
  refine l_callM (d' := 1200) (T := cT13) (I := [sx xs (i + 1)]) (st := [vI x]) (by decide) hce hsl d3 ml_Lw_31 rfl rfl (by show 1 + 0 ≤ 8; decide) ?_
  refine hB _ _ _ (by decide) (fun wm' hI' => ⟨x, rfl, ?_⟩)
  exact l_icmpeq (tgt := 631) d4 (by decide) (fun _ => k wc' wm' hI') (fun z => absurd rfl z)
theorem ad_247 : AD 247 1 := ⟨by decide +kernel, by decide +kernel, by decide +kernel, by decide +kernel, by decide +kernel⟩
theorem ad_256 : AD 256 1 := ⟨by decide +kernel, by decide +kernel, by decide +kernel, by decide +kernel, by decide +kernel⟩
theorem lc_print_d : decode code 246 = .ok (.aload_n 1, 1) ∧ decode code 252 = .ok (.invokevirtual 32, 3) ∧ decode code 255 = .ok (.aload_n 2, 1) ∧ decode code 261 = .ok (.invokevirtual 35, 3) ∧ decode code 264 = .ok (.if_icmp .eq 367, 3) := ⟨by decide +kernel, by decide +kernel, by decide +kernel, by decide +kernel, by decide +kernel⟩
theorem lc_print {i : Nat} (hL : L ≤ 384) (hi : i + 6 ≤ L) (hce : ce ≤ 600128) (hsl : sl ≤ 7301098) (hI : Inv wc wm) (k : ∀ wc' wm', Inv wc' wm' → LV g bs L xs ce sl 631 (LsI i) [] wc' wm') : LV g bs L xs ce sl 246 (LsI i) [] wc wm := by
  obtain ⟨d0, d1, d2, d3, d4⟩ := lc_print_d
  refine l_aload_n (i := 1) (x := 0) d0 rfl (by simp [LsI]) ?_
  refine l_arg 1 hL hi (by decide) ad_247 ?_
  refine l_callC (d' := 1200) (T := cT11) (I := [sx xs (i + 1)]) (st := []) (by decide) hce hsl d1 ml_Lw_32 rfl rfl (by decide) ?_
  refine b_print   hI (fun x wc' hB => ⟨x, rfl, ?_⟩)
  refine l_aload_n (i := 2) (x := 105) d2 rfl (by simp [LsI]) ?_
  refine l_arg 1 hL hi (by decide) ad_256 ?_
  refine l_callM (d' := 1200) (T := cT13) (I := [sx xs (i + 1)]) (st := [vI x]) (by decide) hce hsl d3 ml_Lw_35 rfl rfl (by show 1 + 0 ≤ 8; decide) ?_
  refine hB _ _ _ (by decide) (fun wm' hI' => ⟨x, rfl, ?_⟩)
  exact l_icmpeq (tgt := 631) d4 (by decide) (fun _ => k wc' wm' hI') (fun z => absurd rfl z)
theorem lc_name_d : decode code 269 = .ok (.aload_n 1, 1) ∧ decode code 270 = .ok (.invokevirtual 36, 3) ∧ decode code 273 = .ok (.aload_n 2, 1) ∧ decode code 274 = .ok (.invokevirtual 39, 3) ∧ decode code 277 = .ok (.if_icmp .eq 354, 3) := ⟨by decide +kernel, by decide +kernel, by decide +kernel, by decide +kernel, by decide +kernel⟩
theorem lc_name {i : Nat} (hL : L ≤ 384) (hi : i + 6 ≤ L) (hce : ce ≤ 600128) (hsl : sl ≤ 7301098) (hI : Inv wc wm) (k : ∀ wc' wm', Inv wc' wm' → LV g bs L xs ce sl 631 (LsI i) [] wc' wm') : LV g bs L xs ce sl 269 (LsI i) [] wc wm := by
  obtain ⟨d0, d1, d2, d3, d4⟩ := lc_name_d
  refine l_aload_n (i := 1) (x := 0) d0 rfl (by simp [LsI]) ?_
  refine l_callC (d' := 1200) (T := cT11) (I := []) (st := []) (by decide) hce hsl d1 ml_Lw_36 rfl rfl (by decide) ?_
  refine b_name  (by decide)  hI (fun x wc' hB => ⟨x, rfl, ?_⟩)
  refine l_aload_n (i := 2) (x := 105) d2 rfl (by simp [LsI]) ?_
  refine l_callM (d' := 1200) (T := cT13) (I := []) (st := [vI x]) (by decide) hce hsl d3 ml_Lw_39 rfl rfl (by show 1 + 0 ≤ 8; decide) ?_
  refine hB _ _ _ (by decide) (fun wm' hI' => ⟨x, rfl, ?_⟩)
  exact l_icmpeq (tgt := 631) d4 (by decide) (fun _ => k wc' wm' hI') (fun z => absurd rfl z)
theorem ad_283 : AD 283 1 := ⟨by decide +kernel, by decide +kernel, by decide +kernel, by decide +kernel, by decide +kernel⟩
theorem ad_292 : AD 292 1 := ⟨by decide +kernel, by decide +kernel, by decide +kernel, by decide +kernel, by decide +kernel⟩
theorem lc_count_d : decode code 282 = .ok (.aload_n 1, 1) ∧ decode code 288 = .ok (.invokevirtual 40, 3) ∧ decode code 291 = .ok (.aload_n 2, 1) ∧ decode code 297 = .ok (.invokevirtual 43, 3) ∧ decode code 300 = .ok (.if_icmp .eq 331, 3) := ⟨by decide +kernel, by decide +kernel, by decide +kernel, by decide +kernel, by decide +kernel⟩
theorem lc_count {i : Nat} (hL : L ≤ 384) (hi : i + 6 ≤ L) (hce : ce ≤ 600128) (hsl : sl ≤ 7301098) (hI : Inv wc wm) (k : ∀ wc' wm', Inv wc' wm' → LV g bs L xs ce sl 631 (LsI i) [] wc' wm') : LV g bs L xs ce sl 282 (LsI i) [] wc wm := by
  obtain ⟨d0, d1, d2, d3, d4⟩ := lc_count_d
  refine l_aload_n (i := 1) (x := 0) d0 rfl (by simp [LsI]) ?_
  refine l_arg 1 hL hi (by decide) ad_283 ?_
  refine l_callC (d' := 1200) (T := cT11) (I := [sx xs (i + 1)]) (st := []) (by decide) hce hsl d1 ml_Lw_40 rfl rfl (by decide) ?_
  refine b_count  (by decide)  hI (fun x wc' hB => ⟨x, rfl, ?_⟩)
  refine l_aload_n (i := 2) (x := 105) d2 rfl (by simp [LsI]) ?_
  refine l_arg 1 hL hi (by decide) ad_292 ?_
  refine l_callM (d' := 1200) (T := cT13) (I := [sx xs (i + 1)]) (st := [vI x]) (by decide) hce hsl d3 ml_Lw_43 rfl rfl (by show 1 + 0 ≤ 8; decide) ?_
  refine hB _ _ _ (by decide) (fun wm' hI' => ⟨x, rfl, ?_⟩)
  exact l_icmpeq (tgt := 631) d4 (by decide) (fun _ => k wc' wm' hI') (fun z => absurd rfl z)
theorem ad_306 : AD 306 1 := ⟨by decide +kernel, by decide +kernel, by decide +kernel, by decide +kernel, by decide +kernel⟩
theorem ad_315 : AD 315 1 := ⟨by decide +kernel, by decide +kernel, by decide +kernel, by decide +kernel, by decide +kernel⟩
theorem lc_nodes_d : decode code 305 = .ok (.aload_n 1, 1) ∧ decode code 311 = .ok (.invokevirtual 44, 3) ∧ decode code 314 = .ok (.aload_n 2, 1) ∧ decode code 320 = .ok (.invokevirtual 47, 3) ∧ decode code 323 = .ok (.if_icmp .eq 308, 3) := ⟨by decide +kernel, by decide +kernel, by decide +kernel, by decide +kernel, by decide +kernel⟩
theorem lc_nodes {i : Nat} (hL : L ≤ 384) (hi : i + 6 ≤ L) (hce : ce ≤ 600128) (hsl : sl ≤ 7301098) (hI : Inv wc wm) (k : ∀ wc' wm', Inv wc' wm' → LV g bs L xs ce sl 631 (LsI i) [] wc' wm') : LV g bs L xs ce sl 305 (LsI i) [] wc wm := by
  obtain ⟨d0, d1, d2, d3, d4⟩ := lc_nodes_d
  refine l_aload_n (i := 1) (x := 0) d0 rfl (by simp [LsI]) ?_
  refine l_arg 1 hL hi (by decide) ad_306 ?_
  refine l_callC (d' := 1200) (T := cT11) (I := [sx xs (i + 1)]) (st := []) (by decide) hce hsl d1 ml_Lw_44 rfl rfl (by decide) ?_
  refine b_nodes (i_in (xs (i + 1))) (by decide)  hI (fun x wc' hB => ⟨x, rfl, ?_⟩)
  refine l_aload_n (i := 2) (x := 105) d2 rfl (by simp [LsI]) ?_
  refine l_arg 1 hL hi (by decide) ad_315 ?_
  refine l_callM (d' := 1200) (T := cT13) (I := [sx xs (i + 1)]) (st := [vI x]) (by decide) hce hsl d3 ml_Lw_47 rfl rfl (by show 1 + 0 ≤ 8; decide) ?_
  refine hB _ _ _ (by decide) (fun wm' hI' => ⟨x, rfl, ?_⟩)
  exact l_icmpeq (tgt := 631) d4 (by decide) (fun _ => k wc' wm' hI') (fun z => absurd rfl z)
theorem ad_329 : AD 329 1 := ⟨by decide +kernel, by decide +kernel, by decide +kernel, by decide +kernel, by decide +kernel⟩
theorem ad_334 : AD 334 2 := ⟨by decide +kernel, by decide +kernel, by decide +kernel, by decide +kernel, by decide +kernel⟩
theorem ad_343 : AD 343 1 := ⟨by decide +kernel, by decide +kernel, by decide +kernel, by decide +kernel, by decide +kernel⟩
theorem ad_348 : AD 348 2 := ⟨by decide +kernel, by decide +kernel, by decide +kernel, by decide +kernel, by decide +kernel⟩
theorem lc_arc_d : decode code 328 = .ok (.aload_n 1, 1) ∧ decode code 339 = .ok (.invokevirtual 48, 3) ∧ decode code 342 = .ok (.aload_n 2, 1) ∧ decode code 353 = .ok (.invokevirtual 52, 3) ∧ decode code 356 = .ok (.if_icmp .eq 275, 3) := ⟨by decide +kernel, by decide +kernel, by decide +kernel, by decide +kernel, by decide +kernel⟩
theorem lc_arc {i : Nat} (hL : L ≤ 384) (hi : i + 6 ≤ L) (hce : ce ≤ 600128) (hsl : sl ≤ 7301098) (hI : Inv wc wm) (k : ∀ wc' wm', Inv wc' wm' → LV g bs L xs ce sl 631 (LsI i) [] wc' wm') : LV g bs L xs ce sl 328 (LsI i) [] wc wm := by
  obtain ⟨d0, d1, d2, d3, d4⟩ := lc_arc_d
  refine l_aload_n (i := 1) (x := 0) d0 rfl (by simp [LsI]) ?_
  refine l_arg 1 hL hi (by decide) ad_329 ?_
  refine l_arg 2 hL hi (by decide) ad_334 ?_
  refine l_callC (d' := 1200) (T := cT11) (I := [sx xs (i + 1), sx xs (i + 2)]) (st := []) (by decide) hce hsl d1 ml_Lw_48 rfl rfl (by decide) ?_
  refine b_arc (i_in (xs (i + 1))) (i_in (xs (i + 2))) (by decide)  hI (fun x wc' hB => ⟨x, rfl, ?_⟩)
  refine l_aload_n (i := 2) (x := 105) d2 rfl (by simp [LsI]) ?_
  refine l_arg 1 hL hi (by decide) ad_343 ?_
  refine l_arg 2 hL hi (by decide) ad_348 ?_
  refine l_callM (d' := 1200) (T := cT13) (I := [sx xs (i + 1), sx xs (i + 2)]) (st := [vI x]) (by decide) hce hsl d3 ml_Lw_52 rfl rfl (by show 1 + 0 ≤ 8; decide) ?_
  refine hB _ _ _ (by decide) (fun wm' hI' => ⟨x, rfl, ?_⟩)
  exact l_icmpeq (tgt := 631) d4 (by decide) (fun _ => k wc' wm' hI') (fun z => absurd rfl z)
theorem ad_362 : AD 362 1 := ⟨by decide +kernel, by decide +kernel, by decide +kernel, by decide +kernel, by decide +kernel⟩
theorem ad_367 : AD 367 2 := ⟨by decide +kernel, by decide +kernel, by decide +kernel, by decide +kernel, by decide +kernel⟩
theorem ad_372 : AD 372 3 := ⟨by decide +kernel, by decide +kernel, by decide +kernel, by decide +kernel, by decide +kernel⟩
theorem ad_381 : AD 381 1 := ⟨by decide +kernel, by decide +kernel, by decide +kernel, by decide +kernel, by decide +kernel⟩
theorem ad_386 : AD 386 2 := ⟨by decide +kernel, by decide +kernel, by decide +kernel, by decide +kernel, by decide +kernel⟩
theorem ad_391 : AD 391 3 := ⟨by decide +kernel, by decide +kernel, by decide +kernel, by decide +kernel, by decide +kernel⟩
theorem lc_weight_d : decode code 361 = .ok (.aload_n 1, 1) ∧ decode code 377 = .ok (.invokevirtual 53, 3) ∧ decode code 380 = .ok (.aload_n 2, 1) ∧ decode code 396 = .ok (.invokevirtual 57, 3) ∧ decode code 399 = .ok (.if_icmp .eq 232, 3) := ⟨by decide +kernel, by decide +kernel, by decide +kernel, by decide +kernel, by decide +kernel⟩
theorem lc_weight {i : Nat} (hL : L ≤ 384) (hi : i + 6 ≤ L) (hce : ce ≤ 600128) (hsl : sl ≤ 7301098) (hI : Inv wc wm) (k : ∀ wc' wm', Inv wc' wm' → LV g bs L xs ce sl 631 (LsI i) [] wc' wm') : LV g bs L xs ce sl 361 (LsI i) [] wc wm := by
  obtain ⟨d0, d1, d2, d3, d4⟩ := lc_weight_d
  refine l_aload_n (i := 1) (x := 0) d0 rfl (by simp [LsI]) ?_
  refine l_arg 1 hL hi (by decide) ad_362 ?_
  refine l_arg 2 hL hi (by decide) ad_367 ?_
  refine l_arg 3 hL hi (by decide) ad_372 ?_
  refine l_callC (d' := 1200) (T := cT11) (I := [sx xs (i + 1), sx xs (i + 2), sx xs (i + 3)]) (st := []) (by decide) hce hsl d1 ml_Lw_53 rfl rfl (by decide) ?_
  refine b_weight (i_in (xs (i + 1))) (i_in (xs (i + 2))) (by decide)  hI (fun x wc' hB => ⟨x, rfl, ?_⟩)
  refine l_aload_n (i := 2) (x := 105) d2 rfl (by simp [LsI]) ?_
  refine l_arg 1 hL hi (by decide) ad_381 ?_
  refine l_arg 2 hL hi (by decide) ad_386 ?_
  refine l_arg 3 hL hi (by decide) ad_391 ?_
  refine l_callM (d' := 1200) (T := cT13) (I := [sx xs (i + 1), sx xs (i + 2), sx xs (i + 3)]) (st := [vI x]) (by decide) hce hsl d3 ml_Lw_57 rfl rfl (by show 1 + 0 ≤ 8; decide) ?_
  refine hB _ _ _ (by decide) (fun wm' hI' => ⟨x, rfl, ?_⟩)
  exact l_icmpeq (tgt := 631) d4 (by decide) (fun _ => k wc' wm' hI') (fun z => absurd rfl z)
theorem ad_405 : AD 405 1 := ⟨by decide +kernel, by decide +kernel, by decide +kernel, by decide +kernel, by decide +kernel⟩
theorem ad_414 : AD 414 1 := ⟨by decide +kernel, by decide +kernel, by decide +kernel, by decide +kernel, by decide +kernel⟩
theorem lc_begin_d : decode code 404 = .ok (.aload_n 1, 1) ∧ decode code 410 = .ok (.invokevirtual 58, 3) ∧ decode code 413 = .ok (.aload_n 2, 1) ∧ decode code 419 = .ok (.invokevirtual 61, 3) ∧ decode code 422 = .ok (.if_icmp .eq 209, 3) := ⟨by decide +kernel, by decide +kernel, by decide +kernel, by decide +kernel, by decide +kernel⟩
theorem lc_begin {i : Nat} (hL : L ≤ 384) (hi : i + 6 ≤ L) (hce : ce ≤ 600128) (hsl : sl ≤ 7301098) (hI : Inv wc wm) (k : ∀ wc' wm', Inv wc' wm' → LV g bs L xs ce sl 631 (LsI i) [] wc' wm') : LV g bs L xs ce sl 404 (LsI i) [] wc wm := by
  obtain ⟨d0, d1, d2, d3, d4⟩ := lc_begin_d
  refine l_aload_n (i := 1) (x := 0) d0 rfl (by simp [LsI]) ?_
  refine l_arg 1 hL hi (by decide) ad_405 ?_
  refine l_callC (d' := 1200) (T := cT11) (I := [sx xs (i + 1)]) (st := []) (by decide) hce hsl d1 ml_Lw_58 rfl rfl (by decide) ?_
  refine b_begin  (by decide)  hI (fun x wc' hB => ⟨x, rfl, ?_⟩)
  refine l_aload_n (i := 2) (x := 105) d2 rfl (by simp [LsI]) ?_
  refine l_arg 1 hL hi (by decide) ad_414 ?_
  refine l_callM (d' := 1200) (T := cT13) (I := [sx xs (i + 1)]) (st := [vI x]) (by decide) hce hsl d3 ml_Lw_61 rfl rfl (by show 1 + 0 ≤ 8; decide) ?_
  refine hB _ _ _ (by decide) (fun wm' hI' => ⟨x, rfl, ?_⟩)
  exact l_icmpeq (tgt := 631) d4 (by decide) (fun _ => k wc' wm' hI') (fun z => absurd rfl z)
theorem ad_428 : AD 428 1 := ⟨by decide +kernel, by decide +kernel, by decide +kernel, by decide +kernel, by decide +kernel⟩
theorem ad_437 : AD 437 1 := ⟨by decide +kernel, by decide +kernel, by decide +kernel, by decide +kernel, by decide +kernel⟩
theorem lc_run_d : decode code 427 = .ok (.aload_n 1, 1) ∧ decode code 433 = .ok (.invokevirtual 62, 3) ∧ decode code 436 = .ok (.aload_n 2, 1) ∧ decode code 442 = .ok (.invokevirtual 65, 3) ∧ decode code 445 = .ok (.if_icmp .eq 186, 3) := ⟨by decide +kernel, by decide +kernel, by decide +kernel, by decide +kernel, by decide +kernel⟩
theorem lc_run {i : Nat} (hL : L ≤ 384) (hi : i + 6 ≤ L) (hce : ce ≤ 600128) (hsl : sl ≤ 7301098) (hI : Inv wc wm) (k : ∀ wc' wm', Inv wc' wm' → LV g bs L xs ce sl 631 (LsI i) [] wc' wm') : LV g bs L xs ce sl 427 (LsI i) [] wc wm := by
  obtain ⟨d0, d1, d2, d3, d4⟩ := lc_run_d
  refine l_aload_n (i := 1) (x := 0) d0 rfl (by simp [LsI]) ?_
  refine l_arg 1 hL hi (by decide) ad_428 ?_
  refine l_callC (d' := 1200) (T := cT11) (I := [sx xs (i + 1)]) (st := []) (by decide) hce hsl d1 ml_Lw_62 rfl rfl (by decide) ?_
  refine b_run (i_in (xs (i + 1))) (by decide)  hI (fun x wc' hB => ⟨x, rfl, ?_⟩)
  refine l_aload_n (i := 2) (x := 105) d2 rfl (by simp [LsI]) ?_
  refine l_arg 1 hL hi (by decide) ad_437 ?_
  refine l_callM (d' := 1200) (T := cT13) (I := [sx xs (i + 1)]) (st := [vI x]) (by decide) hce hsl d3 ml_Lw_65 rfl rfl (by show 1 + 0 ≤ 8; decide) ?_
  refine hB _ _ _ (by decide) (fun wm' hI' => ⟨x, rfl, ?_⟩)
  exact l_icmpeq (tgt := 631) d4 (by decide) (fun _ => k wc' wm' hI') (fun z => absurd rfl z)
theorem lc_undo_d : decode code 450 = .ok (.aload_n 1, 1) ∧ decode code 451 = .ok (.invokevirtual 66, 3) ∧ decode code 454 = .ok (.aload_n 2, 1) ∧ decode code 455 = .ok (.invokevirtual 69, 3) ∧ decode code 458 = .ok (.if_icmp .eq 173, 3) := ⟨by decide +kernel, by decide +kernel, by decide +kernel, by decide +kernel, by decide +kernel⟩
theorem lc_undo {i : Nat} (hL : L ≤ 384) (hi : i + 6 ≤ L) (hce : ce ≤ 600128) (hsl : sl ≤ 7301098) (hI : Inv wc wm) (k : ∀ wc' wm', Inv wc' wm' → LV g bs L xs ce sl 631 (LsI i) [] wc' wm') : LV g bs L xs ce sl 450 (LsI i) [] wc wm := by
  obtain ⟨d0, d1, d2, d3, d4⟩ := lc_undo_d
  refine l_aload_n (i := 1) (x := 0) d0 rfl (by simp [LsI]) ?_
  refine l_callC (d' := 1200) (T := cT11) (I := []) (st := []) (by decide) hce hsl d1 ml_Lw_66 rfl rfl (by decide) ?_
  refine b_undo  (by decide)  hI (fun x wc' hB => ⟨x, rfl, ?_⟩)
  refine l_aload_n (i := 2) (x := 105) d2 rfl (by simp [LsI]) ?_
  refine l_callM (d' := 1200) (T := cT13) (I := []) (st := [vI x]) (by decide) hce hsl d3 ml_Lw_69 rfl rfl (by show 1 + 0 ≤ 8; decide) ?_
  refine hB _ _ _ (by decide) (fun wm' hI' => ⟨x, rfl, ?_⟩)
  exact l_icmpeq (tgt := 631) d4 (by decide) (fun _ => k wc' wm' hI') (fun z => absurd rfl z)
theorem ad_464 : AD 464 1 := ⟨by decide +kernel, by decide +kernel, by decide +kernel, by decide +kernel, by decide +kernel⟩
theorem ad_473 : AD 473 1 := ⟨by decide +kernel, by decide +kernel, by decide +kernel, by decide +kernel, by decide +kernel⟩
theorem lc_told_d : decode code 463 = .ok (.aload_n 1, 1) ∧ decode code 469 = .ok (.invokevirtual 70, 3) ∧ decode code 472 = .ok (.aload_n 2, 1) ∧ decode code 478 = .ok (.invokevirtual 73, 3) ∧ decode code 481 = .ok (.if_icmp .eq 150, 3) := ⟨by decide +kernel, by decide +kernel, by decide +kernel, by decide +kernel, by decide +kernel⟩
theorem lc_told {i : Nat} (hL : L ≤ 384) (hi : i + 6 ≤ L) (hce : ce ≤ 600128) (hsl : sl ≤ 7301098) (hI : Inv wc wm) (k : ∀ wc' wm', Inv wc' wm' → LV g bs L xs ce sl 631 (LsI i) [] wc' wm') : LV g bs L xs ce sl 463 (LsI i) [] wc wm := by
  obtain ⟨d0, d1, d2, d3, d4⟩ := lc_told_d
  refine l_aload_n (i := 1) (x := 0) d0 rfl (by simp [LsI]) ?_
  refine l_arg 1 hL hi (by decide) ad_464 ?_
  refine l_callC (d' := 1200) (T := cT11) (I := [sx xs (i + 1)]) (st := []) (by decide) hce hsl d1 ml_Lw_70 rfl rfl (by decide) ?_
  refine b_told  (by decide)  hI (fun x wc' hB => ⟨x, rfl, ?_⟩)
  refine l_aload_n (i := 2) (x := 105) d2 rfl (by simp [LsI]) ?_
  refine l_arg 1 hL hi (by decide) ad_473 ?_
  refine l_callM (d' := 1200) (T := cT13) (I := [sx xs (i + 1)]) (st := [vI x]) (by decide) hce hsl d3 ml_Lw_73 rfl rfl (by show 1 + 0 ≤ 8; decide) ?_
  refine hB _ _ _ (by decide) (fun wm' hI' => ⟨x, rfl, ?_⟩)
  exact l_icmpeq (tgt := 631) d4 (by decide) (fun _ => k wc' wm' hI') (fun z => absurd rfl z)
theorem ad_487 : AD 487 1 := ⟨by decide +kernel, by decide +kernel, by decide +kernel, by decide +kernel, by decide +kernel⟩
theorem ad_492 : AD 492 2 := ⟨by decide +kernel, by decide +kernel, by decide +kernel, by decide +kernel, by decide +kernel⟩
theorem ad_501 : AD 501 1 := ⟨by decide +kernel, by decide +kernel, by decide +kernel, by decide +kernel, by decide +kernel⟩
theorem ad_506 : AD 506 2 := ⟨by decide +kernel, by decide +kernel, by decide +kernel, by decide +kernel, by decide +kernel⟩
theorem lc_state_d : decode code 486 = .ok (.aload_n 1, 1) ∧ decode code 497 = .ok (.invokevirtual 74, 3) ∧ decode code 500 = .ok (.aload_n 2, 1) ∧ decode code 511 = .ok (.invokevirtual 77, 3) ∧ decode code 514 = .ok (.if_icmp .eq 117, 3) := ⟨by decide +kernel, by decide +kernel, by decide +kernel, by decide +kernel, by decide +kernel⟩
theorem lc_state {i : Nat} (hL : L ≤ 384) (hi : i + 6 ≤ L) (hce : ce ≤ 600128) (hsl : sl ≤ 7301098) (hI : Inv wc wm) (k : ∀ wc' wm', Inv wc' wm' → LV g bs L xs ce sl 631 (LsI i) [] wc' wm') : LV g bs L xs ce sl 486 (LsI i) [] wc wm := by
  obtain ⟨d0, d1, d2, d3, d4⟩ := lc_state_d
  refine l_aload_n (i := 1) (x := 0) d0 rfl (by simp [LsI]) ?_
  refine l_arg 1 hL hi (by decide) ad_487 ?_
  refine l_arg 2 hL hi (by decide) ad_492 ?_
  refine l_callC (d' := 1200) (T := cT11) (I := [sx xs (i + 1), sx xs (i + 2)]) (st := []) (by decide) hce hsl d1 ml_Lw_74 rfl rfl (by decide) ?_
  refine b_state (i_in (xs (i + 1))) (i_in (xs (i + 2))) (by decide)  hI (fun x wc' hB => ⟨x, rfl, ?_⟩)
  refine l_aload_n (i := 2) (x := 105) d2 rfl (by simp [LsI]) ?_
  refine l_arg 1 hL hi (by decide) ad_501 ?_
  refine l_arg 2 hL hi (by decide) ad_506 ?_
  refine l_callM (d' := 1200) (T := cT13) (I := [sx xs (i + 1), sx xs (i + 2)]) (st := [vI x]) (by decide) hce hsl d3 ml_Lw_77 rfl rfl (by show 1 + 0 ≤ 8; decide) ?_
  refine hB _ _ _ (by decide) (fun wm' hI' => ⟨x, rfl, ?_⟩)
  exact l_icmpeq (tgt := 631) d4 (by decide) (fun _ => k wc' wm' hI') (fun z => absurd rfl z)
theorem ad_520 : AD 520 1 := ⟨by decide +kernel, by decide +kernel, by decide +kernel, by decide +kernel, by decide +kernel⟩
theorem ad_525 : AD 525 2 := ⟨by decide +kernel, by decide +kernel, by decide +kernel, by decide +kernel, by decide +kernel⟩
theorem ad_534 : AD 534 1 := ⟨by decide +kernel, by decide +kernel, by decide +kernel, by decide +kernel, by decide +kernel⟩
theorem ad_539 : AD 539 2 := ⟨by decide +kernel, by decide +kernel, by decide +kernel, by decide +kernel, by decide +kernel⟩
theorem lc_message_d : decode code 519 = .ok (.aload_n 1, 1) ∧ decode code 530 = .ok (.invokevirtual 78, 3) ∧ decode code 533 = .ok (.aload_n 2, 1) ∧ decode code 544 = .ok (.invokevirtual 81, 3) ∧ decode code 547 = .ok (.if_icmp .eq 84, 3) := ⟨by decide +kernel, by decide +kernel, by decide +kernel, by decide +kernel, by decide +kernel⟩
theorem lc_message {i : Nat} (hL : L ≤ 384) (hi : i + 6 ≤ L) (hce : ce ≤ 600128) (hsl : sl ≤ 7301098) (hI : Inv wc wm) (k : ∀ wc' wm', Inv wc' wm' → LV g bs L xs ce sl 631 (LsI i) [] wc' wm') : LV g bs L xs ce sl 519 (LsI i) [] wc wm := by
  obtain ⟨d0, d1, d2, d3, d4⟩ := lc_message_d
  refine l_aload_n (i := 1) (x := 0) d0 rfl (by simp [LsI]) ?_
  refine l_arg 1 hL hi (by decide) ad_520 ?_
  refine l_arg 2 hL hi (by decide) ad_525 ?_
  refine l_callC (d' := 1200) (T := cT11) (I := [sx xs (i + 1), sx xs (i + 2)]) (st := []) (by decide) hce hsl d1 ml_Lw_78 rfl rfl (by decide) ?_
  refine b_message (i_in (xs (i + 1))) (i_in (xs (i + 2))) (by decide)  hI (fun x wc' hB => ⟨x, rfl, ?_⟩)
  refine l_aload_n (i := 2) (x := 105) d2 rfl (by simp [LsI]) ?_
  refine l_arg 1 hL hi (by decide) ad_534 ?_
  refine l_arg 2 hL hi (by decide) ad_539 ?_
  refine l_callM (d' := 1200) (T := cT13) (I := [sx xs (i + 1), sx xs (i + 2)]) (st := [vI x]) (by decide) hce hsl d3 ml_Lw_81 rfl rfl (by show 1 + 0 ≤ 8; decide) ?_
  refine hB _ _ _ (by decide) (fun wm' hI' => ⟨x, rfl, ?_⟩)
  exact l_icmpeq (tgt := 631) d4 (by decide) (fun _ => k wc' wm' hI') (fun z => absurd rfl z)
theorem ad_553 : AD 553 1 := ⟨by decide +kernel, by decide +kernel, by decide +kernel, by decide +kernel, by decide +kernel⟩
theorem ad_558 : AD 558 2 := ⟨by decide +kernel, by decide +kernel, by decide +kernel, by decide +kernel, by decide +kernel⟩
theorem ad_567 : AD 567 1 := ⟨by decide +kernel, by decide +kernel, by decide +kernel, by decide +kernel, by decide +kernel⟩
theorem ad_572 : AD 572 2 := ⟨by decide +kernel, by decide +kernel, by decide +kernel, by decide +kernel, by decide +kernel⟩
theorem lc_messages_d : decode code 552 = .ok (.aload_n 1, 1) ∧ decode code 563 = .ok (.invokevirtual 82, 3) ∧ decode code 566 = .ok (.aload_n 2, 1) ∧ decode code 577 = .ok (.invokevirtual 85, 3) ∧ decode code 580 = .ok (.if_icmp .eq 51, 3) := ⟨by decide +kernel, by decide +kernel, by decide +kernel, by decide +kernel, by decide +kernel⟩
theorem lc_messages {i : Nat} (hL : L ≤ 384) (hi : i + 6 ≤ L) (hce : ce ≤ 600128) (hsl : sl ≤ 7301098) (hI : Inv wc wm) (k : ∀ wc' wm', Inv wc' wm' → LV g bs L xs ce sl 631 (LsI i) [] wc' wm') : LV g bs L xs ce sl 552 (LsI i) [] wc wm := by
  obtain ⟨d0, d1, d2, d3, d4⟩ := lc_messages_d
  refine l_aload_n (i := 1) (x := 0) d0 rfl (by simp [LsI]) ?_
  refine l_arg 1 hL hi (by decide) ad_553 ?_
  refine l_arg 2 hL hi (by decide) ad_558 ?_
  refine l_callC (d' := 1200) (T := cT11) (I := [sx xs (i + 1), sx xs (i + 2)]) (st := []) (by decide) hce hsl d1 ml_Lw_82 rfl rfl (by decide) ?_
  refine b_messages (i_in (xs (i + 1))) (i_in (xs (i + 2))) (by decide)  hI (fun x wc' hB => ⟨x, rfl, ?_⟩)
  refine l_aload_n (i := 2) (x := 105) d2 rfl (by simp [LsI]) ?_
  refine l_arg 1 hL hi (by decide) ad_567 ?_
  refine l_arg 2 hL hi (by decide) ad_572 ?_
  refine l_callM (d' := 1200) (T := cT13) (I := [sx xs (i + 1), sx xs (i + 2)]) (st := [vI x]) (by decide) hce hsl d3 ml_Lw_85 rfl rfl (by show 1 + 0 ≤ 8; decide) ?_
  refine hB _ _ _ (by decide) (fun wm' hI' => ⟨x, rfl, ?_⟩)
  exact l_icmpeq (tgt := 631) d4 (by decide) (fun _ => k wc' wm' hI') (fun z => absurd rfl z)
theorem ad_586 : AD 586 1 := ⟨by decide +kernel, by decide +kernel, by decide +kernel, by decide +kernel, by decide +kernel⟩
theorem ad_595 : AD 595 1 := ⟨by decide +kernel, by decide +kernel, by decide +kernel, by decide +kernel, by decide +kernel⟩
theorem lc_global_d : decode code 585 = .ok (.aload_n 1, 1) ∧ decode code 591 = .ok (.invokevirtual 86, 3) ∧ decode code 594 = .ok (.aload_n 2, 1) ∧ decode code 600 = .ok (.invokevirtual 89, 3) ∧ decode code 603 = .ok (.if_icmp .eq 28, 3) := ⟨by decide +kernel, by decide +kernel, by decide +kernel, by decide +kernel, by decide +kernel⟩
theorem lc_global {i : Nat} (hL : L ≤ 384) (hi : i + 6 ≤ L) (hce : ce ≤ 600128) (hsl : sl ≤ 7301098) (hI : Inv wc wm) (k : ∀ wc' wm', Inv wc' wm' → LV g bs L xs ce sl 631 (LsI i) [] wc' wm') : LV g bs L xs ce sl 585 (LsI i) [] wc wm := by
  obtain ⟨d0, d1, d2, d3, d4⟩ := lc_global_d
  refine l_aload_n (i := 1) (x := 0) d0 rfl (by simp [LsI]) ?_
  refine l_arg 1 hL hi (by decide) ad_586 ?_
  refine l_callC (d' := 1200) (T := cT11) (I := [sx xs (i + 1)]) (st := []) (by decide) hce hsl d1 ml_Lw_86 rfl rfl (by decide) ?_
  refine b_global (i_in (xs (i + 1))) (by decide)  hI (fun x wc' hB => ⟨x, rfl, ?_⟩)
  refine l_aload_n (i := 2) (x := 105) d2 rfl (by simp [LsI]) ?_
  refine l_arg 1 hL hi (by decide) ad_595 ?_
  refine l_callM (d' := 1200) (T := cT13) (I := [sx xs (i + 1)]) (st := [vI x]) (by decide) hce hsl d3 ml_Lw_89 rfl rfl (by show 1 + 0 ≤ 8; decide) ?_
  refine hB _ _ _ (by decide) (fun wm' hI' => ⟨x, rfl, ?_⟩)
  exact l_icmpeq (tgt := 631) d4 (by decide) (fun _ => k wc' wm' hI') (fun z => absurd rfl z)
theorem ad_609 : AD 609 1 := ⟨by decide +kernel, by decide +kernel, by decide +kernel, by decide +kernel, by decide +kernel⟩
theorem ad_618 : AD 618 1 := ⟨by decide +kernel, by decide +kernel, by decide +kernel, by decide +kernel, by decide +kernel⟩
theorem lc_halted_d : decode code 608 = .ok (.aload_n 1, 1) ∧ decode code 614 = .ok (.invokevirtual 90, 3) ∧ decode code 617 = .ok (.aload_n 2, 1) ∧ decode code 623 = .ok (.invokevirtual 93, 3) ∧ decode code 626 = .ok (.if_icmp .eq 5, 3) := ⟨by decide +kernel, by decide +kernel, by decide +kernel, by decide +kernel, by decide +kernel⟩
theorem lc_halted {i : Nat} (hL : L ≤ 384) (hi : i + 6 ≤ L) (hce : ce ≤ 600128) (hsl : sl ≤ 7301098) (hI : Inv wc wm) (k : ∀ wc' wm', Inv wc' wm' → LV g bs L xs ce sl 631 (LsI i) [] wc' wm') : LV g bs L xs ce sl 608 (LsI i) [] wc wm := by
  obtain ⟨d0, d1, d2, d3, d4⟩ := lc_halted_d
  refine l_aload_n (i := 1) (x := 0) d0 rfl (by simp [LsI]) ?_
  refine l_arg 1 hL hi (by decide) ad_609 ?_
  refine l_callC (d' := 1200) (T := cT11) (I := [sx xs (i + 1)]) (st := []) (by decide) hce hsl d1 ml_Lw_90 rfl rfl (by decide) ?_
  refine b_halted (i_in (xs (i + 1))) (by decide)  hI (fun x wc' hB => ⟨x, rfl, ?_⟩)
  refine l_aload_n (i := 2) (x := 105) d2 rfl (by simp [LsI]) ?_
  refine l_arg 1 hL hi (by decide) ad_618 ?_
  refine l_callM (d' := 1200) (T := cT13) (I := [sx xs (i + 1)]) (st := [vI x]) (by decide) hce hsl d3 ml_Lw_93 rfl rfl (by show 1 + 0 ≤ 8; decide) ?_
  refine hB _ _ _ (by decide) (fun wm' hI' => ⟨x, rfl, ?_⟩)
  exact l_icmpeq (tgt := 631) d4 (by decide) (fun _ => k wc' wm' hI') (fun z => absurd rfl z)
theorem lh_d : decode code 18 = .ok (.iload_n 3, 1) ∧ decode code 19 = .ok (.aload_n 0, 1) ∧ decode code 20 = .ok (.arraylength, 1) ∧ decode code 21 = .ok (.bipush 6, 2) ∧ decode code 23 = .ok (.isub, 1) ∧ decode code 24 = .ok (.if_icmp .gt 613, 3) ∧ decode code 27 = .ok (.aload_n 0, 1) ∧ decode code 28 = .ok (.iload_n 3, 1) ∧ decode code 29 = .ok (.iaload, 1) ∧ decode code 30 = .ok (.bipush 31, 2) ∧ decode code 32 = .ok (.iand, 1) := ⟨by decide +kernel, by decide +kernel, by decide +kernel, by decide +kernel, by decide +kernel, by decide +kernel, by decide +kernel, by decide +kernel, by decide +kernel, by decide +kernel, by decide +kernel⟩
theorem lt_d : decode code 33 = .ok (.tableswitch 598 0 18 #[91, 154, 177, 190, 213, 236, 249, 272, 295, 328, 371, 394, 417, 430, 453, 486, 519, 552, 575], 91) := by decide +kernel
theorem le_d : decode code 631 = .ok (.iinc 3 6, 3) ∧ decode code 634 = .ok (.goto (-616), 3) ∧ decode code 637 = .ok (.iconst 1, 1) ∧ decode code 638 = .ok (.ireturn, 1) := ⟨by decide +kernel, by decide +kernel, by decide +kernel, by decide +kernel⟩
theorem law_loop (hL : L ≤ 384) (hce : ce ≤ 600128) (hsl : sl ≤ 7301098) : ∀ (f i : Nat) (wc wm : Wd), L ≤ i + 6 * f → i ≤ L → Inv wc wm → LV g bs L xs ce sl 18 (LsI i) [] wc wm := by
  intro f
  induction f with
  | zero =>
    intro i wc wm hf hi hI
    obtain ⟨d0, d1, d2, d3, d4, d5, d6, d7, d8, d9, d10⟩ := lh_d
    obtain ⟨e0, e1, e2, e3⟩ := le_d
    refine l_iload_n (i := 3) (x := (i : Int)) d0 rfl (by simp [LsI]) ?_
    refine l_aload_n (i := 0) (x := 900) d1 rfl (by simp [LsI]) ?_
    refine l_slen hL d2 ?_
    refine l_bipush d3 (by decide) (by decide) ?_
    refine l_isub d4 ?_
    rw [wr_id (by unfold inI; omega)]
    refine l_icmpgt (tgt := 637) d5 (by decide) (fun z => ?_) (fun z => absurd (show (L : Int) - 6 < (i : Int) by omega) z)
    refine l_iconst e2 (by decide) ?_
    exact l_end hce hsl e3
  | succ f ih =>
    intro i wc wm hf hi hI
    obtain ⟨d0, d1, d2, d3, d4, d5, d6, d7, d8, d9, d10⟩ := lh_d
    obtain ⟨e0, e1, e2, e3⟩ := le_d
    refine l_iload_n (i := 3) (x := (i : Int)) d0 rfl (by simp [LsI]) ?_
    refine l_aload_n (i := 0) (x := 900) d1 rfl (by simp [LsI]) ?_
    refine l_slen hL d2 ?_
    refine l_bipush d3 (by decide) (by decide) ?_
    refine l_isub d4 ?_
    rw [wr_id (by unfold inI; omega)]
    refine l_icmpgt (tgt := 637) d5 (by decide) (fun z => ?_) (fun z => ?_)
    · refine l_iconst e2 (by decide) ?_
      exact l_end hce hsl e3
    · have hi6 : i + 6 ≤ L := by omega
      have go : ∀ wc' wm', Inv wc' wm' → LV g bs L xs ce sl 631 (LsI i) [] wc' wm' := by
        intro wc' wm' hI'
        refine l_iinc (x := (i : Int)) (ls' := LsI (i + 6)) e0 (by simp [LsI]) (by decide) ?_ ?_
        · rw [wr_id (by unfold inI; omega)]
          rfl
        · exact l_goto (tgt := 18) e1 (by decide) (ih (i + 6) wc' wm' (by omega) (by omega) hI')
      refine l_aload_n (i := 0) (x := 900) d6 rfl (by simp [LsI]) ?_
      refine l_iload_n (i := 3) (x := (i : Int)) d7 rfl (by simp [LsI]) ?_
      refine l_sld (x := sx xs i) d8 (by omega) rfl ?_
      refine l_bipush d9 (by decide) (by decide) ?_
      refine l_iand d10 ?_
      refine l_table (tgd := 631) (tgs := [124, 187, 210, 223, 246, 269, 282, 305, 328, 361, 404, 427, 450, 463, 486, 519, 552, 585, 608]) lt_d (by decide) (by decide) (by decide) (fun _ => go wc wm hI) ?_
      exact ⟨fun _ => lc_feed hL hi6 hce hsl hI go, fun _ => lc_end hL hi6 hce hsl hI go, fun _ => lc_program hL hi6 hce hsl hI go, fun _ => lc_fault hL hi6 hce hsl hI go, fun _ => lc_print hL hi6 hce hsl hI go, fun _ => lc_name hL hi6 hce hsl hI go, fun _ => lc_count hL hi6 hce hsl hI go, fun _ => lc_nodes hL hi6 hce hsl hI go, fun _ => lc_arc hL hi6 hce hsl hI go, fun _ => lc_weight hL hi6 hce hsl hI go, fun _ => lc_begin hL hi6 hce hsl hI go, fun _ => lc_run hL hi6 hce hsl hI go, fun _ => lc_undo hL hi6 hce hsl hI go, fun _ => lc_told hL hi6 hce hsl hI go, fun _ => lc_state hL hi6 hce hsl hI go, fun _ => lc_message hL hi6 hce hsl hI go, fun _ => lc_messages hL hi6 hce hsl hI go, fun _ => lc_global hL hi6 hce hsl hI go, fun _ => lc_halted hL hi6 hce hsl hI go, trivial⟩
end LawLoop
