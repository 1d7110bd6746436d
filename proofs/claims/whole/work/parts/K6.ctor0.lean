/-! ===== the constructors: how many places the first cells have; kinds of fields; entries ===== -/
def szLC : List Nat := [0, 7, 4007, 4014, 8014, 9016, 10018, 11020, 12022, 12033, 12041, 12045, 12049, 17049, 17056, 17084, 17112, 17140, 17168, 17173, 17179, 18203, 19227, 20251, 21275, 21282, 21288, 21297, 22299, 23301, 24303, 25305, 25318, 25438, 25558, 26038, 26078, 26118, 26158, 26198, 26318, 26358, 26398, 26518, 26531, 26539, 26547, 26867, 26907, 27067, 27227, 27231, 27235, 27243, 27563, 27603, 27763, 27923, 27927, 27931, 27939, 28259, 28299, 28459, 28619, 28623, 28627, 28635, 28955, 28995, 29155, 29315, 29319, 29323, 29331, 29651, 29691, 29851, 30011, 30015, 30019, 30027, 30347, 30387, 30547, 30707, 30711, 30715, 30723, 31043, 31083, 31243, 31403, 31407, 31411, 31419, 31739, 31779, 31939, 32099, 32103, 32107, 32125, 32189, 32197, 32213]
def szC (k : Nat) : Nat := szLC.getD k 0
def szLM : List Nat := [0, 93, 101, 4121, 8141, 12163, 16185, 20207, 24229, 24262, 24285, 24315, 24345, 24375, 24405, 24435, 24465, 24470, 24600, 24730, 24860, 24990, 25120, 25250, 25380, 25510, 25640, 27640, 29640, 31640, 33640, 35640, 37640, 39640, 41640, 41770, 41900, 41930, 53930, 54050, 54170, 54650, 54970, 55010, 55170, 55330, 55334, 55338, 55498, 55658, 55662, 55666, 59866, 60566, 60696]
def szM (k : Nat) : Nat := szLM.getD k 0
set_option maxRecDepth 20000 in
theorem ft_0 : ∀ j, j < 6 → okT (fty 0 j) = true := by decide +kernel
set_option maxRecDepth 20000 in
theorem ft_1 : ∀ j, j < 6 → okT (fty 1 j) = true := by decide +kernel
set_option maxRecDepth 20000 in
theorem ft_2 : ∀ j, j < 9 → okT (fty 2 j) = true := by decide +kernel
set_option maxRecDepth 20000 in
theorem ft_3 : ∀ j, j < 13 → okT (fty 3 j) = true := by decide +kernel
set_option maxRecDepth 20000 in
theorem ft_4 : ∀ j, j < 7 → okT (fty 4 j) = true := by decide +kernel
set_option maxRecDepth 20000 in
theorem ft_5 : ∀ j, j < 13 → okT (fty 5 j) = true := by decide +kernel
set_option maxRecDepth 20000 in
theorem ft_6 : ∀ j, j < 8 → okT (fty 6 j) = true := by decide +kernel
set_option maxRecDepth 20000 in
theorem ft_7 : ∀ j, j < 11 → okT (fty 7 j) = true := by decide +kernel
set_option maxRecDepth 20000 in
theorem ft_8 : ∀ j, j < 7 → okT (fty 8 j) = true := by decide +kernel
set_option maxRecDepth 20000 in
theorem ft_9 : ∀ j, j < 7 → okT (fty 9 j) = true := by decide +kernel
set_option maxRecDepth 20000 in
theorem ft_10 : ∀ j, j < 18 → okT (fty 10 j) = true := by decide +kernel
set_option maxRecDepth 20000 in
theorem ft_11 : ∀ j, j < 7 → okT (fty 11 j) = true := by decide +kernel
set_option maxRecDepth 20000 in
theorem ft_12 : ∀ j, j < 2 → okT (fty 12 j) = true := by decide +kernel
set_option maxRecDepth 20000 in
theorem ft_13 : ∀ j, j < 93 → okT (fty 13 j) = true := by decide +kernel
def rfLG : List (Nat × Nat × Nat) := [(31, 2, 32), (31, 3, 33), (31, 4, 34), (31, 5, 35), (31, 6, 36), (31, 7, 37), (31, 8, 38), (31, 9, 39), (31, 10, 40), (31, 11, 41), (31, 12, 42)]
def LG : Ly := (LC.ly, rfF rfLG, 43)
theorem cG_31 : 31 < LG.nn ∧ LG.ly 31 = (3, 13) := by decide
theorem rG_31_4 : LG.rf 31 4 = some 34 := by decide
theorem rG_31_5 : LG.rf 31 5 = some 35 := by decide
theorem rG_31_6 : LG.rf 31 6 = some 36 := by decide
theorem rG_31_7 : LG.rf 31 7 = some 37 := by decide
theorem rG_31_10 : LG.rf 31 10 = some 40 := by decide
set_option maxHeartbeats 4000000 in
theorem s_LG_clear {g : Mg} {d : Nat} {K : Ou → Wd → Prop} {w : Wd} {p1 : Int} (h : Cal g LG jAr_fill d [vA 34, vI 0] (up (up w 31 0 p1) 31 1 0) (fun o w1 => rV o (Cal g LG jAr_fill d [vA 35, vI 0] w1 (fun o w2 => rV o (Cal g LG jAr_fill d [vA 36, vI 0] w2 (fun o w3 => rV o (Cal g LG jAr_fill d [vA 37, vI (-1)] w3 (fun o w4 => rV o (Cal g LG jAr_fill d [vA 40, vI (-1)] w4 (fun o w5 => rV o (K (.inl none) w5))))))))))) : V g LG jGr_clear (d + 1) K 0 [(0, vA 31), (1, vI p1)] [] w := by
  refine v_aload_n (pc := 0) d_Gr_clear_0 rfl (.head _) ?_
  refine v_iload_n (pc := 1) d_Gr_clear_1 rfl (.tail _ (.head _)) ?_
  refine v_puti (pc := 2) d_Gr_clear_2 fp_Gr_47 cG_31.1 cG_31.2 (by decide) rfl ?_
  refine v_aload_n (pc := 5) d_Gr_clear_5 rfl (.head _) ?_
  refine v_iconst (pc := 6) d_Gr_clear_6 (by decide) ?_
  refine v_puti (pc := 7) d_Gr_clear_7 fp_Gr_51 cG_31.1 cG_31.2 (by decide) rfl ?_
  refine v_aload_n (pc := 10) d_Gr_clear_10 rfl (.head _) ?_
  refine v_getr (C := "") (pc := 11) (r := 34) d_Gr_clear_11 fl_Gr_16 cG_31.1 cG_31.2 (Or.inr ⟨_, rfl⟩) rG_31_4 ?_
  refine v_iconst (pc := 14) d_Gr_clear_14 (by decide) ?_
  refine v_callS (pc := 15) (J' := jAr_fill) (d' := d) (As := [vA 34, vI 0]) d_Gr_clear_15 ml_Gr_54 rfl (Nat.le_of_ble_eq_true rfl) (Nat.le_refl _) rfl (Cal.weak h (fun o w1 h => ?_))
  rcases rV_of h with ⟨rfl, h⟩
  refine v_aload_n (pc := 18) d_Gr_clear_18 rfl (.head _) ?_
  refine v_getr (C := "") (pc := 19) (r := 35) d_Gr_clear_19 fl_Gr_19 cG_31.1 cG_31.2 (Or.inr ⟨_, rfl⟩) rG_31_5 ?_
  refine v_iconst (pc := 22) d_Gr_clear_22 (by decide) ?_
  refine v_callS (pc := 23) (J' := jAr_fill) (d' := d) (As := [vA 35, vI 0]) d_Gr_clear_23 ml_Gr_54 rfl (Nat.le_of_ble_eq_true rfl) (Nat.le_refl _) rfl (Cal.weak h (fun o w2 h => ?_))
  rcases rV_of h with ⟨rfl, h⟩
  refine v_aload_n (pc := 26) d_Gr_clear_26 rfl (.head _) ?_
  refine v_getr (C := "") (pc := 27) (r := 36) d_Gr_clear_27 fl_Gr_22 cG_31.1 cG_31.2 (Or.inr ⟨_, rfl⟩) rG_31_6 ?_
  refine v_iconst (pc := 30) d_Gr_clear_30 (by decide) ?_
  refine v_callS (pc := 31) (J' := jAr_fill) (d' := d) (As := [vA 36, vI 0]) d_Gr_clear_31 ml_Gr_54 rfl (Nat.le_of_ble_eq_true rfl) (Nat.le_refl _) rfl (Cal.weak h (fun o w3 h => ?_))
  rcases rV_of h with ⟨rfl, h⟩
  refine v_aload_n (pc := 34) d_Gr_clear_34 rfl (.head _) ?_
  refine v_getr (C := "") (pc := 35) (r := 37) d_Gr_clear_35 fl_Gr_25 cG_31.1 cG_31.2 (Or.inr ⟨_, rfl⟩) rG_31_7 ?_
  refine v_iconst (pc := 38) d_Gr_clear_38 (by decide) ?_
  refine v_callS (pc := 39) (J' := jAr_fill) (d' := d) (As := [vA 37, vI (-1)]) d_Gr_clear_39 ml_Gr_54 rfl (Nat.le_of_ble_eq_true rfl) (Nat.le_refl _) rfl (Cal.weak h (fun o w4 h => ?_))
  rcases rV_of h with ⟨rfl, h⟩
  refine v_aload_n (pc := 42) d_Gr_clear_42 rfl (.head _) ?_
  refine v_getr (C := "") (pc := 43) (r := 40) d_Gr_clear_43 fl_Gr_34 cG_31.1 cG_31.2 (Or.inr ⟨_, rfl⟩) rG_31_10 ?_
  refine v_iconst (pc := 46) d_Gr_clear_46 (by decide) ?_
  refine v_callS (pc := 47) (J' := jAr_fill) (d' := d) (As := [vA 40, vI (-1)]) d_Gr_clear_47 ml_Gr_54 rfl (Nat.le_of_ble_eq_true rfl) (Nat.le_refl _) rfl (Cal.weak h (fun o w5 h => ?_))
  rcases rV_of h with ⟨rfl, h⟩
  exact v_vret (pc := 50) d_Gr_clear_50 rfl h
theorem rfF_mem {o k r : Nat} : ∀ (l : List (Nat × Nat × Nat)), rfF l o k = some r → (o, k, r) ∈ l
  | [], h => by cases h
  | q :: t, h => by
    unfold rfF at h
    by_cases e : q.1 = o ∧ q.2.1 = k
    · rw [if_pos e] at h
      obtain ⟨a, b, c⟩ := q
      obtain ⟨rfl, rfl⟩ := e
      cases h
      exact List.mem_cons_self
    · rw [if_neg e] at h
      exact List.mem_cons_of_mem _ (rfF_mem t h)
theorem rf_LG (w : Wd) (h : w 31 2 = ((32 : Nat) : Int) ∧ w 31 3 = ((33 : Nat) : Int) ∧ w 31 4 = ((34 : Nat) : Int) ∧ w 31 5 = ((35 : Nat) : Int) ∧ w 31 6 = ((36 : Nat) : Int) ∧ w 31 7 = ((37 : Nat) : Int) ∧ w 31 8 = ((38 : Nat) : Int) ∧ w 31 9 = ((39 : Nat) : Int) ∧ w 31 10 = ((40 : Nat) : Int) ∧ w 31 11 = ((41 : Nat) : Int) ∧ w 31 12 = ((42 : Nat) : Int)) : ∀ o j r, LG.rf o j = some r → w o j = r := by
  intro o j r hr
  have hm := rfF_mem rfLG hr
  obtain ⟨a2, a3, a4, a5, a6, a7, a8, a9, a10, a11, a12⟩ := h
  unfold rfLG at hm
  simp only [List.mem_cons, Prod.mk.injEq, List.not_mem_nil, or_false] at hm
  rcases hm with ⟨rfl, rfl, rfl⟩ | ⟨rfl, rfl, rfl⟩ | ⟨rfl, rfl, rfl⟩ | ⟨rfl, rfl, rfl⟩ | ⟨rfl, rfl, rfl⟩ | ⟨rfl, rfl, rfl⟩ | ⟨rfl, rfl, rfl⟩ | ⟨rfl, rfl, rfl⟩ | ⟨rfl, rfl, rfl⟩ | ⟨rfl, rfl, rfl⟩ | ⟨rfl, rfl, rfl⟩ <;> assumption
theorem aG {o : Nat} (k : Nat) (h : o ≠ 31) : LG.rf o k = none := rfF_none k _ (by simp [rfLG]; omega)
theorem cl_LG {g : Mg} {w : Wd} {K : Ou → Wd → Prop} (h : K (.inl none) (fillw (fillw (fillw (fillw (fillw (up (up w 31 0 1) 31 1 0) 34 480 0) 35 40 0) 36 40 0) 37 40 (-1)) 40 40 (-1))) : Cal g LG jGr_clear 5 [vA 31, vI 1] w K :=
  Cal.ofV (by decide) rfl (Nat.le_of_ble_eq_true rfl) (s_LG_clear (d := 4) (sp_fill (by decide) rfl (fun k => aG k (by decide)) (by decide) (sp_fill (by decide) rfl (fun k => aG k (by decide)) (by decide) (sp_fill (by decide) rfl (fun k => aG k (by decide)) (by decide) (sp_fill (by decide) rfl (fun k => aG k (by decide)) (by decide) (sp_fill (by decide) rfl (fun k => aG k (by decide)) (by decide) h))))))
set_option maxRecDepth 20000 in
theorem iok_Te_init : IOK jTe_init 0 := ⟨mt_1 37 rfl rfl, rfl, rfl, rfl, mt_1 38 rfl rfl, mt_1 2 rfl rfl, by decide +kernel, by decide +kernel, by decide⟩
set_option maxRecDepth 20000 in
theorem iok_Lo_init : IOK jLo_init 1 := ⟨mt_1 86 rfl rfl, rfl, rfl, rfl, mt_1 87 rfl rfl, mt_1 4 rfl rfl, by decide +kernel, by decide +kernel, by decide⟩
set_option maxRecDepth 20000 in
theorem iok_Co_init : IOK jCo_init 0 := ⟨mt_1 116 rfl rfl, rfl, rfl, rfl, mt_1 117 rfl rfl, mt_1 5 rfl rfl, by decide +kernel, by decide +kernel, by decide⟩
set_option maxRecDepth 20000 in
theorem iok_Pr_init : IOK jPr_init 1 := ⟨mt_1 80 rfl rfl, rfl, rfl, rfl, mt_1 81 rfl rfl, mt_1 3 rfl rfl, by decide +kernel, by decide +kernel, by decide⟩
set_option maxRecDepth 20000 in
theorem iok_Cu_init : IOK jCu_init 1 := ⟨mt_1 208 rfl rfl, rfl, rfl, rfl, mt_1 209 rfl rfl, mt_1 7 rfl rfl, by decide +kernel, by decide +kernel, by decide⟩
set_option maxRecDepth 20000 in
theorem iok_Ex_init : IOK jEx_init 3 := ⟨mt_1 233 rfl rfl, rfl, rfl, rfl, mt_1 234 rfl rfl, mt_1 8 rfl rfl, by decide +kernel, by decide +kernel, by decide⟩
set_option maxRecDepth 20000 in
theorem iok_Re_init : IOK jRe_init 2 := ⟨mt_1 202 rfl rfl, rfl, rfl, rfl, mt_1 203 rfl rfl, mt_1 6 rfl rfl, by decide +kernel, by decide +kernel, by decide⟩
set_option maxRecDepth 20000 in
theorem iok_Gr_init : IOK jGr_init 0 := ⟨mt_2 51 rfl rfl, rfl, rfl, rfl, mt_2 52 rfl rfl, mt_1 9 rfl rfl, by decide +kernel, by decide +kernel, by decide⟩
set_option maxRecDepth 20000 in
theorem iok_Mo_init : IOK jMo_init 0 := ⟨mt_2 117 rfl rfl, rfl, rfl, rfl, mt_2 118 rfl rfl, mt_1 12 rfl rfl, by decide +kernel, by decide +kernel, by decide⟩
set_option maxRecDepth 20000 in
theorem iok_Wo_init : IOK jWo_init 3 := ⟨mt_2 163 rfl rfl, rfl, rfl, rfl, mt_2 164 rfl rfl, mt_1 13 rfl rfl, by decide +kernel, by decide +kernel, by decide⟩
set_option maxRecDepth 20000 in
theorem iok_Ma_init : IOK jMa_init 2 := ⟨mt_2 110 rfl rfl, rfl, rfl, rfl, mt_2 111 rfl rfl, mt_1 11 rfl rfl, by decide +kernel, by decide +kernel, by decide⟩
set_option maxRecDepth 20000 in
theorem iok_VL_init : IOK jVL_init 0 := ⟨mt_1 29 rfl rfl, rfl, rfl, rfl, mt_1 30 rfl rfl, mt_1 1 rfl rfl, by decide +kernel, by decide +kernel, by decide⟩
set_option maxRecDepth 20000 in
theorem iok_Md_init : IOK jMd_init 0 := ⟨mt_6 73 rfl rfl, rfl, rfl, rfl, mt_6 74 rfl rfl, mt_1 14 rfl rfl, by decide +kernel, by decide +kernel, by decide⟩
