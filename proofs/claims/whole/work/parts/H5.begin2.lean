/-! ===== begin() in both ===== -/
section Begin2
variable {g gm : Mg} {d n : Nat} {K : Ou → Wd → Prop} {w wc wc' wm wm' : Wd} {p : Int} {T : Nat → Int} {L m : Nat} {D : DE} {a0 a1 : Tr} {s1 l1 k kq na q : Nat}
theorem nk_ba {E : List En} {w' : Wd} (hE : ENb E) (hK : WyK E w) (h : BaC q w w') : NK E q w' := by
  obtain ⟨-, -, -, -, -, g6, g7⟩ := h
  refine ⟨fun i hi => by rw [(g6 i hi).1]; exact nthC_in _, fun k hk => by rw [(g7 k hk).1]; exact nthC_in _, fun e he hk2 => ⟨fun hs u hu => ?_, fun hs => ?_⟩⟩
  · have h4 := enb_4 hE he (Or.inl hs)
    rw [(g6 _ (idx_160 hu h4)).1, mod4_eq h4]
    rcases (hK e he).1 hs hk2 with z | z
    · rw [z]; exact Or.inr rfl
    · rw [z]; exact Or.inl rfl
  · have h4 := enb_4 hE he (Or.inr hs)
    rw [(g7 _ h4).1]
    rcases (hK e he).2 hs hk2 with z | z
    · rw [z]; exact Or.inr rfl
    · rw [z]; exact Or.inl rfl
/-- the relation as a RUN begins -/
theorem mr_ba {w' wm' : Wd} (hP : PgK T L (m + 1) D a0 a1 w) (hV : VS w D) (hD : DOK D) (hn : n ≤ 40) (hC : BaC q w w') (hM : BaM D n (cntE 1 (enD D)) wm wm') : MR D (enD D) n q w' (svF wm') := by
  obtain ⟨p1, p4, ⟨c4, c1, c2, c3⟩, p6, p7, -⟩ := hP
  have hNK := nk_ba p4.1 p7 hC
  obtain ⟨f1, f2, f3, f4, f5, f6, f7⟩ := hC
  obtain ⟨m1, m2, m3, m4, m5⟩ := hM
  have h9 : ∀ k, k < cntE 1 (enD D) → w 9 k = wyD D 1 k := by
    intro k hk
    obtain ⟨e, h1, h2, h3, h4⟩ := wy_ex p4.2.2 hk
    obtain ⟨-, -, v3⟩ := hV e h1
    rw [h2, h3] at v3
    rw [h4, if_pos rfl]
    exact v3 (by decide)
  refine ⟨fun v k hv hk => ?_, fun v hv => ?_, fun i hi => ?_, fun k hk => ?_, fun v k hv hk => ?_, fun k hk => ?_, ?_, hNK, fun e he hk2 hs v hv => ?_⟩
  · rw [f4 v k (by omega) (by omega), svF_0 (by omega), m2 v k hv hk, h9 k hk]
  · rw [f5 v (by omega), svF_1 (by omega), if_pos (m3 v hv)]
    exact ⟨rfl, Or.inl rfl⟩
  · rw [(f6 i hi).2, svF_2 hi, (m4 i hi).1]
    exact ⟨rfl, Int.le_refl _, by decide⟩
  · rw [(f7 k hk).2, svF_4 hk, (m5 k hk).1]
    exact ⟨rfl, Int.le_refl _, by decide⟩
  · have h4 : k < 4 := Nat.lt_of_lt_of_le hk c2
    have h160 := idx_160 hv h4
    rw [(f6 _ h160).1, svF_2 h160, (m4 _ h160).1, if_pos (Int.le_refl _), mod4_eq h4, nth_eq, p6.1 k hk]
  · have h4 : k < 4 := Nat.lt_of_lt_of_le hk c3
    rw [(f7 _ h4).1, svF_4 h4, (m5 _ h4).1, if_pos (Int.le_refl _), nth_eq, p6.2.1 k hk]
  · rw [f3]
    exact (smI_0 _ (fun i hi => by
      show svF wm' (360 + i) = 0
      rw [svF_2 (by omega), (m4 i (by omega)).1])).symm
  · obtain ⟨x, hx, rfl⟩ := List.mem_map.mp he
    have h8 : x.1.2.2.1 < 8 := by
      obtain ⟨-, h2⟩ := p4.1 x.1 he
      rw [hs] at h2
      have h2 : (x.1.2.2.1 : Int) < 8 := h2
      omega
    obtain ⟨-, -, v3⟩ := hV x hx
    rw [hs] at v3
    have v3 : w 9 x.1.2.2.1 = x.2 := v3 (by decide)
    rw [f4 v _ (by omega) h8, v3]
    exact ((hD x hx).2 hs).2 hk2
theorem b_begin (hd : 6 ≤ d) (hI : Inv wc wm) (h : ∀ x wc', Bo jMd_begin [vA 0, vI p] wm wc' x → K (.inl (some (vI x))) wc') : Cal g LC jVL_begin d [vA 0, vI p] wc K := by
  obtain ⟨d, rfl⟩ : ∃ d', d = d' + 2 := ⟨d - 2, by omega⟩
  obtain ⟨hBa, n, na, hGr, hP⟩ := id hI
  rcases hP with ⟨⟨b1, b2, b3⟩, -⟩ | ⟨T, L, m, D, a0, a1, s1, l1, hG, -⟩
  · refine Cal.ofV (by decide) rfl (Nat.le_of_ble_eq_true rfl) (s_VL_begin ⟨fun z => absurd b1 z, fun _ => h _ _ (Bo.same hI (fun gm dM Kx hdM hK => ?_))⟩)
    obtain ⟨dM, rfl⟩ : ∃ d', dM = d' + 1 := ⟨dM - 1, by omega⟩
    exact Cal.ofV (by decide) rfl (Nat.le_of_ble_eq_true rfl) (s_Md_begin ⟨fun z => absurd b2 z, fun _ => hK⟩)
  · obtain ⟨d1, d2, d3, d4, d5, d6, d7, d9, d10, d11, d12, d13⟩ := id hG
    obtain ⟨⟨c4, c1, c2, c3⟩, -⟩ := d1.2.2
    have g4 : n ≤ 40 := hGr.1.2.2.2.1
    refine Cal.ofV (by decide) rfl (Nat.le_of_ble_eq_true rfl) (s_VL_begin ⟨fun _ => Cal.ofV (by decide) rfl (Nat.le_of_ble_eq_true rfl) (s_Ma_setOut ?_), fun z => absurd z (by rw [d3]; decide)⟩)
    obtain ⟨w1, hw1⟩ : ∃ w1, w1 = up (up (up (up (up (up (up (up (up wc 43 11 1) 43 5 p) 43 4 0) 43 12 0) 43 6 0) 43 7 0) 43 8 0) 43 9 0) 43 10 0 := ⟨_, rfl⟩
    rw [← hw1]
    have o1 : ∀ o, o ≠ 43 → w1 o = wc o := fun o ho => by rw [hw1, up_o ho, up_o ho, up_o ho, up_o ho, up_o ho, up_o ho, up_o ho, up_o ho, up_o ho]
    have e4 : w1 43 4 = ((0 : Nat) : Int) := by rw [hw1]; rfl
    have e5 : w1 43 5 = p := by rw [hw1]; rfl
    have e6 : w1 43 6 = 0 := by rw [hw1]; rfl
    have e7 : w1 43 7 = 0 := by rw [hw1]; rfl
    have e8 : w1 43 8 = 0 := by rw [hw1]; rfl
    have e9 : w1 43 9 = 0 := by rw [hw1]; rfl
    have e10 : w1 43 10 = 0 := by rw [hw1]; rfl
    have e11 : w1 43 11 = 1 := by rw [hw1]; rfl
    have e12 : w1 43 12 = 0 := by rw [hw1]; rfl
    clear hw1
    refine sp_nowB (k := 0) (by decide) e4 ⟨moB_mo, sp_beginAs moB_mo (by omega) (fun w2 hC => h 1 w2 (fun gm dM Kx hdM hK => ?_))⟩
    obtain ⟨dM, rfl⟩ : ∃ d', dM = d' + 1 := ⟨dM - 1, by omega⟩
    refine Cal.ofV (by decide) rfl (Nat.le_of_ble_eq_true rfl) (s_Md_begin ⟨fun _ => ?_, fun z => absurd z (by rw [d4]; decide)⟩)
    obtain ⟨w3, hw3⟩ : ∃ w3, w3 = up (up (up (up (up (up (up (up (up (up wm 0 0 0) 0 64 1) 0 65 p) 0 66 0) 0 78 0) 0 80 0) 0 81 0) 0 82 0) 0 83 0) 0 85 0 := ⟨_, rfl⟩
    rw [← hw3]
    have m1 : ∀ o, o ≠ 0 → w3 o = wm o := fun o ho => by rw [hw3, up_o ho, up_o ho, up_o ho, up_o ho, up_o ho, up_o ho, up_o ho, up_o ho, up_o ho, up_o ho]
    have m0 : ∀ b, b ≠ 0 → b < 64 → w3 0 b = wm 0 b := fun b h1 h2 => by rw [hw3, up_k (by omega), up_k (by omega), up_k (by omega), up_k (by omega), up_k (by omega), up_k (by omega), up_k (by omega), up_k (by omega), up_k (by omega), up_k h1]
    have k64 : w3 0 64 = 1 := by rw [hw3]; rfl
    have k65 : w3 0 65 = p := by rw [hw3]; rfl
    have k66 : w3 0 66 = 0 := by rw [hw3]; rfl
    have k78 : w3 0 78 = 0 := by rw [hw3]; rfl
    have k80 : w3 0 80 = 0 := by rw [hw3]; rfl
    have k81 : w3 0 81 = 0 := by rw [hw3]; rfl
    have k82 : w3 0 82 = 0 := by rw [hw3]; rfl
    have k83 : w3 0 83 = 0 := by rw [hw3]; rfl
    have k85 : w3 0 85 = 0 := by rw [hw3]; rfl
    clear hw3
    have hT3 : TD (kdT T L) w3 D := d2.2.1.cg (m0 20 (by decide) (by decide)) (fun o p _ => m1 o (by omega))
    refine begin_61 (n := n) (c1 := cntE 1 (enD D)) (by omega) g4 rfl c1 d1.2.1.2.2 (by rw [m0 59 (by decide) (by decide)]; exact hGr.2.1) hT3 (fun w4 hM => hK w4 ?_)
    have hq : moB 0 0 = 45 := rfl
    rw [hq] at hC
    have fx4 := hM.1
    -- frames
    have fc : ∀ o, o < 43 → w2 o = wc o := fun o ho => by rw [hC.1 o (by omega), o1 o (by omega)]
    have f43 : w2 43 = w1 43 := hC.1 43 (by omega)
    have fm : ∀ o, o ≠ 0 → (o < 41 ∨ 46 < o) → w4 o = wm o := fun o h1 h2 => by rw [fx4 o (by simp; omega), m1 o h1]
    have f0 : w4 0 = w3 0 := fx4 0 (by decide)
    have fz : ∀ b, b ≠ 0 → b < 64 → w4 0 b = wm 0 b := fun b h1 h2 => by rw [f0, m0 b h1 h2]
    have hP1 : PgK T L (m + 1) D a0 a1 w1 := d1.fr (fun o ho => o1 o (by omega))
    have hV1 : VS w1 D := d12.f (o1 9 (by decide)) (o1 10 (by decide)) (o1 11 (by decide))
    have hMR := mr_ba hP1 hV1 d13.1 g4 hC hM
    obtain ⟨t1, t2, t3, t4⟩ := hBa
    refine ⟨⟨t1.f (fc 0 (by decide)) (fc 1 (by decide)) (fz 3 (by decide) (by decide)) (fm 2 (by decide) (by decide)), by rw [fc 3 (by decide), fm 3 (by decide) (by decide)]; exact t2, ?_, t4.f (fc 2 (by decide)) (fc 3 (by decide)) (fc 25 (by decide)) (fz 55 (by decide) (by decide)) (fz 56 (by decide) (by decide))⟩, n, na, ?_, Or.inr ⟨T, L, m, D, a0, a1, s1, l1, hG.fr (fun o _ q => fc o (by omega)) (fun o p q => fm o (by omega) (by omega)) (fun b hb => fz b (by omega) (by omega)), Or.inr ⟨by rw [f43]; exact e11, by rw [f0]; exact k64, 0, 0, ?_⟩⟩⟩
    · unfold ClB at *
      rw [fc 29 (by decide)]; exact t3
    · obtain ⟨u1, u2, u3, u4, u5⟩ := hGr
      refine ⟨u1.fr (fun o p q => fc o q), by rw [fz 59 (by decide) (by decide)]; exact u2, by rw [fz 60 (by decide) (by decide)]; exact u3, ?_, by rw [fc 34 (by decide)]; exact u5⟩
      rw [fm 38 (by decide) (by decide), fm 39 (by decide) (by decide), fm 40 (by decide) (by decide), fc 32 (by decide), fc 33 (by decide), fc 34 (by decide)]
      exact u4
    · refine ⟨by decide, by decide, by rw [f43]; exact e4, by rw [f43]; exact e12, by rw [f0]; exact k78, by rw [f43, f0, e5, k65], by rw [f43, f0, e6, k85], ⟨by rw [f43, f0, e7, k80], by rw [f43, f0, e8, k81], by rw [f43, f0, e9, k82], by rw [f43, f0, e10, k83]⟩, ?_, hMR, fun j h1 h2 => by omega, fun j hj => by omega⟩
      rw [f0, k66]
      exact hC.2.1.symm
end Begin2
