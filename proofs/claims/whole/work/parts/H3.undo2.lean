/-! ===== undo, run ===== -/
theorem wr_back {t : Int} (h : inI t) : wr (wr (t + 1) - 1) = t := by
  unfold inI at h
  unfold wr
  omega
section Undo
variable {g gm : Mg} {d n : Nat} {K : Ou → Wd → Prop} {w wc wc' wm wm' : Wd} {p : Int} {T : Nat → Int} {L m : Nat} {D : DE} {a0 a1 : Tr} {s1 l1 k kq na k' kq' : Nat}
theorem inv_mk (h1 : BaI wc wm) (h2 : GrR wc wm n na) (h3 : Gd T L m D a0 a1 s1 l1 wc wm) (r1 : wc 43 11 = 1) (r2 : wm 0 64 = 1) (fc : FrC wc wc') (fm : FrM wm wm') (hR : RuR D n k' kq' wc' wm') : Inv wc' wm' := ⟨h1.f fc fm, n, na, h2.f fc fm, Or.inr ⟨T, L, m, D, a0, a1, s1, l1, h3.f fc fm, Or.inr ⟨by rw [fc.2]; exact r1, by rw [fm.2 64 (by decide) (by decide)]; exact r2, k', kq', hR⟩⟩⟩
theorem MR.cg2 {E : List En} {q : Nat} {S S' : Nat → Int} (h : MR D E n q wc S) (hn : n ≤ 40) (h1 : cntE 1 E ≤ 8) (h2 : cntE 2 E ≤ 4) (h3 : cntE 3 E ≤ 4) (hS : ∀ x, x < 688 → (x < 320 + n ∨ 360 ≤ x) → S' x = S x) : MR D E n q wc S' := by
  obtain ⟨a1, a2, a3, a4, a5, a6, a7, a8, a9⟩ := h
  refine ⟨fun v k hv hk => ?_, fun v hv => ?_, fun i hi => ?_, fun k hk => ?_, fun v k hv hk => ?_, fun k hk => ?_, ?_, a8, a9⟩
  · rw [hS _ (by omega) (by omega)]; exact a1 v k hv hk
  · rw [hS _ (by omega) (by omega)]; exact a2 v hv
  · rw [hS _ (by omega) (by omega)]; exact a3 i hi
  · rw [hS _ (by omega) (by omega)]; exact a4 k hk
  · rw [hS _ (by omega) (by omega), hS _ (by omega) (by omega)]; exact a5 v k hv hk
  · rw [hS _ (by omega) (by omega), hS _ (by omega) (by omega)]; exact a6 k hk
  · rw [a7]
    exact (smI_cg _ (fun i hi => hS _ (by omega) (by omega))).symm
theorem moB_p {i : Nat} (hk : k < 8) (hi : i ≤ 6) : moB ((k + 7) % 8) i = moB k (i + 1) := by
  show 45 + 7 * (((k + 7) % 8 + 8 - i) % 8) = 45 + 7 * ((k + 8 - (i + 1)) % 8)
  omega
/-- what bring() leaves, in the order in which it was kept -/
theorem sv_bring {S p : Nat} {w w' : Wd} (hB : BrI S p w w' 320 40 160 4) (hb : ∀ v, v < n → b01 (w S (p + (320 + v)))) (hn : n ≤ 40) : ∀ x, x < 688 → (x < 320 + n ∨ 360 ≤ x) → svF w' x = w S (p + x) := by
  obtain ⟨-, s1, s2, s3, s4⟩ := hB
  intro x hx hx2
  by_cases h0 : x < 320
  · rw [svF_0 h0, s1 x h0]
  by_cases h1 : x < 360
  · obtain ⟨i, rfl⟩ : ∃ i, x = 320 + i := ⟨x - 320, by omega⟩
    rw [svF_1 (by omega), s2 i (by omega)]
    rcases hb i (by omega) with z | z
    · rw [z]; rfl
    · rw [z]; rfl
  by_cases h2 : x < 520
  · obtain ⟨i, rfl⟩ : ∃ i, x = 360 + i := ⟨x - 360, by omega⟩
    rw [svF_2 (by omega), (s3 i (by omega)).1]
  by_cases h3 : x < 680
  · obtain ⟨i, rfl⟩ : ∃ i, x = 520 + i := ⟨x - 520, by omega⟩
    rw [svF_3 (by omega), (s3 i (by omega)).2]
  by_cases h4 : x < 684
  · obtain ⟨i, rfl⟩ : ∃ i, x = 680 + i := ⟨x - 680, by omega⟩
    rw [svF_4 (by omega), (s4 i (by omega)).1]
  · obtain ⟨i, rfl⟩ : ∃ i, x = 684 + i := ⟨x - 684, by omega⟩
    rw [svF_5, (s4 i (by omega)).2]
/-- the RUN behind undo() -/
theorem ru_back {w3 : Wd} (hRg : RgC wc) (hn : n ≤ 40) (c1 : cntE 1 (enD D) ≤ 8) (c2 : cntE 2 (enD D) ≤ 4) (c3 : cntE 3 (enD D) ≤ 4) (hR : RuR D n k (kq + 1) wc wm) (hw : wc' = up (up wc 43 12 (kq : Int)) 43 4 (((k + 7) % 8 : Nat) : Int)) (hB : BrI 51 (700 * kq) (up (up wm 0 0 0) 0 78 (kq : Int)) w3 320 40 160 4) (hm : wm' = up w3 0 66 (wr (w3 0 66 - 1))) : RuR D n ((k + 7) % 8) kq wc' wm' ∧ wr (w3 0 66 - 1) = wc' (moB ((k + 7) % 8) 0) 0 := by
  obtain ⟨r1, r2, r3, r4, r5, r6, r7, ⟨r8a, r8b, r8c, r8d⟩, r9, r10, r11, r12⟩ := hR
  have b0 := hB.1
  have c43 : ∀ b, b ≠ 4 → b ≠ 12 → wc' 43 b = wc 43 b := fun b h1 h2 => by rw [hw, up_k h1, up_k h2]
  have cu : ∀ o, o ≠ 43 → wc' o = wc o := fun o ho => by rw [hw, up_o ho, up_o ho]
  have cm : ∀ i z, z ≤ 6 → wc' (moB k i + z) = wc (moB k i + z) := fun i z hz => cu _ (by have := mo_rng (moB_mo (k := k) (i := i)); omega)
  have cm0 : ∀ i, wc' (moB k i) = wc (moB k i) := fun i => cm i 0 (by decide)
  have m0 : ∀ b, b ≠ 0 → b ≠ 78 → w3 0 b = wm 0 b := fun b h1 h2 => by rw [b0 0 (by decide), up_k h2, up_k h1]
  have n0 : ∀ b, b ≠ 0 → b ≠ 78 → b ≠ 66 → wm' 0 b = wm 0 b := fun b h1 h2 h3 => by rw [hm, up_k h3, m0 b h1 h2]
  have e51 : w3 51 = wm 51 := by rw [b0 51 (by decide), up_o (by decide), up_o (by decide)]
  have f51 : wm' 51 = wm 51 := by rw [hm, up_o (by decide), e51]
  have g51 : up (up wm 0 0 0) 0 78 (kq : Int) 51 = wm 51 := by rw [up_o (by decide), up_o (by decide)]
  have ht := r12 0 (by omega)
  have ti : inI (wc (moB k 1) 0) := rg_m0 hRg moB_mo
  have hturn : wr (w3 0 66 - 1) = wc (moB k 1) 0 := by
    rw [m0 66 (by decide) (by decide), r9, ht]
    exact wr_back ti
  have hM1 := r11 1 (by decide) (by omega)
  rw [show kq + 1 - 1 = kq from rfl] at hM1
  have hsv := sv_bring hB (n := n) (fun v hv => by rw [g51]; exact (hM1.2.1 v hv).2) hn
  rw [g51] at hsv
  have esv : svF wm' = svF w3 := funext (svF_cg (fun o p _ => by rw [hm, up_o (by omega)]))
  refine ⟨⟨Nat.mod_lt _ (by decide), by omega, ?_, ?_, ?_, ?_, ?_, ⟨?_, ?_, ?_, ?_⟩, ?_, ?_, fun i p q => ?_, fun i p => ?_⟩, ?_⟩
  · rw [hw, up_s]
  · rw [hw, up_k (by decide), up_s]
  · rw [hm, up_k (by decide), b0 0 (by decide), up_s]
  · rw [c43 5 (by decide) (by decide), n0 65 (by decide) (by decide) (by decide)]; exact r6
  · rw [c43 6 (by decide) (by decide), n0 85 (by decide) (by decide) (by decide)]; exact r7
  · rw [c43 7 (by decide) (by decide), n0 80 (by decide) (by decide) (by decide)]; exact r8a
  · rw [c43 8 (by decide) (by decide), n0 81 (by decide) (by decide) (by decide)]; exact r8b
  · rw [c43 9 (by decide) (by decide), n0 82 (by decide) (by decide) (by decide)]; exact r8c
  · rw [c43 10 (by decide) (by decide), n0 83 (by decide) (by decide) (by decide)]; exact r8d
  · rw [moB_p r1 (by decide), cm0 1, hm, up_s]; exact hturn
  · rw [moB_p r1 (by decide), esv]
    exact (hM1.cg2 hn c1 c2 c3 hsv).cg hn c1 c2 c3 (fun z hz => cm 1 z hz) (fun _ _ => rfl)
  · rw [moB_p r1 (by omega), f51]
    have := r11 (i + 1) (by omega) (by omega)
    rw [show kq + 1 - (i + 1) = kq - i by omega] at this
    exact this.cg hn c1 c2 c3 (fun z hz => cm (i + 1) z hz) (fun _ _ => rfl)
  · rw [moB_p r1 (by omega), moB_p r1 (by omega), cm0, cm0]
    exact r12 (i + 1) (by omega)
  · rw [moB_p r1 (by decide), cm0 1]; exact hturn
theorem b_undo (hd : 3 ≤ d) (hI : Inv wc wm) (h : ∀ x wc', Bo jMd_undo [vA 0] wm wc' x → K (.inl (some (vI x))) wc') : Cal g LC jVL_undo d [vA 0] wc K := by
  obtain ⟨d, rfl⟩ : ∃ d', d = d' + 1 := ⟨d - 1, by omega⟩
  refine Cal.rng (fun hRg _ _ => ?_)
  have mo : ∀ x, (∀ (gm : Mg) (dM : Nat) (Kx : Ou → Wd → Prop), 1111 ≤ dM → Kx (.inl (some (vI x))) (up wm 0 0 0) → V gm LM jMd_undo (dM + 1) Kx 0 [(0, vA 0)] [] wm) → K (.inl (some (vI x))) wc := fun x hq => h x wc (Bo.same hI (fun gm dM Kx hdM hK => by
    obtain ⟨dM, rfl⟩ : ∃ d', dM = d' + 1 := ⟨dM - 1, by omega⟩
    exact Cal.ofV (by decide) rfl (Nat.le_of_ble_eq_true rfl) (hq gm dM Kx (by omega) hK)))
  rcases inv_run hI with ⟨r1, r2⟩ | ⟨r1, r2, T, L, m, D, a0, a1, s1, l1, n, na, k, kq, hG, hGr, hR⟩
  · exact Cal.ofV (by decide) rfl (Nat.le_of_ble_eq_true rfl) (s_VL_undo ⟨fun z => absurd r1 z, fun _ => mo _ (fun gm dM Kx hdM hK => s_Md_undo ⟨fun z => absurd r2 z, fun _ => hK⟩)⟩)
  · obtain ⟨x1, x2, x3, x4, x5, -⟩ := id hR
    obtain ⟨⟨c4, c1, c2, c3⟩, -⟩ := hG.1.2.2
    have g4 : n ≤ 40 := hGr.1.2.2.2.1
    cases kq with
    | zero => exact Cal.ofV (by decide) rfl (Nat.le_of_ble_eq_true rfl) (s_VL_undo ⟨fun _ => ⟨fun z => absurd x4 z, fun _ => mo _ (fun gm dM Kx hdM hK => s_Md_undo ⟨fun _ => ⟨fun z => absurd x5 z, fun _ => hK⟩, fun z => absurd z (by rw [r2]; decide)⟩)⟩, fun z => absurd z (by rw [r1]; decide)⟩)
    | succ kq =>
      have e12 : wr (wc 43 12 - 1) = (kq : Int) := by rw [x4, wr_id (by unfold inI; omega)]; omega
      have e78 : wr (wm 0 78 - 1) = (kq : Int) := by rw [x5, wr_id (by unfold inI; omega)]; omega
      have e4 : iRem (wr (wr (wc 43 4 + 8) - 1)) 8 = (((k + 7) % 8 : Nat) : Int) := by rw [x3]; exact rem8b ⟨k, x1⟩
      refine Cal.ofV (by decide) rfl (Nat.le_of_ble_eq_true rfl) (s_VL_undo ⟨fun _ => ⟨fun _ => Cal.ofV (by decide) rfl (Nat.le_of_ble_eq_true rfl) (s_Ma_goBack ⟨fun z => absurd z (by rw [x4]; omega), fun _ => ?_⟩), fun z => absurd z (by rw [x4]; omega)⟩, fun z => absurd z (by rw [r1]; decide)⟩)
      rw [e12, e4]
      refine sp_nowB (k := (k + 7) % 8) (Nat.mod_lt _ (by decide)) (up_s _ _ _ _) ⟨moB_mo, h _ _ (fun gm dM Kx hdM hK => ?_)⟩
      obtain ⟨dM, rfl⟩ : ∃ d', dM = d' + 1 := ⟨dM - 1, by omega⟩
      refine Cal.ofV (by decide) rfl (Nat.le_of_ble_eq_true rfl) (s_Md_undo ⟨fun _ => ⟨fun _ => ?_, fun z => absurd z (by rw [x5]; omega)⟩, fun z => absurd z (by rw [r2]; decide)⟩)
      have e7 : wr (700 * (kq : Int)) = ((700 * kq : Nat) : Int) := by rw [wr_id (by unfold inI; omega)]; omega
      rw [e78, e7]
      refine sp_bringK (p := 700 * kq) (by omega) (fun w3 hB => ?_)
      obtain ⟨hR', hv⟩ := ru_back hRg g4 c1 c2 c3 hR rfl hB rfl
      have fc : FrC wc (up (up wc 43 12 (kq : Int)) 43 4 (((k + 7) % 8 : Nat) : Int)) := ⟨fun o ho => by rw [up_o (by omega), up_o (by omega)], by rw [up_k (by decide), up_k (by decide)]⟩
      have fm : FrM wm (up w3 0 66 (wr (w3 0 66 - 1))) := ⟨((((Fx.rf _ wm).up (by decide)).up (by decide)).tr (hB.1.mono (by decide))).up (by decide), fun b h1 h2 => by rw [up_k (by omega), hB.1 0 (by decide), up_k (by omega), up_k h1]⟩
      have := hK _ (inv_mk hI.1 hGr hG r1 r2 fc fm hR')
      rw [← hv] at this
      exact this
theorem b_run (hp : inI p) (hd : 10 ≤ d) (hI : Inv wc wm) (h : ∀ x wc', Bo jMd_run [vA 0, vI p] wm wc' x → K (.inl (some (vI x))) wc') : Cal g LC jVL_run d [vA 0, vI p] wc K := by
  obtain ⟨d, rfl⟩ : ∃ d', d = d' + 1 := ⟨d - 1, by omega⟩
  have no : (∀ (gm : Mg) (dM : Nat) (Kx : Ou → Wd → Prop), 1111 ≤ dM → Kx (.inl (some (vI (-1)))) (up wm 0 0 0) → V gm LM jMd_run (dM + 1) Kx 0 [(0, vA 0), (1, vI p)] [] wm) → K (.inl (some (vI (-1)))) wc := fun hq => h (-1) wc (Bo.same hI (fun gm dM Kx hdM hK => by
    obtain ⟨dM, rfl⟩ : ∃ d', dM = d' + 1 := ⟨dM - 1, by omega⟩
    exact Cal.ofV (by decide) rfl (Nat.le_of_ble_eq_true rfl) (hq gm dM Kx (by omega) hK)))
  rcases inv_run hI with ⟨r1, r2⟩ | ⟨r1, r2, T, L, m, D, a0, a1, s1, l1, n, na, k, kq, hG, hGr, hR⟩
  · exact Cal.ofV (by decide) rfl (Nat.le_of_ble_eq_true rfl) (s_VL_run ⟨fun _ => no (fun gm dM Kx hdM hK => s_Md_run ⟨fun _ => hK, fun z => absurd r2 z⟩), fun z => absurd r1 z⟩)
  · have n64 : ¬ wm 0 64 = 0 := by rw [r2]; decide
    have bad : ¬ (1 ≤ p ∧ p ≤ 100) → K (.inl (some (vI (-1)))) wc := fun z => no (fun gm dM Kx hdM hK => s_Md_run ⟨fun y => absurd y n64, fun _ => sp_in (inI_L hp) (by decide) (by decide) (by rw [if_neg z]; exact ⟨fun y => absurd rfl y, fun _ => hK⟩)⟩)
    obtain ⟨x1, x2, x3, x4, x5, -⟩ := id hR
    refine Cal.ofV (by decide) rfl (Nat.le_of_ble_eq_true rfl) (s_VL_run ⟨fun z => absurd z (by rw [r1]; decide), fun _ => ⟨fun z => bad (by omega), fun z1 => ⟨fun z2 => ?_, fun z => bad (by omega)⟩⟩⟩)
    obtain ⟨N, rfl⟩ : ∃ N : Nat, p = (N : Int) := ⟨p.toNat, by omega⟩
    refine run_loop (T := T) (L := L) (j := m + 1) (D := D) (a0 := a0) (a1 := a1) (n := n) (na := na) (by omega) (by omega) N 0 k wc (by omega) hG.1 hGr.1 x1 x3 (fun wc' x fc hmod => h x wc' (fun gm dM Kx hdM hK => ?_))
    obtain ⟨dM, rfl⟩ : ∃ d', dM = d' + 1 := ⟨dM - 1, by omega⟩
    have ft := FrM.t wm 0
    have main := hmod gm (up wm 0 0 0) m s1 l1 kq dM Kx (by omega) (hG.2.1.f ft) (hGr.f (FrC.rf wc) ft) hR.t (fun wm' k' kq' fm hR' => hK wm' (inv_mk hI.1 hGr hG r1 r2 fc (ft.tr fm) hR'))
    refine Cal.ofV (by decide) rfl (Nat.le_of_ble_eq_true rfl) (s_Md_run ⟨fun y => absurd y n64, fun _ => sp_in (inI_L hp) (by decide) (by decide) ?_⟩)
    rw [if_pos (by omega)]
    exact ⟨fun _ => main, fun y => absurd y (by decide)⟩
end Undo
