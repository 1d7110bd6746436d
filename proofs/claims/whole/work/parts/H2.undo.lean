/-! ===== global, halted, told, undo ===== -/
section Reads3
variable {g gm : Mg} {d n : Nat} {K : Ou → Wd → Prop} {w wc wc' wm wm' : Wd} {p p1 p2 : Int} {D : DE} {k kq na : Nat}
theorem b_global (hp : inI p) (hd : 3 ≤ d) (hI : Inv wc wm) (h : ∀ x wc', Bo jMd_global [vA 0, vI p] wm wc' x → K (.inl (some (vI x))) wc') : Cal g LC jVL_global d [vA 0, vI p] wc K := by
  obtain ⟨d, rfl⟩ : ∃ d', d = d' + 1 := ⟨d - 1, by omega⟩
  have no : (∀ (gm : Mg) (dM : Nat) (Kx : Ou → Wd → Prop), 1111 ≤ dM → Kx (.inl (some (vI 0))) (up wm 0 0 0) → V gm LM jMd_global (dM + 1) Kx 0 [(0, vA 0), (1, vI p)] [] wm) → K (.inl (some (vI 0))) wc := fun hq => h 0 wc (Bo.same hI (fun gm dM Kx hdM hK => by
    obtain ⟨dM, rfl⟩ : ∃ d', dM = d' + 1 := ⟨dM - 1, by omega⟩
    exact Cal.ofV (by decide) rfl (Nat.le_of_ble_eq_true rfl) (hq gm dM Kx (by omega) hK)))
  rcases inv_run hI with ⟨r1, r2⟩ | ⟨r1, r2, T, L, m, D, a0, a1, s1, l1, n, na, k, kq, hG, hGr, hR⟩
  · exact Cal.ofV (by decide) rfl (Nat.le_of_ble_eq_true rfl) (s_VL_global ⟨fun _ => no (fun gm dM Kx hdM hK => s_Md_global ⟨fun _ => hK, fun z => absurd r2 z⟩), fun z => absurd r1 z⟩)
  · obtain ⟨d1, d2, d3, d4, d5, -⟩ := id hG
    obtain ⟨⟨c4, c1, c2, c3⟩, -⟩ := d1.2.2
    obtain ⟨x1, x2, x3, x4, x5, x6, x7, x8, x9, x10, -⟩ := id hR
    have t16 : wm 16 3 = ((cntE 3 (enD D) : Nat) : Int) := (d2.2.1.2.1 3 (by decide)).1
    have h16 : wr (wm 16 3 - 1) = wr (((cntE 3 (enD D) : Nat) : Int) - 1) := by rw [t16]
    have tD : TD (kdT T L) (up wm 0 0 0) D := d2.2.1.cg (up_k (by decide)) (fun o p _ => up_o (by omega))
    have bad : ¬ (0 ≤ p ∧ p < ((cntE 3 (enD D) : Nat) : Int)) → K (.inl (some (vI 0))) wc := fun z => no (fun gm dM Kx hdM hK => s_Md_global ⟨fun y => absurd y (by rw [r2]; decide), fun _ => sp_in0 hp (by omega) h16 (fun y => absurd y z) (fun _ => ⟨fun y => absurd rfl y, fun _ => hK⟩)⟩)
    refine Cal.ofV (by decide) rfl (Nat.le_of_ble_eq_true rfl) (s_VL_global ⟨fun z => absurd z (by rw [r1]; decide), fun _ => ⟨fun z => bad (by omega), fun z => sp_howManyC (s := 3) (by omega) (by decide) d3 ⟨fun z2 => sp_nowB x1 x3 ⟨moB_mo, ?_⟩, fun z2 => bad (by rw [d5 3 (by decide)] at z2; omega)⟩⟩⟩)
    rw [d5 3 (by decide)] at z2
    obtain ⟨i, hi, rfl⟩ := nat_of (x := p) ⟨by omega, z2⟩
    have hval := x10.2.2.2.2.2.1 i hi
    rw [svF_4 (by omega), svF_5] at hval
    rw [toN]
    refine ⟨by omega, h _ wc (Bo.same hI (fun gm dM Kx hdM hK => ?_))⟩
    obtain ⟨dM, rfl⟩ : ∃ d', dM = d' + 1 := ⟨dM - 1, by omega⟩
    rw [hval] at hK
    refine Cal.ofV (by decide) rfl (Nat.le_of_ble_eq_true rfl) (s_Md_global ⟨fun y => absurd y (by rw [r2]; decide), fun _ => sp_in0 hp (by omega) h16 (fun y => ⟨fun _ => ?_, fun q => absurd q (by decide)⟩) (fun y => absurd (by omega) y)⟩)
    rw [toN]
    refine ⟨by omega, fun z0 => sp_wayM (so := 3) (by omega) (by decide) tD d1.2.1.2.2 hi (sp_nothingM ?_), fun z0 => ⟨by omega, ?_⟩⟩
    · rw [up_o (by decide)] at z0
      rw [if_pos z0] at hK
      exact hK
    · rw [up_o (by decide)] at z0 ⊢
      rw [if_neg z0] at hK
      exact hK
theorem b_halted (hp : inI p) (hd : 3 ≤ d) (hI : Inv wc wm) (h : ∀ x wc', Bo jMd_halted [vA 0, vI p] wm wc' x → K (.inl (some (vI x))) wc') : Cal g LC jVL_halted d [vA 0, vI p] wc K := by
  obtain ⟨d, rfl⟩ : ∃ d', d = d' + 1 := ⟨d - 1, by omega⟩
  have mo : ∀ x, (∀ (gm : Mg) (dM : Nat) (Kx : Ou → Wd → Prop), 1111 ≤ dM → Kx (.inl (some (vI x))) (up wm 0 0 0) → V gm LM jMd_halted (dM + 1) Kx 0 [(0, vA 0), (1, vI p)] [] wm) → K (.inl (some (vI x))) wc := fun x hq => h x wc (Bo.same hI (fun gm dM Kx hdM hK => by
    obtain ⟨dM, rfl⟩ : ∃ d', dM = d' + 1 := ⟨dM - 1, by omega⟩
    exact Cal.ofV (by decide) rfl (Nat.le_of_ble_eq_true rfl) (hq gm dM Kx (by omega) hK)))
  rcases inv_run hI with ⟨r1, r2⟩ | ⟨r1, r2, T, L, m, D, a0, a1, s1, l1, n, na, k, kq, hG, hGr, hR⟩
  · exact Cal.ofV (by decide) rfl (Nat.le_of_ble_eq_true rfl) (s_VL_halted (sp_runsOn (by omega) (fun z => absurd r1 z) (fun _ => ⟨fun z => absurd rfl z, fun _ => mo _ (fun gm dM Kx hdM hK => s_Md_halted ⟨fun _ => hK, fun z => absurd r2 z⟩)⟩)))
  · obtain ⟨⟨g1, g2, g3, g4, -⟩, q2, -⟩ := id hGr
    obtain ⟨x1, x2, x3, x4, x5, x6, x7, x8, x9, x10, -⟩ := id hR
    have h59 : wr (wm 0 59 - 1) = wr ((n : Int) - 1) := by rw [q2]
    refine Cal.ofV (by decide) rfl (Nat.le_of_ble_eq_true rfl) (s_VL_halted (sp_runsOn (by omega) (fun _ y1 y2 => ⟨fun _ => sp_nowB x1 x3 ⟨moB_mo, ?_⟩, fun q => absurd q (by decide)⟩) (fun z => ⟨fun q => absurd rfl q, fun _ => mo _ (fun gm dM Kx hdM hK => s_Md_halted ⟨fun y => absurd y (by rw [r2]; decide), fun _ => sp_in0 hp (by omega) h59 (fun y => ?_) (fun _ => ⟨fun y => absurd rfl y, fun _ => hK⟩)⟩)⟩)))
    · rw [g1] at y2
      obtain ⟨v, hv, rfl⟩ := nat_of ⟨y1, y2⟩
      have hval := (x10.2.1 v hv).1
      rw [svF_1 (by omega)] at hval
      rw [toN, hval]
      refine ⟨by omega, fun z => mo _ (fun gm dM Kx hdM hK => s_Md_halted ⟨fun y => absurd y (by rw [r2]; decide), fun _ => sp_in0 hp (by omega) h59 (fun _ => ⟨fun _ => ?_, fun q => absurd q (by decide)⟩) (fun y => absurd (by omega) y)⟩), fun z => mo _ (fun gm dM Kx hdM hK => s_Md_halted ⟨fun y => absurd y (by rw [r2]; decide), fun _ => sp_in0 hp (by omega) h59 (fun _ => ⟨fun _ => ?_, fun q => absurd q (by decide)⟩) (fun y => absurd (by omega) y)⟩)⟩
      · rw [toN, up_o (by decide)]
        refine ⟨by omega, fun _ => hK, fun q => ?_⟩
        rw [if_neg q] at z
        exact absurd z (by decide)
      · rw [toN, up_o (by decide)]
        refine ⟨by omega, fun q => ?_, fun _ => hK⟩
        rw [if_pos q] at z
        exact absurd rfl z
    · exfalso
      rcases z with z | z
      · rw [r1] at z; exact absurd z (by decide)
      · rw [g1] at z; exact z y
theorem b_told (hd : 3 ≤ d) (hI : Inv wc wm) (h : ∀ x wc', Bo jMd_told [vA 0, vI p] wm wc' x → K (.inl (some (vI x))) wc') : Cal g LC jVL_told d [vA 0, vI p] wc K := by
  obtain ⟨d, rfl⟩ : ∃ d', d = d' + 2 := ⟨d - 2, by omega⟩
  have mo : ∀ x, (∀ (gm : Mg) (dM : Nat) (Kx : Ou → Wd → Prop), 1111 ≤ dM → Kx (.inl (some (vI x))) (up wm 0 0 0) → V gm LM jMd_told (dM + 1) Kx 0 [(0, vA 0), (1, vI p)] [] wm) → K (.inl (some (vI x))) wc := fun x hq => h x wc (Bo.same hI (fun gm dM Kx hdM hK => by
    obtain ⟨dM, rfl⟩ : ∃ d', dM = d' + 1 := ⟨dM - 1, by omega⟩
    exact Cal.ofV (by decide) rfl (Nat.le_of_ble_eq_true rfl) (hq gm dM Kx (by omega) hK)))
  rcases inv_run hI with ⟨r1, r2⟩ | ⟨r1, r2, T, L, m, D, a0, a1, s1, l1, n, na, k, kq, hG, hGr, hR⟩
  · exact Cal.ofV (by decide) rfl (Nat.le_of_ble_eq_true rfl) (s_VL_told ⟨fun _ => mo _ (fun gm dM Kx hdM hK => s_Md_told ⟨fun z => absurd r2 z, fun _ => hK⟩), fun z => absurd r1 z⟩)
  · obtain ⟨⟨g1, g2, g3, g4, -⟩, q2, -⟩ := id hGr
    obtain ⟨x1, x2, x3, x4, x5, x6, x7, ⟨x8a, x8b, x8c, x8d⟩, x9, x10, -⟩ := id hR
    have hGt : GrR wc (up wm 0 0 0) n na := hGr.f (FrC.rf wc) (FrM.t wm 0)
    have hRt : RuR D n k kq wc (up wm 0 0 0) := hR.t
    have e59 : up wm 0 0 0 0 59 = (n : Int) := hGt.2.1
    have hMt := hRt.2.2.2.2.2.2.2.2.2.1
    -- the model, by what is asked
    have md : ∀ x, ((p < 0 ∨ 9 < p) → x = -1) → (p = 0 → x = wm 0 66) → (p = 1 → x = edC wc n k) → (p = 2 → x = smI (up wm 0 0 0 43) (4 * n)) → (p = 3 → x = ((rsN (up wm 0 0 0 42) n : Nat) : Int)) → (p = 4 → x = wm 0 80) → (p = 5 → x = wm 0 81) → (p = 6 → x = wm 0 82) → (p = 7 → x = wm 0 83) → (p = 8 → x = wm 0 78) → (p = 9 → x = wm 0 85) → K (.inl (some (vI x))) wc := by
      intro x y_ y0 y1 y2 y3 y4 y5 y6 y7 y8 y9
      refine mo x (fun gm dM Kx hdM hK => s_Md_told ⟨fun _ => ⟨fun z => ?_, fun z => ?_, fun z => ?_, fun z => ?_, fun z => ?_, fun z => ?_, fun z => ?_, fun z => ?_, fun z => ?_, fun z => ?_, fun z => ?_⟩, fun z => absurd z (by rw [r2]; decide)⟩)
      · rw [y_ z] at hK; exact hK
      · rw [y0 z] at hK; exact hK
      · rw [y1 z] at hK
        refine ended_M (by omega) hGt hRt ⟨fun q => ?_, fun q => ?_⟩
        · rw [q] at hK; exact hK
        · unfold edC at hK q
          split at hK
          · exact hK
          · rename_i zz
            rw [if_neg zz] at q
            exact absurd rfl q
      · rw [y2 z] at hK
        exact sp_underWayM g4 e59 (mr_ct hMt) hK
      · rw [y3 z] at hK
        exact sp_haltedCountM g4 e59 hK
      · rw [y4 z] at hK; exact hK
      · rw [y5 z] at hK; exact hK
      · rw [y6 z] at hK; exact hK
      · rw [y7 z] at hK; exact hK
      · rw [y8 z] at hK; exact hK
      · rw [y9 z] at hK; exact hK
    refine Cal.ofV (by decide) rfl (Nat.le_of_ble_eq_true rfl) (s_VL_told ⟨fun z => absurd z (by rw [r1]; decide), fun _ => Cal.ofV (by decide) rfl (Nat.le_of_ble_eq_true rfl) (s_Ma_tell ⟨fun z => ?_, fun z => sp_nowB x1 x3 ⟨moB_mo, ?_⟩, fun z => ended_C (n := n) (na := na) (by omega) hGr.1 x1 x3 ⟨fun q => ?_, fun q => ?_⟩, fun z => sp_nowB x1 x3 ⟨moB_mo, ?_⟩, fun z => sp_nowB x1 x3 ⟨moB_mo, ?_⟩, fun z => ?_, fun z => ?_, fun z => ?_, fun z => ?_, fun z => ?_, fun z => ?_⟩)⟩)
    · exact md _ (fun _ => rfl) (fun q => by omega) (fun q => by omega) (fun q => by omega) (fun q => by omega) (fun q => by omega) (fun q => by omega) (fun q => by omega) (fun q => by omega) (fun q => by omega) (fun q => by omega)
    · exact md _ (fun q => by omega) (fun _ => x9.symm) (fun q => by omega) (fun q => by omega) (fun q => by omega) (fun q => by omega) (fun q => by omega) (fun q => by omega) (fun q => by omega) (fun q => by omega) (fun q => by omega)
    · exact md _ (fun q => by omega) (fun q => by omega) (fun _ => q.symm) (fun q => by omega) (fun q => by omega) (fun q => by omega) (fun q => by omega) (fun q => by omega) (fun q => by omega) (fun q => by omega) (fun q => by omega)
    · have e1 : edC wc n k = 1 := by
        unfold edC at q ⊢
        split
        · rfl
        · rename_i zz
          rw [if_neg zz] at q
          exact absurd rfl q
      exact md _ (fun q => by omega) (fun q => by omega) (fun _ => e1.symm) (fun q => by omega) (fun q => by omega) (fun q => by omega) (fun q => by omega) (fun q => by omega) (fun q => by omega) (fun q => by omega) (fun q => by omega)
    · exact md _ (fun q => by omega) (fun q => by omega) (fun q => by omega) (fun _ => mr_ms g4 hMt) (fun q => by omega) (fun q => by omega) (fun q => by omega) (fun q => by omega) (fun q => by omega) (fun q => by omega) (fun q => by omega)
    · rw [g1]
      refine sp_restingOf moB_mo g4 ?_
      rw [mr_rs g4 hMt]
      exact md _ (fun q => by omega) (fun q => by omega) (fun q => by omega) (fun q => by omega) (fun _ => rfl) (fun q => by omega) (fun q => by omega) (fun q => by omega) (fun q => by omega) (fun q => by omega) (fun q => by omega)
    · exact md _ (fun q => by omega) (fun q => by omega) (fun q => by omega) (fun q => by omega) (fun q => by omega) (fun _ => x8a) (fun q => by omega) (fun q => by omega) (fun q => by omega) (fun q => by omega) (fun q => by omega)
    · exact md _ (fun q => by omega) (fun q => by omega) (fun q => by omega) (fun q => by omega) (fun q => by omega) (fun q => by omega) (fun _ => x8b) (fun q => by omega) (fun q => by omega) (fun q => by omega) (fun q => by omega)
    · exact md _ (fun q => by omega) (fun q => by omega) (fun q => by omega) (fun q => by omega) (fun q => by omega) (fun q => by omega) (fun q => by omega) (fun _ => x8c) (fun q => by omega) (fun q => by omega) (fun q => by omega)
    · exact md _ (fun q => by omega) (fun q => by omega) (fun q => by omega) (fun q => by omega) (fun q => by omega) (fun q => by omega) (fun q => by omega) (fun q => by omega) (fun _ => x8d) (fun q => by omega) (fun q => by omega)
    · exact md _ (fun q => by omega) (fun q => by omega) (fun q => by omega) (fun q => by omega) (fun q => by omega) (fun q => by omega) (fun q => by omega) (fun q => by omega) (fun q => by omega) (fun _ => by rw [x4, x5]) (fun q => by omega)
    · exact md _ (fun q => by omega) (fun q => by omega) (fun q => by omega) (fun q => by omega) (fun q => by omega) (fun q => by omega) (fun q => by omega) (fun q => by omega) (fun q => by omega) (fun q => by omega) (fun _ => x7)
end Reads3
