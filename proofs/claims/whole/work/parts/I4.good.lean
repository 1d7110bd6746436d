/-! ===== a program that stands: what both hold ===== -/
section Good
variable {T : Nat → Int} {L m : Nat} {wc wm : Wd} {r : RT} {s : ST}
theorem kyT_le {E : List En} : ∀ n, kyT T L E n ≤ 100000
  | 0 => Nat.le_refl _
  | n + 1 => by
    have := kyT_le (E := E) n
    rw [kyT]
    omega
theorem key_3 {a b c : Nat} (h : min (min a b) c = 100000) : 100000 ≤ a ∧ 100000 ≤ b ∧ 100000 ≤ c := by omega
theorem CD.cda {C : List Hd} {x : Int} (h : CD wc C x) : CdA wc 0 C := fun i e he => by
  rw [Nat.zero_add]
  exact h.2.2 i e he
theorem ev_of {E : List En} {j : Nat} (hE : EOK E j) (hS : SZ wc E) : EV E := by
  refine ⟨fun e he => ?_, fun e he => ?_, hE.1⟩
  · have h1 := (hE.2 e he).1
    have h2 := num_lt hE.1 he
    have h3 := (hS.1 e.2.1 (by omega)).2
    exact ⟨by omega, by omega⟩
  · have := hE.2 e he
    omega
theorem gd_of (hIC : IC T L wc) (hP : PgC T L wc s r.1.2) (h0 : pMo T L = .ok r) (hp : pPrg T L = .ok (s, r.1.2)) (hT : Two T L r s) (hk : keyM T L r = 100000) (h8 : wc 8 2 = 1) (hG : GoodM T L r wm) : ∃ m, Gd T L m r.1.2 r.2.1.1 r.2.2.1 r.2.1.2.2 (nE r.2.1.1) wc wm := by
  obtain ⟨rd1, rd2, rd3, rd4, rd5, rd6, rd7, rd8, rd9, rd10, rd11⟩ := mo_rd h0
  obtain ⟨pt1, pt2, pt3, pt4, pt5, pt6, pt7, pt8⟩ := id rd2
  obtain ⟨m43, m31, ⟨m, mT, mm1, mm2, mm3⟩, mP, mJ, m55, m56, mR⟩ := hG
  obtain ⟨p1, p2, p3, p4, ⟨p_, a_, q1, q2, q3, q4⟩, p6⟩ := hP
  obtain ⟨o1, o2, o3, o4, o5, o6, o7, o8, o9, o10⟩ := p1
  obtain ⟨t1, t2, t3, t4, t5⟩ := hT
  obtain ⟨k1, k2, k3, k4, k5, k6, k7, k8, k9, k10⟩ := id mP
  have hE : sE r.1.1 = enD r.1.2 := pt1
  have hsE : sE s = enD r.1.2 := by rw [t1, hE]
  rw [hE] at rd4 pt8 t4
  rw [hsE] at o2 o3
  have hEV := ev_of rd4 o3
  have hDOK := fTs_dok0 rd1
  -- the first block that the class has read is this one
  rw [rd1] at q1
  have e1 : r.1 = p_ := Except.ok.inj q1
  subst e1
  rw [rd5] at q3
  have e2 : r.2.1 = a_ := Except.ok.inj q3
  subst e2
  -- keys
  have hkey : min (min (kyT T L (enD r.1.2) (enD r.1.2).length) (jS T L r.2.1.1 (enD r.1.2))) (jS T L r.2.2.1 (enD r.1.2)) = 100000 := by
    have : keyM T L r = 100000 := hk
    unfold keyM at this
    rw [hE] at this
    exact this
  obtain ⟨ky0, ky1, ky2⟩ := key_3 hkey
  -- blocks
  obtain ⟨ga1, ga2, ga3, ga4, ga5, ga6⟩ := id rd7
  obtain ⟨gb1, gb2, gb3, gb4, gb5, gb6⟩ := id rd8
  obtain ⟨-, -, ha3⟩ := pBk_g3 _ _ _ _ _ (by decide) rd5
  obtain ⟨-, -, hb3⟩ := pBk_g3 _ _ _ _ _ ga6 rd6
  have ta : tg r.2.1.1 = 21 := by obtain ⟨z, s', e, -⟩ := ga1; rw [e]; rfl
  have tb : tg r.2.2.1 = 21 := by obtain ⟨z, s', e, -⟩ := gb1; rw [e]; rfl
  have xa := SX.le (j' := m + 1) (by omega) _ (pBk_sx _ _ _ _ _ (by decide) rd5)
  have xb := SX.le (j' := m + 1) (by omega) _ (pBk_sx _ _ _ _ _ ga6 rd6)
  have ya := pBk_sy _ _ _ _ _ (by decide) (by decide) rd5
  have yb := pBk_sy _ _ _ _ _ (by decide) ga6 rd6
  have oa := pBk_ob _ _ _ _ _ (by decide) rd5
  have ob := pBk_ob _ _ _ _ _ ga6 rd6
  have la := LD.le (j' := m + 1) (by omega) _ (pBk_ld _ _ _ _ _ (by decide) rd5)
  have lb := LD.le (j' := m + 1) (by omega) _ (pBk_ld _ _ _ _ _ ga6 rd6)
  -- the deeds
  have lena := cmS_len (T := T) (L := L) r.2.1.1 (enD r.1.2) 0 0 0 k7
  have lenb := cmS_len (T := T) (L := L) r.2.2.1 (enD r.1.2) (nK r.2.1.1 + 1) 0 0 k8
  have hC := o8.cda
  have hC4 := o8.1
  rw [t4] at hC hC4
  have hlen : (cmS T L r.2.1.1 (enD r.1.2) 0 0 0 ++ [(31, 0, 0, 0)] ++ cmS T L r.2.2.1 (enD r.1.2) (nK r.2.1.1 + 1) 0 0 ++ [(31, 0, 0, 0)] : List Hd).length = nK r.2.1.1 + 1 + nK r.2.2.1 + 1 := by
    rw [List.length_append, List.length_append, List.length_append, lena, lenb]; rfl
  rw [hlen] at hC4
  have hC1 : CdA wc 0 (cmS T L r.2.1.1 (enD r.1.2) 0 0 0 ++ [(31, 0, 0, 0)]) := by
    rw [List.append_assoc] at hC
    exact hC.app.1
  have hC2 : CdA wc (nK r.2.1.1 + 1) (cmS T L r.2.2.1 (enD r.1.2) (nK r.2.1.1 + 1) 0 0 ++ [(31, 0, 0, 0)]) := by
    rw [List.append_assoc] at hC
    have := hC.app.2
    rw [List.length_append, lena, Nat.zero_add] at this
    exact this
  obtain ⟨wy1, wy2⟩ := WyR.of (D := r.1.2) (E := enD r.1.2) rfl rd4.1 hDOK p2
  have cn : ∀ so, so < 5 → ((cntE so (enD r.1.2) : Nat) : Int) ≤ mostL.getD so 0 := fun so hso => (o3.1 so hso).2
  have cn1 : ((cntE 1 (enD r.1.2) : Nat) : Int) ≤ 8 := cn 1 (by decide)
  have cn2 : ((cntE 2 (enD r.1.2) : Nat) : Int) ≤ 4 := cn 2 (by decide)
  have cn3 : ((cntE 3 (enD r.1.2) : Nat) : Int) ≤ 4 := cn 3 (by decide)
  have hJ := mJ
  unfold PgJ at hJ
  rw [hE] at hJ
  refine ⟨m, ⟨hIC.1.2.1, hEV, ⟨pt8, by omega, by omega, by omega⟩, wy1, wy2, ⟨ta, k7, xa, ya, by rw [pt8]; exact oa, ky1, ⟨0, 0, hC1⟩, ?_, by omega⟩, ⟨tb, k8, xb, yb, by rw [pt8]; exact ob, ky2, ⟨0, 0, hC2⟩, ?_, by omega⟩, p4, q4⟩, ⟨mT, k1, ⟨ta, k7, xa, ya, la, by rw [pt8]; exact oa, ky1, by omega, by omega, k3, hJ.1⟩, ⟨tb, k8, xb, yb, lb, by rw [pt8]; exact ob, ky2, by omega, by omega, k4, hJ.2⟩, k5, k6, by omega, by omega⟩, h8, m43, fun so hso => (o3.1 so (by omega)).1, by rw [o4, t3, m31], ⟨_, p6, mR s hp⟩, hIC.1, o2, Nat.le_antisymm (kyT_le _) ky0, p2, hDOK, fun e he => ?_⟩
  · rw [hC4]; omega
  · rw [hC4]; omega
  · have := (rd4.2 e.1 (List.mem_map.mpr ⟨e, he, rfl⟩)).2.2.2
    omega
end Good
