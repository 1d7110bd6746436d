/-! ===== the class's exps: how pieces are put together ===== -/
section ExpJoin
variable {g : Mg} {D : Nat} {K : Ou → Wd → Prop} {w : Wd} {T : Nat → Int} {L : Nat} {E : List En} {b : Bool}
theorem seW_27 (w : Wd) (x : Nat) (r : Int) : seW w x r 27 = w 27 := seW_fx w x r 27 (by decide)
theorem seW_28 (w : Wd) (x : Nat) (r : Int) : seW w x r 28 = w 28 := seW_fx w x r 28 (by decide)
theorem seW_30 {w : Wd} {i z x : Nat} {r : Int} (h : w 29 i = (z : Int)) (hx : x ≠ i) (hz : z = 0 ∨ x ≠ z) : seW w i r 30 x = w 30 x := by
  unfold seW
  split
  · rename_i hc
    rw [up_o (by decide), h, toN, up_k (by omega), up_k hx]
  · rw [up_o (by decide)]
theorem knW_30 (w : Wd) (x : Nat) (k l : Int) : knW w x k l 30 = w 30 := knW_fx w x k l 30 (by decide)
/-- the ) of an exp that is one pair of brackets lies within it -/
def CZ (i : Nat) (q : Tr × Nat) : Prop := czT q.1 = 0 ∨ (i < czT q.1 ∧ czT q.1 < q.2)
def GW (i : Nat) (q : Tr × Nat) : Prop := GP i q ∧ WE q.1 ∧ CZ i q
theorem CZ.n6 {i t j : Nat} {l r : Tr} : CZ i (nd 6 t 0 l r, j) := Or.inl (by simp [czT])
theorem pCh_cz {kd : Nat → Nat} {sub : Nat → PE (Tr × Nat)} {line : Nat} : ∀ (f : Nat) (a : Tr) (i i0 : Nat) (q : Tr × Nat), CZ i0 (a, i) → pCh kd sub line f a i = .ok q → CZ i0 q
  | 0, a, i, i0, q, h, e => by cases e; exact h
  | f + 1, a, i, i0, q, h, e => by
    rw [pCh] at e
    split at e
    · split at e
      · cases e
      · obtain ⟨b, hb, he⟩ := bnd_ok e
        exact pCh_cz f _ _ i0 q CZ.n6 he
    · cases e; exact h
theorem cL_cz {kd : Nat → Nat} {o : Nat → PE (Tr × Nat)} (ho : ∀ i q, o i = .ok q → CZ i q) : ∀ (k i : Nat) (q : Tr × Nat), cL kd o k i = .ok q → CZ i q
  | 0, i, q, e => ho i q e
  | k + 1, i, q, e => by
    rw [cL] at e
    obtain ⟨b, hb, he⟩ := bnd_ok e
    exact pCh_cz _ _ _ i q (cL_cz ho k i b hb) he
theorem pB_cz {kd : Nat → Nat} {o : Nat → PE (Tr × Nat)} (ho : ∀ i q, o i = .ok q → GP i q) {i : Nat} {q : Tr × Nat} (e : pB kd o i = .ok q) : CZ i q := by
  unfold pB at e
  split at e
  · obtain ⟨a, ha, he⟩ := bnd_ok e
    cases he
    exact Or.inl (by simp [czT])
  split at e
  · obtain ⟨a, ha, he⟩ := bnd_ok e
    obtain ⟨j, hj, he⟩ := bnd_ok he
    cases he
    have h1 := (cL_gp ho _ _ _ ha).2.1
    obtain ⟨_, rfl, _⟩ := ex_ok hj
    right
    simp only [czT, if_true]
    omega
  split at e
  · obtain ⟨i1, h1, he⟩ := bnd_ok e
    obtain ⟨a, ha, he⟩ := bnd_ok he
    obtain ⟨j, hj, he⟩ := bnd_ok he
    cases he
    exact Or.inl (by simp [czT])
  split at e
  · obtain ⟨i1, h1, he⟩ := bnd_ok e
    obtain ⟨a, ha, he⟩ := bnd_ok he
    obtain ⟨i2, h2, he⟩ := bnd_ok he
    obtain ⟨b, hb, he⟩ := bnd_ok he
    obtain ⟨i3, h3, he⟩ := bnd_ok he
    obtain ⟨c, hc, he⟩ := bnd_ok he
    obtain ⟨j, hj, he⟩ := bnd_ok he
    cases he
    exact Or.inl (by simp [czT])
  split at e
  · obtain ⟨i1, h1, he⟩ := bnd_ok e
    obtain ⟨j, hj, he⟩ := bnd_ok he
    cases he
    exact Or.inl (by simp [czT])
  split at e
  · obtain ⟨j, hj, he⟩ := bnd_ok e
    cases he
    exact Or.inl (by simp [czT])
  · cases e
    exact Or.inl (by simp [czT])
theorem pOne_cz {kd : Nat → Nat} : ∀ (n i : Nat) (q : Tr × Nat), pOne kd n i = .ok q → CZ i q := by
  intro n
  cases n with
  | zero =>
    intro i q e
    rw [pOne] at e
    split at e <;> cases e
  | succ n =>
    intro i q e
    rw [pOne] at e
    split at e
    · split at e
      · cases e
      · exact pB_cz (pOne_gp n) e
    · cases e
theorem pOne_gw {kd : Nat → Nat} {n i : Nat} {q : Tr × Nat} (h : pOne kd n i = .ok q) : GW i q := ⟨pOne_gp n i q h, pOne_we n i q h, pOne_cz n i q h⟩
theorem cL_gw {kd : Nat → Nat} {n k i : Nat} {q : Tr × Nat} (h : cL kd (pOne kd n) k i = .ok q) : GW i q := ⟨cL_gp (pOne_gp n) k i q h, cL_we (pOne_we n) k i q h, cL_cz (pOne_cz n) k i q h⟩
/-- settled at once -/
theorem XP.settle {w' : Wd} {i j r : Nat} {a : Tr} (h : XP T L E b w w' i j a) (hz : CZ i (a, j)) : XS T L E b r w (seW w' i (r : Int)) i j a := by
  obtain ⟨h1, h2, h3, h4, h5, h6, h7, h8⟩ := h
  simp only [CZ] at hz
  refine ⟨fun x hx => ?_, fun x hx => ?_, ?_, ?_, fun h0 => ((h6 h0).settle h5 h4).1, fun q hq => (h7 q hq).same (seW_fx w' i _ 25 (by decide)), fun s hs hsi => (h8 s hs hsi).fx (seW_fx w' i _) (by decide) (by decide) (by decide) (by decide) (by decide)⟩
  · obtain ⟨a1, a2, a3, a4⟩ := h1 x hx
    rw [seW_27, seW_28, seW_29, if_neg (by omega), seW_30 h5 (by omega) (by omega)]
    exact ⟨a1, a2, a3, a4⟩
  · rw [← h2 x hx]
    by_cases hxi : x = i
    · subst hxi
      rcases hz with hz | hz
      · unfold seW
        rw [h5, hz, if_neg (by omega), up_o (by decide)]
      · omega
    · exact seW_30 h5 hxi (by omega)
  · rw [seW_27]; exact h3
  · rw [seW_28]; exact h4
/-- what join blames -/
def jn (T : Nat → Int) (L : Nat) (line sign : Nat) (kl kr : Int) (x y : Nat) : Nat := if sign = 21 ∨ sign = 22 then dm T L kr kl y else min (dm T L kl (if line ≤ 2 then 2 else 1) x) (dm T L kr (if line ≤ 2 then 2 else 1) y)
theorem B2.tr {a b c : Wd} (h1 : B2 a b) (h2 : B2 b c) : B2 a c := ⟨h1.1.tr h2.1, fun x q1 q2 => (h2.2 x q1 q2).trans (h1.2 x q1 q2)⟩
theorem sp_join {line sign x y : Nat} (hD : 2 ≤ D) (hI : IC T L w) (hx : x ≤ nTk T L) (hy : y ≤ nTk T L) (hl : 1 ≤ line ∧ line ≤ 5) (h : ∀ wf, B2 w wf → (x ≤ 1000 → y ≤ 1000 → ∀ q, KY w q → KY wf (min q (jn T L line sign (w 27 x) (w 27 y) x y))) → K (.inl none) (knW (seW (seW wf x ((if line = 3 then 4 else line : Nat) : Int)) y ((line + 1 : Nat) : Int)) x (if line ≤ 3 then 2 else 1) (line : Int))) : Cal g LC jEx_join D [vA 26, vI (line : Int), vI (sign : Int), vI (x : Int), vI (y : Int)] w K := by
  obtain ⟨d, rfl⟩ : ∃ d, D = d + 1 := ⟨D - 1, by omega⟩
  have hn := nTk_le (T := T) (L := L)
  have hend : ∀ wf, B2 w wf → (x ≤ 1000 → y ≤ 1000 → ∀ q, KY w q → KY wf (min q (jn T L line sign (w 27 x) (w 27 y) x y))) → V g LC jEx_join (d + 1) K 54 [(0, vA 26), (1, vI (line : Int)), (3, vI (x : Int)), (4, vI (y : Int))] [] wf := by
    intro wf hB hk
    have hIf := hI.f25 hB.1
    have hgo : V g LC jEx_join (d + 1) K 66 [(0, vA 26), (1, vI (line : Int)), (3, vI (x : Int)), (4, vI (y : Int))] [vI ((if line = 3 then 4 else line : Nat) : Int), vI (x : Int), vA 26] wf := by
      refine s_Ex_join_66 (sp_settle (by omega) hIf ?_)
      have e1 : wr ((line : Int) + 1) = ((line + 1 : Nat) : Int) := wr_n1 (by omega)
      rw [e1]
      refine sp_settle (by omega) hIf.se ⟨fun c => s_Ex_join_90 (sp_know (by omega) ?_), fun c => s_Ex_join_90 (sp_know (by omega) ?_)⟩
      · have := h wf hB hk
        rw [if_neg (show ¬ line ≤ 3 by omega)] at this
        exact this
      · have := h wf hB hk
        rw [if_pos (show line ≤ 3 by omega)] at this
        exact this
    refine s_Ex_join_54 ⟨fun c => ?_, fun c => ?_⟩
    · rw [if_neg (by omega)] at hgo; exact hgo
    · rw [if_pos (by omega)] at hgo; exact hgo
  have h2v : (sign = 21 ∨ sign = 22) → V g LC jEx_join (d + 1) K 12 [(0, vA 26), (1, vI (line : Int)), (3, vI (x : Int)), (4, vI (y : Int))] [] w := by
    intro hs
    refine s_Ex_join_12 ⟨by omega, ?_⟩
    rw [toN]
    refine sp_demand (by omega) hI hy (fun wf hB hk => hend wf hB (fun _ hy1 q hq => ?_))
    unfold jn
    rw [if_pos hs]
    exact hk hy1 q hq
  have h1v : ¬ (sign = 21 ∨ sign = 22) → V g LC jEx_join (d + 1) K 37 [(0, vA 26), (1, vI (line : Int)), (3, vI (x : Int)), (4, vI (y : Int))] [vI (if line ≤ 2 then 2 else 1)] w := by
    intro hs
    refine s_Ex_join_37 (sp_demand (by omega) hI hx (fun wa hB hk => sp_demand (by omega) (hI.f25 hB.1) hy (fun wf hB2 hk2 => hend wf (hB.tr hB2) (fun hx1 hy1 q hq => ?_))))
    unfold jn
    rw [if_neg hs]
    have := hk2 hy1 _ (hk hx1 q hq)
    rw [hB.1 27 (by decide)] at this
    rw [← Nat.min_assoc]
    exact this
  refine Cal.ofV (by decide) rfl (Nat.le_of_ble_eq_true rfl) (s_Ex_join ⟨fun c => h2v (by omega), fun c => ⟨fun c2 => ⟨fun c3 => ?_, fun c3 => ?_⟩, fun c2 => h2v (by omega)⟩⟩)
  · have := h1v (by omega)
    rw [if_neg (by omega)] at this
    exact this
  · have := h1v (by omega)
    rw [if_pos (by omega)] at this
    exact this
theorem jk6 {t q : Nat} {l r : Tr} : jkT T L E b (nd 6 t q l r) = (if kdT T L t = 21 ∨ kdT T L t = 22 then min (min (jkT T L E b l) (jkT T L E b r)) (dm T L (knT T L E b r) (knT T L E b l) (fst_ r))
      else min (min (jkT T L E b l) (jkT T L E b r)) (min (dm T L (knT T L E b l) (if lnO (kdT T L t) ≤ 2 then 2 else 1) (fst_ l)) (dm T L (knT T L E b r) (if lnO (kdT T L t) ≤ 2 then 2 else 1) (fst_ r)))) := rfl
/-- two operands and the sign between them -/
theorem XP.join {wa wc wd we wf : Wd} {i j m line sign : Nat} {a c : Tr} (hA : XP T L E b w wa i j a) (ga : GW i (a, j)) (hac : ∀ o, o = 27 ∨ o = 28 ∨ o = 29 ∨ o = 30 → wc o = wa o) (hkac : ∀ q, KY wa q → KY wc q) (hR : XP T L E b wc wd (j + 1) m c) (gc : GW (j + 1) (c, m)) (hde : ∀ o, o = 27 ∨ o = 28 ∨ o = 29 ∨ o = 30 → we o = wd o) (hkde : ∀ q, KY wd q → KY we q) (hB : B2 we wf) (hkf : ∀ q, KY we q → KY wf (min q (jn T L line sign (we 27 i) (we 27 (j + 1)) i (j + 1)))) (hln : lnO (kdT T L j) = line) (hsg : kdT T L j = sign) (hl : 1 ≤ line ∧ line ≤ 5) (hX : ∀ s : Nat, w 19 4 = (s : Int) → s ≤ i → XC w we s (cmT T L E (nd 6 j 0 a c) s)) :
    XP T L E b w (knW (seW (seW wf i ((if line = 3 then 4 else line : Nat) : Int)) (j + 1) ((line + 1 : Nat) : Int)) i (if line ≤ 3 then 2 else 1) (line : Int)) i m (nd 6 j 0 a c) := by
  obtain ⟨a1, a2, a3, a4, a5, a6, a7, a8⟩ := hA
  obtain ⟨r1, r2, r3, r4, r5, r6, r7, r8⟩ := hR
  obtain ⟨⟨g1, g2, g3, g4⟩, gwe, gz⟩ := ga
  obtain ⟨⟨k1, k2, k3, k4⟩, kwe, kz⟩ := gc
  simp only at g1 g2 g3 g4 k1 k2 k3 k4
  simp only [CZ] at gz kz
  have hf : ∀ o, o = 27 ∨ o = 28 ∨ o = 29 ∨ o = 30 → wf o = wd o := fun o ho => by rw [hB.1 o (by simp; omega), hde o ho]
  have f27 := hf 27 (by decide)
  have f28 := hf 28 (by decide)
  have f29 := hf 29 (by decide)
  have f30 := hf 30 (by decide)
  have c27 := hac 27 (by decide)
  have c28 := hac 28 (by decide)
  have c29 := hac 29 (by decide)
  have c30 := hac 30 (by decide)
  have hlo : ∀ x, x < j + 1 → wf 27 x = wa 27 x ∧ wf 28 x = wa 28 x ∧ wf 29 x = wa 29 x ∧ wf 30 x = wa 30 x := by
    intro x hx
    obtain ⟨q1, q2, q3, q4⟩ := r1 x hx
    rw [f27, f28, f29, f30, q1, q2, q3, q4, c27, c28, c29, c30]
    exact ⟨rfl, rfl, rfl, rfl⟩
  have hfi29 : wf 29 i = ((czT a : Nat) : Int) := by rw [(hlo i (by omega)).2.2.1]; exact a5
  have hfi28 : wf 28 i = ((lnT (kdT T L) a : Nat) : Int) := by rw [(hlo i (by omega)).2.1]; exact a4
  generalize hr1 : (if line = 3 then 4 else line : Nat) = R1
  have hg29 : seW wf i (R1 : Int) 29 (j + 1) = ((czT c : Nat) : Int) := by rw [seW_29, if_neg (by omega), f29]; exact r5
  have hg28 : seW wf i (R1 : Int) 28 (j + 1) = ((lnT (kdT T L) c : Nat) : Int) := by rw [seW_28, f28]; exact r4
  have h30 : ∀ x, x ≠ i → (czT a = 0 ∨ x ≠ czT a) → x ≠ j + 1 → (czT c = 0 ∨ x ≠ czT c) → seW (seW wf i (R1 : Int)) (j + 1) ((line + 1 : Nat) : Int) 30 x = wf 30 x := by
    intro x h1 h2 h3 h4
    rw [seW_30 hg29 h3 h4, seW_30 hfi29 h1 h2]
  refine ⟨fun x hx => ?_, fun x hx => ?_, ?_, ?_, ?_, fun h0 => ?_, fun q hq => ?_, fun s hs hsi => ?_⟩
  · obtain ⟨q1, q2, q3, q4⟩ := hlo x (by omega)
    obtain ⟨p1, p2, p3, p4⟩ := a1 x hx
    rw [knW_27, if_neg (by omega), knW_28, if_neg (by omega), knW_29, if_neg (by omega), knW_30, seW_27, seW_27, seW_28, seW_28, seW_29, if_neg (by omega), seW_29, if_neg (by omega), h30 x (by omega) (by omega) (by omega) (by omega), q1, q2, q3, q4]
    exact ⟨p1, p2, p3, p4⟩
  · rw [knW_30, h30 x (by omega) (by omega) (by omega) (by omega), f30, r2 x hx, c30, a2 x (by omega)]
  · rw [knW_27, if_pos rfl]
    simp [knT, hln]
  · rw [knW_28, if_pos rfl]
    simp [lnT, hln]
  · rw [knW_29, if_pos rfl]
    simp [czT]
  · have hDa : DX (kdT T L) wf i j a := (a6 h0).congr (fun x h1 h2 => (hlo x (by omega)).2.2.2)
    have hs1 := hDa.settle (r := R1) hfi29 hfi28
    have hDc : DX (kdT T L) wd (j + 1) m c := r6 (fun x hx => by rw [c30, a2 x (by omega)]; exact h0 x (by omega))
    have hDc2 : DX (kdT T L) (seW wf i (R1 : Int)) (j + 1) m c := hDc.congr (fun x h1 h2 => by rw [hs1.2 x (by omega), f30])
    have hs2 := hDc2.settle (r := line + 1) hg29 hg28
    have d1 : DL (seW (seW wf i (R1 : Int)) (j + 1) ((line + 1 : Nat) : Int)) i j (oS (kdT T L) a R1) := hs1.1.congr (fun x h1 h2 => hs2.2 x (by omega))
    have hj0 : seW (seW wf i (R1 : Int)) (j + 1) ((line + 1 : Nat) : Int) 30 j = 0 := by
      rw [hs2.2 j (by omega), hs1.2 j (by omega), (hlo j (by omega)).2.2.2, a2 j (by omega)]
      exact h0 j (by omega)
    have d3 := (d1.app (DL.one hj0)).app hs2.1
    have e : oS (kdT T L) (nd 6 j 0 a c) 0 = oS (kdT T L) a R1 ++ [j] ++ oS (kdT T L) c (line + 1) := by
      simp [oS, hln, ← hr1]
    simp only [DX]
    rw [if_neg (by decide), e]
    exact d3.congr (fun x _ _ => by rw [knW_30])
  · have h1 := hkf _ (hkde _ (r7 _ (hkac _ (a7 q hq))))
    have e27i : we 27 i = knT T L E b a := by rw [hde 27 (by decide), (r1 i (by omega)).1, c27]; exact a3
    have e27j : we 27 (j + 1) = knT T L E b c := by rw [hde 27 (by decide)]; exact r3
    rw [e27i, e27j] at h1
    have h2 : KY (knW (seW (seW wf i (R1 : Int)) (j + 1) ((line + 1 : Nat) : Int)) i (if line ≤ 3 then 2 else 1) (line : Int)) (min (min (min q (jkT T L E b a)) (jkT T L E b c)) (jn T L line sign (knT T L E b a) (knT T L E b c) i (j + 1))) := h1.same (by rw [knW_fx _ _ _ _ 25 (by decide), seW_fx _ _ _ 25 (by decide), seW_fx _ _ _ 25 (by decide)])
    have e : jkT T L E b (nd 6 j 0 a c) = min (min (jkT T L E b a) (jkT T L E b c)) (jn T L line sign (knT T L E b a) (knT T L E b c) i (j + 1)) := by
      rw [jk6, hln, hsg]
      unfold jn
      rw [g1, k1]
      split <;> rfl
    rw [e, ← Nat.min_assoc, ← Nat.min_assoc]
    exact h2
  · refine (((hX s hs hsi).fx hB.1 (by decide) (by decide) (by decide) (by decide) (by decide)).fx (seW_fx wf i _) (by decide) (by decide) (by decide) (by decide) (by decide)).fx (M := [27, 28, 29, 30]) (w'' := _) (((seW_fx _ _ _).mono (by decide)).tr ((knW_fx _ _ _ _).mono (by decide))) (by decide) (by decide) (by decide) (by decide) (by decide)
end ExpJoin
