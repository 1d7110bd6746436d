/-! ===== the model judges a program ===== -/
abbrev RT : Type := (ST × DE) × (Tr × Nat × Nat) × (Tr × Nat × Nat)
def PgJ (T : Nat → Int) (L : Nat) (w : Wd) (r : RT) : Prop := JS T L w r.2.1.1 (sE r.1.1) 0 0 ∧ JS T L w r.2.2.1 (sE r.1.1) r.2.1.2.2 (nE r.2.1.1)
def keyM (T : Nat → Int) (L : Nat) (r : RT) : Nat := min (min (kyT T L (sE r.1.1) (sE r.1.1).length) (jS T L r.2.1.1 (sE r.1.1))) (jS T L r.2.2.1 (sE r.1.1))
def FMq (w w' : Wd) : Prop := Fx [0, 1, 24, 32, 33, 34, 35, 36] w w' ∧ ∀ b, b ≠ 46 → b ≠ 47 → b ≠ 50 → b ≠ 51 → b ≠ 52 → b ≠ 53 → w' 0 b = w 0 b
theorem FMq.tr {a b c : Wd} (h1 : FMq a b) (h2 : FMq b c) : FMq a c := ⟨h1.1.tr h2.1, fun x p1 p2 p3 p4 p5 p6 => (h2.2 x p1 p2 p3 p4 p5 p6).trans (h1.2 x p1 p2 p3 p4 p5 p6)⟩
theorem FMq.k {w w' : Wd} {s s' lo hi n : Nat} (h : FMk w w' s s' lo hi n) : FMq w w' := ⟨h.1.mono (by decide), h.2.1⟩
theorem FMq.j {w w' : Wd} {lo hi : Nat} (h : FMj w w' lo hi) : FMq w w' := ⟨h.1.mono (by decide), fun x p1 p2 _ p4 p5 p6 => h.2.1 x p1 p2 p4 p5 p6⟩
theorem num_take {E : List En} (h : NUM E) (k : Nat) : NUM (E.take k) := by
  intro i e he
  have hi : i < k := by
    have := (List.getElem?_eq_some_iff.mp he).1
    rw [List.length_take] at this
    omega
  rw [List.getElem?_take_of_lt hi] at he
  rw [List.take_take, Nat.min_eq_left (by omega)]
  exact h i e he
section ModelJudge10
variable {g : Mg} {T : Nat → Int} {L m D : Nat} {K : Ou → Wd → Prop} {w : Wd} {r : RT}
theorem TxM.fq {w' : Wd} (h : TxM T L m w) (hf : FMq w w') : TxM T L m w' := by
  obtain ⟨h1, h2, h3, h4, h5, h6⟩ := h
  refine ⟨?_, h2, h3, h4, by rw [hf.1 3 (by decide)]; exact h5, h6⟩
  unfold MTk at *
  rw [hf.1 4 (by decide), hf.1 5 (by decide), hf.1 6 (by decide), hf.1 7 (by decide)]
  exact h1
theorem sp_judgeProgM (hD : 1100 ≤ D) (hM : TxM T L m w) (hP : PgM T L w r) (hr : Rd T L r) (hb : sI r.1.1 ≤ m ∧ r.2.1.2.1 ≤ m ∧ r.2.2.2.1 ≤ m) (h : keyM T L r = 100000 → ∀ w', FMq w w' → PgM T L w' r → PgJ T L w' r → K (.inl none) w') (he : keyM T L r ≠ 100000 → ∀ w', FMq w w' → w' 1 0 = ((keyM T L r % 8 : Nat) : Int) → w' 1 1 = ((keyM T L r / 8 : Nat) : Int) → K (.inr 1) w') : Cal g LM jMd_judgeProgram D [vA 0] w K := by
  obtain ⟨d, rfl⟩ : ∃ d, D = d + 1 := ⟨D - 1, by omega⟩
  obtain ⟨p, a, b⟩ := r
  obtain ⟨hT, hPT, hRa, hRb, h41, h42, hWa, hWb, hna, hnb⟩ := id hP
  obtain ⟨-, -, -, hEo, ha, hbk, hga, hgb, -, -, -⟩ := hr
  simp only at hT hPT hRa hRb h41 h42 hWa hWb hna hnb hEo ha hbk hga hgb hb
  have hlen := hT.len
  have hE0 : sE p.1 = p.2.map (fun e => e.1) := hPT.1
  have hEl : (sE p.1).length = p.2.length := by rw [hE0, List.length_map]
  -- the NAMES so far
  have hen : ∀ (k : Nat) (w1 : Wd), k ≤ p.2.length → FMq w w1 → w1 0 50 = 0 → (∀ x, x < k → w1 36 x = 1) → (∀ x, k ≤ x → x < p.2.length → w1 36 x = 0) → EnM m w1 ((sE p.1).take k) [] := by
    intro k w1 hk hF h50 hm1 hm0
    have hl : ((sE p.1).take k).length = k := by rw [List.length_take, hEl]; omega
    refine ⟨num_take hEo.1 k, fun i e hi => ?_, ⟨p.2.length, by rw [hF.2 20 (by decide) (by decide) (by decide) (by decide) (by decide) (by decide)]; exact hT.1, by omega, by omega, fun x p1 p2 => hm0 x (by omega) p2⟩, h50, Nat.zero_le _, fun i e hi => by simp at hi⟩
    have hik : i < k := by have := (List.getElem?_eq_some_iff.mp hi).1; omega
    rw [List.getElem?_take_of_lt hik] at hi
    have hmem : e ∈ sE p.1 := List.mem_of_getElem? hi
    obtain ⟨q1, q2, q3, q4⟩ := hEo.2 e hmem
    rw [hE0, List.getElem?_map] at hi
    cases hd : p.2[i]? with
    | none => rw [hd] at hi; cases hi
    | some x =>
      rw [hd] at hi
      have hx : x.1 = e := Option.some.inj hi
      obtain ⟨t1, t2, t3, -⟩ := hT.2.2.2 i x hd
      refine ⟨by rw [hm1 i hik]; decide, by rw [hF.1 10 (by decide), ← hx]; exact t1, by rw [hF.1 11 (by decide), ← hx]; exact t2, ?_, by omega⟩
      rw [hF.1 12 (by decide)]
      have t3' : w 12 i = (x.1.2.2.2 : Int) - 1 := t3
      rw [t3', hx]
      unfold kM
      rw [if_neg (by omega)]
  have gA := pBk_g3 _ _ _ _ _ (Nat.zero_le _) ha
  have gB := pBk_g3 _ _ _ _ _ hga.2.2.2.2.2 hbk
  have bkA : isBk a.1 := by obtain ⟨z, s, e, -⟩ := hga.1; rw [e]; exact Or.inr rfl
  have bkB : isBk b.1 := by obtain ⟨z, s, e, -⟩ := hgb.1; rw [e]; exact Or.inr rfl
  have hS : ∀ e ∈ sE p.1, e.2.1 ≤ 3 ∧ e.2.2.2 ≤ 2 := fun e he => ⟨(hEo.2 e he).1, (hEo.2 e he).2.2.1⟩
  have hC0 : cntE 4 (sE p.1) = 0 := hPT.2.2.2.2.2.2.2
  have nA : nE a.1 ≤ 1000 ∧ nT a.1 ≤ 120 := by
    have := hga.2.2.1; have := gA.2.2; have := hga.2.2.2.2.2
    omega
  have nB : nE b.1 ≤ 1000 ∧ nT a.1 + nT b.1 ≤ 120 := by
    have := hgb.2.2.1; have := gB.2.2; have := hgb.2.2.2.2.2
    omega
  -- behind the told NAMES
  have fin : ∀ w1, FMq w w1 → w1 0 50 = 0 → (∀ x, x < p.2.length → w1 36 x = 1) → KyM w1 (kyT T L (sE p.1) (sE p.1).length) → (∀ o, 17 ≤ o → o ≤ 33 → w1 o = w o) → V g LM jMd_judgeProgram (d + 1) K 35 [(0, vA 0), (1, vI (p.2.length : Int))] [] w1 := by
    intro w1 hF h50 hm1 hK1 hrw
    have hE1 := hen p.2.length w1 (Nat.le_refl _) hF h50 hm1 (fun x p1 p2 => by omega)
    rw [List.take_of_length_le (by omega)] at hE1
    have hq : ∀ b, b ≠ 46 → b ≠ 47 → b ≠ 50 → b ≠ 51 → b ≠ 52 → b ≠ 53 → w1 0 b = w 0 b := hF.2
    have rA : SR (kdT T L) w1 a.1 0 0 := SR.cgA a.1 0 0 hWa hRa (fun x _ _ o p1 p2 => by rw [hrw o p1 (by omega)]) (fun x _ _ o p1 p2 => by rw [hrw o (by omega) (by omega)])
    have rB : SR (kdT T L) w1 b.1 a.2.2 (nE a.1) := SR.cgA b.1 _ _ hWb hRb (fun x _ _ o p1 p2 => by rw [hrw o p1 (by omega)]) (fun x _ _ o p1 p2 => by rw [hrw o (by omega) (by omega)])
    refine s_Md_judgeProgram_35 ⟨fun _ => ?_, fun z => absurd (by rw [hq 20 (by decide) (by decide) (by decide) (by decide) (by decide) (by decide), hT.1]; exact Int.le_refl _) z⟩
    rw [hq 41 (by decide) (by decide) (by decide) (by decide) (by decide) (by decide), h41]
    refine sp_judgeBlock (vl := vlT T L) hS hC0 bkA hWa (SX.le (by omega) _ (pBk_sx _ _ _ _ _ (Nat.zero_le _) ha)) (pBk_ob _ _ _ _ _ (Nat.zero_le _) ha) (by omega) (by omega) (by omega) _ w1 _ (hM.fq hF) hE1 rA hK1 (fun w2 hF2 hK2 hJ2 hE2 => ?_)
    rw [hF2.2.1 42 (by decide) (by decide) (by decide) (by decide) (by decide) (by decide), hq 42 (by decide) (by decide) (by decide) (by decide) (by decide) (by decide), h42]
    refine sp_judgeBlock (vl := vlT T L) hS hC0 bkB hWb (SX.le (by omega) _ (pBk_sx _ _ _ _ _ hga.2.2.2.2.2 hbk)) (pBk_ob _ _ _ _ _ hga.2.2.2.2.2 hbk) (by omega) (by omega) (by omega) _ w2 _ ((hM.fq hF).fk hF2) hE2 (rB.fk hWb hF2) hK2 (fun w3 hF3 hK3 hJ3 hE3 => ?_)
    rw [List.append_nil] at hK3 hJ2 hJ3
    have hkm : keyM T L (p, a, b) = min (min (kyT T L (sE p.1) (sE p.1).length) (jS T L a.1 (sE p.1))) (jS T L b.1 (sE p.1)) := rfl
    rw [← hkm] at hK3
    have hFq : FMq w w3 := (hF.tr (FMq.k hF2)).tr (FMq.k hF3)
    refine ⟨fun z => ?_, fun z => ?_⟩
    · have hk : keyM T L (p, a, b) = 100000 := by
        rcases hK3 with ⟨q, -⟩ | ⟨pp, f, q1, q2, q3, q4, q5, q6⟩
        · exact q
        · omega
      refine h hk w3 hFq ⟨?_, hPT, (rA.fk hWa hF2).fk hWa hF3, (rB.fk hWb hF2).fk hWb hF3, by rw [hFq.2 41 (by decide) (by decide) (by decide) (by decide) (by decide) (by decide)]; exact h41, by rw [hFq.2 42 (by decide) (by decide) (by decide) (by decide) (by decide) (by decide)]; exact h42, hWa, hWb, hna, hnb⟩ ⟨hJ2.fk hWa hF3 (Or.inl (by show 0 + nT a.1 ≤ a.2.2; omega)) (Or.inl (by show 0 + nE a.1 ≤ nE a.1; omega)), hJ3⟩
      exact hT.cg (hFq.2 20 (by decide) (by decide) (by decide) (by decide) (by decide) (by decide)) (fun o p1 p2 => hFq.1 o (by simp; omega))
    · rcases hK3 with ⟨q, q2⟩ | ⟨pp, f, q1, q2, q3, q4, q5, q6⟩
      · exact absurd (by omega) z
      · rw [q5, q6]
        refine sp_fail (he (by omega) _ (hFq.tr ⟨((Fx.rf _ w3).up (by decide)).up (by decide), fun x _ _ _ _ _ _ => by rw [up_o (by decide), up_o (by decide)]⟩) ?_ ?_)
        · rw [up_k (by decide), up_s]
          omega
        · rw [up_s]
          omega
  have lp : ∀ (f k : Nat) (w1 : Wd), k + f = p.2.length → FMq w w1 → w1 0 50 = 0 → (∀ x, x < k → w1 36 x = 1) → (∀ x, k ≤ x → x < p.2.length → w1 36 x = 0) → KyM w1 (kyT T L (sE p.1) k) → (∀ o, 17 ≤ o → o ≤ 33 → w1 o = w o) → V g LM jMd_judgeProgram (d + 1) K 35 [(0, vA 0), (1, vI (k : Int))] [] w1 := by
    intro f
    induction f with
    | zero =>
      intro k w1 hk hF h50 hm1 hm0 hK1 hrw
      have : k = p.2.length := by omega
      subst this
      rw [← hEl] at hK1
      exact fin w1 hF h50 hm1 hK1 hrw
    | succ f ih =>
      intro k w1 hk hF h50 hm1 hm0 hK1 hrw
      have hE1 := hen k w1 (by omega) hF h50 hm1 hm0
      have hkl : k < (sE p.1).length := by omega
      obtain ⟨e, hek⟩ : ∃ e, (sE p.1)[k]? = some e := ⟨(sE p.1)[k], List.getElem?_eq_some_iff.mpr ⟨hkl, rfl⟩⟩
      have hbk' : (0 : Int) ≤ (k : Int) ∧ (k : Int) < 30 := by omega
      have h11 : w 11 k = (e.1 : Int) := by
        have hi := hek
        rw [hE0, List.getElem?_map] at hi
        cases hd : p.2[k]? with
        | none => rw [hd] at hi; cases hi
        | some x =>
          rw [hd] at hi
          have hx : x.1 = e := Option.some.inj hi
          rw [← hx]
          exact (hT.2.2.2 k x hd).2.1
      have hem : e.1 ≤ m := by have := (hEo.2 e (List.mem_of_getElem? hek)).2.2.2; omega
      have hky : kyT T L (sE p.1) (k + 1) = min (kyT T L (sE p.1) k) (if fnd T L ((sE p.1).take k) e.1 = none then 100000 else tAt T L e.1 * 8 + 3) := by rw [kyT, hek]
      have next : ∀ w2, FMq w w2 → w2 0 50 = 0 → w2 36 = w1 36 → KyM w2 (kyT T L (sE p.1) (k + 1)) → (∀ o, 17 ≤ o → o ≤ 33 → w2 o = w o) → V g LM jMd_judgeProgram (d + 1) K 35 [(0, vA 0), (1, vI (wr ((k : Int) + 1)))] [] (up w2 36 k 1) := by
        intro w2 hF2 h502 h36 hK2 hrw2
        rw [wr_n1 (by omega)]
        refine ih (k + 1) _ (by omega) (hF2.tr ⟨(Fx.rf _ w2).up (by decide), fun x _ _ _ _ _ _ => by rw [up_o (by decide)]⟩) (by rw [up_o (by decide)]; exact h502) (fun x hx => ?_) (fun x hx hx2 => ?_) (hK2.same (by rw [up_o (by decide)]) (by rw [up_o (by decide)])) (fun o p1 p2 => by rw [up_o (by omega)]; exact hrw2 o p1 p2)
        · by_cases hxk : x = k
          · subst hxk; exact up_s _ _ _ _
          · rw [up_k hxk, h36]; exact hm1 x (by omega)
        · rw [up_k (by omega), h36]; exact hm0 x (by omega) hx2
      refine s_Md_judgeProgram_35 ⟨fun z => ?_, fun _ => ⟨hbk', ?_⟩⟩
      · rw [hF.2 20 (by decide) (by decide) (by decide) (by decide) (by decide) (by decide), hT.1] at z
        omega
      rw [toN, hF.1 11 (by decide), h11]
      refine sp_findM (by omega) (hM.fq hF) hE1 hem (fun w2 hF2 => ?_)
      rw [List.append_nil] at hF2 ⊢
      have hj2 : FMq w1 w2 := FMq.j (lo := 0) (hi := 0) (FMj.fn hF2)
      have h502 : w2 0 50 = 0 := by rw [hF2.2.1 50 (by decide) (by decide) (by decide)]; exact h50
      refine ⟨fun z => ⟨hbk', ?_⟩, fun z => ⟨hbk', ?_⟩⟩
      · refine next w2 (hF.tr hj2) h502 (hF2.1 36 (by decide)) ?_ (fun o p1 p2 => by rw [hF2.1 o (by omega)]; exact hrw o p1 p2)
        rw [hky, if_pos (nn_none z), hK1.big]
        exact hK1.fn hF2
      · obtain ⟨x, hx⟩ := nn_some z
        rw [hF2.1 11 (by decide), hF.1 11 (by decide), h11]
        refine sp_blameM (f := 3) (by omega) ((hM.fq hF).fq hj2) hem (by decide) (hK1.fn hF2) (fun w3 q1 q2 q3 => ⟨hbk', ?_⟩)
        have hB : Blm w2 w3 := ⟨q1, q2⟩
        refine next w3 ((hF.tr hj2).tr (FMq.j (lo := 0) (hi := 0) (FMj.bl hB))) (by rw [q2 50 (by decide) (by decide)]; exact h502) (by rw [q1 36 (by decide), hF2.1 36 (by decide)]) ?_ (fun o p1 p2 => by rw [q1 o (by omega), hF2.1 o (by omega)]; exact hrw o p1 p2)
        rw [hky, hx, if_neg (fun z => by cases z)]
        exact q3
  have lp0 : ∀ (f i : Nat), i + f = p.2.length → V g LM jMd_judgeProgram (d + 1) K 12 [(0, vA 0), (1, vI (i : Int))] [] (fillw (up (up w 0 46 0) 0 50 0) 36 i 0) := by
    intro f
    induction f with
    | zero =>
      intro i hi
      have : i = p.2.length := by omega
      subst this
      refine s_Md_judgeProgram_12 ⟨fun _ => ?_, fun z => absurd ?_ z⟩
      · refine lp p.2.length 0 _ (by omega) ⟨fun o ho => ?_, fun x p1 p2 p3 _ _ _ => ?_⟩ ?_ (fun x hx => absurd hx (Nat.not_lt_zero _)) (fun x _ hx => ?_) (Or.inl ⟨rfl, ?_⟩) (fun o p1 p2 => ?_)
        · have h0 : o ≠ 0 := fun z => ho (by simp [z])
          have h36 : o ≠ 36 := fun z => ho (by simp [z])
          funext x
          rw [fillw_ne h36, up_o h0, up_o h0]
        · rw [fillw_ne (by decide), up_k p3, up_k p1]
        · rw [fillw_ne (by decide), up_s]
        · rw [fillw_in hx]
        · rw [fillw_ne (by decide), up_k (by decide), up_s]
        · funext x
          rw [fillw_ne (by omega), up_o (by omega), up_o (by omega)]
      · rw [fillw_ne (by decide), up_k (by decide), up_k (by decide), hT.1]
        exact Int.le_refl _
    | succ f ih =>
      intro i hi
      refine s_Md_judgeProgram_12 ⟨fun z => ?_, fun _ => ⟨by omega, ?_⟩⟩
      · rw [fillw_ne (by decide), up_k (by decide), up_k (by decide), hT.1] at z
        omega
      · rw [toN, fillw_s, wr_n1 (by omega)]
        exact ih (i + 1) (by omega)
  refine Cal.ofV (by decide) rfl (Nat.le_of_ble_eq_true rfl) (s_Md_judgeProgram ?_)
  have := lp0 p.2.length 0 (by omega)
  rw [fillw_0] at this
  exact this
end ModelJudge10
