/-! ===== blocks, purely; the class's lot, new NAMES ===== -/
section PureGB
variable {kd : Nat → Nat} {vl : Nat → Int} {blk : Nat → Nat → Nat → PE (Tr × Nat × Nat)}
theorem pSt_gs (hb : ∀ c l i q, c ≤ 120 → blk c l i = .ok q → GB c i q) {m c l i : Nat} {r : Q4} (h : pSt kd vl blk m c l i = .ok r) : GS i r ∧ c < r.2.2.1 ∧ r.2.2.1 ≤ 120 ∧ c < 120 := by
  unfold pSt at h
  split at h
  · cases h
  rename_i hc
  split at h
  · obtain ⟨g, e⟩ := pSet_gs h
    exact ⟨g, by omega, by omega, by omega⟩
  split at h
  · obtain ⟨g, e⟩ := pLet_gs h
    exact ⟨g, by omega, by omega, by omega⟩
  split at h
  · obtain ⟨g, e⟩ := pSend_gs h
    exact ⟨g, by omega, by omega, by omega⟩
  split at h
  · obtain ⟨g, e⟩ := pGive_gs h
    exact ⟨g, by omega, by omega, by omega⟩
  split at h
  · obtain ⟨q, b1, -, ⟨⟨g1, g2, g3, g4⟩, -, -⟩, -, -, hb1, hr⟩ := pIf_ok h
    obtain ⟨-, a1, a2, a3, a4, a5⟩ := hb _ _ _ _ (by omega) hb1
    rcases hr with ⟨-, b2, hb2, rfl, -⟩ | ⟨-, rfl⟩
    · obtain ⟨-, d1, d2, d3, d4, d5⟩ := hb _ _ _ _ (by omega) hb2
      refine ⟨⟨by simp [fsS], ?_, ?_, ?_⟩, ?_, ?_, by omega⟩
      · show i < b2.2.1; omega
      · show b2.2.1 ≤ 1000; omega
      · show 1 + nK (nd 15 i 0 q.1 (nd 9 0 b1.2.1 b1.1 b2.1)) ≤ b2.2.1 - i
        have : ¬ b1.2.1 = 0 := by omega
        simp [nK, this]; omega
      · show c < b2.2.2; omega
      · show b2.2.2 ≤ 120; omega
    · refine ⟨⟨by simp [fsS], ?_, ?_, ?_⟩, ?_, ?_, by omega⟩
      · show i < b1.2.1; omega
      · show b1.2.1 ≤ 1000; omega
      · show 1 + nK (nd 15 i 0 q.1 (nd 9 0 0 b1.1 nl)) ≤ b1.2.1 - i
        simp [nK]; omega
      · show c < b1.2.2; omega
      · show b1.2.2 ≤ 120; omega
  split at h
  · obtain ⟨b1, hb1, rfl, -, -, -, -⟩ := pLoop_ok h
    obtain ⟨-, a1, a2, a3, a4, a5⟩ := hb _ _ _ _ (by omega) hb1
    refine ⟨⟨by simp [fsS], ?_, ?_, ?_⟩, ?_, ?_, by omega⟩
    · show i < b1.2.1; omega
    · show b1.2.1 ≤ 1000; omega
    · show 1 + nK (nd 16 (i + 1) 0 b1.1 nl) ≤ b1.2.1 - i
      simp [nK]; omega
    · show c < b1.2.2; omega
    · show b1.2.2 ≤ 120; omega
  · obtain ⟨rfl, -, -, h2⟩ := pHalt_ok h
    refine ⟨⟨by simp [fsS], ?_, ?_, ?_⟩, ?_, ?_, by omega⟩
    · show i < i + 1 + 1; omega
    · show i + 1 + 1 ≤ 1000; omega
    · show 1 + nK (nd 17 i 0 nl nl) ≤ i + 1 + 1 - i
      simp [nK]; omega
    · show c < c + 1; omega
    · show c + 1 ≤ 120; omega
theorem pSL_gs {st : Nat → Nat → Nat → PE Q4} (hs : ∀ c l i r, st c l i = .ok r → GS i r ∧ c < r.2.2.1 ∧ r.2.2.1 ≤ 120) : ∀ (f c l i : Nat) (z : Tr × Nat × Nat), i ≤ 1000 → c ≤ 120 → pSL kd st f c l i = .ok z → i ≤ z.2.1 ∧ z.2.1 ≤ 1000 ∧ nK z.1 ≤ z.2.1 - i ∧ c ≤ z.2.2 ∧ z.2.2 ≤ 120
  | 0, c, l, i, z, hi, hc, h => by cases h; exact ⟨Nat.le_refl _, hi, Nat.zero_le _, Nat.le_refl _, hc⟩
  | f + 1, c, l, i, z, hi, hc, h => by
    rw [pSL] at h
    split at h
    · obtain ⟨q, hq, h⟩ := bnd_ok h
      obtain ⟨y, hy, h⟩ := bnd_ok h
      cases h
      obtain ⟨⟨g1, g2, g3, g4⟩, g5, g6⟩ := hs _ _ _ _ hq
      obtain ⟨a1, a2, a3, a4, a5⟩ := pSL_gs hs f _ _ _ y g3 g6 hy
      refine ⟨?_, a2, ?_, ?_, a5⟩
      · show i ≤ y.2.1; omega
      · show nK (nd 20 0 0 q.1 y.1) ≤ y.2.1 - i
        simp [nK]; omega
      · show c ≤ y.2.2; omega
    · cases h; exact ⟨Nat.le_refl _, hi, Nat.zero_le _, Nat.le_refl _, hc⟩
theorem pBk_gb : ∀ (n c l i : Nat) (q : Tr × Nat × Nat), c ≤ 120 → pBk kd vl n c l i = .ok q → GB c i q
  | 0, c, l, i, q, hc, h => by rw [pBk] at h; split at h <;> cases h
  | n + 1, c, l, i, q, hc, h => by
    rw [pBk] at h
    obtain ⟨i1, h1, h⟩ := bnd_ok h
    obtain ⟨-, rfl, k1⟩ := ex_ok h1
    obtain ⟨z, h2, h⟩ := bnd_ok h
    obtain ⟨j, h3, h⟩ := bnd_ok h
    obtain ⟨-, rfl, k3⟩ := ex_ok h3
    cases h
    obtain ⟨a1, a2, a3, a4, a5⟩ := pSL_gs (fun c l i r hr => by have := pSt_gs (pBk_gb n) hr; exact ⟨this.1, this.2.1, this.2.2.1⟩) 121 c l (i + 1) z (by omega) hc h2
    refine ⟨⟨z.2.1, z.1, rfl, rfl⟩, ?_, ?_, ?_, a4, a5⟩
    · show i < z.2.1 + 1; omega
    · show z.2.1 + 1 ≤ 1000; omega
    · show nK (nd 21 i z.2.1 z.1 nl) + 2 ≤ z.2.1 + 1 - i
      simp [nK]; omega
end PureGB
theorem cnt_app (s : Nat) : ∀ (E : List En) (e : En), cntE s (E ++ [e]) = cntE s E + (if e.2.1 = s then 1 else 0)
  | [], e => by simp [cntE]
  | a :: E, e => by rw [List.cons_append, cntE, cntE, cnt_app s E e]; omega
theorem cnt_sum : ∀ (E : List En), (∀ e ∈ E, e.2.1 < 5) → cntE 0 E + cntE 1 E + cntE 2 E + cntE 3 E + cntE 4 E = E.length
  | [], _ => rfl
  | a :: E, h => by
    have h1 := cnt_sum E (fun e he => h e (List.mem_cons_of_mem _ he))
    have h2 := h a List.mem_cons_self
    simp only [cntE, List.length_cons]
    rcases (by omega : a.2.1 = 0 ∨ a.2.1 = 1 ∨ a.2.1 = 2 ∨ a.2.1 = 3 ∨ a.2.1 = 4) with z | z | z | z | z <;> simp [z] <;> omega
section LotS
variable {g : Mg} {D : Nat} {K : Ou → Wd → Prop} {w : Wd} {T : Nat → Int} {L : Nat} {ρ : PE ST}
theorem SZ.len {E : List En} (h : SZ w E) : E.length ≤ 28 ∧ (∀ so, so < 5 → ((cntE so E : Nat) : Int) < mostL.getD so 0 → E.length < 28) := by
  obtain ⟨h1, h2⟩ := h
  have hs := cnt_sum E h2
  have c0 := (h1 0 (by decide)).2
  have c1 := (h1 1 (by decide)).2
  have c2 := (h1 2 (by decide)).2
  have c3 := (h1 3 (by decide)).2
  have c4 := (h1 4 (by decide)).2
  simp [mostL] at c0 c1 c2 c3 c4
  refine ⟨by omega, fun so hso hlt => ?_⟩
  rcases (by omega : so = 0 ∨ so = 1 ∨ so = 2 ∨ so = 3 ∨ so = 4) with rfl | rfl | rfl | rfl | rfl <;> simp [mostL] at hlt <;> omega
def fLa (x so : Nat) (ki : Int) (s : ST) : PE ST := .ok (sI s, sE s ++ [(x, so, cntE so (sE s), ki.toNat)], sc s, sl s, sb s, sK s, sC s, sO s, sh s)
theorem EC.add {E : List En} {x so nu : Nat} {ki : Nat} {w' : Wd} (hE : EC T L w E) (hw : w' = up (up (up (up (up (up w 14 E.length (x : Int)) 15 E.length (so : Int)) 16 E.length (nu : Int)) 17 E.length (ki : Int)) 13 6 ((E.length + 1 : Nat) : Int)) 18 so ((nu + 1 : Nat) : Int)) (hx : x < nTk T L ∧ x < 1000) : EC T L w' (E ++ [(x, so, nu, ki)]) := by
  obtain ⟨h1, h2⟩ := hE
  subst hw
  refine ⟨by rw [up_o (by decide), up_s, List.length_append]; rfl, fun q e he => ?_⟩
  by_cases hq : q < E.length
  · rw [List.getElem?_append_left hq] at he
    obtain ⟨a1, a2, a3, a4, a5⟩ := h2 q e he
    have hne : q ≠ E.length := by omega
    refine ⟨?_, ?_, ?_, ?_, a5⟩ <;> simp [up, hne] <;> assumption
  · rw [List.getElem?_append_right (by omega)] at he
    cases hqq : q - E.length with
    | zero =>
      rw [hqq] at he
      have hqe : q = E.length := by omega
      subst hqe
      cases he
      refine ⟨?_, ?_, ?_, ?_, hx⟩ <;> simp [up]
    | succ p => rw [hqq] at he; simp at he
theorem st_lotAdd {x so : Nat} {ki : Int} (hD : 1 ≤ D) (hR : RdS T L w ρ) (hso : so < 5) (hx : x ≤ nTk T L) (hf : ∀ s, ρ = .ok s → ((cntE so (sE s) : Nat) : Int) < mostL.getD so 0 ∧ x < nTk T L ∧ x < 1000 ∧ 0 ≤ ki) (h : ∀ (w' : Wd) (y : Int), FxS w w' → (∀ s, ρ = .ok s → y = ((cntE so (sE s) : Nat) : Int)) → RdS T L w' (bnd ρ (fLa x so ki)) → w' 27 = w 27 → K (.inl (some (vI y))) w') : Cal g LC jLo_add D [vA 13, vI (x : Int), vI (so : Int), vI ki] w K := by
  obtain ⟨d, rfl⟩ : ∃ d, D = d + 1 := ⟨D - 1, by omega⟩
  obtain ⟨n, hn, hn28, hnl⟩ := id hR.1.2.1
  have hno : (∀ s, ρ ≠ .ok s) → ∀ y, K (.inl (some (vI y))) w := by
    intro hne y
    cases ρ with
    | error e => exact h w y (FxS.rf w) (fun s z => by cases z) hR rfl
    | ok s => exact absurd rfl (hne s)
  refine Cal.ofV (by decide) rfl (Nat.le_of_ble_eq_true rfl) (s_Lo_add (Cal.ofV (by decide) rfl (Nat.le_of_ble_eq_true rfl) (s_Lo_isFull ⟨by omega, by omega, fun c => ⟨fun z => absurd rfl z, fun _ => ⟨fun c2 => ?_, fun c2 => hno (fun s hs => ?_) _⟩⟩, fun c => ⟨fun _ => hno (fun s hs => ?_) _, fun z => absurd z (by decide)⟩⟩)))
  · rw [hn] at c2 ⊢
    rw [toN, toN]
    refine ⟨by omega, by omega, by omega, by omega, by omega, by omega, by omega, ?_⟩
    rw [wr_n1 (by omega)]
    have hF : Fx [13, 14, 15, 16, 17, 18] w (up (up (up (up (up (up w 14 n (x : Int)) 15 n (so : Int)) 16 n (w 18 so)) 17 n ki) 13 6 ((n + 1 : Nat) : Int)) 18 so (wr (w 18 so + 1))) := ((((((Fx.rf _ w).up (by decide)).up (by decide)).up (by decide)).up (by decide)).up (by decide)).up (by decide)
    have hI' : IC T L (up (up (up (up (up (up w 14 n (x : Int)) 15 n (so : Int)) 16 n (w 18 so)) 17 n ki) 13 6 ((n + 1 : Nat) : Int)) 18 so (wr (w 18 so + 1))) := by
      refine ⟨?_, ⟨n + 1, by rw [up_o (by decide), up_s], by omega, fun e he => ?_⟩, hR.1.2.2.1.fx hF (by decide), hR.1.2.2.2.fx hF (by decide)⟩
      · have := hR.1.1
        unfold TxC Toks TokE at *
        rw [hF 2 (by decide), hF 3 (by decide), hF 4 (by decide), hF 5 (by decide), hF 6 (by decide), hF 7 (by decide)]
        exact this
      · by_cases hen : e = n
        · subst hen
          refine ⟨⟨x, by simp [up], hx⟩, ?_, ?_⟩ <;> simp [up] <;> omega
        · obtain ⟨⟨t, ht, ht2⟩, h1, h2⟩ := hnl e (by omega)
          refine ⟨⟨t, by simp [up, hen]; exact ht, ht2⟩, ?_, ?_⟩ <;> simp [up, hen] <;> assumption
    refine h _ _ (FxS.of hF (by decide) (by decide)) (fun s hs => ?_) ⟨hI', by rw [hF 26 (by decide)]; exact hR.2.1, ?_⟩ (hF 27 (by decide))
    · subst hs
      exact (hR.2.2.2.2.1.1 so hso).1
    · cases ρ with
      | error e => exact CS.fx (σ := .error e) hR.2.2 hF (by decide)
      | ok s =>
        obtain ⟨o1, o2, o3, o4, o5, o6, o7, o8, o9, o10⟩ := hR.2.2
        obtain ⟨f1, f2, f3, f4⟩ := hf s rfl
        have hnE : n = (sE s).length := by have := o2.1; rw [hn] at this; omega
        have h18 := (o3.1 so hso).1
        have hlen := o3.len.1
        have hcl : cntE so (sE s) ≤ 28 := by
          have := (o3.1 so hso).2
          rcases (by omega : so = 0 ∨ so = 1 ∨ so = 2 ∨ so = 3 ∨ so = 4) with rfl | rfl | rfl | rfl | rfl <;> simp [mostL] at this <;> omega
        have hki : ki = ((ki.toNat : Nat) : Int) := by omega
        refine ⟨CS.fx (σ := .ok (sI s)) o1 hF (by decide), EC.add o2 ?_ ⟨f2, f3⟩, ⟨fun t ht => ?_, fun e he => ?_⟩, by rw [hF 8 (by decide)]; exact o4, by rw [hF 24 (by decide)]; exact o5, by rw [hF 26 (by decide)]; exact o6, o7.same (hF 25 (by decide)), o8.fx hF (by decide) (by decide) (by decide) (by decide) (by decide), o9.congr (fun x _ _ => by rw [hF 30 (by decide)]), fun x hx => by rw [hF 30 (by decide)]; exact o10 x hx⟩
        · rw [h18, hnE, wr_n1 (by omega), ← hki]
        · rw [cnt_app]
          by_cases hts : t = so
          · subst hts
            rw [up_s, h18, wr_n1 (by omega)]
            refine ⟨by simp, ?_⟩
            simp only [if_true]
            omega
          · rw [up_k hts, up_o (by decide), up_o (by decide), up_o (by decide), up_o (by decide), up_o (by decide)]
            have := o3.1 t ht
            have hn2 : ¬ so = t := fun z => hts z.symm
            simp only [hn2, if_false, Nat.add_zero]
            exact this
        · rcases List.mem_append.mp he with he | he
          · exact o3.2 e he
          · simp at he; subst he; exact hso
  · subst hs
    obtain ⟨f1, f2, f3, f4⟩ := hf s rfl
    have := hR.2.2.2.2.1.len.2 so hso f1
    have h2 := hR.2.2.2.1.1
    rw [hn] at c2 h2
    omega
  · subst hs
    obtain ⟨f1, f2, f3, f4⟩ := hf s rfl
    rw [toN, (hR.2.2.2.2.1.1 so hso).1] at c
    exact c f1
end LotS
