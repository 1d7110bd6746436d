/-! ===== the model reads exps: one, and so all of them ===== -/
section ModelOne
variable {g : Mg} {d D : Nat} {K : Ou → Wd → Prop} {w : Wd} {T : Nat → Int} {L m dep : Nat}
theorem psM_ex {kd : Nat → Nat} {c i : Nat} (h : kd i = c) : psM i = ex kd c i := by unfold psM ex; rw [if_pos h]
/-- what a reader of a piece owes -/
abbrev OkM (K : Ou → Wd → Prop) (T : Nat → Int) (L m dep : Nat) (w : Wd) (n : Nat) (R : PE (Tr × Nat)) : Prop := ∀ w' q, R = .ok q → FMx w w' → MS w' q.2 (n + nX q.1) dep → q.2 ≤ m → ARx (kdT T L) w' q.1 n → LoX w w' n → K (.inl (some (vI ((n + nX q.1 - 1 : Nat) : Int)))) w'
abbrev NoM (K : Ou → Wd → Prop) (T : Nat → Int) (L : Nat) (w : Wd) (R : PE (Tr × Nat)) : Prop := ∀ w' e, R = .error e → FMx w w' → ErM T L w' e → K (.inr 1) w'
theorem one_leaf {i n : Nat} {k : Int} {R : PE (Tr × Nat)} (hd : 1 ≤ d) (hM : TxM T L m w) (hS : MS w i n dep) (him : i ≤ m) (hi10 : i ≤ 1000) (hni : n ≤ i) (hk2 : 2 ≤ kdT T L i) (hk : k = kdM (kdT T L i)) (hr : R = if 1000 ≤ i then .error (2, i) else .ok (nd 0 i 0 nl nl, i + 1)) (h : OkM K T L m dep w n R) (he : NoM K T L w R) : V g LM jMd_readOne (d + 1) K 455 [(0, vA 0), (1, vI (i : Int))] [vI k] w := by
  refine s_Md_readOne_455 (sp_passM hd hM hS.1 him hi10 (fun j hj => ?_) (fun e hj => he _ e ?_ FMx.th (thW_er T L w e)))
  · unfold psM at hj
    split at hj
    · cases hj
    rename_i hlt
    cases hj
    have hS1 : MS (up w 0 11 ((i + 1 : Nat) : Int)) (i + 1) n dep := hS.at_
    refine sp_expM hS1.2.1 (by omega) ?_
    obtain ⟨hA, h1⟩ := ar_leaf (T := T) (L := L) (w := up w 0 11 ((i + 1 : Nat) : Int)) (c := 0) (t := i) (i := i) (n := n) (k := k) (dd := 0) (Or.inl rfl) hk rfl
    have := h (exW (up w 0 11 ((i + 1 : Nat) : Int)) n k (i : Int) (i : Int) (-2) (-2)) (nd 0 i 0 nl nl, i + 1) (by rw [hr, if_neg hlt]) (FMx.at_.tr FMx.ex) (by show MS _ (i + 1) (n + nX (nd 0 i 0 nl nl)) dep; rw [h1]; exact hS1.ex) (hM.lt him hk2) hA (LoX.u0.tr (exW_lo _ _ _ _ _ _ _))
    have e1 : n + nX (nd 0 i 0 nl nl) - 1 = n := by rw [h1]; omega
    rw [e1] at this
    exact this
  · unfold psM at hj
    split at hj
    · rename_i hlt
      rw [hr, if_pos hlt]; cases hj; rfl
    · cases hj
theorem dep_up (h : w 0 44 = (dep : Int)) (hd : dep ≤ 100) : wr (w 0 44 + 1) = ((dep + 1 : Nat) : Int) := by rw [h]; exact wr_n1 (by omega)
theorem dep_dn (h : w 0 44 = ((dep + 1 : Nat) : Int)) (hd : dep ≤ 100) : wr (w 0 44 - 1) = (dep : Int) := by rw [h]; exact wrN (by omega) (by omega)
theorem one_unary {i n n' : Nat} {k : Int} {R : PE (Tr × Nat)} (hd : 1 ≤ d) (hdep : dep ≤ 12) (ho : SpM g jMd_readOne d T L m (dep + 1) (pOne (kdT T L) n')) (hM : TxM T L m w) (hS : MS w i n dep) (him : i ≤ m) (hi10 : i ≤ 1000) (hni : n ≤ i) (hk2 : 2 ≤ kdT T L i) (hk : k = if kdT T L i = 16 then 9 else 10) (hr : R = bnd (psM i) (fun i1 => bnd (pOne (kdT T L) n' i1) (fun q => .ok (nd 5 i 0 q.1 nl, q.2)))) (h : OkM K T L m dep w n R) (he : NoM K T L w R) : V g LM jMd_readOne (d + 1) K 43 [(0, vA 0), (1, vI (i : Int))] [vI k] w := by
  refine s_Md_readOne_43 (sp_passM hd hM hS.1 him hi10 (fun j hj => ?_) (fun e hj => he _ e (by rw [hr, hj]; rfl) FMx.th (thW_er T L w e)))
  have hj2 : j = i + 1 := by unfold psM at hj; split at hj; (· cases hj); (· cases hj; rfl)
  subst hj2
  have hS1 : MS (up w 0 11 ((i + 1 : Nat) : Int)) (i + 1) n dep := hS.at_
  rw [dep_up hS1.2.2 (by omega)]
  have hi9 : i < 1000 := by unfold psM at hj; split at hj; (· cases hj); (· omega)
  refine ho _ _ (i + 1) n (hM.fx (FMx.at_.tr FMx.dp)) (hS1.dp (k := dep + 1)) (hM.lt him hk2) (by omega) (by omega) (fun w3 q hq hF3 hS3 hqm hA3 hL3 => ?_) (fun w3 e hee hF3 hE3 => he w3 e (by rw [hr, hj, bnd_ok', hee]; rfl) ((FMx.at_.tr FMx.dp).tr hF3) hE3)
  rw [dep_dn hS3.2.2 (by omega)]
  have hg := pOne_gw hq
  have hS4 : MS (up w3 0 44 (dep : Int)) q.2 (n + nX q.1) dep := hS3.dp
  have g1 := hg.1.2.1; have g2 := hg.1.2.2.1; have g3 := hg.1.2.2.2; have g4 := nX_nD q.1
  refine sp_expM hS4.2.1 (by omega) ?_
  have hA4 : ARx (kdT T L) (up w3 0 44 (dep : Int)) q.1 n := hA3.lo LoX.u0 (Nat.le_refl _) (nX_pos _ hg.2.1)
  obtain ⟨hA, h1⟩ := ar_over (c := 5) (t := i) (q := 0) (i := i) (k := k) (Or.inr rfl) hk hg.2.1 hA4
  have := h _ (nd 5 i 0 q.1 nl, q.2) (by rw [hr, hj, bnd_ok', hq]; rfl) (((FMx.at_.tr FMx.dp).tr hF3).tr (FMx.dp.tr FMx.ex)) (by show MS _ q.2 (n + nX (nd 5 i 0 q.1 nl)) dep; rw [h1, ← Nat.add_assoc]; exact hS4.ex) hqm hA (((LoX.u0.tr LoX.u0).tr hL3).tr (LoX.u0.tr ((exW_lo _ _ _ _ _ _ _).le (by omega))))
  have e1 : n + nX (nd 5 i 0 q.1 nl) - 1 = n + nX q.1 := by rw [h1]; omega
  rw [e1] at this
  exact this
theorem ex_i {kd : Nat → Nat} {c i j : Nat} (h : ex kd c i = .ok j) : j = i + 1 ∧ i < 1000 ∧ kd i = c := by obtain ⟨a, b, c'⟩ := ex_ok h; exact ⟨b, by omega, a⟩
theorem sp_oneM {nn : Nat} (hd : 8 ≤ d) (hdep : dep + nn = 13) (ho : ∀ n', nn = n' + 1 → SpM g jMd_readOne d T L m (dep + 1) (pOne (kdT T L) n')) (hx : ∀ n', nn = n' + 1 → SpM g jMd_readExp d T L m (dep + 1) (pE (kdT T L) n')) : SpM g jMd_readOne (d + 1) T L m dep (pOne (kdT T L) nn) := by
  intro K w i n hM hS him hi10 hni h he
  refine Cal.ofV (by decide) rfl (Nat.le_of_ble_eq_true rfl) (s_Md_readOne (sp_mustBegin (by omega) hM hS him (fun hb hdp => ?_) (fun hb => he _ (1, i) (pO_n hb nn) FMx.th (thW_er T L w (1, i))) (fun hb hdp => ?_)))
  · obtain ⟨n', rfl⟩ : ∃ n', nn = n' + 1 := ⟨nn - 1, by omega⟩
    have hat := hS.1
    have hk2 : 2 ≤ kdT T L i := by omega
    obtain ⟨hkk, hm4, -⟩ := id hM
    obtain ⟨k4, -, -, -⟩ := hkk i (by omega)
    have hr0 : pOne (kdT T L) (n' + 1) i = bnd (psM i) (fun _ => pB (kdT T L) (pOne (kdT T L) n') i) := by
      rw [pO_y hb]; unfold psM; split <;> rfl
    have hps : ∀ j, psM i = .ok j → j = i + 1 ∧ i < 1000 := by
      intro j hj; unfold psM at hj; split at hj; (· cases hj); (· cases hj; exact ⟨rfl, by omega⟩)
    have hun : (kdT T L i = 16 ∨ kdT T L i = 20) → ∀ w2, w2 = w → V g LM jMd_readOne (d + 1) K 27 [(0, vA 0), (1, vI (w 0 11))] [] w2 := by
      intro hu w2 hw2
      subst hw2
      rw [hat]
      have hr : pOne (kdT T L) (n' + 1) i = bnd (psM i) (fun i1 => bnd (pOne (kdT T L) n' i1) (fun q => .ok (nd 5 i 0 q.1 nl, q.2))) := by
        rw [hr0]
        cases hj : psM i with
        | error e => rfl
        | ok j =>
          obtain ⟨rfl, -⟩ := hps j hj
          show pB _ _ _ = _
          unfold pB
          rw [if_pos hu]; rfl
      refine s_Md_readOne_27 (sp_isM (c := 16) (by omega) hM hat him (by decide) (by decide) ⟨fun z => ?_, fun z => ?_⟩)
      · exact one_unary (by omega) (by omega) (ho n' rfl) hM hS him hi10 hni hk2 (by rw [if_neg (isv0.mp z)]) hr h he
      · exact one_unary (by omega) (by omega) (ho n' rfl) hM hS him hi10 hni hk2 (by rw [if_pos (isv.mp z)]) hr h he
    -- brackets around an exp, the first one at j
    refine sp_isM (c := 16) (by omega) hM hat him (by decide) (by decide) ⟨fun z => hun (Or.inl (isv.mp z)) _ rfl, fun z16 => sp_isM (c := 20) (by omega) hM hat him (by decide) (by decide) ⟨fun z20 => ?_, fun z => hun (Or.inr (isv.mp z)) _ rfl⟩⟩
    have y16 := isv0.mp z16
    have y20 := isv0.mp z20
    refine sp_isM (c := 7) (by omega) hM hat him (by decide) (by decide) ⟨fun z7 => ?_, fun z7 => ?_⟩
    · have y7 := isv0.mp z7
      refine sp_isM (c := 59) (by omega) hM hat him (by decide) (by decide) ⟨fun z59 => ?_, fun z59 => ?_⟩
      · have y59 := isv0.mp z59
        refine sp_isM (c := 48) (by omega) hM hat him (by decide) (by decide) ⟨fun z48 => ?_, fun z48 => ?_⟩
        · have y48 := isv0.mp z48
          refine sp_isM (c := 52) (by omega) hM hat him (by decide) (by decide) ⟨fun z52 => ?_, fun z52 => ?_⟩
          · have y52 := isv0.mp z52
            refine sp_isM (c := 53) (by omega) hM hat him (by decide) (by decide) ⟨fun z53 => ?_, fun z53 => ?_⟩
            · -- one TOKEN
              have y53 := isv0.mp z53
              have hr : pOne (kdT T L) (n' + 1) i = if 1000 ≤ i then .error (2, i) else .ok (nd 0 i 0 nl nl, i + 1) := pO_leaf hb y16 y20 y7 y59 y48 y52 y53
              have hgo : ∀ k : Int, k = kdM (kdT T L i) → V g LM jMd_readOne (d + 1) K 455 [(0, vA 0), (1, vI (w 0 11))] [vI k] w := fun k hk => by rw [hat]; exact one_leaf (by omega) hM hS him hi10 hni hk2 hk hr h he
              rw [hat] at hgo ⊢
              rw [toN, k4]
              have hmkk : (mkd (kdT T L i) = 1 ↔ kdT T L i = 3) ∧ (mkd (kdT T L i) = 0 ↔ kdT T L i = 2) := by
                unfold mkd
                rw [if_neg (by omega), if_neg (by omega)]
                by_cases q2 : kdT T L i = 2
                · rw [if_pos q2]; omega
                by_cases q3 : kdT T L i = 3
                · rw [if_neg q2, if_pos q3]; omega
                · rw [if_neg q2, if_neg q3]
                  split <;> omega
              refine ⟨by omega, fun c1 => ⟨by omega, fun c0 => sp_isM (c := 31) (by omega) hM hat him (by decide) (by decide) ⟨fun z31 => sp_isM (c := 32) (by omega) hM hat him (by decide) (by decide) ⟨fun z32 => hgo 6 ?_, fun z32 => hgo 2 ?_⟩, fun z31 => hgo 1 ?_⟩, fun c0 => hgo 3 ?_⟩, fun c1 => hgo 0 ?_⟩
              · have a1 := isv0.mp z31; have a2 := isv0.mp z32
                have b1 : ¬ kdT T L i = 3 := fun q => c1 (hmkk.1.mpr q)
                have b2 : ¬ kdT T L i = 2 := fun q => c0 (hmkk.2.mpr q)
                unfold kdM; rw [if_neg b1, if_neg b2, if_neg a1, if_neg a2]
              · rw [isv.mp z32]; rfl
              · rw [isv.mp z31]; rfl
              · rw [hmkk.2.mp c0]; rfl
              · rw [hmkk.1.mp c1]; rfl
            · -- has
              have y53 := isv.mp z53
              have hr : pOne (kdT T L) (n' + 1) i = bnd (psM i) (fun i1 => bnd (ex (kdT T L) 2 i1) (fun j => .ok (nd 2 i1 0 nl nl, j))) := by
                rw [hr0]
                cases hj : psM i with
                | error e => rfl
                | ok j =>
                  obtain ⟨rfl, -⟩ := hps j hj
                  show pB _ _ _ = _
                  unfold pB
                  rw [if_neg (by omega), if_neg y7, if_neg y59, if_neg y48, if_neg y52, if_pos y53]; rfl
              refine sp_passM (by omega) hM hat him hi10 (fun j hj => ?_) (fun e hj => he _ e (by rw [hr, hj]; rfl) FMx.th (thW_er T L w e))
              obtain ⟨rfl, hi9⟩ := hps j hj
              have hS1 : MS (up w 0 11 ((i + 1 : Nat) : Int)) (i + 1) n dep := hS.at_
              have hM1 : TxM T L m (up w 0 11 ((i + 1 : Nat) : Int)) := hM.fx FMx.at_
              have him1 := hM.lt him hk2
              refine sp_mustName (by omega) hM1 hS1.1 him1 (fun hk => sp_passM (by omega) hM1 hS1.1 him1 (by omega) (fun j2 hj2 => ?_) (fun e hj2 => he _ e ?_ (FMx.at_.tr FMx.th) (thW_er T L _ e))) (fun hk => he _ (1, i + 1) ?_ (FMx.at_.tr FMx.th) (thW_er T L _ _))
              · rw [psM_ex hk] at hj2
                obtain ⟨rfl, hi8, -⟩ := ex_i hj2
                have hS2 : MS (up (up w 0 11 ((i + 1 : Nat) : Int)) 0 11 ((i + 1 + 1 : Nat) : Int)) (i + 1 + 1) n dep := hS1.at_
                refine sp_expM hS2.2.1 (by omega) ?_
                rw [hat]
                obtain ⟨hA, h1⟩ := ar_leaf (T := T) (L := L) (w := up (up w 0 11 ((i + 1 : Nat) : Int)) 0 11 ((i + 1 + 1 : Nat) : Int)) (c := 2) (t := i + 1) (i := i) (n := n) (k := 5) (dd := 0) (Or.inr (Or.inr rfl)) rfl rfl
                have := h _ (nd 2 (i + 1) 0 nl nl, i + 1 + 1) (by rw [hr, hj, bnd_ok', hj2]; rfl) (FMx.at_.tr (FMx.at_.tr FMx.ex)) (by show MS _ (i + 1 + 1) (n + nX (nd 2 (i + 1) 0 nl nl)) dep; rw [h1]; exact hS2.ex) (hM1.lt him1 (by omega)) hA (LoX.u0.tr (LoX.u0.tr (exW_lo _ _ _ _ _ _ _)))
                have e1 : n + nX (nd 2 (i + 1) 0 nl nl) - 1 = n := by rw [h1]; omega
                rw [e1] at this
                exact this
              · rw [psM_ex hk] at hj2; rw [hr, hj, bnd_ok', hj2]; rfl
              · rw [hr, hj, bnd_ok']; unfold ex; rw [if_neg hk]; rfl
          · -- arc
            have y52 := isv.mp z52
            have hr : pOne (kdT T L) (n' + 1) i = bnd (psM i) (fun i0 => bnd (ex (kdT T L) 10 i0) (fun i1 => bnd (ex (kdT T L) 2 i1) (fun j => .ok (nd 1 i1 0 nl nl, j)))) := by
              rw [hr0]
              cases hj : psM i with
              | error e => rfl
              | ok j =>
                obtain ⟨rfl, -⟩ := hps j hj
                show pB _ _ _ = _
                unfold pB
                rw [if_neg (by omega), if_neg y7, if_neg y59, if_neg y48, if_pos y52]; rfl
            refine sp_passM (by omega) hM hat him hi10 (fun j hj => ?_) (fun e hj => he _ e (by rw [hr, hj]; rfl) FMx.th (thW_er T L w e))
            obtain ⟨rfl, hi9⟩ := hps j hj
            have hS0 : MS (up w 0 11 ((i + 1 : Nat) : Int)) (i + 1) n dep := hS.at_
            have hM0 : TxM T L m (up w 0 11 ((i + 1 : Nat) : Int)) := hM.fx FMx.at_
            have him0 := hM.lt him hk2
            refine sp_mustM (c := 10) (by omega) hM0 hS0.1 him0 (by omega) (by decide) (by decide) (fun j1 hj1 => ?_) (fun e hj1 => he _ e (by rw [hr, hj, bnd_ok', hj1]; rfl) (FMx.at_.tr FMx.th) (thW_er T L _ e))
            obtain ⟨rfl, hi7, hkd1⟩ := ex_i hj1
            have hS1 : MS (up (up w 0 11 ((i + 1 : Nat) : Int)) 0 11 ((i + 1 + 1 : Nat) : Int)) (i + 1 + 1) n dep := hS0.at_
            have hM1 := hM0.fx (FMx.at_ (j := ((i + 1 + 1 : Nat) : Int)))
            have him1 := hM0.lt him0 (by omega)
            refine sp_mustName (by omega) hM1 hS1.1 him1 (fun hk => sp_passM (by omega) hM1 hS1.1 him1 (by omega) (fun j2 hj2 => ?_) (fun e hj2 => he _ e ?_ (FMx.at_.tr (FMx.at_.tr FMx.th)) (thW_er T L _ e))) (fun hk => he _ (1, i + 1 + 1) ?_ (FMx.at_.tr (FMx.at_.tr FMx.th)) (thW_er T L _ _))
            · rw [psM_ex hk] at hj2
              obtain ⟨rfl, hi8, -⟩ := ex_i hj2
              have hS2 : MS (up (up (up w 0 11 ((i + 1 : Nat) : Int)) 0 11 ((i + 1 + 1 : Nat) : Int)) 0 11 ((i + 1 + 1 + 1 : Nat) : Int)) (i + 1 + 1 + 1) n dep := hS1.at_
              refine sp_expM hS2.2.1 (by omega) ?_
              rw [hat]
              obtain ⟨hA, h1⟩ := ar_leaf (T := T) (L := L) (w := up (up (up w 0 11 ((i + 1 : Nat) : Int)) 0 11 ((i + 1 + 1 : Nat) : Int)) 0 11 ((i + 1 + 1 + 1 : Nat) : Int)) (c := 1) (t := i + 1 + 1) (i := i) (n := n) (k := 4) (dd := 0) (Or.inr (Or.inl rfl)) rfl rfl
              have := h _ (nd 1 (i + 1 + 1) 0 nl nl, i + 1 + 1 + 1) (by rw [hr, hj, bnd_ok', hj1, bnd_ok', hj2]; rfl) (FMx.at_.tr (FMx.at_.tr (FMx.at_.tr FMx.ex))) (by show MS _ (i + 1 + 1 + 1) (n + nX (nd 1 (i + 1 + 1) 0 nl nl)) dep; rw [h1]; exact hS2.ex) (hM1.lt him1 (by omega)) hA (LoX.u0.tr (LoX.u0.tr (LoX.u0.tr (exW_lo _ _ _ _ _ _ _))))
              have e1 : n + nX (nd 1 (i + 1 + 1) 0 nl nl) - 1 = n := by rw [h1]; omega
              rw [e1] at this
              exact this
            · rw [psM_ex hk] at hj2; rw [hr, hj, bnd_ok', hj1, bnd_ok', hj2]; rfl
            · rw [hr, hj, bnd_ok', hj1, bnd_ok']; unfold ex; rw [if_neg hk]; rfl
        · -- if
          have y48 := isv.mp z48
          have hr : pOne (kdT T L) (n' + 1) i = bnd (psM i) (fun i0 => bnd (ex (kdT T L) 7 i0) (fun i1 => bnd (pE (kdT T L) n' i1) (fun a => bnd (ex (kdT T L) 9 a.2) (fun i2 => bnd (pE (kdT T L) n' i2) (fun b => bnd (ex (kdT T L) 9 b.2) (fun i3 => bnd (pE (kdT T L) n' i3) (fun c => bnd (ex (kdT T L) 8 c.2) (fun j => .ok (nd 4 i c.2 a.1 (nd 9 a.2 b.2 b.1 c.1), j))))))))) := by
            rw [hr0]
            cases hj : psM i with
            | error e => rfl
            | ok j =>
              obtain ⟨rfl, -⟩ := hps j hj
              show pB _ _ _ = _
              unfold pB
              rw [if_neg (by omega), if_neg y7, if_neg y59, if_pos y48]; rfl
          refine sp_passM (by omega) hM hat him hi10 (fun j hj => ?_) (fun e hj => he _ e (by rw [hr, hj]; rfl) FMx.th (thW_er T L w e))
          obtain ⟨rfl, hi9⟩ := hps j hj
          have hS0 : MS (up w 0 11 ((i + 1 : Nat) : Int)) (i + 1) n dep := hS.at_
          have hM0 : TxM T L m (up w 0 11 ((i + 1 : Nat) : Int)) := hM.fx FMx.at_
          have him0 := hM.lt him hk2
          refine sp_mustM (c := 7) (by omega) hM0 hS0.1 him0 (by omega) (by decide) (by decide) (fun j1 hj1 => ?_) (fun e hj1 => he _ e (by rw [hr, hj, bnd_ok', hj1]; rfl) (FMx.at_.tr FMx.th) (thW_er T L _ e))
          obtain ⟨rfl, hi7, hkd1⟩ := ex_i hj1
          have hS1 : MS (up (up w 0 11 ((i + 1 : Nat) : Int)) 0 11 ((i + 1 + 1 : Nat) : Int)) (i + 1 + 1) n dep := hS0.at_
          have hM1 := hM0.fx (FMx.at_ (j := ((i + 1 + 1 : Nat) : Int)))
          have him1 := hM0.lt him0 (by omega)
          rw [dep_up hS1.2.2 (by omega)]
          refine hx n' rfl _ _ (i + 1 + 1) n (hM1.fx FMx.dp) (hS1.dp (k := dep + 1)) him1 (by omega) (by omega) (fun w3 a ha hF3 hS3 ham hA3 hL3 => ?_) (fun w3 e hee hF3 hE3 => he w3 e (by rw [hr, hj, bnd_ok', hj1, bnd_ok', hee]; rfl) ((FMx.at_.tr (FMx.at_.tr FMx.dp)).tr hF3) hE3)
          have hga := pE_gw ha
          have a1 := hga.1.2.1; have a2 := hga.1.2.2.1; have a3 := hga.1.2.2.2; have a4 := nX_nD a.1; have a5 := nX_pos _ hga.2.1
          have hF3' : FMx w w3 := (FMx.at_.tr (FMx.at_.tr FMx.dp)).tr hF3
          have hL3' : LoX w w3 n := (LoX.u0.tr (LoX.u0.tr LoX.u0)).tr hL3
          have hM3 := hM.fx hF3'
          refine sp_mustM (c := 9) (by omega) hM3 hS3.1 ham (by omega) (by decide) (by decide) (fun j2 hj2 => ?_) (fun e hj2 => he _ e (by rw [hr, hj, bnd_ok', hj1, bnd_ok', ha, bnd_ok', hj2]; rfl) (hF3'.tr FMx.th) (thW_er T L _ e))
          obtain ⟨rfl, hi2, hkd2⟩ := ex_i hj2
          have hS4 : MS (up w3 0 11 ((a.2 + 1 : Nat) : Int)) (a.2 + 1) (n + nX a.1) (dep + 1) := hS3.at_
          have hM4 := hM3.fx (FMx.at_ (j := ((a.2 + 1 : Nat) : Int)))
          have him4 := hM3.lt ham (by omega)
          refine hx n' rfl _ _ (a.2 + 1) (n + nX a.1) hM4 hS4 him4 (by omega) (by omega) (fun w5 b hb' hF5 hS5 hbm hA5 hL5 => ?_) (fun w5 e hee hF5 hE5 => he w5 e (by rw [hr, hj, bnd_ok', hj1, bnd_ok', ha, bnd_ok', hj2, bnd_ok', hee]; rfl) (hF3'.tr (FMx.at_.tr hF5)) hE5)
          have hgb := pE_gw hb'
          have b1 := hgb.1.2.1; have b2 := hgb.1.2.2.1; have b3 := hgb.1.2.2.2; have b4 := nX_nD b.1; have b5 := nX_pos _ hgb.2.1
          have hF5' : FMx w w5 := hF3'.tr (FMx.at_.tr hF5)
          have hA3' : ARx (kdT T L) w5 a.1 n := hA3.lo (LoX.u0.tr hL5) (Nat.le_refl _) a5
          have hL5' : LoX w w5 n := hL3'.tr ((LoX.u0.tr hL5).le (by omega))
          have hM5 := hM.fx hF5'
          refine sp_mustM (c := 9) (by omega) hM5 hS5.1 hbm (by omega) (by decide) (by decide) (fun j3 hj3 => ?_) (fun e hj3 => he _ e (by rw [hr, hj, bnd_ok', hj1, bnd_ok', ha, bnd_ok', hj2, bnd_ok', hb', bnd_ok', hj3]; rfl) (hF5'.tr FMx.th) (thW_er T L _ e))
          obtain ⟨rfl, hi3, hkd3⟩ := ex_i hj3
          have hS6 : MS (up w5 0 11 ((b.2 + 1 : Nat) : Int)) (b.2 + 1) (n + nX a.1 + nX b.1) (dep + 1) := hS5.at_
          have hM6 := hM5.fx (FMx.at_ (j := ((b.2 + 1 : Nat) : Int)))
          have him6 := hM5.lt hbm (by omega)
          refine hx n' rfl _ _ (b.2 + 1) (n + nX a.1 + nX b.1) hM6 hS6 him6 (by omega) (by omega) (fun w7 c hc' hF7 hS7 hcm hA7 hL7 => ?_) (fun w7 e hee hF7 hE7 => he w7 e (by rw [hr, hj, bnd_ok', hj1, bnd_ok', ha, bnd_ok', hj2, bnd_ok', hb', bnd_ok', hj3, bnd_ok', hee]; rfl) (hF5'.tr (FMx.at_.tr hF7)) hE7)
          have hgc := pE_gw hc'
          have c1 := hgc.1.2.1; have c2 := hgc.1.2.2.1; have c3 := hgc.1.2.2.2; have c4 := nX_nD c.1; have c5 := nX_pos _ hgc.2.1
          have hF7' : FMx w w7 := hF5'.tr (FMx.at_.tr hF7)
          have hA3'' : ARx (kdT T L) w7 a.1 n := hA3'.lo (LoX.u0.tr hL7) (by omega) a5
          have hA5'' : ARx (kdT T L) w7 b.1 (n + nX a.1) := hA5.lo (LoX.u0.tr hL7) (by omega) b5
          have hL7' : LoX w w7 n := hL5'.tr ((LoX.u0.tr hL7).le (by omega))
          rw [dep_dn hS7.2.2 (by omega)]
          have hS8 : MS (up w7 0 44 (dep : Int)) c.2 (n + nX a.1 + nX b.1 + nX c.1) dep := hS7.dp
          have hF8 : FMx w (up w7 0 44 (dep : Int)) := hF7'.tr FMx.dp
          have hM8 := hM.fx hF8
          refine sp_mustM (c := 8) (by omega) hM8 hS8.1 hcm (by omega) (by decide) (by decide) (fun j4 hj4 => ?_) (fun e hj4 => he _ e (by rw [hr, hj, bnd_ok', hj1, bnd_ok', ha, bnd_ok', hj2, bnd_ok', hb', bnd_ok', hj3, bnd_ok', hc', bnd_ok', hj4]; rfl) (hF8.tr FMx.th) (thW_er T L _ e))
          obtain ⟨rfl, hi4, hkd4⟩ := ex_i hj4
          have hS9 : MS (up (up w7 0 44 (dep : Int)) 0 11 ((c.2 + 1 : Nat) : Int)) (c.2 + 1) (n + nX a.1 + nX b.1 + nX c.1) dep := hS8.at_
          refine sp_expM hS9.2.1 (by omega) ⟨by omega, ?_⟩
          rw [toN, hat]
          generalize hw9 : up (up w7 0 44 (dep : Int)) 0 11 ((c.2 + 1 : Nat) : Int) = w9 at hS9
          have hL9 : LoX w7 w9 (n + nX a.1 + nX b.1 + nX c.1) := by rw [← hw9]; exact LoX.u0.tr LoX.u0
          have hF9 : FMx w w9 := by rw [← hw9]; exact hF8.tr FMx.at_
          obtain ⟨w26, w27, w28, w29, w30⟩ := exW_at w9 (n + nX a.1 + nX b.1 + nX c.1) 8 (i : Int) (i : Int) ((n + nX a.1 - 1 : Nat) : Int) ((n + nX a.1 + nX b.1 - 1 : Nat) : Int)
          have hlo := exW_lo w9 (n + nX a.1 + nX b.1 + nX c.1) 8 (i : Int) (i : Int) ((n + nX a.1 - 1 : Nat) : Int) ((n + nX a.1 + nX b.1 - 1 : Nat) : Int)
          have hE9 := hS9.ex (k := 8) (t := (i : Int)) (f := (i : Int)) (a := ((n + nX a.1 - 1 : Nat) : Int)) (b := ((n + nX a.1 + nX b.1 - 1 : Nat) : Int))
          have hFx9 := FMx.ex (w := w9) (n := n + nX a.1 + nX b.1 + nX c.1) (k := 8) (t := (i : Int)) (f := (i : Int)) (a := ((n + nX a.1 - 1 : Nat) : Int)) (b := ((n + nX a.1 + nX b.1 - 1 : Nat) : Int))
          generalize exW w9 (n + nX a.1 + nX b.1 + nX c.1) 8 (i : Int) (i : Int) ((n + nX a.1 - 1 : Nat) : Int) ((n + nX a.1 + nX b.1 - 1 : Nat) : Int) = wx at w26 w27 w28 w29 w30 hlo hE9 hFx9 ⊢
          have hlo2 : LoX wx (up wx 31 (n + nX a.1 + nX b.1 + nX c.1) ((n + nX a.1 + nX b.1 + nX c.1 - 1 : Nat) : Int)) (n + nX a.1 + nX b.1 + nX c.1) := by
            intro x hx' o p q'
            by_cases ho : o = 31
            · subst ho; rw [up_k (by omega)]
            · rw [up_o ho]
          have hall := hL9.tr (hlo.tr hlo2)
          have hAa := hA3''.lo hall (by omega) a5
          have hAb := hA5''.lo hall (by omega) b5
          have hAc := hA7.lo hall (by omega) c5
          have hr9 : nX (nd 9 a.2 b.2 b.1 c.1) = nX b.1 + nX c.1 := by show nX b.1 + nX c.1 + 0 = _; omega
          have h1 : nX (nd 4 i c.2 a.1 (nd 9 a.2 b.2 b.1 c.1)) = nX a.1 + nX b.1 + nX c.1 + 1 := by
            show nX a.1 + nX (nd 9 a.2 b.2 b.1 c.1) + 1 = _
            rw [hr9]; omega
          have ee : n + nX a.1 + nX (nd 9 a.2 b.2 b.1 c.1) = n + nX a.1 + nX b.1 + nX c.1 := by rw [hr9]; omega
          have eN : n + nX (nd 4 i c.2 a.1 (nd 9 a.2 b.2 b.1 c.1)) = n + nX a.1 + nX b.1 + nX c.1 + 1 := by rw [h1]; omega
          have := h (up wx 31 (n + nX a.1 + nX b.1 + nX c.1) ((n + nX a.1 + nX b.1 + nX c.1 - 1 : Nat) : Int)) (nd 4 i c.2 a.1 (nd 9 a.2 b.2 b.1 c.1), c.2 + 1) (by rw [hr, hj, bnd_ok', hj1, bnd_ok', ha, bnd_ok', hj2, bnd_ok', hb', bnd_ok', hj3, bnd_ok', hc', bnd_ok', hj4]; rfl) (hF9.tr (hFx9.tr ⟨(Fx.rf _ _).up (by decide), fun b _ _ _ => by rw [up_o (by decide)]⟩)) (by show MS _ (c.2 + 1) (n + nX (nd 4 i c.2 a.1 (nd 9 a.2 b.2 b.1 c.1))) dep; rw [eN]; exact ⟨by rw [up_o (by decide)]; exact hE9.1, by rw [up_o (by decide)]; exact hE9.2.1, by rw [up_o (by decide)]; exact hE9.2.2⟩) (hM8.lt hcm (by omega)) ⟨?_, ?_⟩ ((hL7'.tr (hL9.le (by omega))).tr ((hlo.le (by omega)).tr (hlo2.le (by omega))))
          · have e1 : n + nX (nd 4 i c.2 a.1 (nd 9 a.2 b.2 b.1 c.1)) - 1 = n + nX a.1 + nX b.1 + nX c.1 := by rw [eN]; omega
            rw [e1] at this
            exact this
          · show AR (kdT T L) _ a.1 n ∧ AR (kdT T L) _ (nd 9 a.2 b.2 b.1 c.1) (n + nX a.1) ∧ _
            refine ⟨hAa.1, ⟨hAb.1, hAc.1, fun _ _ z => absurd rfl z, fun _ _ _ z => absurd rfl z, fun _ z => absurd rfl z, fun z => by omega, fun z => by omega, fun z => by omega⟩, fun _ _ _ => hAa.2, fun _ z => absurd rfl z, fun _ _ => ?_, fun _ => ?_, fun z => by omega, fun _ => ⟨?_, ?_, fun _ _ => ?_, fun _ => ?_⟩⟩
            · rw [ee, up_o (by decide), up_o (by decide)]; exact ⟨w27, w26⟩
            · rw [ee, up_o (by decide)]; exact w29
            · rw [ee, up_o (by decide)]; exact w30
            · rw [ee, up_s]
            · exact hAb.2
            · rw [ee]; exact hAc.2
          · rw [eN, show n + nX a.1 + nX b.1 + nX c.1 + 1 - 1 = n + nX a.1 + nX b.1 + nX c.1 by omega, up_o (by decide), w28]; rfl
      · -- draw
        have y59 := isv.mp z59
        have hr : pOne (kdT T L) (n' + 1) i = bnd (psM i) (fun i0 => bnd (ex (kdT T L) 7 i0) (fun i1 => bnd (pE (kdT T L) n' i1) (fun q => bnd (ex (kdT T L) 8 q.2) (fun j => .ok (nd 3 i q.2 q.1 nl, j))))) := by
          rw [hr0]
          cases hj : psM i with
          | error e => rfl
          | ok j =>
            obtain ⟨rfl, -⟩ := hps j hj
            show pB _ _ _ = _
            unfold pB
            rw [if_neg (by omega), if_neg y7, if_pos y59]; rfl
        refine sp_passM (by omega) hM hat him hi10 (fun j hj => ?_) (fun e hj => he _ e (by rw [hr, hj]; rfl) FMx.th (thW_er T L w e))
        obtain ⟨rfl, hi9⟩ := hps j hj
        have hS0 : MS (up w 0 11 ((i + 1 : Nat) : Int)) (i + 1) n dep := hS.at_
        have hM0 : TxM T L m (up w 0 11 ((i + 1 : Nat) : Int)) := hM.fx FMx.at_
        have him0 := hM.lt him hk2
        refine sp_mustM (c := 7) (by omega) hM0 hS0.1 him0 (by omega) (by decide) (by decide) (fun j1 hj1 => ?_) (fun e hj1 => he _ e (by rw [hr, hj, bnd_ok', hj1]; rfl) (FMx.at_.tr FMx.th) (thW_er T L _ e))
        obtain ⟨rfl, hi7, hkd1⟩ := ex_i hj1
        have hS1 : MS (up (up w 0 11 ((i + 1 : Nat) : Int)) 0 11 ((i + 1 + 1 : Nat) : Int)) (i + 1 + 1) n dep := hS0.at_
        have hM1 := hM0.fx (FMx.at_ (j := ((i + 1 + 1 : Nat) : Int)))
        have him1 := hM0.lt him0 (by omega)
        rw [dep_up hS1.2.2 (by omega)]
        refine hx n' rfl _ _ (i + 1 + 1) n (hM1.fx FMx.dp) (hS1.dp (k := dep + 1)) him1 (by omega) (by omega) (fun w3 q hq hF3 hS3 hqm hA3 hL3 => ?_) (fun w3 e hee hF3 hE3 => he w3 e (by rw [hr, hj, bnd_ok', hj1, bnd_ok', hee]; rfl) ((FMx.at_.tr (FMx.at_.tr FMx.dp)).tr hF3) hE3)
        rw [dep_dn hS3.2.2 (by omega)]
        have hg := pE_gw hq
        have g1 := hg.1.2.1; have g2 := hg.1.2.2.1; have g3 := hg.1.2.2.2; have g4 := nX_nD q.1
        have hS4 : MS (up w3 0 44 (dep : Int)) q.2 (n + nX q.1) dep := hS3.dp
        have hF4 : FMx w (up w3 0 44 (dep : Int)) := ((FMx.at_.tr (FMx.at_.tr FMx.dp)).tr hF3).tr FMx.dp
        have hM4 := hM.fx hF4
        refine sp_mustM (c := 8) (by omega) hM4 hS4.1 hqm (by omega) (by decide) (by decide) (fun j5 hj5 => ?_) (fun e hj5 => he _ e (by rw [hr, hj, bnd_ok', hj1, bnd_ok', hq, bnd_ok', hj5]; rfl) (hF4.tr FMx.th) (thW_er T L _ e))
        obtain ⟨rfl, hi6, hkd5⟩ := ex_i hj5
        have hS5 : MS (up (up w3 0 44 (dep : Int)) 0 11 ((q.2 + 1 : Nat) : Int)) (q.2 + 1) (n + nX q.1) dep := hS4.at_
        refine sp_expM hS5.2.1 (by omega) ?_
        rw [hat]
        have hA5 : ARx (kdT T L) (up (up w3 0 44 (dep : Int)) 0 11 ((q.2 + 1 : Nat) : Int)) q.1 n := hA3.lo (LoX.u0.tr LoX.u0) (Nat.le_refl _) (nX_pos _ hg.2.1)
        obtain ⟨hA, h1⟩ := ar_over (T := T) (L := L) (c := 3) (t := i) (q := q.2) (i := i) (k := 7) (Or.inl rfl) rfl hg.2.1 hA5
        have := h _ (nd 3 i q.2 q.1 nl, q.2 + 1) (by rw [hr, hj, bnd_ok', hj1, bnd_ok', hq, bnd_ok', hj5]; rfl) (hF4.tr (FMx.at_.tr FMx.ex)) (by show MS _ (q.2 + 1) (n + nX (nd 3 i q.2 q.1 nl)) dep; rw [h1, ← Nat.add_assoc]; exact hS5.ex) (hM4.lt hqm (by omega)) hA ((LoX.u0.tr (LoX.u0.tr LoX.u0)).tr (hL3.tr (LoX.u0.tr (LoX.u0.tr ((exW_lo _ _ _ _ _ _ _).le (by omega))))))
        have e1 : n + nX (nd 3 i q.2 q.1 nl) - 1 = n + nX q.1 := by rw [h1]; omega
        rw [e1] at this
        exact this
    · -- brackets
      have y7 := isv.mp z7
      have hr : pOne (kdT T L) (n' + 1) i = bnd (psM i) (fun i1 => bnd (pE (kdT T L) n' i1) (fun q => bnd (ex (kdT T L) 8 q.2) (fun j => .ok (nd 7 i q.2 q.1 nl, j)))) := by
        rw [hr0]
        cases hj : psM i with
        | error e => rfl
        | ok j =>
          obtain ⟨rfl, -⟩ := hps j hj
          show pB _ _ _ = _
          unfold pB
          rw [if_neg (by omega), if_pos y7]; rfl
      refine sp_passM (by omega) hM hat him hi10 (fun j hj => ?_) (fun e hj => he _ e (by rw [hr, hj]; rfl) FMx.th (thW_er T L w e))
      obtain ⟨rfl, hi9⟩ := hps j hj
      have hS1 : MS (up w 0 11 ((i + 1 : Nat) : Int)) (i + 1) n dep := hS.at_
      have hM1 : TxM T L m (up w 0 11 ((i + 1 : Nat) : Int)) := hM.fx FMx.at_
      have him1 := hM.lt him hk2
      rw [dep_up hS1.2.2 (by omega)]
      refine hx n' rfl _ _ (i + 1) n (hM1.fx FMx.dp) (hS1.dp (k := dep + 1)) him1 (by omega) (by omega) (fun w3 q hq hF3 hS3 hqm hA3 hL3 => ?_) (fun w3 e hee hF3 hE3 => he w3 e (by rw [hr, hj, bnd_ok', hee]; rfl) ((FMx.at_.tr FMx.dp).tr hF3) hE3)
      rw [dep_dn hS3.2.2 (by omega)]
      have hg := pE_gw hq
      have g1 := hg.1.2.1; have g2 := hg.1.2.2.1; have g3 := hg.1.2.2.2; have g4 := nX_nD q.1; have g5 := nX_pos _ hg.2.1
      have hS4 : MS (up w3 0 44 (dep : Int)) q.2 (n + nX q.1) dep := hS3.dp
      have hF4 : FMx w (up w3 0 44 (dep : Int)) := ((FMx.at_.tr FMx.dp).tr hF3).tr FMx.dp
      have hM4 := hM.fx hF4
      refine sp_mustM (c := 8) (by omega) hM4 hS4.1 hqm (by omega) (by decide) (by decide) (fun j5 hj5 => ⟨by omega, ?_⟩) (fun e hj5 => he _ e (by rw [hr, hj, bnd_ok', hq, bnd_ok', hj5]; rfl) (hF4.tr FMx.th) (thW_er T L _ e))
      obtain ⟨rfl, hi6, hkd5⟩ := ex_i hj5
      rw [toN, hat]
      have hS5 : MS (up (up w3 0 44 (dep : Int)) 0 11 ((q.2 + 1 : Nat) : Int)) (q.2 + 1) (n + nX q.1) dep := hS4.at_
      have hA5 : ARx (kdT T L) (up (up w3 0 44 (dep : Int)) 0 11 ((q.2 + 1 : Nat) : Int)) q.1 n := hA3.lo (LoX.u0.tr LoX.u0) (Nat.le_refl _) g5
      have h1 : nX (nd 7 i q.2 q.1 nl) = nX q.1 := by show nX q.1 + 0 + 0 = _; omega
      have hLoR : LoX (up (up w3 0 44 (dep : Int)) 0 11 ((q.2 + 1 : Nat) : Int)) (up (up (up w3 0 44 (dep : Int)) 0 11 ((q.2 + 1 : Nat) : Int)) 28 (n + nX q.1 - 1) (i : Int)) n := by
        intro x hx o p q'
        by_cases ho28 : o = 28
        · subst ho28
          rw [up_k (by omega)]
        · rw [up_o ho28]
      have := h (up (up (up w3 0 44 (dep : Int)) 0 11 ((q.2 + 1 : Nat) : Int)) 28 (n + nX q.1 - 1) (i : Int)) (nd 7 i q.2 q.1 nl, q.2 + 1) (by rw [hr, hj, bnd_ok', hq, bnd_ok', hj5]; rfl) (hF4.tr (FMx.at_.tr ⟨(Fx.rf _ _).up (by decide), fun b _ _ _ => by rw [up_o (by decide)]⟩)) (by show MS _ (q.2 + 1) (n + nX (nd 7 i q.2 q.1 nl)) dep; rw [h1]; exact ⟨by rw [up_o (by decide)]; exact hS5.1, by rw [up_o (by decide)]; exact hS5.2.1, by rw [up_o (by decide)]; exact hS5.2.2⟩) (hM4.lt hqm (by omega)) ⟨⟨?_, trivial, fun _ z => absurd rfl z, fun z => absurd rfl z, fun z => absurd rfl z, fun z => by omega, fun z => by omega, fun z => by omega⟩, ?_⟩ ((LoX.u0.tr LoX.u0).tr (hL3.tr ((LoX.u0 (b := 44) (v := (dep : Int))).tr ((LoX.u0 (b := 11) (v := ((q.2 + 1 : Nat) : Int))).tr hLoR))))
      · have e1 : n + nX (nd 7 i q.2 q.1 nl) - 1 = n + nX q.1 - 1 := by rw [h1]
        rw [e1] at this
        exact this
      · refine AR.congr q.1 n hA5.1 (fun x p1 p2 o p3 p4 p5 => ?_)
        by_cases ho28 : o = 28
        · subst ho28
          rw [up_k (by have := p5 rfl; omega)]
        · rw [up_o ho28]
      · rw [h1, up_s]; rfl
  · have hn0 : nn = 0 := by omega
    subst hn0
    exact he _ (2, i) (by rw [pOne, if_pos hb]) FMx.th (thW_er T L w (2, i))
theorem sp_oneAll : ∀ (nn dep : Nat), dep + nn = 13 → SpM g jMd_readOne (6 * nn + 9) T L m dep (pOne (kdT T L) nn) ∧ SpM g jMd_readExp (6 * nn + 14) T L m dep (pE (kdT T L) nn) := by
  intro nn
  induction nn with
  | zero =>
    intro dep hdep
    have h1 : SpM g jMd_readOne 9 T L m dep (pOne (kdT T L) 0) := sp_oneM (d := 8) (by decide) hdep (fun _ z => by omega) (fun _ z => by omega)
    exact ⟨h1, sp_expRM (by decide) hdep (sp_bothM (by decide) (sp_testM (by decide) (sp_sumM (by decide) (sp_termM (by decide) h1))))⟩
  | succ nn ih =>
    intro dep hdep
    obtain ⟨i1, i2⟩ := ih (dep + 1) (by omega)
    have h1 : SpM g jMd_readOne (6 * nn + 14 + 1) T L m dep (pOne (kdT T L) (nn + 1)) := by
      refine sp_oneM (by omega) hdep (fun n' z => ?_) (fun n' z => ?_)
      · have e : n' = nn := by omega
        rw [e]; exact i1.mono (by omega)
      · have e : n' = nn := by omega
        rw [e]; exact i2
    exact ⟨h1, sp_expRM (by omega) hdep (sp_bothM (by omega) (sp_testM (by omega) (sp_sumM (by omega) (sp_termM (by omega) h1))))⟩
/-- the model reads an exp -/
theorem sp_readExpM {nn : Nat} (hD : 100 ≤ D) (hdep : dep + nn = 13) : SpM g jMd_readExp D T L m dep (pE (kdT T L) nn) := (sp_oneAll nn dep hdep).2.mono (by omega)
end ModelOne
