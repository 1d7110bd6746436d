/-! ===== the class's exps: chains ===== -/
def RX (T : Nat → Int) (L : Nat) (E : List En) (b : Bool) (w w' : Wd) (i : Nat) (R : PE (Tr × Nat)) (x : Nat) : Prop := match R with
  | .error e => CS T L w' (.error e)
  | .ok q => x = i ∧ CS T L w' (.ok q.2) ∧ XP T L E b w w' i q.2 q.1 ∧ GW i q
section ExpChain
variable {g : Mg} {d : Nat} {K : Ou → Wd → Prop} {w : Wd} {T : Nat → Int} {L : Nat} {E : List En} {b : Bool}
theorem RX.cs {w' : Wd} {i x : Nat} {R : PE (Tr × Nat)} (h : RX T L E b w w' i R x) : CS T L w' (bnd R (fun q => .ok q.2)) := by
  cases R with
  | error e => exact h
  | ok q => exact h.2.1
theorem cm6 {a c : Tr} {j s : Nat} (h : lnO (kdT T L j) ≤ 2) : cmT T L E (nd 6 j 0 a c) s = cmT T L E a s ++ (((if lnO (kdT T L j) = 2 then 16 else 17), ((s + nD a + 1 + nD c : Nat) : Int), 0) :: cmT T L E c (s + nD a + 1)) := by
  simp [cmT, h]
theorem cm6' {a c : Tr} {j s : Nat} (h : ¬ lnO (kdT T L j) ≤ 2) : cmT T L E (nd 6 j 0 a c) s = cmT T L E a s ++ (cmT T L E c (s + nD a) ++ [(15, ((kdT T L j : Nat) : Int), ((tAt T L j : Nat) : Int))]) := by
  simp [cmT, h]
theorem chain_loop {line within most i x : Nat} {sub : Nat → PE (Tr × Nat)} (hd : 3 ≤ d) (hl : 1 ≤ line ∧ line ≤ 5) (hw1 : within ≤ 1000) (hm : most ≤ 1000) (hgw : ∀ i q, sub i = .ok q → GW i q) (hs5 : line = 5 → SpE g jEx_one d [vA 26, vI (within : Int)] T L E b (XP T L E b) sub) (hsN : line ≠ 5 → SpE g jEx_chain d [vA 26, vI ((line + 1 : Nat) : Int), vI (within : Int)] T L E b (XP T L E b) sub) (hx : x ≤ nTk T L) (hb : w 26 4 = bI b) :
    ∀ (f n : Nat) (R : PE (Tr × Nat)) (w' : Wd), n + f = most → Fx FEl w w' → IC T L w' → RX T L E b w w' i R x → (∀ q, R = .ok q → EC T L w E) → (∀ w'', Fx FEl w w'' → IC T L w'' → RX T L E b w w'' i (bnd R (fun q => pCh (kdT T L) sub line f q.1 q.2)) x → K (.inl (some (vI (x : Int)))) w'') → V g LC jEx_chain (d + 1) K 39 [(0, vA 26), (1, vI (line : Int)), (2, vI (within : Int)), (3, vI (x : Int)), (4, vI (most : Int)), (5, vI (n : Int))] [] w' := by
  have hn := nTk_le (T := T) (L := L)
  intro f
  induction f with
  | zero =>
    intro n R w' hnf hF hI hR hE h
    refine s_Ex_chain_39 ⟨fun _ => s_Ex_chain_190 (h w' hF hI ?_), fun c => absurd (by omega) c⟩
    cases R with
    | error e => exact hR
    | ok q => exact hR
  | succ f ih =>
    intro n R w' hnf hF hI hR hE h
    have hCS := hR.cs
    refine s_Ex_chain_39 ⟨fun c => absurd c (by omega), fun c => sp_kind hI hCS (sp_lineOfX ⟨fun c1 => s_Ex_chain_190 (h w' hF hI ?_), fun c1 => ?_⟩)⟩
    · cases R with
      | error e => exact hR
      | ok q =>
        have e : bnd (Except.ok q : PE (Tr × Nat)) (fun q => pCh (kdT T L) sub line (f + 1) q.1 q.2) = .ok q := by
          show pCh (kdT T L) sub line (f + 1) q.1 q.2 = .ok q
          rw [pCh, if_neg (fun z => c1 (by rw [← z]; rfl))]
        rw [e]; exact hR
    · cases R with
      | error e =>
        exfalso
        have : ((lnO 0 : Nat) : Int) = (line : Int) := c1
        have h0 : lnO 0 = 0 := by decide
        omega
      | ok q =>
        obtain ⟨a, j⟩ := q
        obtain ⟨rfl, hCj, hXa, hGa⟩ := hR
        have hE0 := hE _ rfl
        have hln : lnO (kdT T L j) = line := by have : ((lnO (kdT T L j) : Nat) : Int) = (line : Int) := c1; omega
        have hkj : kdT T L j ≠ 0 := by intro z; rw [z] at hln; have h0 : lnO 0 = 0 := by decide
                                       omega
        obtain ⟨⟨g1, g2, g3, g4⟩, gwe, gz⟩ := id hGa
        simp only at hCj g1 g2 g3 g4 gwe
        refine sp_kind hI hCS (sp_take (by omega) hI hCS (fun _ z => by cases z; exact hkj) (fun w1 y hC31 hy hyi hCS1 => ?_))
        obtain rfl : y = j := hyi j rfl
        have hC1 : CS T L w1 (ex (kdT T L) (kdT T L y) y) := hCS1
        have hI1 := hI.f25 hC31.1
        have hyn : y < nTk T L := kdT_lt hCj.2.2.1 hCj.2.2.2 hkj
        -- the rest, from the right operand on
        have hgo : ∀ (wc : Wd) (jp : Int), ((2 < line ∧ jp = -1 ∧ wc = w1) ∨ (line ≤ 2 ∧ ∃ jx : Nat, jp = (jx : Int) ∧ jx ≤ 1024 ∧ Fx [19, 20, 21, 22, 23] w1 wc ∧ CodB wc ∧ w1 19 4 = (jx : Int) ∧ (jx < 1024 → wc = addW w1 jx (if line = 2 then 16 else 17) 0 0))) → V g LC jEx_chain (d + 1) K 110 [(0, vA 26), (1, vI (line : Int)), (2, vI (within : Int)), (3, vI (x : Int)), (4, vI (most : Int)), (5, vI (n : Int)), (6, vI ((kdT T L y : Nat) : Int)), (7, vI (y : Int))] [vI jp] wc := by
          intro wc jp hj
          have hFc : Fx [19, 20, 21, 22, 23] w1 wc := by
            rcases hj with ⟨-, -, rfl⟩ | ⟨-, jx, -, -, h1, -⟩
            · exact Fx.rf _ _
            · exact h1
          have hcc : CodB wc := by
            rcases hj with ⟨-, -, rfl⟩ | ⟨-, jx, -, -, -, h1, -⟩
            · exact hI1.2.2.1
            · exact h1
          have hIc := hI1.f19 hFc hcc
          have hPc : PX T L E b wc (ex (kdT T L) (kdT T L y) y) := by
            refine ⟨hIc, hC1.fx hFc (by decide), fun _ _ => ?_, ?_⟩
            · exact ((hE0.fx hF (by decide) (by decide) (by decide) (by decide) (by decide)).fx hC31.1 (by decide) (by decide) (by decide) (by decide) (by decide)).fx hFc (by decide) (by decide) (by decide) (by decide) (by decide)
            · rw [hFc 26 (by decide), hC31.1 26 (by decide), hF 26 (by decide)]; exact hb
          have hcont : ∀ (wd : Wd) (y2 : Nat), Fx FEl wc wd → IC T L wd → y2 ≤ nTk T L → RR T L (XP T L E b) wc wd (ex (kdT T L) (kdT T L y) y) sub y2 → V g LC jEx_chain (d + 1) K 133 [(0, vA 26), (1, vI (line : Int)), (2, vI (within : Int)), (3, vI (x : Int)), (4, vI (most : Int)), (5, vI (n : Int)), (6, vI ((kdT T L y : Nat) : Int)), (7, vI (y : Int)), (8, vI jp)] [vI (y2 : Int)] wd := by
            intro wd y2 hFd hId hy2 hRR
            -- behind the last deed
            have hend : ∀ we : Wd, Fx [19, 20, 21, 22, 23] wd we → CodB we → (∀ (cc : Tr) (m : Nat), sub (y + 1) = .ok (cc, m) → XP T L E b wc wd (y + 1) m cc → ∀ s : Nat, w 19 4 = (s : Int) → s ≤ x → XC w we s (cmT T L E (nd 6 y 0 a cc) s)) → V g LC jEx_chain (d + 1) K 174 [(0, vA 26), (1, vI (line : Int)), (2, vI (within : Int)), (3, vI (x : Int)), (4, vI (most : Int)), (5, vI (n : Int)), (6, vI ((kdT T L y : Nat) : Int)), (9, vI (y2 : Int))] [] we := by
              intro we hFe hce hXC
              have hIe := hId.f19 hFe hce
              refine s_Ex_chain_174 (sp_join (by omega) hIe hx hy2 hl (fun wf hB hkf => ?_))
              have e1 : wr ((n : Int) + 1) = ((n + 1 : Nat) : Int) := wr_n1 (by omega)
              rw [e1]
              generalize hwk : knW (seW (seW wf x ((if line = 3 then 4 else line : Nat) : Int)) y2 ((line + 1 : Nat) : Int)) x (if line ≤ 3 then 2 else 1) (line : Int) = wk
              have hfk : Fx [27, 28, 29, 30] wf wk := by rw [← hwk]; exact (((seW_fx _ _ _).mono (by decide)).tr ((seW_fx _ _ _).mono (by decide))).tr ((knW_fx _ _ _ _).mono (by decide))
              have hIk : IC T L wk := by rw [← hwk]; exact (((hIe.f25 hB.1).se).se).kn
              have hFk : Fx FEl w wk := (((((hF.tr (m25 hC31.1)).tr (m19 hFc)).tr hFd).tr (m19 hFe)).tr (m25 hB.1)).tr (hfk.mono (by decide))
              have hek : ∀ σ, CS T L wd σ → CS T L wk σ := fun σ z => (hB.cs (z.fx hFe (by decide))).fx hfk (by decide)
              have hbk : ∀ R', RX T L E b w wk x R' x → (bnd R' (fun q => pCh (kdT T L) sub line f q.1 q.2) = bnd (Except.ok (a, y) : PE (Tr × Nat)) (fun q => pCh (kdT T L) sub line (f + 1) q.1 q.2)) → V g LC jEx_chain (d + 1) K 39 [(0, vA 26), (1, vI (line : Int)), (2, vI (within : Int)), (3, vI (x : Int)), (4, vI (most : Int)), (5, vI ((n + 1 : Nat) : Int))] [] wk := fun R' h1 h2 => ih (n + 1) R' wk (by omega) hFk hIk h1 (fun _ _ => hE0) (fun w'' h3 h4 h5 => h w'' h3 h4 (by rw [h2] at h5; exact h5))
              have hpc : bnd (Except.ok (a, y) : PE (Tr × Nat)) (fun q => pCh (kdT T L) sub line (f + 1) q.1 q.2) = (if 1000 ≤ y then .error (2, y) else bnd (sub (y + 1)) (fun q => pCh (kdT T L) sub line f (nd 6 y 0 a q.1) q.2)) := by
                show pCh (kdT T L) sub line (f + 1) a y = _
                rw [pCh, if_pos hln]
              by_cases h10 : 1000 ≤ y
              · refine hbk (.error (2, y)) ?_ (by rw [hpc, if_pos h10]; rfl)
                have e2 : ex (kdT T L) (kdT T L y) y = .error (2, y) := by unfold ex; rw [if_pos rfl, if_pos h10]
                rw [e2] at hRR
                exact hek (.error (2, y)) hRR
              · have e2 : ex (kdT T L) (kdT T L y) y = .ok (y + 1) := by unfold ex; rw [if_pos rfl, if_neg h10]
                rw [e2] at hRR
                simp only [RR] at hRR
                cases hsu : sub (y + 1) with
                | error e =>
                  rw [hsu] at hRR
                  exact hbk (.error e) (hek _ hRR) (by rw [hpc, if_neg h10, hsu]; rfl)
                | ok p =>
                  obtain ⟨cc, m⟩ := p
                  rw [hsu] at hRR
                  obtain ⟨rfl, hC2, hX2⟩ := hRR
                  have hg2 := hgw _ _ hsu
                  obtain ⟨⟨k1, k2, k3, k4⟩, kwe, kz⟩ := id hg2
                  simp only at k1 k2 k3 k4
                  refine hbk (.ok (nd 6 y 0 a cc, m)) ⟨rfl, hek _ hC2, ?_, ⟨?_, ?_, ?_, ?_⟩, ?_, CZ.n6⟩ (by rw [hpc, if_neg h10, hsu]; rfl)
                  · rw [← hwk]
                    refine XP.join (sign := kdT T L y) hXa hGa (fun o ho => ?_) (fun q hq => ?_) hX2 hg2 (fun o ho => hFe o (by simp; omega)) (fun q hq => hq.same (hFe 25 (by decide))) hB (fun q hq => hkf (by omega) (by omega) q hq) hln rfl hl (hXC cc m hsu hX2)
                    · rw [hFc o (by simp; omega), hC31.1 o (by simp; omega)]
                    · exact (hC31.ky hq).same (hFc 25 (by decide))
                  · simp [fst_, g1]
                  · show x < m; omega
                  · exact k3
                  · show nD (nd 6 y 0 a cc) ≤ m - x
                    simp [nD]; omega
                  · show WE (nd 6 y 0 a cc)
                    simp [WE, gwe, kwe]
            refine s_Ex_chain_133 ⟨fun c8 => ⟨by omega, sp_codeAdd hId (fun we sx hFe hce hsx hs2 hAe => hend we hFe hce ?_)⟩, fun c8 => ?_⟩
            · rcases hj with ⟨hl2, -, rfl⟩ | ⟨-, jx, h1, -⟩
              · intro cc m hsu hX2 s hs hsx2
                have hg2 := hgw _ _ hsu
                obtain ⟨⟨k1, k2, k3, k4⟩, kwe, kz⟩ := id hg2
                simp only at k1 k2 k3 k4 kwe
                have x1 := hXa.2.2.2.2.2.2.2 s hs hsx2
                have la : (cmT T L E a s).length = nD a := cm_len a s gwe
                have x2 := x1.fx hC31.1 (by decide) (by decide) (by decide) (by decide) (by decide)
                have x3 := hX2.2.2.2.2.2.2.2 (s + nD a) (by rw [x2.1, la]) (by omega)
                have lc : (cmT T L E cc (s + nD a)).length = nD cc := cm_len cc _ kwe
                have x4 := x2.app (by rw [la]; exact x3)
                have hsx3 : sx = s + nD a + nD cc := by have := x4.1; rw [List.length_append, la, lc, hs2] at this; omega
                have hw5 : wd 5 y = ((tAt T L y : Nat) : Int) := hId.1.pl (by omega) (by omega)
                have hA := hAe (by omega)
                rw [toN, hw5] at hA
                have x5 : XC wd we (s + nD a + nD cc) [(15, ((kdT T L y : Nat) : Int), ((tAt T L y : Nat) : Int))] := by
                  rw [hA, hsx3]; exact XC.one _ _ _
                have x6 := x4.app (by rw [List.length_append, la, lc, ← Nat.add_assoc]; exact x5)
                rw [cm6' (by omega)]
                rw [List.append_assoc] at x6
                exact x6
              · omega
            · rcases hj with ⟨-, h1, -⟩ | ⟨hl2, jx, rfl, hjx, h1, h2, h3, h4⟩
              · omega
              · refine sp_aimHere hjx (fun we hFe hAe => hend we (hFe.mono (by decide)) (hId.2.2.1.fx hFe (by decide)) ?_)
                intro cc m hsu hX2 s hs hsx2
                have hg2 := hgw _ _ hsu
                obtain ⟨⟨k1, k2, k3, k4⟩, kwe, kz⟩ := id hg2
                simp only at k1 k2 k3 k4 kwe
                have x1 := hXa.2.2.2.2.2.2.2 s hs hsx2
                have la : (cmT T L E a s).length = nD a := cm_len a s gwe
                have x2 := x1.fx hC31.1 (by decide) (by decide) (by decide) (by decide) (by decide)
                have hjx2 : jx = s + nD a := by have := x2.1; rw [la, h3] at this; omega
                have hwc := h4 (by omega)
                have x3 : XC w1 wc (s + nD a) [((if line = 2 then 16 else 17), 0, 0)] := by rw [hwc, hjx2]; exact XC.one _ _ _
                have x4 := x2.app (by rw [la]; exact x3)
                have x5 := hX2.2.2.2.2.2.2.2 (s + nD a + 1) (by rw [x4.1, List.length_append, la]; rfl) (by omega)
                have lc : (cmT T L E cc (s + nD a + 1)).length = nD cc := cm_len cc _ kwe
                have x6 := x4.app (by rw [List.length_append, la]; exact x5)
                rw [List.append_assoc] at x6
                have x7 := XC.aim (v := wd 19 4) x6
                have h19 : wd 19 4 = ((s + nD a + 1 + nD cc : Nat) : Int) := by rw [x5.1, lc]
                have hA := hAe (by omega)
                rw [hA, hjx2]
                rw [cm6 (by omega), hln]
                rw [la, h19] at x7
                rw [h19]
                exact x7
          refine s_Ex_chain_110 ?_
          rw [wr_n1 (by omega)]
          exact ⟨fun c5 => hsN (by omega) _ wc _ hPc hcont, fun c5 => hs5 (by omega) _ wc _ hPc hcont⟩
        refine ⟨fun c2 => hgo w1 (-1) (Or.inl ⟨by omega, rfl, rfl⟩), fun c2 => ⟨fun c3 => s_Ex_chain_101 (sp_codeAdd hI1 (fun wc sx hFe hce hsx hs2 hAe => hgo wc _ (Or.inr ⟨by omega, sx, rfl, hsx, hFe, hce, hs2, fun z => ?_⟩))), fun c3 => s_Ex_chain_101 (sp_codeAdd hI1 (fun wc sx hFe hce hsx hs2 hAe => hgo wc _ (Or.inr ⟨by omega, sx, rfl, hsx, hFe, hce, hs2, fun z => ?_⟩)))⟩⟩
        · rw [if_neg (by omega)]; exact hAe z
        · rw [if_pos (by omega)]; exact hAe z
theorem RR.rx {w' : Wd} {i x : Nat} {r : Nat → PE (Tr × Nat)} (hg : ∀ i q, r i = .ok q → GW i q) (h : RR T L (XP T L E b) w w' (.ok i) r x) : RX T L E b w w' i (r i) x := by
  unfold RR at h
  unfold RX
  simp only [] at h
  cases hr : r i with
  | error e => rw [hr] at h; exact h
  | ok q => rw [hr] at h; exact ⟨h.1, h.2.1, h.2.2, hg i q hr⟩
/-- one line of the grammar over the next -/
theorem sp_chainL {line within : Nat} {o : Nat → PE (Tr × Nat)} {k : Nat} (hd : 3 ≤ d) (hk : line + k = 5) (hl : 1 ≤ line) (hw1 : within ≤ 1000) (hgw : ∀ i q, cL (kdT T L) o k i = .ok q → GW i q) (hgw1 : ∀ i q, cL (kdT T L) o (k + 1) i = .ok q → GW i q) (hs5 : line = 5 → SpE g jEx_one d [vA 26, vI (within : Int)] T L E b (XP T L E b) (cL (kdT T L) o k)) (hsN : line ≠ 5 → SpE g jEx_chain d [vA 26, vI ((line + 1 : Nat) : Int), vI (within : Int)] T L E b (XP T L E b) (cL (kdT T L) o k)) : SpE g jEx_chain (d + 1) [vA 26, vI (line : Int), vI (within : Int)] T L E b (XP T L E b) (cL (kdT T L) o (k + 1)) := by
  intro K w σ hP h
  have hn := nTk_le (T := T) (L := L)
  refine Cal.ofV (by decide) rfl (Nat.le_of_ble_eq_true rfl) (s_Ex_chain ?_)
  rw [wr_n1 (by omega)]
  have hcont : ∀ (w1 : Wd) (x : Nat), Fx FEl w w1 → IC T L w1 → x ≤ nTk T L → RR T L (XP T L E b) w w1 σ (cL (kdT T L) o k) x → V g LC jEx_chain (d + 1) K 21 [(0, vA 26), (1, vI (line : Int)), (2, vI (within : Int))] [vI (x : Int)] w1 := by
    intro w1 x hF hI1 hx hRR
    have hgo : ∀ most : Nat, most = (if k = 2 then 1 else 1000) → V g LC jEx_chain (d + 1) K 39 [(0, vA 26), (1, vI (line : Int)), (2, vI (within : Int)), (3, vI (x : Int)), (4, vI (most : Int)), (5, vI 0)] [] w1 := by
      intro most hm
      have hm1 : most ≤ 1000 := by rw [hm]; split <;> omega
      cases σ with
      | error e =>
        refine chain_loop (sub := cL (kdT T L) o k) (w := w) (i := 0) hd ⟨hl, by omega⟩ hw1 hm1 hgw hs5 hsN hx hP.2.2.2 most 0 (.error e) w1 (by omega) hF hI1 hRR (fun q z => by cases z) (fun w'' h1 h2 h3 => h w'' x h1 h2 hx h3)
      | ok i =>
        refine chain_loop (sub := cL (kdT T L) o k) (w := w) (i := i) hd ⟨hl, by omega⟩ hw1 hm1 hgw hs5 hsN hx hP.2.2.2 most 0 (cL (kdT T L) o k i) w1 (by omega) hF hI1 (hRR.rx hgw) (fun q _ => hP.2.2.1 i rfl) (fun w'' h1 h2 h3 => h w'' x h1 h2 hx ?_)
        have e : cL (kdT T L) o (k + 1) i = bnd (cL (kdT T L) o k i) (fun q => pCh (kdT T L) (cL (kdT T L) o k) line most q.1 q.2) := by
          rw [cL, hm]
          have : 5 - k = line := by omega
          rw [this]
        rw [← e] at h3
        unfold RX at h3
        unfold RR
        simp only []
        cases hr : cL (kdT T L) o (k + 1) i with
        | error e => rw [hr] at h3; exact h3
        | ok q => rw [hr] at h3; exact ⟨h3.1, h3.2.1, h3.2.2.1⟩
    refine s_Ex_chain_21 ⟨fun c => s_Ex_chain_34 (hgo 1000 (by rw [if_neg (by omega)])), fun c => s_Ex_chain_34 (hgo 1 (by rw [if_pos (by omega)]))⟩
  exact ⟨fun c => hsN (by omega) _ w σ hP hcont, fun c => hs5 (by omega) _ w σ hP hcont⟩
/-- exp(within), where one(within) is known -/
theorem sp_exp {within n : Nat} (hd : 3 ≤ d) (hw1 : within ≤ 1000) (ho : SpE g jEx_one d [vA 26, vI (within : Int)] T L E b (XP T L E b) (pOne (kdT T L) n)) : SpE g jEx_exp (d + 6) [vA 26, vI (within : Int)] T L E b (XS T L E b 1) (pE (kdT T L) n) := by
  have c5 : SpE g jEx_chain (d + 1) [vA 26, vI ((5 : Nat) : Int), vI (within : Int)] T L E b (XP T L E b) (cL (kdT T L) (pOne (kdT T L) n) 1) := sp_chainL hd rfl (by decide) hw1 (fun _ _ z => cL_gw z) (fun _ _ z => cL_gw z) (fun _ => ho) (fun z => absurd rfl z)
  have c4 : SpE g jEx_chain (d + 2) [vA 26, vI ((4 : Nat) : Int), vI (within : Int)] T L E b (XP T L E b) (cL (kdT T L) (pOne (kdT T L) n) 2) := sp_chainL (by omega) rfl (by decide) hw1 (fun _ _ z => cL_gw z) (fun _ _ z => cL_gw z) (fun z => absurd z (by decide)) (fun _ => c5)
  have c3 : SpE g jEx_chain (d + 3) [vA 26, vI ((3 : Nat) : Int), vI (within : Int)] T L E b (XP T L E b) (cL (kdT T L) (pOne (kdT T L) n) 3) := sp_chainL (by omega) rfl (by decide) hw1 (fun _ _ z => cL_gw z) (fun _ _ z => cL_gw z) (fun z => absurd z (by decide)) (fun _ => c4)
  have c2 : SpE g jEx_chain (d + 4) [vA 26, vI ((2 : Nat) : Int), vI (within : Int)] T L E b (XP T L E b) (cL (kdT T L) (pOne (kdT T L) n) 4) := sp_chainL (by omega) rfl (by decide) hw1 (fun _ _ z => cL_gw z) (fun _ _ z => cL_gw z) (fun z => absurd z (by decide)) (fun _ => c3)
  have c1 : SpE g jEx_chain (d + 5) [vA 26, vI ((1 : Nat) : Int), vI (within : Int)] T L E b (XP T L E b) (cL (kdT T L) (pOne (kdT T L) n) 5) := sp_chainL (by omega) rfl (by decide) hw1 (fun _ _ z => cL_gw z) (fun _ _ z => cL_gw z) (fun z => absurd z (by decide)) (fun _ => c2)
  intro K w σ hP h
  have hn := nTk_le (T := T) (L := L)
  refine Cal.ofV (by decide) rfl (Nat.le_of_ble_eq_true rfl) (s_Ex_exp (c1 _ w σ hP (fun w1 x hF hI hx hRR => sp_settle (by omega) hI (h _ x (hF.tr (m29 (seW_fx _ _ _))) hI.se hx ?_))))
  cases σ with
  | error e => exact CS.fx (σ := .error e) hRR (seW_fx _ _ _) (by decide)
  | ok i =>
    unfold RR at hRR
    simp only [] at hRR
    cases hr : cL (kdT T L) (pOne (kdT T L) n) 5 i with
    | error e => rw [hr] at hRR; exact RR.err (e := e) hr (CS.fx (σ := .error e) hRR (seW_fx _ _ _) (by decide))
    | ok q =>
      rw [hr] at hRR
      obtain ⟨rfl, h1, h2⟩ := hRR
      exact RR.ok (q := q) hr rfl (CS.fx (σ := .ok q.2) h1 (seW_fx _ _ _) (by decide)) (h2.settle (r := 1) (cL_gw hr).2.2)
end ExpChain
