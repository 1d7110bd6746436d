/-! ===== a TURN in both: done, or failed ===== -/
theorem svF_cg {w w' : Wd} (h : ∀ o, 41 ≤ o → o ≤ 46 → w' o = w o) (x : Nat) : svF w' x = svF w x := by
  unfold svF
  rw [h 41 (by decide) (by decide), h 42 (by decide) (by decide), h 43 (by decide) (by decide), h 44 (by decide) (by decide), h 45 (by decide) (by decide), h 46 (by decide) (by decide)]
section Turn3
variable {T : Nat → Int} {L m j : Nat} {D : DE} {a0 a1 : Tr} {s1 l1 n na k kq : Nat} {wc wc' wm wm' : Wd}
theorem RuR.cm (h : RuR D n k kq wc wm) (hf : ∀ o, 41 ≤ o → o ≤ 51 → wm' o = wm o) (h0 : ∀ b, 65 ≤ b → b ≤ 85 → wm' 0 b = wm 0 b) : RuR D n k kq wc wm' := by
  obtain ⟨r1, r2, r3, r4, r5, r6, r7, ⟨r8a, r8b, r8c, r8d⟩, r9, r10, r11, r12⟩ := h
  have es : svF wm' = svF wm := funext (svF_cg (fun o p q => hf o p (by omega)))
  refine ⟨r1, r2, r3, r4, by rw [h0 78 (by decide) (by decide)]; exact r5, by rw [h0 65 (by decide) (by decide)]; exact r6, by rw [h0 85 (by decide) (by decide)]; exact r7, ⟨by rw [h0 80 (by decide) (by decide)]; exact r8a, by rw [h0 81 (by decide) (by decide)]; exact r8b, by rw [h0 82 (by decide) (by decide)]; exact r8c, by rw [h0 83 (by decide) (by decide)]; exact r8d⟩, by rw [h0 66 (by decide) (by decide)]; exact r9, by rw [es]; exact r10, by rw [hf 51 (by decide) (by decide)]; exact r11, r12⟩
theorem RuR.cc (h : RuR D n k kq wc wm) (hn : n ≤ 40) (c1 : cntE 1 (enD D) ≤ 8) (c2 : cntE 2 (enD D) ≤ 4) (c3 : cntE 3 (enD D) ≤ 4) (hf : ∀ o, 43 ≤ o → o ≤ 100 → wc' o = wc o) : RuR D n k kq wc' wm := by
  obtain ⟨r1, r2, r3, r4, r5, r6, r7, r8, r9, r10, r11, r12⟩ := h
  have e : ∀ i z, z ≤ 6 → wc' (moB k i + z) = wc (moB k i + z) := fun i z hz => hf _ (by have := mo_rng (moB_mo (k := k) (i := i)); omega) (by have := mo_rng (moB_mo (k := k) (i := i)); omega)
  have e0 : ∀ i, wc' (moB k i) = wc (moB k i) := fun i => e i 0 (by decide)
  refine ⟨r1, r2, ?_, ?_, r5, ?_, ?_, ?_, ?_, r10.cg hn c1 c2 c3 (fun z hz => e 0 z hz) (fun _ _ => rfl), fun i p q => (r11 i p q).cg hn c1 c2 c3 (fun z hz => e i z hz) (fun _ _ => rfl), fun i p => by rw [e0, e0]; exact r12 i p⟩
  · rw [hf 43 (by decide) (by decide)]; exact r3
  · rw [hf 43 (by decide) (by decide)]; exact r4
  · rw [hf 43 (by decide) (by decide)]; exact r6
  · rw [hf 43 (by decide) (by decide)]; exact r7
  · rw [hf 43 (by decide) (by decide)]; exact r8
  · rw [e0]; exact r9
/-- the RUN behind a TURN that failed -/
theorem ru_fail {w5 w' wm5 wm' w3 : Wd} {v : Nat} {e : Nat × Nat} (hn : n ≤ 40) (c1 : cntE 1 (enD D) ≤ 8) (c2 : cntE 2 (enD D) ≤ 4) (c3 : cntE 3 (enD D) ≤ 4) (hR : RuR D n k kq wc wm) (hFo : FoK (moA ((k + 1) % 8)) (moB k 0) wc w5) (hF : FWk (moA ((k + 1) % 8)) w5 w') (hb : BgM wm wm5) (hf : FTn wm5 wm') (hB : BrI 52 0 (up (up (up (up wm' 0 80 (e.1 : Int)) 0 81 (v : Int)) 0 82 (e.2 : Int)) 0 83 (wm 0 66)) w3 320 40 160 4) (hw : wc' = up (up (up (up w' 43 7 (e.1 : Int)) 43 8 (v : Int)) 43 9 (e.2 : Int)) 43 10 (wc (moB k 0) 0)) : RuR D n k kq wc' w3 := by
  obtain ⟨r1, r2, r3, r4, r5, r6, r7, ⟨r8a, r8b, r8c, r8d⟩, r9, r10, r11, r12⟩ := hR
  have hma : isMo (moA ((k + 1) % 8)) := ⟨_, Nat.mod_lt _ (by decide), rfl⟩
  have ra := mo_rng hma
  have hsv := sv_back hb hf (fun o ho => by rw [up_o ho, up_o ho, up_o ho, up_o ho]) hB
  have b0 := hB.1
  have cu : ∀ o, o ≠ 43 → wc' o = w' o := fun o ho => by rw [hw, up_o ho, up_o ho, up_o ho, up_o ho]
  have c43 : ∀ b, b ≠ 7 → b ≠ 8 → b ≠ 9 → b ≠ 10 → wc' 43 b = wc 43 b := fun b h1 h2 h3 h4 => by rw [hw, up_k h4, up_k h3, up_k h2, up_k h1, hF.1 43 (by decide), hFo.1 43 (by decide) (by omega)]
  have old : ∀ i, i ≤ 6 → ∀ z, z ≤ 6 → wc' (moB k i + z) = wc (moB k i + z) := by
    intro i hi z hz
    have hne := moB_ne (k := k) (i := i) r1 hi
    have rb := mo_rng (moB_mo (k := k) (i := i))
    rw [cu _ (by omega), hF.2.1 _ (by omega) (by omega) (by omega), hFo.1 _ (by omega) (by omega)]
  have old0 : ∀ i, i ≤ 6 → wc' (moB k i) = wc (moB k i) := fun i hi => old i hi 0 (by decide)
  have m0 : ∀ b, b < 80 → w3 0 b = wm 0 b := fun b h => by rw [b0 0 (by decide), up_k (by omega), up_k (by omega), up_k (by omega), up_k (by omega), hf.2 b (by omega), hb.2.1 b (by omega)]
  have e51 : w3 51 = wm 51 := by rw [b0 51 (by decide), up_o (by decide), up_o (by decide), up_o (by decide), up_o (by decide), hf.1 51 (by decide), hb.1 51 (by decide)]
  refine ⟨r1, r2, ?_, ?_, ?_, ?_, ?_, ⟨?_, ?_, ?_, ?_⟩, ?_, r10.cg hn c1 c2 c3 (fun z hz => old 0 (by decide) z hz) hsv, fun i p q => (r11 i p q).cg hn c1 c2 c3 (fun z hz => old i (by omega) z hz) (fun x _ => by rw [e51]), fun i p => ?_⟩
  · rw [c43 4 (by decide) (by decide) (by decide) (by decide)]; exact r3
  · rw [c43 12 (by decide) (by decide) (by decide) (by decide)]; exact r4
  · rw [m0 78 (by decide)]; exact r5
  · rw [c43 5 (by decide) (by decide) (by decide) (by decide), m0 65 (by decide)]; exact r6
  · rw [c43 6 (by decide) (by decide) (by decide) (by decide), b0 0 (by decide), up_k (by decide), up_k (by decide), up_k (by decide), up_k (by decide), hf.2 85 (by decide), hb.2.1 85 (by decide)]; exact r7
  · rw [hw, up_k (by decide), up_k (by decide), up_k (by decide), up_s, b0 0 (by decide), up_k (by decide), up_k (by decide), up_k (by decide), up_s]
  · rw [hw, up_k (by decide), up_k (by decide), up_s, b0 0 (by decide), up_k (by decide), up_k (by decide), up_s]
  · rw [hw, up_k (by decide), up_s, b0 0 (by decide), up_k (by decide), up_s]
  · rw [hw, up_s, b0 0 (by decide), up_s]; exact r9.symm
  · rw [m0 66 (by decide), old0 0 (by decide)]; exact r9
  · rw [old0 i (by omega), old0 (i + 1) (by omega)]; exact r12 i p
/-- one TURN: whatever the class does, the model does -/
theorem turn_C {g : Mg} {dC : Nat} {K : Ou → Wd → Prop} (hd : 9 ≤ dC) (hK : PgK T L j D a0 a1 wc) (hG : GrK wc n na) (hk : k < 8) (h4 : wc 43 4 = (k : Int))
    (hok : ∀ wc1, FrC wc wc1 → wc1 43 4 = (((k + 1) % 8 : Nat) : Int) → (∀ (gm : Mg) (wm : Wd) (m s1 l1 kq dM : Nat) (Kx : Ou → Wd → Prop), 1045 ≤ dM → PgN T L m D a0 a1 s1 l1 wm → GrR wc wm n na → RuR D n k kq wc wm → (∀ wm1 kq1, FrM wm wm1 → RuR D n ((k + 1) % 8) kq1 wc1 wm1 → Kx (.inl (some (vI 1))) wm1) → Cal gm LM jMd_oneTurn dM [vA 0] wm Kx) → K (.inl (some (vI 1))) wc1)
    (hno : ∀ wc1, FrC wc wc1 → (∀ (gm : Mg) (wm : Wd) (m s1 l1 kq dM : Nat) (Kx : Ou → Wd → Prop), 1045 ≤ dM → PgN T L m D a0 a1 s1 l1 wm → GrR wc wm n na → RuR D n k kq wc wm → (∀ wm1, FrM wm wm1 → RuR D n k kq wc1 wm1 → Kx (.inl (some (vI 0))) wm1) → Cal gm LM jMd_oneTurn dM [vA 0] wm Kx) → K (.inl (some (vI 0))) wc1) : Cal g LC jMa_doTurn dC [vA 43] wc K := by
  refine Cal.rng (fun hRg _ _ => ?_)
  have emo : moA k = moB k 0 := (moB_0 hk).symm
  have hma : isMo (moA ((k + 1) % 8)) := ⟨_, Nat.mod_lt _ (by decide), rfl⟩
  have ra := mo_rng hma
  obtain ⟨p1, p4, ⟨c4, c1, c2, c3⟩, p6, p7, p8, p9, p10, p11⟩ := id hK
  obtain ⟨g1, g2, g3, g4, g5, g6, -⟩ := id hG
  have key : ∀ (a : Tr) (pc : Nat), BkC T L j a (enD D) wc pc → (if wc (moA k) 0 = 0 then wc 8 4 = (pc : Int) else wc 8 5 = (pc : Int)) → (∀ (wm : Wd) (m s1 l1 : Nat), PgN T L m D a0 a1 s1 l1 wm → wm 0 66 = wc (moB k 0) 0 → nE a ≤ 1000 ∧ ∃ s lo, BkM T L m a (enD D) wm s lo ∧ (if wm 0 66 = 0 then wm 0 41 = bf_ a s else wm 0 42 = bf_ a s)) → Cal g LC jMa_doTurn dC [vA 43] wc K := by
    intro a pc hB hpc hMd
    -- the model, at whatever world is like the class's
    have model : ∀ (gm : Mg) (wm : Wd) (m s1 l1 kq dM : Nat) (Kx : Ou → Wd → Prop), 1045 ≤ dM → PgN T L m D a0 a1 s1 l1 wm → GrR wc wm n na → RuR D n k kq wc wm → (∀ w5 w' w'', BgM wm w5 → TnM D (cntE 1 (enD D)) (FC T L wc (moB k 0) a (enD D)) (actC wc (moB k 0)) w5 w' n → EdM kq w' w'' → Kx (.inl (some (vI 1))) w'') → (∀ v e w5 w', v < n → actC wc (moB k 0) v = true → FC T L wc (moB k 0) a (enD D) v = .error e → (∀ u, u < v → actC wc (moB k 0) u = true → ∃ σ, FC T L wc (moB k 0) a (enD D) u = .ok σ) → BgM wm w5 → FTn w5 w' → ∀ w3, BrI 52 0 (up (up (up (up w' 0 80 (e.1 : Int)) 0 81 (v : Int)) 0 82 (e.2 : Int)) 0 83 (wm 0 66)) w3 320 40 160 4 → Kx (.inl (some (vI 0))) w3) → Cal gm LM jMd_oneTurn dM [vA 0] wm Kx := by
      intro gm wm m s1 l1 kq dM Kx hdM hN hGr hR mok mer
      obtain ⟨r1, r2, r3, r4, r5, r6, r7, r8, r9, r10, r11, r12⟩ := id hR
      obtain ⟨n1, s, lo, n2, n3⟩ := hMd wm m s1 l1 hN r9
      obtain ⟨-, q2, q3, q4, -⟩ := id hGr
      refine sp_oneTurnM (Xf := fun v => XCw wc (moB k 0) v) (na := na) p1 (by omega) g4 r2 q2 r5 (fun v hv => xmd_of (pgr_of hK hN) hGr hR hv) (fun v hv i hi => ?_) n2 n3 p4 (nfs_of p4.2.2) c4 c1 (fun v hv => ?_) (act_of g4 r10) (fv_of p4.2.2 c4 c1 g4 hB.1 r10) mok mer
      · have := g6 i hi
        refine ⟨?_, ?_⟩
        · show 0 ≤ wc 32 i ∧ wc 32 i < 40
          omega
        · show 0 ≤ wc 33 i ∧ wc 33 i < 40
          omega
      · intro e he hk2
        obtain ⟨y1, y2, y3, y4⟩ := r10.ty (lets := fun _ => 0) g4 (fun _ => Or.inl rfl) hv e he hk2
        refine ⟨fun z => ?_, fun _ => Or.inl rfl, y3, y4⟩
        have hl := num_lt p4.2.2 he
        rw [z] at hl
        have this : b01 (wc (moB k 0 + 1) (8 * v + e.2.2.1)) := y1 z
        rw [r10.1 v _ hv hl, svF_0 (by omega)] at this
        exact this
    refine sp_doTurnC (T := T) (L := L) (j := j) (a := a) (E := enD D) (pc := pc) (n := n) (na := na) p1 hd hk h4 g4 g1 (fun v _ => hG.c v) hB hpc p4.1 p4.2.2 c4 c1 (fun w5 w' hFo hT x hx => ?_) (fun v e w5 w' hv ha he hu hFo hF => ?_)
    · rw [emo] at hFo hT ⊢
      refine hok _ ⟨fun o ho => ?_, ?_⟩ ?_ (fun gm wm m s1 l1 kq dM Kx hdM hN hGr hR hKx => model gm wm m s1 l1 kq dM Kx hdM hN hGr hR (fun wm5 wm' wm'' b1 b2 b3 => hKx wm'' _ ?_ (ru_next hRg hK hGr hR hB hFo hT b1 b2 b3 hx rfl)) (fun v e wm5 wm' hv ha he _ _ _ w3 _ => ?_))
      · rw [up_o (by omega), up_o (by omega), up_o (by omega), hT.1.1 o (by omega), hFo.1 o (by omega) (by omega)]
      · rw [up_k (by decide), up_k (by decide), up_k (by decide), hT.1.1 43 (by decide), hFo.1 43 (by decide) (by omega)]
      · rw [up_k (by decide), up_s]
      · refine ⟨((b1.1.mono (by decide)).tr (b2.1.1.mono (by decide))).tr (b3.1.mono (by decide)), fun b h1 h2 => ?_⟩
        rw [b3.2.1 b (by omega) (by omega) (by omega), b2.1.2 b (by omega), b1.2.1 b (by omega)]
      · exfalso
        obtain ⟨σ, hσ⟩ := (hT.2.1 v hv ha).2.2
        rw [hσ] at he
        cases he
    · rw [emo] at hFo ha he hu ⊢
      refine hno _ ⟨fun o ho => ?_, ?_⟩ (fun gm wm m s1 l1 kq dM Kx hdM hN hGr hR hKx => model gm wm m s1 l1 kq dM Kx hdM hN hGr hR (fun wm5 wm' wm'' b1 b2 b3 => ?_) (fun v' e' wm5 wm' hv' ha' he' hu' b1 b2 w3 b3 => ?_))
      · rw [up_o (by omega), up_o (by omega), up_o (by omega), up_o (by omega), hF.1 o (by omega), hFo.1 o (by omega) (by omega)]
      · rw [up_k (by decide), up_k (by decide), up_k (by decide), up_k (by decide), hF.1 43 (by decide), hFo.1 43 (by decide) (by omega)]
      · exfalso
        obtain ⟨σ, hσ⟩ := (b2.2.1 v hv ha).2.2
        rw [hσ] at he
        cases he
      · have hvv : v' = v := by
          rcases Nat.lt_trichotomy v' v with z | z | z
          · obtain ⟨σ, hσ⟩ := hu v' z ha'
            rw [hσ] at he'; cases he'
          · exact z
          · obtain ⟨σ, hσ⟩ := hu' v z ha
            rw [hσ] at he; cases he
        subst hvv
        have hee : e = e' := by
          rw [he] at he'
          exact Except.error.inj he'
        subst hee
        refine hKx w3 ?_ (ru_fail g4 c1 c2 c3 hR hFo hF b1 b2 b3 rfl)
        refine ⟨((b1.1.mono (by decide)).tr (b2.1.mono (by decide))).tr ((((((Fx.rf _ wm').up (by decide)).up (by decide)).up (by decide)).up (by decide)).tr (b3.1.mono (by decide))), fun b h1 h2 => ?_⟩
        rw [b3.1 0 (by decide), up_k (by omega), up_k (by omega), up_k (by omega), up_k (by omega), b2.2 b (by omega), b1.2.1 b (by omega)]
  by_cases z : wc (moA k) 0 = 0
  · refine key a0 0 p8 (by rw [if_pos z]; exact p10) (fun wm m s1 l1 hN h66 => ?_)
    obtain ⟨q1, q2, q3, q4, q5, q6, q7, q8⟩ := hN
    rw [← emo] at h66
    exact ⟨q7, 0, 0, q3, by rw [if_pos (by rw [h66]; exact z)]; exact q5⟩
  · refine key a1 (nK a0 + 1) p9 (by rw [if_neg z]; exact p11) (fun wm m s1 l1 hN h66 => ?_)
    obtain ⟨q1, q2, q3, q4, q5, q6, q7, q8⟩ := hN
    rw [← emo] at h66
    exact ⟨q8, s1, l1, q4, by rw [if_neg (by rw [h66]; exact z)]; exact q6⟩
end Turn3
