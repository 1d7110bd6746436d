/-! ===== the model reads a whole text ===== -/
theorem SR.cgA {kd : Nat → Nat} {w w' : Wd} : ∀ (a : Tr) (s lo : Nat), WS a → SR kd w a s lo → (∀ x, s ≤ x → x < s + nT a → ∀ o, 17 ≤ o → o ≤ 25 → w' o x = w o x) → (∀ x, lo ≤ x → x < lo + nE a → ∀ o, 26 ≤ o → o ≤ 31 → w' o x = w o x) → SR kd w' a s lo
  | .leaf, s, lo, hw, h, h1, h2 => trivial
  | .inner c t q l r, s, lo, hw, h, h1, h2 => by
    by_cases hst : 11 ≤ c ∧ c ≤ 17
    · exact SR.congr (.inner c t q l r) s lo s hw (Or.inr ⟨rfl, hst⟩) h (fun x a b o p q _ => h1 x a b o p q) h2
    · simp only [WS] at hw
      rcases hw with ⟨rfl, hl, hr, ht⟩ | ⟨rfl, hl, hr⟩ | ⟨rfl, hl⟩ | ⟨rfl, -⟩ | ⟨rfl, -⟩ | rfl | ⟨hc, -⟩
      · have e1 : nT (.inner 20 t q l r) = nT l + nT r := rfl
        have e2 : nE (.inner 20 t q l r) = nE l + nE r := rfl
        rw [e1] at h1
        rw [e2] at h2
        have hp := nT_tag hl ht
        obtain ⟨k1, k2, k3⟩ : SR kd w l s lo ∧ SR kd w r (s + nT l) (lo + nE l) ∧ w 23 s = nx_ r (s + nT l) := h
        exact ⟨SR.cgA l s lo hl k1 (fun x a b => h1 x a (by omega)) (fun x a b => h2 x a (by omega)), SR.cgA r _ _ hr k2 (fun x a b => h1 x (by omega) (by omega)) (fun x a b => h2 x (by omega) (by omega)), by rw [h1 s (Nat.le_refl _) (by omega) 23 (by decide) (by decide)]; exact k3⟩
      · have e1 : nT (.inner 9 t q l r) = nT l + nT r := rfl
        have e2 : nE (.inner 9 t q l r) = nE l + nE r := rfl
        rw [e1] at h1
        rw [e2] at h2
        obtain ⟨k1, k2⟩ : SR kd w l s lo ∧ SR kd w r (s + nT l) (lo + nE l) := h
        exact ⟨SR.cgA l s lo hl k1 (fun x a b => h1 x a (by omega)) (fun x a b => h2 x a (by omega)), SR.cgA r _ _ hr k2 (fun x a b => h1 x (by omega) (by omega)) (fun x a b => h2 x (by omega) (by omega))⟩
      · exact SR.cgA l s lo hl h h1 h2
      · exact absurd (by decide) hst
      · exact absurd (by decide) hst
      · exact absurd (by decide) hst
      · exact absurd (by omega) hst
theorem TD.cg {kd : Nat → Nat} {w w' : Wd} {D : DE} (h : TD kd w D) (h0 : w' 0 20 = w 0 20) (h1 : ∀ o, 10 ≤ o → o ≤ 16 → w' o = w o) : TD kd w' D := by
  obtain ⟨t1, t2, t3, t4⟩ := h
  refine ⟨h0.trans t1, by rw [h1 16 (by decide) (by decide)]; exact t2, t3, fun k e hk => ?_⟩
  have := t4 k e hk
  unfold trw at *
  simp only [h1 10 (by decide) (by decide), h1 11 (by decide) (by decide), h1 12 (by decide) (by decide), h1 13 (by decide) (by decide), h1 14 (by decide) (by decide), h1 15 (by decide) (by decide)]
  exact this
/-- what stands between told things -/
def PT (p : ST × DE) : Prop := sE p.1 = p.2.map (fun e => e.1) ∧ sO p.1 = List.range (sI p.1) ∧ sC p.1 = [] ∧ sb p.1 = false ∧ sc p.1 = 0 ∧ sl p.1 = 0 ∧ sh p.1 = 0 ∧ cntE 4 (sE p.1) = 0
def FMr (w w' : Wd) : Prop := Fx [0, 1, 10, 11, 12, 13, 14, 15, 16, 17, 18, 19, 20, 21, 22, 23, 24, 25, 26, 27, 28, 29, 30, 31, 32, 33] w w' ∧ ∀ b, b ≠ 11 → b ≠ 20 → b ≠ 31 → b ≠ 40 → b ≠ 41 → b ≠ 42 → b ≠ 44 → b ≠ 45 → w' 0 b = w 0 b
theorem FMr.rf (w : Wd) : FMr w w := ⟨Fx.rf _ w, fun _ _ _ _ _ _ _ _ _ => rfl⟩
theorem FMr.tr {a b c : Wd} (h1 : FMr a b) (h2 : FMr b c) : FMr a c := ⟨h1.1.tr h2.1, fun x p1 p2 p3 p4 p5 p6 p7 p8 => (h2.2 x p1 p2 p3 p4 p5 p6 p7 p8).trans (h1.2 x p1 p2 p3 p4 p5 p6 p7 p8)⟩
theorem FMr.t {a b : Wd} (h : FMt a b) : FMr a b := ⟨h.1.mono (by decide), fun x p1 p2 _ _ _ _ _ _ => h.2 x p1 p2⟩
theorem FMr.s {a b : Wd} (h : FMs a b) : FMr a b := ⟨h.1.mono (by decide), fun x p1 _ p3 p4 _ _ p7 p8 => h.2 x p1 p3 p4 p7 p8⟩
theorem FMr.u {w : Wd} {b : Nat} {v : Int} (h : b = 11 ∨ b = 41 ∨ b = 42) : FMr w (up w 0 b v) := ⟨(Fx.rf _ w).up (by decide), fun x p1 p2 p3 p4 p5 p6 p7 p8 => up_k (by omega)⟩
theorem TxM.fr {T : Nat → Int} {L m : Nat} {w w' : Wd} (h : TxM T L m w) (hf : FMr w w') : TxM T L m w' := by
  obtain ⟨h1, h2, h3, h4, h5, h6⟩ := h
  refine ⟨?_, h2, h3, h4, by rw [hf.1 3 (by decide)]; exact h5, h6⟩
  unfold MTk at *
  rw [hf.1 4 (by decide), hf.1 5 (by decide), hf.1 6 (by decide), hf.1 7 (by decide)]
  exact h1
section ModelProg
variable {g : Mg} {d D : Nat} {K : Ou → Wd → Prop} {w w' : Wd} {T : Nat → Int} {L m : Nat}
theorem sp_most {so : Nat} (h : so ≤ 3 → K (.inl (some (vI (mostL.getD so 0)))) w) (hs : so ≤ 3) : Cal g LM jMd_most D [vI (so : Int)] w K := by
  have h := h hs
  refine Cal.ofV (by decide) rfl (Nat.le_of_ble_eq_true rfl) (s_Md_most ⟨fun z => ?_, fun z => ?_⟩)
  · rcases (by omega : so = 0 ∨ so = 2 ∨ so = 3) with rfl | rfl | rfl <;> exact h
  · rcases (by omega : so = 1) with rfl; exact h
theorem pTd_le {E : List En} {i : Nat} {q : (Nat × Int) × Nat} (h : pTd (kdT T L) (vlT T L) E i = .ok q) : q.2 ≤ 1000 := by
  unfold pTd at h
  obtain ⟨i1, -, h⟩ := bnd_ok h
  obtain ⟨i2, -, h⟩ := bnd_ok h
  obtain ⟨r, -, h⟩ := bnd_ok h
  obtain ⟨j, hj, h⟩ := bnd_ok h
  have := ex_i hj
  cases h
  show j ≤ 1000
  omega
theorem sp_toldM {i : Nat} {D0 : DE} (hD : 7 ≤ D) (hM : TxM T L m w) (hT : TD (kdT T L) w D0) (hat : w 0 11 = (i : Int)) (him : i ≤ m) (hi10 : i ≤ 1000) (hk : tls (kdT T L i)) (h : ∀ w2 q, pTd (kdT T L) (vlT T L) (D0.map (fun e => e.1)) i = .ok q → FMt w w2 → w2 0 11 = (q.2 : Int) → q.2 ≤ m → TD (kdT T L) w2 (D0 ++ [((i + 1, tlS (kdT T L i), cntE (tlS (kdT T L i)) (D0.map (fun e => e.1)), q.1.1), q.1.2)]) → K (.inl none) w2) (he : ∀ w2 e, pTd (kdT T L) (vlT T L) (D0.map (fun e => e.1)) i = .error e → FMt w w2 → ErM T L w2 e → K (.inr 1) w2) : Cal g LM jMd_readTold D [vA 0] w K := by
  obtain ⟨d, rfl⟩ : ∃ d, D = d + 1 := ⟨D - 1, by omega⟩
  have hs3 := tlS_3 (kdT T L i)
  have go : ∀ so : Nat, so = tlS (kdT T L i) → V g LM jMd_readTold (d + 1) K 40 [(0, vA 0)] [vI (so : Int)] w := by
    intro so hso
    unfold pTd at h he
    rw [← hso] at h he hs3
    refine s_Md_readTold_40 (sp_passM (by omega) hM hat him hi10 (fun j hj => ?_) (fun e hj => he _ e (by rw [← psM_ex rfl, hj]; rfl) FMt.th (thW_er T L _ e)))
    rw [psM_ex (kd := kdT T L) rfl] at hj
    obtain ⟨rfl, h9, -⟩ := ex_i hj
    rw [hj, bnd_ok'] at h he
    have hf1 : FMt w (up w 0 11 ((i + 1 : Nat) : Int)) := ⟨(Fx.rf _ w).up (by decide), fun b p _ => up_k p⟩
    have hM1 := hM.ft hf1
    have hat1 : up w 0 11 ((i + 1 : Nat) : Int) 0 11 = ((i + 1 : Nat) : Int) := up_s _ _ _ _
    have hT1 : TD (kdT T L) (up w 0 11 ((i + 1 : Nat) : Int)) D0 := by
      exact hT.cg (up_k (by decide)) (fun o p q => up_o (by omega))
    have him1 := hM.lt him (by unfold tls at hk; omega)
    generalize up w 0 11 ((i + 1 : Nat) : Int) = w1 at *
    have hcn := hT1.2.1 so (by omega)
    refine sp_mustName (by omega) hM1 hat1 him1 (fun hk2 => ⟨by omega, sp_most (fun _ => ?_) hs3⟩) (fun hk2 => he _ (1, i + 1) ?_ (hf1.tr FMt.th) (thW_er T L _ _))
    · rw [toN, hcn.1]
      refine ⟨fun hne => ?_, fun heq => ?_⟩
      · have hfull : ¬ (mostL.getD so 0 ≤ ((cntE so (D0.map (fun e => e.1)) : Nat) : Int)) := by omega
        have hpn : pNm (kdT T L) (mostL.getD so 0 ≤ ((cntE so (D0.map (fun e => e.1)) : Nat) : Int)) (i + 1) = ex (kdT T L) 2 (i + 1) := by
          unfold pNm; rw [if_neg (fun z => hfull z.2)]
        rw [hpn] at h he
        exact tl_77 (by omega) hM1 hT1 hs3 (by omega) hat1 him1 (by omega) hk2 rfl (fun w2 q hq hF => h w2 q hq (hf1.tr hF)) (fun w2 e hee hF => he w2 e hee (hf1.tr hF))
      · rw [hat1]
        refine sp_placeM hM1 him1 (sp_fail (f := 2) (he _ (2, i + 1) ?_ (hf1.tr (FMt.th (e := (2, i + 1)))) (thW_er T L w1 (2, i + 1))))
        unfold pNm; rw [if_pos ⟨hk2, by omega⟩]; rfl
    · unfold pNm ex; rw [if_neg (fun z => hk2 z.1), if_neg hk2]; rfl
  unfold tls at hk
  refine Cal.ofV (by decide) rfl (Nat.le_of_ble_eq_true rfl) (s_Md_readTold ?_)
  refine sp_isM (c := 27) (by omega) hM hat him (by decide) (by decide) ⟨fun z1 => ?_, fun z => go 0 (by rw [is1 z]; rfl)⟩
  refine sp_isM (c := 28) (by omega) hM hat him (by decide) (by decide) ⟨fun z2 => ?_, fun z => go 1 (by rw [is1 z]; rfl)⟩
  refine sp_isM (c := 33) (by omega) hM hat him (by decide) (by decide) ⟨fun z3 => ?_, fun z => go 2 (by rw [is1 z]; rfl)⟩
  have n1 := is0 z1
  have n2 := is0 z2
  have n3 := is0 z3
  exact go 3 (by rw [show kdT T L i = 34 by omega]; rfl)
/-- behind the told things -/
abbrev restM (g : Mg) (d : Nat) (K : Ou → Wd → Prop) (w10 : Wd) : Prop := Cal g LM jMd_must d [vA 0, vA 1004] w10 (fun o w12 => rIt o (fun b => K (.inr b) w12) (fun x13 => Cal g LM jMd_readBlock d [vA 0] w12 (fun o w14 => rIt o (fun b => K (.inr b) w14) (fun x15 => Cal g LM jMd_must d [vA 0, vA 1005] (up w14 0 41 x15) (fun o w16 => rIt o (fun b => K (.inr b) w16) (fun x17 => Cal g LM jMd_readBlock d [vA 0] w16 (fun o w18 => rIt o (fun b => K (.inr b) w18) (fun x19 => (0 ≤ (w18 0 11) ∧ (w18 0 11) < 4022) ∧ (((w18 4 ((w18 0 11).toNat)) = 4 → (K (.inl none) (up w18 0 42 x19))) ∧ (¬ (w18 4 ((w18 0 11).toNat)) = 4 → (Cal g LM jMd_placeOf d [vA 0, vI (w18 0 11)] (up w18 0 42 x19) (fun o w20 => rIt o (fun b => K (.inr b) w20) (fun x21 => Cal g LM jMd_fail d [vA 0, vI 1, vI x21] w20 (fun o w22 => rVt o (fun b => K (.inr b) w22) (K (.inl none) w22)))))))))))))))
theorem PT.st {p : ST × DE} {q : (Nat × Int) × Nat} (hp : PT p) : PT (tdS T L p.1 (tlS (kdT T L (sI p.1))) q.1.1 q.2, p.2 ++ [((sI p.1 + 1, tlS (kdT T L (sI p.1)), cntE (tlS (kdT T L (sI p.1))) (sE p.1), q.1.1), q.1.2)]) := by
  obtain ⟨h1, h2, h3, h4, h5, h6, h7, h8⟩ := hp
  refine ⟨?_, rfl, h3, h4, h5, h6, h7, ?_⟩
  · show sE p.1 ++ _ = _
    rw [List.map_append, ← h1]; rfl
  · show cntE 4 (sE p.1 ++ [(sI p.1 + 1, tlS (kdT T L (sI p.1)), cntE (tlS (kdT T L (sI p.1))) (sE p.1), q.1.1)]) = 0
    rw [cnt_app, h8]
    have := tlS_3 (kdT T L (sI p.1))
    rw [if_neg (by show ¬ tlS (kdT T L (sI p.1)) = 4; omega)]
theorem told_loopM (hd : 7 ≤ d) : ∀ (f : Nat) (p : ST × DE) (w : Wd), p.2.length + f = 1000 → PT p → TxM T L m w → w 0 11 = (sI p.1 : Int) → sI p.1 ≤ m → sI p.1 ≤ 1000 → TD (kdT T L) w p.2 → (∀ w' p', fTs T L f p = .ok p' → PT p' → FMt w w' → w' 0 11 = (sI p'.1 : Int) → sI p'.1 ≤ m → sI p'.1 ≤ 1000 → TD (kdT T L) w' p'.2 → restM g d K w') → (∀ w' e, fTs T L f p = .error e → FMt w w' → ErM T L w' e → K (.inr 1) w') → V g LM jMd_readProgram (d + 1) K 0 [(0, vA 0)] [] w := by
  intro f
  induction f with
  | zero =>
    intro p w hl hp hM hat him hi10 hT h he
    have := hT.len
    omega
  | succ f ih =>
    intro p w hl hp hM hat him hi10 hT h he
    rw [fTs] at h he
    have go : tls (kdT T L (sI p.1)) → Cal g LM jMd_readTold d [vA 0] w (fun o w3 => rVt o (fun b => K (.inr b) w3) (V g LM jMd_readProgram (d + 1) K 0 [(0, vA 0)] [] w3)) := by
      intro hk
      rw [if_pos hk] at h he
      unfold fTo2 at h he
      rw [hp.1] at h he
      refine sp_toldM hd hM hT hat him hi10 hk (fun w2 q hq hF h11 hqm hT2 => ?_) (fun w2 e hee hF hE => he w2 e (by rw [hee]; rfl) hF hE)
      rw [hq, bnd_ok', bnd_ok'] at h he
      have hp2 := PT.st (T := T) (L := L) (q := q) hp
      rw [hp.1] at hp2
      refine ih _ w2 ?_ hp2 (hM.ft hF) h11 hqm (pTd_le hq) hT2 (fun w3 p3 h3 hp3 hF3 => h w3 p3 h3 hp3 (hF.tr hF3)) (fun w3 e h3 hF3 => he w3 e h3 (hF.tr hF3))
      rw [List.length_append]
      show p.2.length + 1 + f = 1000
      omega
    refine s_Md_readProgram ?_
    refine sp_isM (c := 27) (by omega) hM hat him (by decide) (by decide) ⟨fun z => go (Or.inl (is1 z)), fun z1 => ?_⟩
    refine sp_isM (c := 28) (by omega) hM hat him (by decide) (by decide) ⟨fun z => go (Or.inr (Or.inl (is1 z))), fun z2 => ?_⟩
    refine sp_isM (c := 33) (by omega) hM hat him (by decide) (by decide) ⟨fun z => go (Or.inr (Or.inr (Or.inl (is1 z)))), fun z3 => ?_⟩
    refine sp_isM (c := 34) (by omega) hM hat him (by decide) (by decide) ⟨fun z4 => ?_, fun z => go (Or.inr (Or.inr (Or.inr (is1 z))))⟩
    have hno : ¬ tls (kdT T L (sI p.1)) := by
      have n1 := is0 z1
      have n2 := is0 z2
      have n3 := is0 z3
      have n4 := is0 z4
      unfold tls; omega
    rw [if_neg hno] at h he
    exact h w p rfl hp (FMt.rf w) hat him hi10 hT
/-- a program, purely: told things, two blocks -/
def pMo (T : Nat → Int) (L : Nat) : PE ((ST × DE) × (Tr × Nat × Nat) × (Tr × Nat × Nat)) := bnd (fTs T L 1000 (st0, [])) (fun p => bnd (ex (kdT T L) 41 (sI p.1)) (fun i1 => bnd (pBk (kdT T L) (vlT T L) 13 0 0 i1) (fun a => bnd (ex (kdT T L) 42 a.2.1) (fun i2 => bnd (pBk (kdT T L) (vlT T L) 13 a.2.2 0 i2) (fun b => if kdT T L b.2.1 = 0 then .ok (p, a, b) else .error (1, b.2.1))))))
theorem mk_end {i : Nat} (hM : TxM T L m w) (hi : i ≤ m) : w 4 i = 4 ↔ kdT T L i = 0 := by
  rw [(hM.1 i (by omega)).1]
  unfold mkd
  constructor
  · intro z
    by_cases q0 : kdT T L i = 0
    · exact q0
    · rw [if_neg q0] at z
      split at z
      · omega
      · split at z
        · omega
        · split at z
          · omega
          · split at z <;> omega
  · intro z; rw [if_pos z]
/-- a program stands in the model's rows -/
def PgM (T : Nat → Int) (L : Nat) (w : Wd) (r : (ST × DE) × (Tr × Nat × Nat) × (Tr × Nat × Nat)) : Prop := TD (kdT T L) w r.1.2 ∧ PT r.1 ∧ SR (kdT T L) w r.2.1.1 0 0 ∧ SR (kdT T L) w r.2.2.1 r.2.1.2.2 (nE r.2.1.1) ∧ w 0 41 = bf_ r.2.1.1 0 ∧ w 0 42 = bf_ r.2.2.1 r.2.1.2.2 ∧ WS r.2.1.1 ∧ WS r.2.2.1 ∧ r.2.1.2.2 = nT r.2.1.1 ∧ r.2.2.2.2 = nT r.2.1.1 + nT r.2.2.1
theorem sp_progM (hD : 140 ≤ D) (hM : TxM T L m w) (hS : MSt w 0 0 0 0 0) (hT : TD (kdT T L) w []) (h : ∀ w' r, pMo T L = .ok r → FMr w w' → PgM T L w' r → (sI r.1.1 ≤ m ∧ r.2.1.2.1 ≤ m ∧ r.2.2.2.1 ≤ m) → w' 0 31 = (r.2.2.2.2 : Int) → K (.inl none) w') (he : ∀ w' e, pMo T L = .error e → FMr w w' → ErM T L w' e → K (.inr 1) w') : Cal g LM jMd_readProgram D [vA 0] w K := by
  obtain ⟨d, rfl⟩ : ∃ d, D = d + 1 := ⟨D - 1, by omega⟩
  refine Cal.ofV (by decide) rfl (Nat.le_of_ble_eq_true rfl) ?_
  have hPT : PT (st0, []) := ⟨rfl, rfl, rfl, rfl, rfl, rfl, rfl, rfl⟩
  unfold pMo at h he
  refine told_loopM (d := d) (by omega) 1000 (st0, []) w rfl hPT hM hS.1.1 (Nat.zero_le _) (Nat.zero_le _) hT (fun w1 p hp hpt hF1 h11 him hi10 hT1 => ?_) (fun w1 e hp hF hE => he w1 e (by rw [hp]; rfl) (FMr.t hF) hE)
  rw [hp, bnd_ok'] at h he
  have hM1 := hM.ft hF1
  have hf1 := FMr.t hF1
  have hbk : ∀ dd, 131 ≤ dd → SpMB g dd T L m 0 13 := fun dd hdd K' w' i n c l a1 a2 a3 a4 a5 a6 a7 a8 a9 => Cal.mono (sp_blockM 13 0 rfl K' w' i n c l a1 a2 a3 a4 a5 a6 a7 a8 a9) hdd
  have hS1 : MSt w1 (sI p.1) 0 0 0 0 := by
    obtain ⟨⟨s1, s2, s3⟩, s4, s5⟩ := hS
    exact ⟨⟨h11, by rw [hF1.2 40 (by decide) (by decide)]; exact s2, by rw [hF1.2 44 (by decide) (by decide)]; exact s3⟩, by rw [hF1.2 31 (by decide) (by decide)]; exact s4, by rw [hF1.2 45 (by decide) (by decide)]; exact s5⟩
  refine sp_mustM (c := 41) (by omega) hM1 h11 him hi10 (by decide) (by decide) (fun j hj => ?_) (fun e hj => he _ e (by rw [hj]; rfl) (hf1.tr (FMr.t FMt.th)) (thW_er T L _ e))
  obtain ⟨rfl, h9, hk41⟩ := ex_i hj
  rw [hj, bnd_ok'] at h he
  have hu2 : FMr w1 (up w1 0 11 ((sI p.1 + 1 : Nat) : Int)) := FMr.u (Or.inl rfl)
  have him2 := hM1.lt him (by omega)
  refine hbk d (by omega) _ _ (sI p.1 + 1) 0 0 0 (hM1.fr hu2) hS1.at_ him2 (by omega) (Nat.zero_le _) (by omega) (by omega) (fun w3 a ha hF3 hS3 ham hR3 _ _ => ?_) (fun w3 e hee hF3 hE3 => he w3 e (by rw [hee]; rfl) ((hf1.tr hu2).tr (FMr.s hF3)) hE3)
  rw [ha, bnd_ok'] at h he
  obtain ⟨ga1, ga2, ga3⟩ := pBk_g3 _ _ _ _ _ (by omega) ha
  obtain ⟨-, gb1, gb2, -, -, gb3⟩ := pBk_gb _ _ _ _ _ (by omega) ha
  have hf3 := (hf1.tr hu2).tr (FMr.s hF3)
  have hM3 := hM.fr hf3
  have hu4 : FMr w3 (up w3 0 41 (bf_ a.1 0)) := FMr.u (Or.inr (Or.inl rfl))
  have hM4 := hM3.fr hu4
  rw [Nat.zero_add] at hS3
  have hS4 : MSt (up w3 0 41 (bf_ a.1 0)) a.2.1 (nE a.1) 0 a.2.2 0 := by
    obtain ⟨⟨s1, s2, s3⟩, s4, s5⟩ := hS3
    exact ⟨⟨by rw [up_k (by decide)]; exact s1, by rw [up_k (by decide)]; exact s2, by rw [up_k (by decide)]; exact s3⟩, by rw [up_k (by decide)]; exact s4, by rw [up_k (by decide)]; exact s5⟩
  refine sp_mustM (c := 42) (by omega) hM4 hS4.1.1 ham gb2 (by decide) (by decide) (fun j2 hj2 => ?_) (fun e hj2 => he _ e (by rw [hj2]; rfl) ((hf3.tr hu4).tr (FMr.t FMt.th)) (thW_er T L _ e))
  obtain ⟨rfl, h8, hk42⟩ := ex_i hj2
  rw [hj2, bnd_ok'] at h he
  have hu5 : FMr (up w3 0 41 (bf_ a.1 0)) (up (up w3 0 41 (bf_ a.1 0)) 0 11 ((a.2.1 + 1 : Nat) : Int)) := FMr.u (Or.inl rfl)
  have him5 := hM3.lt ham (by omega)
  have hf5 := (hf3.tr hu4).tr hu5
  refine hbk d (by omega) _ _ (a.2.1 + 1) (nE a.1) a.2.2 0 (hM4.fr hu5) hS4.at_ him5 (by omega) (by omega) gb3 (by omega) (fun w6 b hb hF6 hS6 hbm hR6 hL6 hO6 => ?_) (fun w6 e hee hF6 hE6 => he w6 e (by rw [hee]; rfl) (hf5.tr (FMr.s hF6)) hE6)
  rw [hb, bnd_ok'] at h he
  obtain ⟨gc1, gc2, gc3⟩ := pBk_g3 _ _ _ _ _ gb3 hb
  have hf6 := hf5.tr (FMr.s hF6)
  have hM6 := hM.fr hf6
  have hme := mk_end hM6 hbm
  have hm4 := hM.2.1
  have hu7 : FMr w6 (up w6 0 42 (bf_ b.1 a.2.2)) := FMr.u (Or.inr (Or.inr rfl))
  rw [hS6.1.1, toN]
  refine ⟨by omega, fun z => ?_, fun z => ?_⟩
  · have hk0 := hme.mp z
    rw [if_pos hk0] at h
    refine h _ _ rfl (hf6.tr hu7) ⟨?_, hpt, ?_, ?_, ?_, up_s _ _ _ _, ga1, gc1, by show a.2.2 = nT a.1; omega, by show b.2.2 = nT a.1 + nT b.1; omega⟩ ⟨him, ham, hbm⟩ (by rw [up_k (by decide)]; exact hS6.2.1)
    · refine hT1.cg ?_ (fun o p q => ?_)
      · rw [up_k (by decide), hF6.2 20 (by decide) (by decide) (by decide) (by decide) (by decide), up_k (by decide), up_k (by decide), hF3.2 20 (by decide) (by decide) (by decide) (by decide) (by decide), up_k (by decide)]
      · rw [up_o (by omega), hF6.1 o (by simp; omega), up_o (by omega), up_o (by omega), hF3.1 o (by simp; omega), up_o (by omega)]
    · refine SR.cgA a.1 0 0 ga1 hR3 (fun x p1 p2 o p3 p4 => ?_) (fun x p1 p2 o p3 p4 => ?_)
      · rw [up_o (by omega), hO6 x (by omega) o p3 p4, up_o (by omega), up_o (by omega)]
      · rw [up_o (by omega), hL6 x (by omega) o p3 (by omega), up_o (by omega), up_o (by omega)]
    · exact SR.cgA b.1 _ _ gc1 hR6 (fun x p1 p2 o p3 p4 => by rw [up_o (by omega)]) (fun x p1 p2 o p3 p4 => by rw [up_o (by omega)])
    · rw [up_k (by decide), hF6.2 41 (by decide) (by decide) (by decide) (by decide) (by decide), up_k (by decide), up_s]
  · have hk0 : ¬ kdT T L b.2.1 = 0 := fun q => z (hme.mpr q)
    rw [if_neg hk0] at he
    exact sp_placeM (hM6.fr hu7) hbm (sp_fail (f := 1) (he _ (1, b.2.1) rfl ((hf6.tr hu7).tr (FMr.t (FMt.th (e := (1, b.2.1))))) (thW_er T L _ (1, b.2.1))))
end ModelProg
