/-! ===== the model reads what is told, 2 ===== -/
section ModelTold2
variable {g : Mg} {d D : Nat} {K : Ou → Wd → Prop} {w w' : Wd} {T : Nat → Int} {L m c so : Nat} {f : Nat → Int}
theorem is1 {a b : Nat} (z : ¬ (if a = b then (1 : Int) else 0) = 0) : a = b := by
  by_cases q : a = b
  · exact q
  · rw [if_neg q] at z; exact absurd rfl z
theorem is0 {a b : Nat} (z : (if a = b then (1 : Int) else 0) = 0) : ¬ a = b := fun q => by rw [if_pos q] at z; cases z
/-- a way -/
theorem tl_485 {i v : Nat} (hd : 6 ≤ d) (hc : c < 30) (hv : v < 6) (hk : kdT T L i = 35 + v) (hB : Bt T L m w w' c f) (hat : w' 0 11 = (i : Int)) (him : i ≤ m) (hi10 : i ≤ 1000) (h : ∀ w2, ex (kdT T L) (35 + v) i = .ok (i + 1) → Bt T L m w w2 c (upv (upv (upv f 13 (v : Int)) 14 (i : Int)) 12 (if 35 + v = 39 ∨ 35 + v = 40 then 1 else 0)) → w2 0 11 = ((i + 1 : Nat) : Int) → V g LM jMd_readTold (d + 1) K 526 [(0, vA 0), (1, vI (so : Int))] [] w2) (he : ∀ w2 e, ex (kdT T L) (35 + v) i = .error e → FMt w w2 → ErM T L w2 e → K (.inr 1) w2) : V g LM jMd_readTold (d + 1) K 465 [(0, vA 0), (1, vI (so : Int)), (3, vI (c : Int))] [vI (v : Int)] w' := by
  have hcb : (0 : Int) ≤ (c : Int) ∧ (c : Int) < 30 := by omega
  refine s_Md_readTold_465 ⟨fun _ => s_Md_readTold_485 ⟨hcb, ?_⟩, fun z => absurd (by omega) z⟩
  rw [toN]
  have hB1 := hB.ro (o := 13) (v := (v : Int)) (by decide)
  refine sp_passM (by omega) hB1.2.2.2.2.1 (ro_at hat (by decide)) him hi10 (fun j hj => ⟨hcb, ?_⟩) (fun e hj => he _ e (by rw [← psM_ex hk, hj]) hB1.th (thW_er T L _ e))
  rw [psM_ex hk] at hj
  obtain ⟨rfl, h9, -⟩ := ex_i hj
  have hB2 := (hB1.at_ (v := ((i + 1 : Nat) : Int))).ro (o := 14) (v := (i : Int)) (by decide)
  have fin : ∀ x : Int, x = (if 35 + v = 39 ∨ 35 + v = 40 then 1 else 0) → V g LM jMd_readTold (d + 1) K 525 [(0, vA 0), (1, vI (so : Int))] [vI x, vI (c : Int), vA 12] (up (up (up w' 13 c (v : Int)) 0 11 ((i + 1 : Nat) : Int)) 14 c (i : Int)) := by
    intro x hx
    subst hx
    refine s_Md_readTold_525 ⟨hcb, ?_⟩
    rw [toN]
    exact h _ hj (hB2.ro (by decide)) (ro_at (ro_at (up_s _ _ _ _) (by decide)) (by decide))
  exact ⟨fun z => s_Md_readTold_520 (fin 1 (by rw [if_pos (by omega)])), fun z => ⟨fun z2 => fin 0 (by rw [if_neg (by omega)]), fun z2 => s_Md_readTold_520 (fin 1 (by rw [if_pos (by omega)]))⟩⟩
theorem tl_way {i : Nat} (hd : 6 ≤ d) (hc : c < 30) (hB : Bt T L m w w' c f) (hat : w' 0 11 = (i : Int)) (him : i ≤ m) (hi10 : i ≤ 1000) (h : ∀ w2 f', 35 ≤ kdT T L i → kdT T L i ≤ 40 → ex (kdT T L) (kdT T L i) i = .ok (i + 1) → Bt T L m w w2 c f' → (f' 10 = f 10 ∧ f' 11 = f 11 ∧ f' 12 = (if kdT T L i = 39 ∨ kdT T L i = 40 then 1 else 0) ∧ f' 13 = ((kdT T L i : Nat) : Int) - 35 ∧ f' 14 = (i : Int) ∧ f' 15 = f 15) → w2 0 11 = ((i + 1 : Nat) : Int) → V g LM jMd_readTold (d + 1) K 526 [(0, vA 0), (1, vI (so : Int))] [] w2) (he : ∀ w2 e, (if 35 ≤ kdT T L i ∧ kdT T L i ≤ 40 then ex (kdT T L) (kdT T L i) i else .error (1, i)) = .error e → FMt w w2 → ErM T L w2 e → K (.inr 1) w2) : Cal g LM jMd_is d [vA 0, vA 1014] w' (fun o w5 => rIt o (fun b => K (.inr b) w5) (fun x6 => (x6 = 0 → (Cal g LM jMd_is d [vA 0, vA 1015] w5 (fun o w7 => rIt o (fun b => K (.inr b) w7) (fun x8 => (x8 = 0 → (Cal g LM jMd_is d [vA 0, vA 1016] w7 (fun o w9 => rIt o (fun b => K (.inr b) w9) (fun x10 => (x10 = 0 → (Cal g LM jMd_is d [vA 0, vA 1017] w9 (fun o w11 => rIt o (fun b => K (.inr b) w11) (fun x12 => (x12 = 0 → (Cal g LM jMd_is d [vA 0, vA 1018] w11 (fun o w13 => rIt o (fun b => K (.inr b) w13) (fun x14 => (x14 = 0 → (Cal g LM jMd_is d [vA 0, vA 1019] w13 (fun o w15 => rIt o (fun b => K (.inr b) w15) (fun x16 => (x16 = 0 → (V g LM jMd_readTold (d + 1) K 465 [(0, vA 0), (1, vI (so : Int)), (3, vI (c : Int))] [vI (-2)] w15)) ∧ (¬ x16 = 0 → (V g LM jMd_readTold (d + 1) K 465 [(0, vA 0), (1, vI (so : Int)), (3, vI (c : Int))] [vI 5] w15)))))) ∧ (¬ x14 = 0 → (V g LM jMd_readTold (d + 1) K 465 [(0, vA 0), (1, vI (so : Int)), (3, vI (c : Int))] [vI 4] w13)))))) ∧ (¬ x12 = 0 → (V g LM jMd_readTold (d + 1) K 465 [(0, vA 0), (1, vI (so : Int)), (3, vI (c : Int))] [vI 3] w11)))))) ∧ (¬ x10 = 0 → (V g LM jMd_readTold (d + 1) K 465 [(0, vA 0), (1, vI (so : Int)), (3, vI (c : Int))] [vI 2] w9)))))) ∧ (¬ x8 = 0 → (V g LM jMd_readTold (d + 1) K 465 [(0, vA 0), (1, vI (so : Int)), (3, vI (c : Int))] [vI 1] w7)))))) ∧ (¬ x6 = 0 → (V g LM jMd_readTold (d + 1) K 465 [(0, vA 0), (1, vI (so : Int)), (3, vI (c : Int))] [vI 0] w5)))) := by
  have hM := hB.2.2.2.2.1
  have fin : ∀ v : Nat, v < 6 → kdT T L i = 35 + v → V g LM jMd_readTold (d + 1) K 465 [(0, vA 0), (1, vI (so : Int)), (3, vI (c : Int))] [vI (v : Int)] w' := by
    intro v hv hk
    refine tl_485 hd hc hv hk hB hat him hi10 (fun w2 hx hB2 h11 => h w2 _ (by omega) (by omega) (by rw [hk]; exact hx) hB2 ⟨rfl, rfl, ?_, ?_, rfl, rfl⟩ h11) (fun w2 e hee => he w2 e (by rw [if_pos (by omega), hk]; exact hee))
    · rw [hk]; rfl
    · rw [hk]; show (v : Int) = _; omega
  refine sp_isM (c := 35) (by omega) hM hat him (by decide) (by decide) ⟨fun z1 => ?_, fun z => fin 0 (by decide) (is1 z)⟩
  refine sp_isM (c := 36) (by omega) hM hat him (by decide) (by decide) ⟨fun z2 => ?_, fun z => fin 1 (by decide) (is1 z)⟩
  refine sp_isM (c := 37) (by omega) hM hat him (by decide) (by decide) ⟨fun z3 => ?_, fun z => fin 2 (by decide) (is1 z)⟩
  refine sp_isM (c := 38) (by omega) hM hat him (by decide) (by decide) ⟨fun z4 => ?_, fun z => fin 3 (by decide) (is1 z)⟩
  refine sp_isM (c := 39) (by omega) hM hat him (by decide) (by decide) ⟨fun z5 => ?_, fun z => fin 4 (by decide) (is1 z)⟩
  refine sp_isM (c := 40) (by omega) hM hat him (by decide) (by decide) ⟨fun z6 => ?_, fun z => fin 5 (by decide) (is1 z)⟩
  have n1 := is0 z1
  have n2 := is0 z2
  have n3 := is0 z3
  have n4 := is0 z4
  have n5 := is0 z5
  have n6 := is0 z6
  refine s_Md_readTold_465 ⟨fun z => absurd z (by decide), fun _ => ?_⟩
  rw [hat]
  exact sp_placeM hM him (sp_fail (f := 1) (he _ (1, i) (by rw [if_neg (by omega)]) (hB.th (e := (1, i))) (thW_er T L w' (1, i))))
theorem pBool_le {i : Nat} {q : Int × Nat} (h : pBool (kdT T L) i = .ok q) : q.2 ≤ 1000 := by
  unfold pBool at h
  split at h
  · obtain ⟨a, ha, hb⟩ := bnd_ok h
    have := ex_i ha
    cases hb
    show a ≤ 1000
    omega
  · obtain ⟨a, ha, hb⟩ := bnd_ok h
    have := ex_i ha
    cases hb
    show a ≤ 1000
    omega
theorem tl_77 {i1 : Nat} {D0 : DE} {R : PE ((Nat × Int) × Nat)} (hd : 6 ≤ d) (hM : TxM T L m w) (hT : TD (kdT T L) w D0) (hso3 : so ≤ 3) (hroom : ((cntE so (D0.map (fun e => e.1)) : Nat) : Int) < mostL.getD so 0) (hat : w 0 11 = (i1 : Int)) (him : i1 ≤ m) (hi10 : i1 ≤ 1000) (hk : kdT T L i1 = 2) (hR : R = bnd (ex (kdT T L) 2 i1) (fun i2 => bnd (pTv (kdT T L) (vlT T L) so i2) (fun q => bnd (ex (kdT T L) 4 q.2) (fun j => .ok (q.1, j))))) (h : ∀ w2 q, R = .ok q → FMt w w2 → w2 0 11 = (q.2 : Int) → q.2 ≤ m → TD (kdT T L) w2 (D0 ++ [((i1, so, cntE so (D0.map (fun e => e.1)), q.1.1), q.1.2)]) → K (.inl none) w2) (he : ∀ w2 e, R = .error e → FMt w w2 → ErM T L w2 e → K (.inr 1) w2) : V g LM jMd_readTold (d + 1) K 77 [(0, vA 0), (1, vI (so : Int))] [] w := by
  subst hR
  have hlen := hT.len
  have hlb : (0 : Int) ≤ (D0.length : Int) ∧ (D0.length : Int) < 30 := by omega
  have h20 := hT.1
  refine s_Md_readTold_77 ?_
  rw [h20, toN]
  have hB0 : Bt T L m w w D0.length (fun o => w o D0.length) := ⟨FMt.rf w, fun _ _ _ _ _ => rfl, rfl, rfl, hM, fun _ _ _ => rfl⟩
  have hB1 := hB0.ro (o := 10) (v := (so : Int)) (by decide)
  refine ⟨hlb, sp_passM (by omega) hB1.2.2.2.2.1 (ro_at hat (by decide)) him hi10 (fun j hj => ⟨hlb, hlb, hlb, hlb, ?_⟩) (fun e hj => he _ e (by rw [← psM_ex hk, hj]; rfl) hB1.th (thW_er T L _ e))⟩
  rw [psM_ex hk] at hj
  obtain ⟨rfl, h9, -⟩ := ex_i hj
  rw [hj, bnd_ok'] at h he
  have hB2 := (((hB1.at_ (v := ((i1 + 1 : Nat) : Int))).ro (o := 11) (v := (i1 : Int)) (by decide)).ro (o := 12) (v := 0) (by decide)).ro (o := 14) (v := -2) (by decide)
  have hB3 := hB2.ro (o := 15) (v := -2) (by decide)
  have hat3 : up (up (up (up (up (up w 10 D0.length (so : Int)) 0 11 ((i1 + 1 : Nat) : Int)) 11 D0.length (i1 : Int)) 12 D0.length 0) 14 D0.length (-2)) 15 D0.length (-2) 0 11 = ((i1 + 1 : Nat) : Int) := ro_at (ro_at (ro_at (ro_at (up_s _ _ _ _) (by decide)) (by decide)) (by decide)) (by decide)
  have him2 := hM.lt him (by omega)
  generalize up (up (up (up (up (up w 10 D0.length (so : Int)) 0 11 ((i1 + 1 : Nat) : Int)) 11 D0.length (i1 : Int)) 12 D0.length 0) 14 D0.length (-2)) 15 D0.length (-2) = w3 at *
  have g10 : (upv (upv (upv (upv (upv (fun o => w o D0.length) 10 (so : Int)) 11 (i1 : Int)) 12 0) 14 (-2)) 15 (-2)) 10 = (so : Int) := rfl
  have g11 : (upv (upv (upv (upv (upv (fun o => w o D0.length) 10 (so : Int)) 11 (i1 : Int)) 12 0) 14 (-2)) 15 (-2)) 11 = (i1 : Int) := rfl
  have g12 : (upv (upv (upv (upv (upv (fun o => w o D0.length) 10 (so : Int)) 11 (i1 : Int)) 12 0) 14 (-2)) 15 (-2)) 12 = 0 := rfl
  have g14 : (upv (upv (upv (upv (upv (fun o => w o D0.length) 10 (so : Int)) 11 (i1 : Int)) 12 0) 14 (-2)) 15 (-2)) 14 = -2 := rfl
  have g15 : (upv (upv (upv (upv (upv (fun o => w o D0.length) 10 (so : Int)) 11 (i1 : Int)) 12 0) 14 (-2)) 15 (-2)) 15 = -2 := rfl
  generalize (upv (upv (upv (upv (upv (fun o => w o D0.length) 10 (so : Int)) 11 (i1 : Int)) 12 0) 14 (-2)) 15 (-2)) = f3 at *
  have fin : ∀ (w' : Wd) (f' : Nat → Int) (q : (Nat × Int) × Nat), pTv (kdT T L) (vlT T L) so (i1 + 1) = .ok q → Bt T L m w w' D0.length f' → w' 0 11 = (q.2 : Int) → q.2 ≤ m → q.2 ≤ 1000 → trw (kdT T L) f' ((i1, so, cntE so (D0.map (fun e => e.1)), q.1.1), q.1.2) → V g LM jMd_readTold (d + 1) K 526 [(0, vA 0), (1, vI (so : Int))] [] w' := by
    intro w' f' q hq hB' hat' hqm hq10 hrow
    rw [hq, bnd_ok'] at h he
    refine tl_end (D0 := D0) (e := ((i1, so, cntE so (D0.map (fun e => e.1)), q.1.1), q.1.2)) hd hB' hT rfl hso3 hroom hrow hat' hqm hq10 (fun w2 j hj hF h11 hjm hT2 => h w2 (q.1, j) (by rw [hj]; rfl) hF h11 hjm hT2) (fun w2 e hee => he w2 e (by rw [hee]; rfl))
  have her : ∀ e, pTv (kdT T L) (vlT T L) so (i1 + 1) = .error e → ∀ w2, FMt w w2 → ErM T L w2 e → K (.inr 1) w2 := fun e hee w2 => he w2 e (by rw [hee]; rfl)
  refine ⟨fun h1 => ⟨fun h0 => ?_, fun h0 => ?_⟩, fun h1 => ?_⟩
  · have hs : so = 0 := by omega
    refine fin w3 f3 ((1, 0), i1 + 1) (by unfold pTv; rw [if_pos hs]) hB3 hat3 him2 (by omega) ⟨g10, g11, g12, fun z => absurd z (by show ¬ so = 1; omega), fun z => absurd (show 2 ≤ so from z) (by omega), fun _ => ⟨g14, g15⟩, fun z => absurd (show so = 1 from z) (by omega), fun z => absurd (show 2 ≤ so from z) (by omega)⟩
  · have hs0 : ¬ so = 0 := by omega
    have hs1 : ¬ so = 1 := by omega
    have hpv : pTv (kdT T L) (vlT T L) so (i1 + 1) = bnd (ex (kdT T L) 11 (i1 + 1)) (fun i3 => if 35 ≤ kdT T L i3 ∧ kdT T L i3 ≤ 40 then bnd (ex (kdT T L) (kdT T L i3) i3) (fun i4 => .ok ((if kdT T L i3 = 39 ∨ kdT T L i3 = 40 then 2 else 1, ((kdT T L i3 : Nat) : Int)), i4)) else .error (1, i3)) := by
      unfold pTv; rw [if_neg hs0]; simp only [if_neg hs1]
    rw [hpv] at fin her
    refine sp_mustM (c := 11) hd hB3.2.2.2.2.1 hat3 him2 (by omega) (by decide) (by decide) (fun j hj => ?_) (fun e hj => her e (by rw [hj]; rfl) _ hB3.th (thW_er T L _ e))
    obtain ⟨rfl, h8, hk11⟩ := ex_i hj
    rw [hj, bnd_ok'] at fin her
    have him3 := hM.lt him2 (by omega)
    refine tl_way (i := i1 + 1 + 1) hd (by omega) (hB3.at_ (v := ((i1 + 1 + 1 : Nat) : Int))) (up_s _ _ _ _) him3 (by omega) (fun w2 f' p1 p2 hx hB' hf' h11 => ?_) (fun w2 e hee => her e ?_ w2)
    · refine fin w2 f' ((if kdT T L (i1 + 1 + 1) = 39 ∨ kdT T L (i1 + 1 + 1) = 40 then 2 else 1, ((kdT T L (i1 + 1 + 1) : Nat) : Int)), i1 + 1 + 1 + 1) (by rw [if_pos ⟨p1, p2⟩, hx]; rfl) hB' h11 (hM.lt him3 (Nat.le_trans (by decide) p1)) (by have := (ex_i hx).2.1; show i1 + 1 + 1 + 1 ≤ 1000; omega) ⟨hf'.1.trans g10, hf'.2.1.trans g11, ?_, fun z => absurd (show so = 1 from z) hs1, fun _ => hf'.2.2.2.1, fun z => absurd (show so = 0 from z) hs0, fun z => absurd (show so = 1 from z) hs1, fun _ => ⟨hf'.2.2.2.2.2.trans g15, hf'.2.2.2.2.1⟩⟩
      rw [hf'.2.2.1]
      show _ = (((if kdT T L (i1 + 1 + 1) = 39 ∨ kdT T L (i1 + 1 + 1) = 40 then 2 else 1 : Nat)) : Int) - 1
      split <;> rfl
    · by_cases z : 35 ≤ kdT T L (i1 + 1 + 1) ∧ kdT T L (i1 + 1 + 1) ≤ 40
      · rw [if_pos z] at hee ⊢; rw [hee]; rfl
      · rw [if_neg z] at hee ⊢; cases hee; rfl
  · have hs1 : so = 1 := by omega
    have hpv : pTv (kdT T L) (vlT T L) so (i1 + 1) = bnd (ex (kdT T L) 11 (i1 + 1)) (fun i3 => bnd (ex (kdT T L) (if kdT T L i3 = 30 then 30 else 29) i3) (fun i4 => bnd (ex (kdT T L) 12 i4) (fun i5 => bnd (if kdT T L i3 = 30 then pBool (kdT T L) i5 else pInt (kdT T L) (vlT T L) i5) (fun v => .ok ((if kdT T L i3 = 30 then 2 else 1, v.1), v.2))))) := by
      unfold pTv; rw [if_neg (by omega)]; simp only [if_pos hs1]
    rw [hpv] at fin her
    refine sp_mustM (c := 11) hd hB3.2.2.2.2.1 hat3 him2 (by omega) (by decide) (by decide) (fun j hj => ?_) (fun e hj => her e (by rw [hj]; rfl) _ hB3.th (thW_er T L _ e))
    obtain ⟨rfl, h8, hk11⟩ := ex_i hj
    rw [hj, bnd_ok'] at fin her
    have him3 := hM.lt him2 (by omega)
    have hB4 := hB3.at_ (v := ((i1 + 1 + 1 : Nat) : Int))
    have hat4 : up w3 0 11 ((i1 + 1 + 1 : Nat) : Int) 0 11 = ((i1 + 1 + 1 : Nat) : Int) := up_s _ _ _ _
    generalize up w3 0 11 ((i1 + 1 + 1 : Nat) : Int) = w4 at *
    have go : kdT T L (i1 + 1 + 1) = 29 ∨ kdT T L (i1 + 1 + 1) = 30 → V g LM jMd_readTold (d + 1) K 165 [(0, vA 0), (1, vI (so : Int)), (3, vI (D0.length : Int))] [] w4 := by
      intro hkk
      -- behind the kind
      have go2 : ∀ x : Nat, x = (if kdT T L (i1 + 1 + 1) = 30 then 1 else 0) → V g LM jMd_readTold (d + 1) K 184 [(0, vA 0), (1, vI (so : Int)), (3, vI (D0.length : Int))] [vI (x : Int), vI (D0.length : Int), vA 12] w4 := by
        intro x hx
        refine s_Md_readTold_184 ⟨hlb, ?_⟩
        rw [toN]
        have hB5 := hB4.ro (o := 12) (v := (x : Int)) (by decide)
        have hkx : kdT T L (i1 + 1 + 1) = (if kdT T L (i1 + 1 + 1) = 30 then 30 else 29) := by
          rcases hkk with q | q <;> rw [q] <;> rfl
        refine sp_passM (by omega) hB5.2.2.2.2.1 (ro_at hat4 (by decide)) him3 (by omega) (fun j4 hj4 => ?_) (fun e hj4 => her e (by rw [← psM_ex hkx, hj4]; rfl) _ hB5.th (thW_er T L _ e))
        rw [psM_ex hkx] at hj4
        obtain ⟨rfl, h7, -⟩ := ex_i hj4
        rw [hj4, bnd_ok'] at fin her
        have hB6 := hB5.at_ (v := ((i1 + 1 + 1 + 1 : Nat) : Int))
        have him4 := hM.lt him3 (by omega)
        refine sp_mustM (c := 12) hd hB6.2.2.2.2.1 (up_s _ _ _ _) him4 (by omega) (by decide) (by decide) (fun j5 hj5 => ?_) (fun e hj5 => her e (by rw [hj5]; rfl) _ hB6.th (thW_er T L _ e))
        obtain ⟨rfl, h6, hk12⟩ := ex_i hj5
        rw [hj5, bnd_ok'] at fin her
        have hB7 := hB6.at_ (v := ((i1 + 1 + 1 + 1 + 1 : Nat) : Int))
        have him5 := hM.lt him4 (by omega)
        by_cases h30 : kdT T L (i1 + 1 + 1) = 30
        · simp only [if_pos h30] at fin her hx
          subst hx
          refine tl_bool (f := upv f3 12 ((1 : Nat) : Int)) hd (by omega) ⟨rfl, g15⟩ hB7 (up_s _ _ _ _) him5 (by omega) (fun w2 q f' hq hB' h11 hqm hf' => ?_) (fun w2 e hee => her e (by rw [hee]; rfl) w2)
          obtain ⟨a1, a2, a3, a4, a5, a6, a7⟩ := hf'
          refine fin w2 f' ((2, q.1), q.2) (by rw [hq]; rfl) hB' h11 hqm (pBool_le hq) ⟨a1.trans g10, a2.trans g11, a3, fun _ => a4, fun z => absurd (show 2 ≤ so from z) (by omega), fun z => absurd (show so = 0 from z) (by omega), fun _ => ⟨fun z => absurd z a5, fun _ => ⟨a6, a7⟩⟩, fun z => absurd (show 2 ≤ so from z) (by omega)⟩
        · simp only [if_neg h30] at fin her hx
          subst hx
          refine tl_int (f := upv f3 12 ((0 : Nat) : Int)) hd (by omega) ⟨rfl, g15⟩ hB7 (up_s _ _ _ _) him5 (by omega) (fun w2 q f' hq hB' h11 hqm hf' => ?_) (fun w2 e hee => her e (by rw [hee]; rfl) w2)
          obtain ⟨a1, a2, a3, a4, a5, a6⟩ := hf'
          refine fin w2 f' ((1, q.1), q.2) (by rw [hq]; rfl) hB' h11 hqm (pInt_ok hq).2 ⟨a1.trans g10, a2.trans g11, a3, fun _ => a4, fun z => absurd (show 2 ≤ so from z) (by omega), fun z => absurd (show so = 0 from z) (by omega), fun _ => ⟨a5, a6⟩, fun z => absurd (show 2 ≤ so from z) (by omega)⟩
      refine s_Md_readTold_165 (sp_isM (c := 29) (by omega) hB4.2.2.2.2.1 hat4 him3 (by decide) (by decide) ⟨fun z => go2 1 ?_, fun z => go2 0 ?_⟩)
      · have := is0 z; rw [if_pos (by omega)]
      · have := is1 z; rw [if_neg (by omega)]
    refine sp_isM (c := 29) (by omega) hB4.2.2.2.2.1 hat4 him3 (by decide) (by decide) ⟨fun z => go (Or.inl (is1 z)), fun z => sp_isM (c := 30) (by omega) hB4.2.2.2.2.1 hat4 him3 (by decide) (by decide) ⟨fun z2 => go (Or.inr (is1 z2)), fun z2 => ?_⟩⟩
    have n1 := is0 z
    have n2 := is0 z2
    rw [hat4]
    refine sp_placeM hB4.2.2.2.2.1 him3 (sp_fail (f := 1) (her (1, i1 + 1 + 1) ?_ _ (hB4.th (e := (1, i1 + 1 + 1))) (thW_er T L w4 (1, i1 + 1 + 1))))
    rw [if_neg n2]; unfold ex; rw [if_neg n1]; rfl
end ModelTold2
