/-! ===== run() in both ===== -/
theorem rsN_cg {H H' : Nat → Int} : ∀ n, (∀ i, i < n → (H' i = 0 ↔ H i = 0)) → rsN H' n = rsN H n
  | 0, _ => rfl
  | n + 1, h => by
    rw [rsN, rsN, rsN_cg n (fun i hi => h i (by omega))]
    by_cases z : H n = 0
    · rw [if_pos z, if_pos ((h n (by omega)).mpr z)]
    · rw [if_neg z, if_neg (fun y => z ((h n (by omega)).mp y))]
section Run2
variable {T : Nat → Int} {L m j : Nat} {D : DE} {a0 a1 : Tr} {s1 l1 n na k kq : Nat} {wc wc' wm wm' : Wd}
theorem mr_ms {E : List En} {q : Nat} (hn : n ≤ 40) (h : MR D E n q wc (svF wm)) : wc q 1 = smI (wm 43) (4 * n) := by
  rw [h.2.2.2.2.2.2.1]
  exact smI_cg _ (fun i hi => svF_2 (by omega))
theorem mr_rs {E : List En} {q : Nat} (hn : n ≤ 40) (h : MR D E n q wc (svF wm)) : rsN (wc (q + 2)) n = rsN (wm 42) n := by
  refine rsN_cg n (fun i hi => ?_)
  have := (h.2.1 i hi).1
  rw [svF_1 (by omega)] at this
  rw [this]
  by_cases z : wm 42 i = 0
  · rw [if_pos z]; exact ⟨fun _ => z, fun _ => rfl⟩
  · rw [if_neg z]; exact ⟨fun y => absurd y (by decide), fun y => absurd y z⟩
theorem mr_ct {E : List En} {q : Nat} (h : MR D E n q wc (svF wm)) : ∀ i, i < 160 → 0 ≤ wm 43 i ∧ wm 43 i ≤ 1000000 := by
  intro i hi
  have := (h.2.2.1 i hi).2
  rw [svF_2 hi] at this
  omega
abbrev edC (wc : Wd) (n k : Nat) : Int := if wc (moB k 0) 1 = 0 ∧ rsN (wc (moB k 0 + 2)) n = n then 1 else 0
theorem ended_M {gm : Mg} {dM : Nat} {Kx : Ou → Wd → Prop} (hd : 1 ≤ dM) (hG : GrR wc wm n na) (hR : RuR D n k kq wc wm) (h : Kx (.inl (some (vI (edC wc n k)))) wm) : Cal gm LM jMd_hasEnded dM [vA 0] wm Kx := by
  obtain ⟨⟨-, -, -, g4, -⟩, q2, -⟩ := hG
  obtain ⟨r1, r2, r3, r4, r5, r6, r7, r8, r9, r10, -⟩ := hR
  refine sp_hasEndedM hd g4 q2 (mr_ct r10) ?_
  unfold edC at h
  rw [mr_ms g4 r10, mr_rs g4 r10] at h
  exact h
theorem ended_C {g : Mg} {dC : Nat} {K : Ou → Wd → Prop} (hd : 1 ≤ dC) (hG : GrK wc n na) (hk : k < 8) (h4 : wc 43 4 = (k : Int)) (h : K (.inl (some (vI (edC wc n k)))) wc) : Cal g LC jMa_hasEnded dC [vA 43] wc K := by
  refine sp_hasEndedC hd hk h4 hG.2.2.2.1 hG.1 ?_
  unfold edC at h
  rw [moB_0 hk] at h
  exact h
theorem run_loop {g : Mg} {dC N : Nat} {K : Ou → Wd → Prop} (hd : 9 ≤ dC) (hN : N ≤ 100) : ∀ (f done k : Nat) (wc : Wd), done + f = N → PgK T L j D a0 a1 wc → GrK wc n na → k < 8 → wc 43 4 = (k : Int) → (∀ wc' x, FrC wc wc' → (∀ (gm : Mg) (wm : Wd) (m s1 l1 kq dM : Nat) (Kx : Ou → Wd → Prop), 1045 ≤ dM → PgN T L m D a0 a1 s1 l1 wm → GrR wc wm n na → RuR D n k kq wc wm → (∀ wm' k' kq', FrM wm wm' → RuR D n k' kq' wc' wm' → Kx (.inl (some (vI x))) wm') → V gm LM jMd_run (dM + 1) Kx 28 [(0, vA 0), (1, vI (N : Int)), (2, vI (done : Int))] [] wm) → K (.inl (some (vI x))) wc') → V g LC jVL_run (dC + 1) K 25 [(0, vA 0), (1, vI (N : Int)), (2, vI (done : Int))] [] wc := by
  intro f
  induction f with
  | zero =>
    intro done k wc hf hK hG hk h4 h
    have : done = N := by omega
    subst this
    refine s_VL_run_25 ⟨fun _ => h wc _ (FrC.rf wc) (fun gm wm m s1 l1 kq dM Kx hdM hPN hGr hR hKx => s_Md_run_28 ⟨fun _ => hKx wm k kq (FrM.rf wm) hR, fun z => absurd (Int.le_refl _) z⟩), fun z => absurd (Int.le_refl _) z⟩
  | succ f ih =>
    intro done k wc hf hK hG hk h4 h
    have hlt : ¬ (N : Int) ≤ (done : Int) := by omega
    refine s_VL_run_25 ⟨fun z => absurd z hlt, fun _ => ended_C (by omega) hG hk h4 ⟨fun z => ?_, fun z => ?_⟩⟩
    · refine h wc _ (FrC.rf wc) (fun gm wm m s1 l1 kq dM Kx hdM hPN hGr hR hKx => s_Md_run_28 ⟨fun y => absurd y hlt, fun _ => ended_M (by omega) hGr hR ⟨fun _ => hKx wm k kq (FrM.rf wm) hR, fun y => absurd y z⟩⟩)
    · refine turn_C hd hK hG hk h4 (fun wc1 fr h41 hst => ⟨fun _ => ?_, fun y => absurd y (by decide)⟩) (fun wc1 fr hst => ⟨fun y => absurd rfl y, fun _ => ?_⟩)
      · rw [wr_n1 (by omega)]
        refine ih (done + 1) ((k + 1) % 8) wc1 (by omega) (hK.fr (fun o p => fr.1 o (by omega))) (hG.fr (fun o p q => fr.1 o q)) (Nat.mod_lt _ (by decide)) h41 (fun wc' x fr2 hmod => h wc' x (fr.tr fr2) (fun gm wm m s1 l1 kq dM Kx hdM hPN hGr hR hKx => s_Md_run_28 ⟨fun y => absurd y hlt, fun _ => ended_M (by omega) hGr hR ⟨fun y => absurd z y, fun _ => hst gm wm m s1 l1 kq dM _ hdM hPN hGr hR (fun wm1 kq1 fm1 hR1 => ⟨fun _ => ?_, fun y => absurd y (by decide)⟩)⟩⟩))
        rw [wr_n1 (by omega)]
        exact hmod gm wm1 m s1 l1 kq1 dM Kx hdM (hPN.f fm1) (hGr.f fr fm1) hR1 (fun wm' k' kq' fm' hR' => hKx wm' k' kq' (fm1.tr fm') hR')
      · refine h wc1 (-4) fr (fun gm wm m s1 l1 kq dM Kx hdM hPN hGr hR hKx => s_Md_run_28 ⟨fun y => absurd y hlt, fun _ => ended_M (by omega) hGr hR ⟨fun y => absurd z y, fun _ => hst gm wm m s1 l1 kq dM _ hdM hPN hGr hR (fun wm1 fm1 hR1 => ⟨fun y => absurd rfl y, fun _ => hKx wm1 k kq fm1 hR1⟩)⟩⟩)
end Run2
