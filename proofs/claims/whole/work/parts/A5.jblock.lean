/-! ===== the model judges statements ===== -/
section ModelJudge7
variable {g : Mg} {d D : Nat} {K : Ou → Wd → Prop} {w w' : Wd} {T : Nat → Int} {L m : Nat} {E1 E2 : List En} {b : Bool} {x2 : Int}
theorem ARx.fk {kd : Nat → Nat} {a : Tr} {lo s s' l hi n : Nat} (h : ARx kd w a lo) (hf : FMk w w' s s' l hi n) : ARx kd w' a lo := ⟨AR.congr a lo h.1 (fun x _ _ o p q _ => by rw [hf.1 o (by simp; omega)]), by rw [hf.1 28 (by decide)]; exact h.2⟩
theorem jx_part {l : Tr} {lo k : Nat} {y : Int} {Kc : Wd → Prop} (hd : nX l + 8 ≤ d) (hN : ∀ e ∈ E1 ++ E2, e.2.1 ≤ 4 ∧ e.2.2.2 ≤ 2) (hW : WE l) (hX : XO (kdT T L) (m + 1) l) (hlo : lo + nX l ≤ 2000) (hy : 0 ≤ y ∧ y ≤ 2) (hM : TxM T L m w) (hE : EnM m w E1 E2) (hA : ARx (kdT T L) w l lo) (hK : KyM w k) (h : ∀ w', FMj w w' lo (lo + nX l) → KyM w' (min k (min (jkT T L (E1 ++ E2) b l) (dm T L (knT T L (E1 ++ E2) b l) y (fst_ l)))) → JR T L (E1 ++ E2) b w' l lo → Kc w') : Cal g LM jMd_judge d [vA 0, vI ((lo + nX l - 1 : Nat) : Int), vI (bI b)] w (fun o w14 => rIt o (fun b => K (.inr b) w14) (fun x15 => Cal g LM jMd_mustBe d [vA 0, vI ((lo + nX l - 1 : Nat) : Int), vI x15, vI (kI y)] w14 (fun o w16 => rVt o (fun b => K (.inr b) w16) (Kc w16)))) := by
  have h1 := nX_pos l hW
  have h2 := fst_tk l hW hX.2
  exact jd_part (by omega) hN (sp_judge hN (szT l) l lo d (Nat.le_refl _) hW hX.1 hX.2 hd hlo) hy rfl (by omega) (by omega) hM hE hA.1 hA.2 hK h
theorem fnd_let {t : Nat} {e : En} (hS : ∀ e ∈ E1, e.2.1 ≤ 3) (hE : EnM m w E1 E2) (h : fnd T L (E1 ++ E2) t = some e) (h4 : e.2.1 = 4) : e.2.2.1 < E2.length ∧ E2.length ≤ 100 := by
  obtain ⟨-, -, -, -, a8, a9⟩ := hE
  rcases List.mem_append.mp (fnd_mem _ h) with z | z
  · have := hS e z; omega
  · obtain ⟨k, hk⟩ := List.mem_iff_getElem?.mp z
    have h1 := (a9 k e hk).2.1
    have h2 := (List.getElem?_eq_some_iff.mp hk).1
    omega
abbrev JK (g : Mg) (d : Nat) (K : Ou → Wd → Prop) (x2 : Int) (s : Nat) (w : Wd) : Prop := V g LM jMd_judgeBlock (d + 1) K 374 [(0, vA 0), (2, vI x2), (3, vI (s : Int))] [] w
theorem so_14 {e : En} : (eSo (some e) = 1 ∨ eSo (some e) = 4) ↔ (e.2.1 = 1 ∨ e.2.1 = 4) := by
  show ((e.2.1 : Int) = 1 ∨ (e.2.1 : Int) = 4) ↔ _
  omega
theorem jt_set {t q s lo k : Nat} {l r : Tr} (hd : nX l + 8 ≤ d) (hN : ∀ e ∈ E1 ++ E2, e.2.1 ≤ 4 ∧ e.2.2.2 ≤ 2) (hS : ∀ e ∈ E1, e.2.1 ≤ 3) (hW : WE l) (hX : XO (kdT T L) (m + 1) l) (ht : t ≤ m) (hs : s < 130) (hlo : lo + nX l ≤ 2000) (hM : TxM T L m w) (hE : EnM m w E1 E2) (hR : SR (kdT T L) w (nd 11 t q l r) s lo) (hK : KyM w k) (h : ∀ w', FMk w w' s (s + 1) lo (lo + nX l) E2.length → KyM w' (min k (jS T L (nd 11 t q l r) (E1 ++ E2))) → JS T L w' (nd 11 t q l r) (E1 ++ E2) s lo → EnM m w' E1 E2 → JK g d K x2 s w') : V g LM jMd_judgeBlock (d + 1) K 7 [(0, vA 0), (2, vI x2), (3, vI (s : Int))] [] w := by
  rw [SR11 (by decide)] at hR
  obtain ⟨k17, -, k19, k20, kA, -⟩ := hR
  have k17 : w 17 s = 0 := k17
  have hb : (0 : Int) ≤ (s : Int) ∧ (s : Int) < 130 := by omega
  have hj : jS T L (nd 11 t q l r) (E1 ++ E2) = min (min (if eSo (fnd T L (E1 ++ E2) t) = 1 ∨ eSo (fnd T L (E1 ++ E2) t) = 4 then 100000 else tAt T L t * 8 + 4) (jkT T L (E1 ++ E2) false l)) (dm T L (knT T L (E1 ++ E2) false l) (if eSo (fnd T L (E1 ++ E2) t) = 1 ∨ eSo (fnd T L (E1 ++ E2) t) = 4 then eKi (fnd T L (E1 ++ E2) t) else 0) (fst_ l)) := rfl
  have tail : ∀ (w1 : Wd) (k1 : Nat) (want : Int), FMk w w1 s (s + 1) lo (lo + nX l) E2.length → EnM m w1 E1 E2 → KyM w1 k1 → (0 ≤ want ∧ want ≤ 2) → min k1 (min (jkT T L (E1 ++ E2) false l) (dm T L (knT T L (E1 ++ E2) false l) want (fst_ l))) = min k (jS T L (nd 11 t q l r) (E1 ++ E2)) → (∀ e, fnd T L (E1 ++ E2) t = some e → (e.2.1 = 1 → w1 24 s = (e.2.2.1 : Int)) ∧ (e.2.1 = 4 → w1 24 s = ((100 + e.2.2.1 : Nat) : Int))) → V g LM jMd_judgeBlock (d + 1) K 144 [(0, vA 0), (2, vI x2), (3, vI (s : Int)), (5, vI ((lo + nX l - 1 : Nat) : Int)), (6, vI (kI want))] [] w1 := by
    intro w1 k1 want hF1 hE1 hK1 hy hmin hsl
    refine s_Md_judgeBlock_144 (jx_part (b := false) hd hN hW hX hlo hy (hM.fk hF1) hE1 (kA.fk hF1) hK1 (fun w2 hF2 hK2 hJ2 => h w2 (hF1.tr (FMk.j hF2)) (by rw [← hmin]; exact hK2) ?_ (hE1.fj hF2)))
    rw [JS11, hF2.1 24 (by decide)]
    exact ⟨hJ2, hsl⟩
  have bad : ∀ w1, Fnd w w1 (fnd T L (E1 ++ E2) t) → ¬ (eSo (fnd T L (E1 ++ E2) t) = 1 ∨ eSo (fnd T L (E1 ++ E2) t) = 4) → V g LM jMd_judgeBlock (d + 1) K 100 [(0, vA 0), (2, vI x2), (3, vI (s : Int)), (4, vI (t : Int)), (5, vI ((lo + nX l - 1 : Nat) : Int)), (6, vI 2)] [] w1 := by
    intro w1 hF1 hno
    have f1 : FMk w w1 s (s + 1) lo (lo + nX l) E2.length := FMk.j (FMj.fn hF1)
    have e1 : EnM m w1 E1 E2 := hE.fj (lo := 0) (hi := 0) (FMj.fn hF1)
    refine s_Md_judgeBlock_100 (sp_blameM (f := 4) (by omega) (hM.fk f1) ht (by decide) (hK.fn hF1) (fun w3 p r u => ?_))
    have hB : Blm w1 w3 := ⟨p, r⟩
    refine tail w3 _ 0 (f1.tr (FMk.j (FMj.bl hB))) (e1.fj (lo := 0) (hi := 0) (FMj.bl hB)) u (by decide) ?_ (fun e he => ?_)
    · rw [hj, if_neg hno, if_neg hno]; omega
    · rw [he, so_14] at hno
      exact ⟨fun z => absurd (Or.inl z) hno, fun z => absurd (Or.inr z) hno⟩
  have good : ∀ w1 e, Fnd w w1 (fnd T L (E1 ++ E2) t) → fnd T L (E1 ++ E2) t = some e → (e.2.1 = 1 ∨ e.2.1 = 4) → V g LM jMd_judgeBlock (d + 1) K 110 [(0, vA 0), (2, vI x2), (3, vI (s : Int)), (5, vI ((lo + nX l - 1 : Nat) : Int))] [] w1 := by
    intro w1 e hF1 he h14
    have f1 : FMk w w1 s (s + 1) lo (lo + nX l) E2.length := FMk.j (FMj.fn hF1)
    have e1 : EnM m w1 E1 E2 := hE.fj (lo := 0) (hi := 0) (FMj.fn hF1)
    obtain ⟨f51, f52, f53⟩ := hF1.2.2 e he
    have hyes : eSo (fnd T L (E1 ++ E2) t) = 1 ∨ eSo (fnd T L (E1 ++ E2) t) = 4 := by rw [he, so_14]; exact h14
    have hse := hN e (fnd_mem _ he)
    have go : ∀ v : Int, (e.2.1 = 1 → v = (e.2.2.1 : Int)) → (e.2.1 = 4 → v = ((100 + e.2.2.1 : Nat) : Int)) → V g LM jMd_judgeBlock (d + 1) K 143 [(0, vA 0), (2, vI x2), (3, vI (s : Int)), (5, vI ((lo + nX l - 1 : Nat) : Int)), (6, vI (w1 0 53))] [vI v, vI (s : Int), vA 24] w1 := by
      intro v hv1 hv4
      refine s_Md_judgeBlock_143 ⟨hb, ?_⟩
      rw [toN, f53, kM_I]
      have f17 : w1 17 s ≠ 4 := by rw [hF1.1 17 (by decide), k17]; decide
      refine tail _ k (e.2.2.2 : Int) (f1.tr (FMk.u24 ⟨Nat.le_refl _, Nat.lt_succ_self _⟩ f17)) e1.u24 (hK.fn hF1).u24 (by omega) ?_ (fun e' he' => ?_)
      · rw [hj, if_pos hyes, if_pos hyes, he]
        have : eKi (some e) = (e.2.2.2 : Int) := rfl
        rw [this]
        have hk := hK.big
        omega
      · rw [he] at he'
        cases he'
        rw [up_s]
        exact ⟨hv1, hv4⟩
    refine s_Md_judgeBlock_110 ⟨fun z => go _ (fun q => absurd (by rw [f51, q]; rfl) z) (fun q => ?_), fun z => go _ (fun _ => f52) (fun q => absurd z (by rw [f51, q]; decide))⟩
    obtain ⟨l1, l2⟩ := fnd_let hS hE he q
    rw [f52, wr_id (by unfold inI; omega)]
    omega
  refine s_Md_judgeBlock_7 ⟨fun z => absurd z (by omega), fun _ => ⟨hb, hb, hb, ?_⟩⟩
  rw [toN, k17, k19, k20]
  refine ⟨fun z => absurd z (by decide), fun _ => ?_, fun z => absurd z (by decide), fun z => absurd z (by decide), fun z => absurd z (by decide), fun z => absurd z (by decide), fun z => absurd z (by decide)⟩
  refine sp_findM (by omega) hM hE ht (fun w1 hF1 => ⟨fun z => bad w1 hF1 ?_, fun z => ?_⟩)
  · rw [nn_none z]; decide
  · obtain ⟨e, he⟩ := nn_some z
    obtain ⟨f51, -⟩ := hF1.2.2 e he
    rw [f51]
    refine ⟨fun z1 => good w1 e hF1 he (Or.inl (by omega)), fun z1 => ⟨fun z4 => good w1 e hF1 he (Or.inr (by omega)), fun z4 => bad w1 hF1 ?_⟩⟩
    rw [he, so_14]
    omega
theorem jt_let {t q s lo k : Nat} {l r : Tr} (hd : nX l + 8 ≤ d) (hN : ∀ e ∈ E1 ++ E2, e.2.1 ≤ 4 ∧ e.2.2.2 ≤ 2) (hC : cntE 4 (E1 ++ E2) = E2.length) (h8 : E2.length < 8) (hW : WE l) (hX : XO (kdT T L) (m + 1) l) (ht : t ≤ m) (hs : s < 130) (hlo : lo + nX l ≤ 2000) (hM : TxM T L m w) (hE : EnM m w E1 E2) (hR : SR (kdT T L) w (nd 12 t q l r) s lo) (hK : KyM w k) (h : ∀ w', FMk w w' s (s + 1) lo (lo + nX l) E2.length → KyM w' (min k (jS T L (nd 12 t q l r) (E1 ++ E2))) → JS T L w' (nd 12 t q l r) (E1 ++ E2) s lo → EnM m w' E1 (E2 ++ [(t, 4, cntE 4 (E1 ++ E2), (knT T L (E1 ++ E2) false l).toNat)]) → JK g d K x2 s w') : V g LM jMd_judgeBlock (d + 1) K 7 [(0, vA 0), (2, vI x2), (3, vI (s : Int))] [] w := by
  rw [SR11 (by decide)] at hR
  obtain ⟨k17, -, k19, k20, kA, -⟩ := hR
  have k17 : w 17 s = 1 := k17
  have hb : (0 : Int) ≤ (s : Int) ∧ (s : Int) < 130 := by omega
  have hj : jS T L (nd 12 t q l r) (E1 ++ E2) = min (if fnd T L (E1 ++ E2) t = none then 100000 else tAt T L t * 8 + 3) (jkT T L (E1 ++ E2) false l) := rfl
  have hkn := kn_rng (T := T) (L := L) (b := false) (fun e he => (hN e he).2) l
  have tail : ∀ (w1 : Wd) (k1 : Nat), FMk w w1 s (s + 1) lo (lo + nX l) E2.length → EnM m w1 E1 E2 → KyM w1 k1 → k1 = min k (jS T L (nd 12 t q l r) (E1 ++ E2)) → JR T L (E1 ++ E2) false w1 l lo → V g LM jMd_judgeBlock (d + 1) K 187 [(0, vA 0), (2, vI x2), (3, vI (s : Int)), (4, vI (t : Int)), (7, vI (kI (knT T L (E1 ++ E2) false l)))] [] w1 := by
    intro w1 k1 hF1 hE1 hK1 hmin hJ1
    obtain ⟨a1, a2, ⟨nn, a3, a4, a5, a6⟩, a7, a8, a9⟩ := id hE1
    refine s_Md_judgeBlock_187 ?_
    rw [a7, toN, toN, wr_n1 (by omega)]
    refine ⟨by omega, by omega, hb, ?_⟩
    have f17 : w1 17 s ≠ 4 := by rw [hF1.1 17 (by decide), k17]; decide
    have hFu : FMk w1 (up (up (up (up w1 34 E2.length (t : Int)) 35 E2.length (kI (knT T L (E1 ++ E2) false l))) 24 s (E2.length : Int)) 0 50 ((E2.length + 1 : Nat) : Int)) s (s + 1) lo (lo + nX l) E2.length := by
      refine ⟨((((Fx.rf _ w1).up (by decide)).up (by decide)).up (by decide)).up (by decide), fun x _ _ p3 _ _ _ => by rw [up_k p3, up_o (by decide), up_o (by decide), up_o (by decide)], fun x hx => ?_, fun x _ => ⟨by rw [up_o (by decide), up_o (by decide), up_o (by decide), up_o (by decide)], by rw [up_o (by decide), up_o (by decide), up_o (by decide), up_o (by decide)]⟩, fun x hx => ⟨by rw [up_o (by decide), up_o (by decide), up_o (by decide), up_k (by omega)], by rw [up_o (by decide), up_o (by decide), up_k (by omega), up_o (by decide)]⟩⟩
      rw [up_o (by decide), up_k ?_, up_o (by decide), up_o (by decide)]
      rintro rfl
      rcases hx with z | z | z
      · omega
      · omega
      · exact f17 z
    refine h _ (hF1.tr hFu) ?_ ?_ ?_
    · rw [← hmin]
      exact hK1.same (by rw [up_k (by decide), up_o (by decide), up_o (by decide), up_o (by decide)]) (by rw [up_k (by decide), up_o (by decide), up_o (by decide), up_o (by decide)])
    · rw [JS12, up_o (show (24 : Nat) ≠ 0 by decide), up_s, hC]
      refine ⟨JR.congr l lo hJ1 (fun x _ _ => ⟨by rw [up_o (by decide), up_o (by decide), up_o (by decide), up_o (by decide)], by rw [up_o (by decide), up_o (by decide), up_o (by decide), up_o (by decide)]⟩), rfl⟩
    · refine ⟨a1, ?_, ⟨nn, by rw [up_k (by decide), up_o (by decide), up_o (by decide), up_o (by decide)]; exact a3, a4, a5, by rw [up_o (by decide), up_o (by decide), up_o (by decide), up_o (by decide)]; exact a6⟩, by rw [up_s, List.length_append]; rfl, by rw [List.length_append]; show E2.length + 1 ≤ 100; omega, fun kk e he => ?_⟩
      · rw [hFu.1 36 (by decide), hFu.1 10 (by decide), hFu.1 11 (by decide), hFu.1 12 (by decide)]
        exact a2
      · by_cases hk : kk < E2.length
        · rw [List.getElem?_append_left hk] at he
          obtain ⟨b1, b2, b3, b4, b5⟩ := a9 kk e he
          obtain ⟨c1, c2⟩ := hFu.2.2.2.2 kk hk
          exact ⟨b1, b2, by rw [c1]; exact b3, by rw [c2]; exact b4, b5⟩
        · have hkk : kk = E2.length := by
            have := (List.getElem?_eq_some_iff.mp he).1
            rw [List.length_append] at this
            simp at this
            omega
          subst hkk
          rw [List.getElem?_append_right (Nat.le_refl _), Nat.sub_self] at he
          have he' : (t, 4, cntE 4 (E1 ++ E2), (knT T L (E1 ++ E2) false l).toNat) = e := Option.some.inj he
          subst he'
          refine ⟨rfl, hC, ?_, ?_, ht⟩
          · rw [up_o (by decide), up_o (by decide), up_o (by decide), up_s]
          · rw [up_o (by decide), up_o (by decide), up_s, kM_I]
            show kI _ = kI (((knT T L (E1 ++ E2) false l).toNat : Nat) : Int)
            rw [Int.toNat_of_nonneg hkn.1]
  refine s_Md_judgeBlock_7 ⟨fun z => absurd z (by omega), fun _ => ⟨hb, hb, hb, ?_⟩⟩
  rw [toN, k17, k19, k20]
  refine ⟨fun z => absurd z (by decide), fun z => absurd z (by decide), fun _ => ?_, fun z => absurd z (by decide), fun z => absurd z (by decide), fun z => absurd z (by decide), fun z => absurd z (by decide)⟩
  refine sp_judge (b := false) hN (szT l) l lo d (Nat.le_refl _) hW hX.1 hX.2 hd hlo _ w k hM hE kA.1 hK (fun w1 hF1 hK1 hJ1 => ?_)
  refine sp_findM (by omega) (hM.fj hF1) (hE.fj hF1) ht (fun w3 hF3 => ⟨fun z => ?_, fun z => ?_⟩)
  · refine tail w3 _ ((FMk.j hF1).tr (FMk.j (FMj.fn hF3))) ((hE.fj hF1).fj (lo := 0) (hi := 0) (FMj.fn hF3)) (hK1.fn hF3) ?_ (JR.congr l lo hJ1 (fun x _ _ => ⟨by rw [hF3.1 32 (by decide)], by rw [hF3.1 33 (by decide)]⟩))
    rw [hj, if_pos (nn_none z)]
    have := hK.big
    omega
  · obtain ⟨e, he⟩ := nn_some z
    refine sp_blameM (f := 3) (by omega) ((hM.fj hF1).fj (lo := 0) (hi := 0) (FMj.fn hF3)) ht (by decide) (hK1.fn hF3) (fun w4 p r u => ?_)
    have hB : Blm w3 w4 := ⟨p, r⟩
    refine tail w4 _ (((FMk.j hF1).tr (FMk.j (FMj.fn hF3))).tr (FMk.j (FMj.bl hB))) (((hE.fj hF1).fj (lo := 0) (hi := 0) (FMj.fn hF3)).fj (lo := 0) (hi := 0) (FMj.bl hB)) u ?_ (hB.jr (JR.congr l lo hJ1 (fun x _ _ => ⟨by rw [hF3.1 32 (by decide)], by rw [hF3.1 33 (by decide)]⟩)))
    rw [hj, he, if_neg (fun z => by cases z)]
    omega
end ModelJudge7
