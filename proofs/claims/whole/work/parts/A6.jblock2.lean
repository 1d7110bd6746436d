/-! ===== the model judges statements, 2 ===== -/
section ModelJudge8
variable {g : Mg} {d D : Nat} {K : Ou → Wd → Prop} {w w' : Wd} {T : Nat → Int} {L m : Nat} {E1 E2 : List En} {b : Bool} {x2 : Int}
theorem so_eq {e : En} {so : Nat} : eSo (some e) = (so : Int) ↔ e.2.1 = so := by
  show (e.2.1 : Int) = (so : Int) ↔ _
  omega
theorem ki_none {t : Nat} {so : Int} {E : List En} (h : ¬ eSo (fnd T L E t) = so) : eKi (nmE T L E so t) = 0 := by
  unfold nmE
  rw [if_neg h]; rfl
/-- send (13), give (14) -/
theorem jt_sg {c so t q s lo k : Nat} {l r : Tr} (hc : (c = 13 ∧ so = 2 ∧ b = true) ∨ (c = 14 ∧ so = 3 ∧ b = false)) (hd : nX l + 8 ≤ d) (hN : ∀ e ∈ E1 ++ E2, e.2.1 ≤ 4 ∧ e.2.2.2 ≤ 2) (hW : WE l) (hX : XO (kdT T L) (m + 1) l) (ht : t ≤ m) (hs : s < 130) (hlo : lo + nX l ≤ 2000) (hM : TxM T L m w) (hE : EnM m w E1 E2) (hR : SR (kdT T L) w (nd c t q l r) s lo) (hK : KyM w k) (h : ∀ w', FMk w w' s (s + 1) lo (lo + nX l) E2.length → KyM w' (min k (jS T L (nd c t q l r) (E1 ++ E2))) → JS T L w' (nd c t q l r) (E1 ++ E2) s lo → EnM m w' E1 E2 → JK g d K x2 s w') : V g LM jMd_judgeBlock (d + 1) K 7 [(0, vA 0), (2, vI x2), (3, vI (s : Int))] [] w := by
  rw [SR11 (by omega)] at hR
  obtain ⟨k17, -, k19, k20, kA, -⟩ := hR
  have k17 : w 17 s = (so : Int) := by
    rcases hc with ⟨rfl, rfl, -⟩ | ⟨rfl, rfl, -⟩
    · exact k17
    · exact k17
  have hb : (0 : Int) ≤ (s : Int) ∧ (s : Int) < 130 := by omega
  have hso : so = 2 ∨ so = 3 := by omega
  have hj : jS T L (nd c t q l r) (E1 ++ E2) = min (min (if eSo (fnd T L (E1 ++ E2) t) = (so : Int) then 100000 else tAt T L t * 8 + 4) (jkT T L (E1 ++ E2) b l)) (dm T L (knT T L (E1 ++ E2) b l) (eKi (nmE T L (E1 ++ E2) (so : Int) t)) (fst_ l)) := by
    rcases hc with ⟨rfl, rfl, rfl⟩ | ⟨rfl, rfl, rfl⟩
    · rfl
    · rfl
  have hJS : ∀ w', JR T L (E1 ++ E2) b w' l lo → (∀ e, fnd T L (E1 ++ E2) t = some e → e.2.1 = so → w' 24 s = (e.2.2.1 : Int)) → JS T L w' (nd c t q l r) (E1 ++ E2) s lo := by
    intro w' h1 h2
    rcases hc with ⟨rfl, rfl, rfl⟩ | ⟨rfl, rfl, rfl⟩
    · rw [JS13]; exact ⟨h1, h2⟩
    · rw [JS14]; exact ⟨h1, h2⟩
  have tail : ∀ (w1 : Wd) (k1 : Nat) (want : Int), FMk w w1 s (s + 1) lo (lo + nX l) E2.length → EnM m w1 E1 E2 → KyM w1 k1 → (0 ≤ want ∧ want ≤ 2) → min k1 (min (jkT T L (E1 ++ E2) b l) (dm T L (knT T L (E1 ++ E2) b l) want (fst_ l))) = min k (jS T L (nd c t q l r) (E1 ++ E2)) → (∀ e, fnd T L (E1 ++ E2) t = some e → e.2.1 = so → w1 24 s = (e.2.2.1 : Int)) → V g LM jMd_judgeBlock (d + 1) K 296 [(0, vA 0), (2, vI x2), (3, vI (s : Int)), (5, vI ((lo + nX l - 1 : Nat) : Int)), (8, vI (so : Int)), (9, vI (kI want))] [] w1 := by
    intro w1 k1 want hF1 hE1 hK1 hy hmin hsl
    have go : Cal g LM jMd_judge d [vA 0, vI ((lo + nX l - 1 : Nat) : Int), vI (bI b)] w1 (fun o w14 => rIt o (fun b => K (.inr b) w14) (fun x15 => Cal g LM jMd_mustBe d [vA 0, vI ((lo + nX l - 1 : Nat) : Int), vI x15, vI (kI want)] w14 (fun o w16 => rVt o (fun b => K (.inr b) w16) (JK g d K x2 s w16)))) := by
      refine jx_part (b := b) hd hN hW hX hlo hy (hM.fk hF1) hE1 (kA.fk hF1) hK1 (fun w2 hF2 hK2 hJ2 => h w2 (hF1.tr (FMk.j hF2)) (by rw [← hmin]; exact hK2) (hJS w2 hJ2 ?_) (hE1.fj hF2))
      rw [hF2.1 24 (by decide)]
      exact hsl
    rcases hc with ⟨rfl, rfl, rfl⟩ | ⟨rfl, rfl, rfl⟩
    · exact s_Md_judgeBlock_296 ⟨fun z => absurd rfl z, fun _ => s_Md_judgeBlock_313 go⟩
    · exact s_Md_judgeBlock_296 ⟨fun _ => s_Md_judgeBlock_313 go, fun z => absurd z (by decide)⟩
  have bad : ∀ w1, Fnd w w1 (fnd T L (E1 ++ E2) t) → ¬ eSo (fnd T L (E1 ++ E2) t) = (so : Int) → V g LM jMd_judgeBlock (d + 1) K 270 [(0, vA 0), (2, vI x2), (3, vI (s : Int)), (4, vI (t : Int)), (5, vI ((lo + nX l - 1 : Nat) : Int)), (8, vI (so : Int)), (9, vI 2)] [] w1 := by
    intro w1 hF1 hno
    have f1 : FMk w w1 s (s + 1) lo (lo + nX l) E2.length := FMk.j (FMj.fn hF1)
    have e1 : EnM m w1 E1 E2 := hE.fj (lo := 0) (hi := 0) (FMj.fn hF1)
    refine s_Md_judgeBlock_270 (sp_blameM (f := 4) (by omega) (hM.fk f1) ht (by decide) (hK.fn hF1) (fun w3 p r u => ?_))
    have hB : Blm w1 w3 := ⟨p, r⟩
    refine tail w3 _ 0 (f1.tr (FMk.j (FMj.bl hB))) (e1.fj (lo := 0) (hi := 0) (FMj.bl hB)) u (by decide) ?_ (fun e he z => ?_)
    · rw [hj, if_neg hno, ki_none hno]; omega
    · rw [he, so_eq] at hno
      exact absurd z hno
  have main : V g LM jMd_judgeBlock (d + 1) K 247 [(0, vA 0), (2, vI x2), (3, vI (s : Int)), (4, vI (t : Int)), (5, vI ((lo + nX l - 1 : Nat) : Int))] [vI (so : Int)] w := by
    refine s_Md_judgeBlock_247 (sp_findM (by omega) hM hE ht (fun w1 hF1 => ⟨fun z => bad w1 hF1 ?_, fun z => ?_⟩))
    · rw [nn_none z]
      show ¬ (-1 : Int) = (so : Int)
      omega
    · obtain ⟨e, he⟩ := nn_some z
      obtain ⟨f51, f52, f53⟩ := hF1.2.2 e he
      refine ⟨fun z1 => ⟨hb, ?_⟩, fun z1 => bad w1 hF1 ?_⟩
      · rw [f51] at z1
        have hes : e.2.1 = so := by omega
        have hyes : eSo (fnd T L (E1 ++ E2) t) = (so : Int) := by rw [he]; exact z1
        have hse := hN e (fnd_mem _ he)
        have f1 : FMk w w1 s (s + 1) lo (lo + nX l) E2.length := FMk.j (FMj.fn hF1)
        have e1 : EnM m w1 E1 E2 := hE.fj (lo := 0) (hi := 0) (FMj.fn hF1)
        have f17 : w1 17 s ≠ 4 := by rw [hF1.1 17 (by decide), k17]; omega
        rw [toN, f52, f53, kM_I]
        refine tail _ k (e.2.2.2 : Int) (f1.tr (FMk.u24 ⟨Nat.le_refl _, Nat.lt_succ_self _⟩ f17)) e1.u24 (hK.fn hF1).u24 (by omega) ?_ (fun e' he' _ => ?_)
        · have : eKi (nmE T L (E1 ++ E2) (so : Int) t) = (e.2.2.2 : Int) := by
            unfold nmE
            rw [if_pos hyes, he]; rfl
          rw [hj, if_pos hyes, this]
          have hk := hK.big
          omega
        · rw [he] at he'
          cases he'
          rw [up_s]
      · rw [f51] at z1
        rw [he]
        exact z1
  refine s_Md_judgeBlock_7 ⟨fun z => absurd z (by omega), fun _ => ⟨hb, hb, hb, ?_⟩⟩
  rw [toN, k17, k19, k20]
  rcases hso with rfl | rfl
  · exact ⟨fun z => absurd z (by decide), fun z => absurd z (by decide), fun z => absurd z (by decide), fun _ => ⟨hb, fun z => absurd rfl z, fun _ => main⟩, fun z => absurd z (by decide), fun z => absurd z (by decide), fun z => absurd z (by decide)⟩
  · exact ⟨fun z => absurd z (by decide), fun z => absurd z (by decide), fun z => absurd z (by decide), fun z => absurd z (by decide), fun _ => ⟨hb, fun _ => main, fun z => absurd z (by decide)⟩, fun z => absurd z (by decide), fun z => absurd z (by decide)⟩
/-- a block, or none -/
def SpJB (g : Mg) (D : Nat) (T : Nat → Int) (L m : Nat) (E1 E2 : List En) (a : Tr) (s lo : Nat) : Prop := ∀ (K : Ou → Wd → Prop) (w : Wd) (k : Nat), TxM T L m w → EnM m w E1 E2 → SR (kdT T L) w a s lo → KyM w k → (∀ w', FMk w w' s (s + nT a) lo (lo + nE a) E2.length → KyM w' (min k (jS T L a (E1 ++ E2))) → JS T L w' a (E1 ++ E2) s lo → EnM m w' E1 E2 → K (.inl none) w') → Cal g LM jMd_judgeBlock D [vA 0, vI (bf_ a s)] w K
theorem SR.fk {kd : Nat → Nat} {a : Tr} {s lo s1 s2 l1 l2 n : Nat} (hW : WS a) (h : SR kd w a s lo) (hf : FMk w w' s1 s2 l1 l2 n) : SR kd w' a s lo := SR.cgJ a s lo hW h (fun x _ _ => ⟨fun o p q r => by rw [hf.1 o (by simp; omega)], fun z => hf.2.2.1 x (Or.inr (Or.inr z))⟩) (fun x _ _ o p q => by rw [hf.1 o (by simp; omega)])
theorem JS.fk {a : Tr} {E : List En} {s lo s1 s2 l1 l2 n : Nat} (hW : WS a) (h : JS T L w a E s lo) (hf : FMk w w' s1 s2 l1 l2 n) (h1 : s + nT a ≤ s1 ∨ s2 ≤ s) (h2 : lo + nE a ≤ l1 ∨ l2 ≤ lo) : JS T L w' a E s lo := JS.congr a E s lo hW h (fun x p q => hf.2.2.1 x (by omega)) (fun x p q => hf.2.2.2.1 x (by omega))
theorem JR.fk {a : Tr} {E : List En} {lo s1 s2 l1 l2 n : Nat} (h : JR T L E b w a lo) (hf : FMk w w' s1 s2 l1 l2 n) (h2 : lo + nX a ≤ l1 ∨ l2 ≤ lo) : JR T L E b w' a lo := JR.congr a lo h (fun x p q => hf.2.2.2.1 x (by omega))
theorem JS15 {t q s lo : Nat} {l r : Tr} {E : List En} : JS T L w (nd 15 t q l r) E s lo = (JR T L E false w l lo ∧ JS T L w r E (s + 1) (lo + nX l)) := rfl
theorem JS9 {t q s lo : Nat} {l r : Tr} {E : List En} : JS T L w (nd 9 t q l r) E s lo = (JS T L w l E s lo ∧ JS T L w r E (s + nT l) (lo + nE l)) := rfl
theorem JS16 {t q s lo : Nat} {l r : Tr} {E : List En} : JS T L w (nd 16 t q l r) E s lo = JS T L w l E (s + 1) lo := rfl
theorem JS20 {t q s lo : Nat} {l r : Tr} {E : List En} : JS T L w (nd 20 t q l r) E s lo = (JS T L w l E s lo ∧ JS T L w r (eSt T L E l) (s + nT l) (lo + nE l)) := rfl
theorem JS21 {t q s lo : Nat} {l r : Tr} {E : List En} : JS T L w (nd 21 t q l r) E s lo = JS T L w l E s lo := rfl
theorem jt_if {t q t9 q9 s lo k : Nat} {l b1 b2 : Tr} (hd : nX l + 8 ≤ d) (hN : ∀ e ∈ E1 ++ E2, e.2.1 ≤ 4 ∧ e.2.2.2 ≤ 2) (hW : WE l) (hX : XO (kdT T L) (m + 1) l) (hW1 : WS b1) (hW2 : WS b2) (hb1 : SpJB g d T L m E1 E2 b1 (s + 1) (lo + nX l)) (hb2 : SpJB g d T L m E1 E2 b2 (s + 1 + nT b1) (lo + nX l + nE b1)) (hs : s < 130) (hlo : lo + nX l ≤ 2000) (hM : TxM T L m w) (hE : EnM m w E1 E2) (hR : SR (kdT T L) w (nd 15 t q l (nd 9 t9 q9 b1 b2)) s lo) (hK : KyM w k) (h : ∀ w', FMk w w' s (s + (1 + (nT b1 + nT b2))) lo (lo + (nX l + (nE b1 + nE b2))) E2.length → KyM w' (min k (jS T L (nd 15 t q l (nd 9 t9 q9 b1 b2)) (E1 ++ E2))) → JS T L w' (nd 15 t q l (nd 9 t9 q9 b1 b2)) (E1 ++ E2) s lo → EnM m w' E1 E2 → JK g d K x2 s w') : V g LM jMd_judgeBlock (d + 1) K 7 [(0, vA 0), (2, vI x2), (3, vI (s : Int))] [] w := by
  rw [SR15] at hR
  obtain ⟨k17, -, k20, kA, kr, k21, k22, -⟩ := hR
  rw [SR9] at kr
  obtain ⟨kr1, kr2⟩ := kr
  have k21 : w 21 s = bf_ b1 (s + 1) := k21
  have k22 : w 22 s = bf_ b2 (s + 1 + nT b1) := k22
  have hb : (0 : Int) ≤ (s : Int) ∧ (s : Int) < 130 := by omega
  have hj : jS T L (nd 15 t q l (nd 9 t9 q9 b1 b2)) (E1 ++ E2) = min (min (jkT T L (E1 ++ E2) false l) (dm T L (knT T L (E1 ++ E2) false l) 2 (fst_ l))) (min (jS T L b1 (E1 ++ E2)) (jS T L b2 (E1 ++ E2))) := rfl
  refine s_Md_judgeBlock_7 ⟨fun z => absurd z (by omega), fun _ => ⟨hb, hb, hb, ?_⟩⟩
  rw [toN, k17, k20]
  refine ⟨fun z => absurd z (by decide), fun z => absurd z (by decide), fun z => absurd z (by decide), fun z => absurd z (by decide), fun z => absurd z (by decide), fun _ => ?_, fun z => absurd z (by decide)⟩
  refine jx_part (b := false) (y := 2) hd hN hW hX hlo (by decide) hM hE kA hK (fun w1 hF1 hK1 hJ1 => ⟨hb, ?_⟩)
  have f1 : FMk w w1 s (s + (1 + (nT b1 + nT b2))) lo (lo + nX l) E2.length := FMk.j hF1
  have e1 := hE.fj hF1
  rw [hF1.1 21 (by decide), k21]
  refine hb1 _ w1 _ (hM.fk f1) e1 (kr1.fk hW1 f1) hK1 (fun w3 hF3 hK3 hJ3 hE3 => ⟨hb, ?_⟩)
  rw [hF3.1 22 (by decide), hF1.1 22 (by decide), k22]
  refine hb2 _ w3 _ ((hM.fk f1).fk hF3) hE3 ((kr2.fk hW2 f1).fk hW2 hF3) hK3 (fun w4 hF4 hK4 hJ4 hE4 => ?_)
  refine h w4 (((f1.le (Nat.le_refl _) (Nat.le_refl _) (Nat.le_refl _) (by omega) (Nat.le_refl _)).tr (hF3.le (by omega) (by omega) (by omega) (by omega) (Nat.le_refl _))).tr (hF4.le (by omega) (by omega) (by omega) (by omega) (Nat.le_refl _))) ?_ ?_ hE4
  · have : min k (jS T L (nd 15 t q l (nd 9 t9 q9 b1 b2)) (E1 ++ E2)) = min (min (min k (min (jkT T L (E1 ++ E2) false l) (dm T L (knT T L (E1 ++ E2) false l) 2 (fst_ l)))) (jS T L b1 (E1 ++ E2))) (jS T L b2 (E1 ++ E2)) := by rw [hj]; omega
    rw [this]
    exact hK4
  · rw [JS15, JS9]
    exact ⟨(hJ1.fk hF3 (Or.inl (Nat.le_refl _))).fk hF4 (Or.inl (by omega)), hJ3.fk hW1 hF4 (Or.inl (Nat.le_refl _)) (Or.inl (Nat.le_refl _)), hJ4⟩
theorem jt_loop {t q s lo k : Nat} {l r : Tr} (hb1 : SpJB g d T L m E1 E2 l (s + 1) lo) (hs : s < 130) (hM : TxM T L m w) (hE : EnM m w E1 E2) (hR : SR (kdT T L) w (nd 16 t q l r) s lo) (hK : KyM w k) (h : ∀ w', FMk w w' s (s + (1 + nT l)) lo (lo + nE l) E2.length → KyM w' (min k (jS T L (nd 16 t q l r) (E1 ++ E2))) → JS T L w' (nd 16 t q l r) (E1 ++ E2) s lo → EnM m w' E1 E2 → JK g d K x2 s w') : V g LM jMd_judgeBlock (d + 1) K 7 [(0, vA 0), (2, vI x2), (3, vI (s : Int))] [] w := by
  rw [SR16] at hR
  obtain ⟨k17, -, -, k21, kr⟩ := hR
  have hb : (0 : Int) ≤ (s : Int) ∧ (s : Int) < 130 := by omega
  refine s_Md_judgeBlock_7 ⟨fun z => absurd z (by omega), fun _ => ⟨hb, hb, hb, ?_⟩⟩
  rw [toN, k17]
  refine ⟨fun z => absurd z (by decide), fun z => absurd z (by decide), fun z => absurd z (by decide), fun z => absurd z (by decide), fun z => absurd z (by decide), fun z => absurd z (by decide), fun _ => ⟨hb, ?_⟩⟩
  rw [k21]
  refine hb1 _ w _ hM hE kr hK (fun w3 hF3 hK3 hJ3 hE3 => h w3 (hF3.le (by omega) (by omega) (Nat.le_refl _) (Nat.le_refl _) (Nat.le_refl _)) hK3 (by rw [JS16]; exact hJ3) hE3)
theorem jt_halt {t q s lo k : Nat} {l r : Tr} (hs : s < 130) (hE : EnM m w E1 E2) (hR : SR (kdT T L) w (nd 17 t q l r) s lo) (hK : KyM w k) (h : ∀ w', FMk w w' s (s + 1) lo lo E2.length → KyM w' (min k (jS T L (nd 17 t q l r) (E1 ++ E2))) → JS T L w' (nd 17 t q l r) (E1 ++ E2) s lo → EnM m w' E1 E2 → JK g d K x2 s w') : V g LM jMd_judgeBlock (d + 1) K 7 [(0, vA 0), (2, vI x2), (3, vI (s : Int))] [] w := by
  rw [SR17] at hR
  obtain ⟨k17, -⟩ := hR
  have hb : (0 : Int) ≤ (s : Int) ∧ (s : Int) < 130 := by omega
  refine s_Md_judgeBlock_7 ⟨fun z => absurd z (by omega), fun _ => ⟨hb, hb, hb, ?_⟩⟩
  rw [toN, k17]
  refine ⟨fun _ => h w (FMk.rf w) ?_ trivial hE, fun z => absurd z (by decide), fun z => absurd z (by decide), fun z => absurd z (by decide), fun z => absurd z (by decide), fun z => absurd z (by decide), fun z => absurd z (by decide)⟩
  have : jS T L (nd 17 t q l r) (E1 ++ E2) = 100000 := rfl
  rw [this, hK.big]
  exact hK
end ModelJudge8
