/-! ===== the model judges exps: unary, if, ( ) ===== -/
section ModelJudge4
variable {g : Mg} {d D : Nat} {K : Ou → Wd → Prop} {w w' : Wd} {T : Nat → Int} {L m : Nat} {E1 E2 : List En} {b : Bool}
theorem FMj.nm {lo hi : Nat} (h : FMj w w' lo hi) {o : Nat} (ho : 26 ≤ o ∧ o ≤ 31) : w' o = w o := h.1 o (by simp; omega)
theorem Blm.jr {E : List En} {a : Tr} {lo : Nat} (h : Blm w w') (hJ : JR T L E b w a lo) : JR T L E b w' a lo := JR.congr a lo hJ (fun x _ _ => ⟨by rw [h.1 32 (by decide)], by rw [h.1 33 (by decide)]⟩)
/-- a part is judged, and must be of a kind -/
theorem jd_part {l : Tr} {lo k e : Nat} {y : Int} {Kc : Wd → Prop} (hd : 2 ≤ d) (hN : ∀ e ∈ E1 ++ E2, e.2.1 ≤ 4 ∧ e.2.2.2 ≤ 2) (hl : SpJ g d T L m E1 E2 b l lo) (hy : 0 ≤ y ∧ y ≤ 2) (he : e = lo + nX l - 1) (he2 : e < 2000) (hfm : fst_ l ≤ m) (hM : TxM T L m w) (hE : EnM m w E1 E2) (hA : AR (kdT T L) w l lo) (h28 : w 28 e = ((fst_ l : Nat) : Int)) (hK : KyM w k) (h : ∀ w', FMj w w' lo (lo + nX l) → KyM w' (min k (min (jkT T L (E1 ++ E2) b l) (dm T L (knT T L (E1 ++ E2) b l) y (fst_ l)))) → JR T L (E1 ++ E2) b w' l lo → Kc w') : Cal g LM jMd_judge d [vA 0, vI (e : Int), vI (bI b)] w (fun o w14 => rIt o (fun b => K (.inr b) w14) (fun x15 => Cal g LM jMd_mustBe d [vA 0, vI (e : Int), vI x15, vI (kI y)] w14 (fun o w16 => rVt o (fun b => K (.inr b) w16) (Kc w16)))) := by
  subst he
  refine hl _ w k hM hE hA hK (fun w1 hF hK1 hJ => ?_)
  refine sp_mustBeM hd (hM.fj hF) he2 (kn_rng (fun e he => (hN e he).2) l) hy (by rw [hF.nm (by decide)]; exact h28) hfm hK1 (fun w2 hB hK2 => ?_)
  refine h w2 (hF.tr (FMj.bl hB)) ?_ (hB.jr hJ)
  rw [← Nat.min_assoc]
  exact hK2
theorem jd_un {c t q lo : Nat} {l : Tr} (hd : 2 ≤ d) (hN : ∀ e ∈ E1 ++ E2, e.2.1 ≤ 4 ∧ e.2.2.2 ≤ 2) (hc : c = 3 ∨ (c = 5 ∧ (kdT T L t = 16 ∨ kdT T L t = 20))) (hl : SpJ g d T L m E1 E2 b l lo) (h1 : 1 ≤ nX l) (hfm : fst_ l ≤ m) (hlo : lo + nX l < 2000) : SpJ g (d + 1) T L m E1 E2 b (nd c t q l nl) lo := by
  intro K w k hM hE hA hK h
  have h7 : ¬ (c = 7 ∨ c = 9) := by omega
  have hn : nX (nd c t q l nl) = nX l + 1 := by
    show nX l + nX nl + (if c = 7 ∨ c = 9 then 0 else 1) = _
    rw [if_neg h7]; rfl
  rw [hn] at h ⊢
  rw [show lo + (nX l + 1) - 1 = lo + nX l by omega]
  obtain ⟨a1, -, a3, -, a5, a6, -⟩ := hA
  obtain ⟨-, h26⟩ := a5 (by omega) (by omega)
  have h29 : w 29 (lo + nX l) = ((lo + nX l - 1 : Nat) : Int) := a6 (by omega)
  have h28 := a3 (by omega) (by omega) (by omega)
  have h26 : w 26 (lo + nX l) = (if c = 0 then kdM (kdT T L t) else if c = 1 then 4 else if c = 2 then 5 else if c = 3 then 7 else if c = 4 then 8 else if c = 5 then (if kdT T L t = 16 then 9 else 10) else 11) := h26
  have hb : (0 : Int) ≤ ((lo + nX l : Nat) : Int) ∧ ((lo + nX l : Nat) : Int) < 2000 := by omega
  have core : ∀ (y res : Int), (0 ≤ y ∧ y ≤ 2) → jkT T L (E1 ++ E2) b (nd c t q l nl) = min (jkT T L (E1 ++ E2) b l) (dm T L (knT T L (E1 ++ E2) b l) y (fst_ l)) → kI (knT T L (E1 ++ E2) b (nd c t q l nl)) = res → Cal g LM jMd_judge d [vA 0, vI ((lo + nX l - 1 : Nat) : Int), vI (bI b)] w (fun o w14 => rIt o (fun b => K (.inr b) w14) (fun x15 => Cal g LM jMd_mustBe d [vA 0, vI ((lo + nX l - 1 : Nat) : Int), vI x15, vI (kI y)] w14 (fun o w16 => rVt o (fun b => K (.inr b) w16) (K (.inl (some (vI res))) w16)))) := by
    intro y res hy hj hr
    refine jd_part hd hN hl hy rfl (by omega) hfm hM hE a1 h28 hK (fun w' hF hK' hJ => ?_)
    rw [← hj] at hK'
    have := h w' (hF.le (Nat.le_refl _) (by omega)) hK' ⟨hJ, trivial, fun z => by omega, fun z => by omega, fun z => by omega⟩
    rw [hr] at this
    exact this
  refine Cal.ofV (by decide) rfl (Nat.le_of_ble_eq_true rfl) (s_Md_judge ⟨hb, hb, hb, ?_⟩)
  rw [toN, h26, h29]
  rcases hc with rfl | ⟨rfl, hk⟩
  · have e3 : (if (3 : Nat) = 0 then kdM (kdT T L t) else if (3 : Nat) = 1 then 4 else if (3 : Nat) = 2 then 5 else if (3 : Nat) = 3 then 7 else if (3 : Nat) = 4 then 8 else if (3 : Nat) = 5 then (if kdT T L t = 16 then 9 else 10) else 11) = (7 : Int) := rfl
    rw [e3]
    refine ⟨fun z => absurd z (by decide), fun z => absurd z (by decide), fun z => absurd z (by decide), fun z => absurd z (by decide), fun z => absurd z (by decide), fun z => absurd z (by decide), fun z => absurd z (by decide), fun _ => core 1 0 (by decide) rfl rfl, fun z => absurd z (by decide), fun z => absurd z (by decide), fun z => absurd z (by decide), fun z => absurd z (by decide)⟩
  · have hjk : jkT T L (E1 ++ E2) b (nd 5 t q l nl) = min (jkT T L (E1 ++ E2) b l) (dm T L (knT T L (E1 ++ E2) b l) (if kdT T L t = 16 then 1 else 2) (fst_ l)) := rfl
    have hkn : knT T L (E1 ++ E2) b (nd 5 t q l nl) = (if kdT T L t = 16 then 1 else 2) := rfl
    have e5 : ∀ x : Int, (if (5 : Nat) = 0 then kdM (kdT T L t) else if (5 : Nat) = 1 then 4 else if (5 : Nat) = 2 then 5 else if (5 : Nat) = 3 then 7 else if (5 : Nat) = 4 then 8 else if (5 : Nat) = 5 then x else 11) = x := fun _ => rfl
    rw [e5]
    by_cases k16 : kdT T L t = 16
    · rw [if_pos k16] at hjk hkn ⊢
      refine ⟨fun z => absurd z (by decide), fun z => absurd z (by decide), fun z => absurd z (by decide), fun z => absurd z (by decide), fun z => absurd z (by decide), fun z => absurd z (by decide), fun z => absurd z (by decide), fun z => absurd z (by decide), fun z => absurd z (by decide), fun _ => core 1 0 (by decide) hjk (by rw [hkn]; rfl), fun z => absurd z (by decide), fun z => absurd z (by decide)⟩
    · rw [if_neg k16] at hjk hkn ⊢
      refine ⟨fun z => absurd z (by decide), fun z => absurd z (by decide), fun z => absurd z (by decide), fun z => absurd z (by decide), fun z => absurd z (by decide), fun z => absurd z (by decide), fun z => absurd z (by decide), fun z => absurd z (by decide), fun z => absurd z (by decide), fun z => absurd z (by decide), fun _ => core 2 1 (by decide) hjk (by rw [hkn]; rfl), fun z => absurd z (by decide)⟩
theorem jd_7 {t q lo : Nat} {l : Tr} (hl : SpJ g D T L m E1 E2 b l lo) : SpJ g D T L m E1 E2 b (nd 7 t q l nl) lo := by
  intro K w k hM hE hA hK h
  exact hl K w k hM hE hA.1 hK (fun w' hF hK' hJ => h w' hF hK' ⟨hJ, trivial, fun z => absurd z (by decide), fun z => absurd z (by decide), fun z => absurd z (by decide)⟩)
theorem jd_if {t q t9 q9 lo : Nat} {l x y : Tr} (hd : 2 ≤ d) (hN : ∀ e ∈ E1 ++ E2, e.2.1 ≤ 4 ∧ e.2.2.2 ≤ 2) (hl : SpJ g d T L m E1 E2 b l lo) (hx : SpJ g d T L m E1 E2 b x (lo + nX l)) (hy : SpJ g d T L m E1 E2 b y (lo + nX l + nX x)) (h1 : 1 ≤ nX l) (h2 : 1 ≤ nX x) (h3 : 1 ≤ nX y) (hfl : fst_ l ≤ m) (hfy : fst_ y ≤ m) (hlo : lo + nX l + nX x + nX y < 2000) : SpJ g (d + 1) T L m E1 E2 b (nd 4 t q l (nd 9 t9 q9 x y)) lo := by
  intro K w k hM hE hA hK h
  have hn9 : nX (nd 9 t9 q9 x y) = nX x + nX y := rfl
  have hn : nX (nd 4 t q l (nd 9 t9 q9 x y)) = nX l + (nX x + nX y) + 1 := rfl
  rw [hn] at h ⊢
  rw [show lo + (nX l + (nX x + nX y) + 1) - 1 = lo + nX l + (nX x + nX y) by omega]
  obtain ⟨a1, ⟨ax, ay, -⟩, a3, -, a5, a6, -, a8⟩ := hA
  obtain ⟨-, h26⟩ := a5 (by decide) (by decide)
  obtain ⟨h30, h31, -, k4⟩ := a8 rfl
  have h29 : w 29 (lo + nX l + (nX x + nX y)) = ((lo + nX l - 1 : Nat) : Int) := a6 (by decide)
  have h28 := a3 (by omega) (by decide) (by decide)
  have h26 : w 26 (lo + nX l + (nX x + nX y)) = 8 := h26
  have h30 : w 30 (lo + nX l + (nX x + nX y)) = ((lo + nX l + nX x - 1 : Nat) : Int) := h30
  have h31 : w 31 (lo + nX l + (nX x + nX y)) = ((lo + nX l + (nX x + nX y) - 1 : Nat) : Int) := h31
  have k4 : w 28 (lo + nX l + (nX x + nX y) - 1) = ((fst_ y : Nat) : Int) := k4 (by rw [hn9]; omega)
  have hb : (0 : Int) ≤ ((lo + nX l + (nX x + nX y) : Nat) : Int) ∧ ((lo + nX l + (nX x + nX y) : Nat) : Int) < 2000 := by omega
  have hj : jkT T L (E1 ++ E2) b (nd 4 t q l (nd 9 t9 q9 x y)) = min (min (jkT T L (E1 ++ E2) b l) (dm T L (knT T L (E1 ++ E2) b l) 2 (fst_ l))) (min (min (jkT T L (E1 ++ E2) b x) (jkT T L (E1 ++ E2) b y)) (dm T L (knT T L (E1 ++ E2) b y) (knT T L (E1 ++ E2) b x) (fst_ y))) := rfl
  have hkn : knT T L (E1 ++ E2) b (nd 4 t q l (nd 9 t9 q9 x y)) = (if knT T L (E1 ++ E2) b x = 0 then knT T L (E1 ++ E2) b y else knT T L (E1 ++ E2) b x) := rfl
  have rx := kn_rng (T := T) (L := L) (b := b) (fun e he => (hN e he).2) x
  have ry := kn_rng (T := T) (L := L) (b := b) (fun e he => (hN e he).2) y
  have hey : lo + nX l + (nX x + nX y) - 1 = lo + nX l + nX x + nX y - 1 := by omega
  refine Cal.ofV (by decide) rfl (Nat.le_of_ble_eq_true rfl) (s_Md_judge ⟨hb, hb, hb, ?_⟩)
  rw [toN, h26, h29, h30]
  refine ⟨fun z => absurd z (by decide), fun z => absurd z (by decide), fun z => absurd z (by decide), fun z => absurd z (by decide), fun z => absurd z (by decide), fun z => absurd z (by decide), fun z => absurd z (by decide), fun z => absurd z (by decide), fun _ => ?_, fun z => absurd z (by decide), fun z => absurd z (by decide), fun z => absurd z (by decide)⟩
  refine jd_part (y := 2) hd hN hl (by decide) rfl (by omega) hfl hM hE a1 h28 hK (fun w1 hF1 hK1 hJ1 => ?_)
  refine hx _ w1 _ (hM.fj hF1) (hE.fj hF1) (ax.fj hF1) hK1 (fun w2 hF2 hK2 hJ2 => ⟨hb, ?_⟩)
  rw [hF2.nm (by decide), hF1.nm (by decide), h31, hey]
  refine hy _ w2 _ ((hM.fj hF1).fj hF2) ((hE.fj hF1).fj hF2) ((ay.fj hF1).fj hF2) hK2 (fun w3 hF3 hK3 hJ3 => ⟨hb, ?_⟩)
  rw [hF3.nm (by decide), hF2.nm (by decide), hF1.nm (by decide), h31]
  refine sp_mustBeM hd (((hM.fj hF1).fj hF2).fj hF3) (by omega) ry rx (by rw [hF3.nm (by decide), hF2.nm (by decide), hF1.nm (by decide)]; exact k4) hfy hK3 (fun w4 hB hK4 => ?_)
  have hF4 : FMj w w4 lo (lo + (nX l + (nX x + nX y) + 1)) := (((hF1.le (Nat.le_refl _) (by omega)).tr (hF2.le (by omega) (by omega))).tr (hF3.le (by omega) (by omega))).tr (FMj.bl hB)
  have hkey : KyM w4 (min k (jkT T L (E1 ++ E2) b (nd 4 t q l (nd 9 t9 q9 x y)))) := by
    rw [hj]
    simp only [Nat.min_assoc] at hK4 ⊢
    exact hK4
  have := h w4 hF4 hkey ⟨hB.jr (JR.congr l lo hJ1 (fun z p1 p2 => ?_)), ⟨hB.jr (JR.congr x _ hJ2 (fun z p1 p2 => hF3.2.2 z (Or.inl (by omega)))), hB.jr hJ3, fun z => absurd z (by decide), fun z => absurd z (by decide), fun z => absurd z (by decide)⟩, fun z => absurd z (by decide), fun z => absurd z (by decide), fun z => absurd z (by decide)⟩
  · rw [hkn] at this
    refine ⟨fun z => ?_, fun z => ?_⟩
    · rw [if_neg (fun q => z ((kI_2 rx).mpr q))] at this
      exact this
    · rw [if_pos ((kI_2 rx).mp z)] at this
      exact this
  · obtain ⟨u1, u2⟩ := hF2.2.2 z (Or.inl (by omega))
    obtain ⟨v1, v2⟩ := hF3.2.2 z (Or.inl (by omega))
    exact ⟨v1.trans u1, v2.trans u2⟩
end ModelJudge4
