/-! ===== told things and their TOKENS ===== -/
def ToT (kd : Nat → Nat) (e : En × Int) (i j : Nat) : Prop := e.1.1 = i + 1 ∧ e.1.2.1 ≤ 3 ∧ (e.1.2.1 = 0 → kd i = 27 ∧ kd (i + 2) = 4 ∧ j = i + 3) ∧ (e.1.2.1 = 1 → kd i = 28 ∧ kd (i + 2) = 11 ∧ ((e.1.2.2.2 = 1 ∧ kd (i + 3) = 29) ∨ (e.1.2.2.2 = 2 ∧ kd (i + 3) = 30 ∧ (e.2 = 0 ∨ e.2 = 1))) ∧ kd (i + 4) = 12 ∧ ((kd (i + 5) = 16 ∧ kd (i + 7) = 4 ∧ j = i + 8) ∨ (kd (i + 5) ≠ 16 ∧ kd (i + 6) = 4 ∧ j = i + 7))) ∧ (2 ≤ e.1.2.1 → kd i = (if e.1.2.1 = 2 then 33 else 34) ∧ kd (i + 2) = 11 ∧ kd (i + 4) = 4 ∧ j = i + 5 ∧ 35 ≤ e.2 ∧ e.2 ≤ 40 ∧ e.1.2.2.2 = (if e.2 = 39 ∨ e.2 = 40 then 2 else 1))
def TG (kd : Nat → Nat) : DE → Nat → Nat → Prop
  | [], i, j => i = j
  | e :: D, i, j => ∃ k, ToT kd e i k ∧ TG kd D k j
theorem TG.app {kd : Nat → Nat} {e : En × Int} {j k : Nat} : ∀ (D : DE) (i : Nat), TG kd D i j → ToT kd e j k → TG kd (D ++ [e]) i k
  | [], i, h, h2 => by
    have : i = j := h
    subst this
    exact ⟨k, h2, rfl⟩
  | x :: D, i, ⟨k0, h1, h3⟩, h2 => ⟨k0, h1, TG.app D k0 h3 h2⟩
theorem TG.le {kd : Nat → Nat} : ∀ (D : DE) (i j : Nat), TG kd D i j → i ≤ j
  | [], i, j, h => Nat.le_of_eq h
  | e :: D, i, j, ⟨k, h1, h2⟩ => by
    have h3 := TG.le D k j h2
    obtain ⟨-, a, b, c, d⟩ := h1
    rcases (by omega : e.1.2.1 = 0 ∨ e.1.2.1 = 1 ∨ 2 ≤ e.1.2.1) with z | z | z
    · have := (b z).2.2; omega
    · have := (c z).2.2.2.2; omega
    · have := (d z).2.2.2.1; omega
section PureTG
variable {T : Nat → Int} {L : Nat}
theorem pBool_e {kd : Nat → Nat} {i : Nat} {q : Int × Nat} (h : pBool kd i = .ok q) : kd i ≠ 16 ∧ q.2 = i + 1 ∧ (q.1 = 0 ∨ q.1 = 1) := by
  unfold pBool at h
  split at h
  · rename_i hk
    obtain ⟨j, h1, h2⟩ := bnd_ok h
    obtain ⟨-, rfl, -⟩ := ex_ok h1
    cases h2
    exact ⟨by omega, rfl, Or.inr rfl⟩
  · obtain ⟨j, h1, h2⟩ := bnd_ok h
    obtain ⟨hk, rfl, -⟩ := ex_ok h1
    cases h2
    exact ⟨by omega, rfl, Or.inl rfl⟩
theorem pInt_e {kd : Nat → Nat} {vl : Nat → Int} {i : Nat} {q : Int × Nat} (h : pInt kd vl i = .ok q) : (kd i = 16 ∧ q.2 = i + 2) ∨ (kd i ≠ 16 ∧ q.2 = i + 1) := by
  unfold pInt at h
  split at h
  · rename_i hk
    obtain ⟨i1, h1, h2⟩ := bnd_ok h
    obtain ⟨j, h3, h4⟩ := bnd_ok h2
    obtain ⟨-, rfl, -⟩ := ex_ok h1
    obtain ⟨-, rfl, -⟩ := ex_ok h3
    cases h4
    exact Or.inl ⟨hk, rfl⟩
  · rename_i hk
    obtain ⟨j, h1, h2⟩ := bnd_ok h
    obtain ⟨-, rfl, -⟩ := ex_ok h1
    cases h2
    exact Or.inr ⟨hk, rfl⟩
theorem pTd_tot {kd : Nat → Nat} {vl : Nat → Int} {E : List En} {i n : Nat} {q : (Nat × Int) × Nat} (ht : tls (kd i)) (h : pTd kd vl E i = .ok q) : ToT kd ((i + 1, tlS (kd i), n, q.1.1), q.1.2) i q.2 := by
  unfold pTd at h
  obtain ⟨i1, h1, h⟩ := bnd_ok h
  obtain ⟨i2, h2, h⟩ := bnd_ok h
  obtain ⟨r, h3, h⟩ := bnd_ok h
  obtain ⟨j, h4, h⟩ := bnd_ok h
  cases h
  have a1 := (ex_ok h1).2.1
  have a2 := (pNm_ok h2).2.1
  obtain ⟨k4, a4, -⟩ := ex_ok h4
  subst a1
  subst a2
  subst a4
  unfold pTv at h3
  have hs := tlS_3 (kd i)
  have key : ∀ so : Nat, so = tlS (kd i) → so ≤ 3 ∧ (so = 0 → kd i = 27) ∧ (so = 1 → kd i = 28) ∧ (2 ≤ so → kd i = (if so = 2 then 33 else 34)) := by
    intro so hso
    subst hso
    unfold tlS
    rcases ht with z | z | z | z <;> rw [z] <;> decide
  obtain ⟨-, y0, y1, y2⟩ := key _ rfl
  refine ⟨rfl, hs, fun z => ?_, fun z => ?_, fun z => ?_⟩
  · have z : tlS (kd i) = 0 := z
    rw [if_pos z] at h3
    cases h3
    exact ⟨y0 z, k4, rfl⟩
  · have z : tlS (kd i) = 1 := z
    rw [if_neg (by omega)] at h3
    obtain ⟨i3, g3, h3⟩ := bnd_ok h3
    obtain ⟨k3, a3, -⟩ := ex_ok g3
    subst a3
    rw [if_pos z] at h3
    obtain ⟨i4, g4, h3⟩ := bnd_ok h3
    obtain ⟨k4', a4', -⟩ := ex_ok g4
    subst a4'
    obtain ⟨i5, g5, h3⟩ := bnd_ok h3
    obtain ⟨k5, a5, -⟩ := ex_ok g5
    subst a5
    obtain ⟨v, gv, h3⟩ := bnd_ok h3
    cases h3
    refine ⟨y1 z, k3, ?_, k5, ?_⟩
    · by_cases h30 : kd (i + 1 + 1 + 1) = 30
      · rw [if_pos h30] at gv
        have := (pBool_e gv).2.2
        refine Or.inr ⟨?_, h30, this⟩
        show (if kd (i + 1 + 1 + 1) = 30 then 2 else 1) = 2
        rw [if_pos h30]
      · rw [if_neg h30] at k4'
        refine Or.inl ⟨?_, k4'⟩
        show (if kd (i + 1 + 1 + 1) = 30 then 2 else 1) = 1
        rw [if_neg h30]
    · have hv : (kd (i + 5) = 16 ∧ v.2 = i + 7) ∨ (kd (i + 5) ≠ 16 ∧ v.2 = i + 6) := by
        split at gv
        · have := pBool_e gv
          exact Or.inr ⟨this.1, this.2.1⟩
        · rcases pInt_e gv with q | q
          · exact Or.inl q
          · exact Or.inr q
      rcases hv with ⟨c1, c2⟩ | ⟨c1, c2⟩
      · have k4' : kd v.2 = 4 := k4
        rw [c2] at k4'
        exact Or.inl ⟨c1, k4', by show v.2 + 1 = _; omega⟩
      · have k4' : kd v.2 = 4 := k4
        rw [c2] at k4'
        exact Or.inr ⟨c1, k4', by show v.2 + 1 = _; omega⟩
  · have z : 2 ≤ tlS (kd i) := z
    rw [if_neg (by omega)] at h3
    obtain ⟨i3, g3, h3⟩ := bnd_ok h3
    obtain ⟨k3, a3, -⟩ := ex_ok g3
    subst a3
    rw [if_neg (by omega)] at h3
    split at h3
    · rename_i hw
      obtain ⟨i4, g4, h3⟩ := bnd_ok h3
      obtain ⟨-, a4', -⟩ := ex_ok g4
      subst a4'
      cases h3
      refine ⟨y2 z, k3, k4, rfl, ?_, ?_, ?_⟩
      · show (35 : Int) ≤ ((kd (i + 1 + 1 + 1) : Nat) : Int); omega
      · show ((kd (i + 1 + 1 + 1) : Nat) : Int) ≤ 40; omega
      · show (if kd (i + 1 + 1 + 1) = 39 ∨ kd (i + 1 + 1 + 1) = 40 then 2 else 1) = (if ((kd (i + 1 + 1 + 1) : Nat) : Int) = 39 ∨ ((kd (i + 1 + 1 + 1) : Nat) : Int) = 40 then 2 else 1)
        by_cases c : kd (i + 1 + 1 + 1) = 39 ∨ kd (i + 1 + 1 + 1) = 40
        · rw [if_pos c, if_pos (by omega)]
        · rw [if_neg c, if_neg (by omega)]
    · cases h3
theorem fTs_tg : ∀ (f : Nat) (p p' : ST × DE), TG (kdT T L) p.2 0 (sI p.1) → fTs T L f p = .ok p' → TG (kdT T L) p'.2 0 (sI p'.1)
  | 0, p, p', h, e => by cases e; exact h
  | f + 1, p, p', h, e => by
    rw [fTs] at e
    split at e
    · rename_i hk
      obtain ⟨p1, h1, h2⟩ := bnd_ok e
      unfold fTo2 at h1
      obtain ⟨q, hq, h3⟩ := bnd_ok h1
      cases h3
      exact fTs_tg f _ p' (TG.app p.2 0 h (pTd_tot hk hq)) h2
    · cases e; exact h
theorem rd_tg {r : RT} (h : Rd T L r) : TG (kdT T L) r.1.2 0 (sI r.1.1) := fTs_tg 1000 (st0, []) r.1 rfl h.1
end PureTG
section ModelPrint
variable {g : Mg} {d D : Nat} {K : Ou → Wd → Prop} {w0 : Wd} {T : Nat → Int} {L m : Nat} {PF : List Int}
theorem rg_app {i j k : Nat} (h1 : i ≤ j) (h2 : j ≤ k) : List.range' i (k - i) = List.range' i (j - i) ++ List.range' j (k - j) := by
  rw [show k - i = (j - i) + (k - j) by omega, ← List.range'_append_1, show i + (j - i) = j by omega]
theorem pr_told (hd : 6 ≤ d) (hF : PF.length ≤ 5000) (hM : TxM T L m w0) {D0 : DE} {je : Nat} {O : List Nat} (hT : TD (kdT T L) w0 D0) (hjm : je ≤ m) (h : ∀ w1, St T L PF w0 w1 O → V g LM jMd_printAll (d + 1) K 7 [(0, vA 0), (1, vI (D0.length : Int))] [] w1) :
    ∀ (E : DE) (k i : Nat) (w1 : Wd), D0 = D0.take k ++ E → k + E.length = D0.length → TG (kdT T L) E i je → St T L PF w0 w1 (List.range' i (je - i) ++ O) → V g LM jMd_printAll (d + 1) K 7 [(0, vA 0), (1, vI (k : Int))] [] w1 := by
  intro E
  induction E with
  | nil =>
    intro k i w1 _ hk hg hs
    have hij : i = je := hg
    subst hij
    rw [Nat.sub_self] at hs
    have : k = D0.length := by simpa using hk
    subst this
    exact h w1 hs
  | cons e E ih =>
    intro k i w1 hE hk hg hs
    obtain ⟨j, ht, hg⟩ := hg
    have hlen := hT.len
    simp only [List.length_cons] at hk
    have hrow : ∀ w', FPm w0 w' → ∀ o, 10 ≤ o → o ≤ 36 → w' o = w0 o := fun w' f o p1 p2 => f.1 o (by simp; omega)
    have hek : D0[k]? = some e := by
      rw [hE, List.getElem?_append_right (by rw [List.length_take]; omega), List.length_take, Nat.min_eq_left (by omega), Nat.sub_self]
      rfl
    have hE' : D0 = D0.take (k + 1) ++ E := by
      rw [List.take_succ, hek, List.append_assoc]
      exact hE
    obtain ⟨t10, t11, t12, -, -, -, t1, t2⟩ := hT.2.2.2 k e hek
    have t10 : w0 10 k = (e.1.2.1 : Int) := t10
    have t11 : w0 11 k = (e.1.1 : Int) := t11
    have t12 : w0 12 k = (e.1.2.2.2 : Int) - 1 := t12
    obtain ⟨hn, hs3, c0, c1, c2⟩ := ht
    have hbk : (0 : Int) ≤ (k : Int) ∧ (k : Int) < 30 := by omega
    have hje := TG.le E j je hg
    have f20 : ∀ w', FPm w0 w' → w' 0 20 = (D0.length : Int) := fun w' f => by rw [f.2 20 (by decide)]; exact hT.1
    -- behind the thing
    have fin : ∀ w2 t, kdT T L t = 4 → St T L PF w0 w2 (t :: (List.range' j (je - j) ++ O)) → V g LM jMd_printAll (d + 1) K 156 [(0, vA 0), (1, vI (k : Int))] [] w2 := by
      intro w2 t ht h2
      refine s_Md_printAll_156 (ws_text (c := 4) (by omega) hF (by decide) (by decide) ht h2 (fun w3 h3 => ?_))
      rw [wr_n1 (by omega)]
      exact ih (k + 1) j w3 hE' (by omega) hg h3
    have f123 : ∀ (w2 : Wd) (v t : Nat), w0 14 k = (v : Int) → v ≤ m → kdT T L t = 4 → St T L PF w0 w2 (v :: t :: (List.range' j (je - j) ++ O)) → V g LM jMd_printAll (d + 1) K 123 [(0, vA 0), (1, vI (k : Int))] [] w2 := by
      intro w2 v t hv hvm ht h2
      refine s_Md_printAll_123 ⟨hbk, ?_⟩
      rw [toN, hrow w2 h2.1 14 (by decide) (by decide), hv]
      exact ws_show hM hF hvm h2 (fun w3 h3 => fin w3 t ht h3)
    refine s_Md_printAll_7 ⟨fun z => ?_, fun _ => ⟨hbk, ?_⟩⟩
    · rw [f20 w1 hs.1] at z
      omega
    rw [toN, hrow w1 hs.1 10 (by decide) (by decide), t10]
    rcases (by omega : e.1.2.1 = 0 ∨ e.1.2.1 = 1 ∨ 2 ≤ e.1.2.1) with z | z | z
    · -- a column
      obtain ⟨k1, k2, rfl⟩ := c0 z
      rw [rg_app (i := i) (j := i + 3) (by omega) hje, show i + 3 - i = 3 by omega] at hs
      have hs' : St T L PF w0 w1 (i :: (i + 1) :: (i + 2) :: (List.range' (i + 3) (je - (i + 3)) ++ O)) := hs
      rw [z]
      refine ⟨fun q => absurd rfl q, fun _ => p_54 (ws_text (c := 27) (by omega) hF (by decide) (by decide) k1 hs' (fun w2 h2 => ⟨hbk, ?_⟩))⟩
      rw [toN, hrow w2 h2.1 11 (by decide) (by decide), t11, hn]
      refine ws_show hM hF (by omega) h2 (fun w3 h3 => ⟨fun _ => ⟨fun _ => fin w3 (i + 2) k2 h3, fun q => absurd rfl q⟩, fun q => absurd q (by decide)⟩)
    · -- a state
      obtain ⟨k1, k2, k3, k4, k5⟩ := c1 z
      obtain ⟨u1, u2⟩ := t1 z
      rw [hn] at u1 u2
      have u1 : kdT T L (i + 5) = 16 → w0 15 k = ((i + 5 : Nat) : Int) ∧ w0 14 k = ((i + 6 : Nat) : Int) := u1
      have u2 : kdT T L (i + 5) ≠ 16 → w0 15 k = -2 ∧ w0 14 k = ((i + 5 : Nat) : Int) := u2
      have hj7 : i + 7 ≤ je := by omega
      have main : ∀ O', St T L PF w0 w1 (i :: (i + 1) :: (i + 2) :: (i + 3) :: (i + 4) :: O') → (∀ w2, St T L PF w0 w2 O' → (w0 15 k < 0 → V g LM jMd_printAll (d + 1) K 123 [(0, vA 0), (1, vI (k : Int))] [] w2) ∧ (¬ w0 15 k < 0 → (0 ≤ (k : Int) ∧ (k : Int) < 30) ∧ Cal g LM jMd_show d [vA 0, vI (w0 15 k)] w2 (fun o w3 => rVt o (fun b => K (.inr b) w3) (V g LM jMd_printAll (d + 1) K 123 [(0, vA 0), (1, vI (k : Int))] [] w3)))) → V g LM jMd_printAll (d + 1) K 54 [(0, vA 0), (1, vI (k : Int)), (2, vI 1)] [vA 1007, vA 0] w1 := by
        intro O' hO hrest
        refine p_54 (ws_text (c := 28) (by omega) hF (by decide) (by decide) k1 hO (fun w2 h2 => ⟨hbk, ?_⟩))
        rw [toN, hrow w2 h2.1 11 (by decide) (by decide), t11, hn]
        refine ws_show hM hF (by omega) h2 (fun w3 h3 => ⟨fun q => absurd rfl q, fun _ => ?_⟩)
        refine ws_text (c := 11) (by omega) hF (by decide) (by decide) k2 h3 (fun w4 h4 => ⟨hbk, ?_⟩)
        have last : ∀ w5, St T L PF w0 w5 ((i + 4) :: O') → Cal g LM jMd_showText d [vA 0, vA 1051] w5 (fun o w2 => rVt o (fun b => K (.inr b) w2) ((0 ≤ (k : Int) ∧ (k : Int) < 30) ∧ (((w2 15 (k : Int).toNat) < 0 → (V g LM jMd_printAll (d + 1) K 123 [(0, vA 0), (1, vI (k : Int))] [] w2)) ∧ (¬ (w2 15 (k : Int).toNat) < 0 → ((0 ≤ (k : Int) ∧ (k : Int) < 30) ∧ (Cal g LM jMd_show d [vA 0, vI (w2 15 (k : Int).toNat)] w2 (fun o w3 => rVt o (fun b => K (.inr b) w3) (V g LM jMd_printAll (d + 1) K 123 [(0, vA 0), (1, vI (k : Int))] [] w3)))))))) := by
          intro w5 h5
          refine ws_text (c := 12) (by omega) hF (by decide) (by decide) k4 h5 (fun w6 h6 => ⟨hbk, ?_⟩)
          rw [toN, hrow w6 h6.1 15 (by decide) (by decide)]
          exact hrest w6 h6
        rw [hrow w4 h4.1 12 (by decide) (by decide), t12]
        rcases k3 with ⟨g1, g2⟩ | ⟨g1, g2, -⟩
        · refine ⟨fun q => absurd (by rw [g1]; rfl) q, fun _ => p_95 (ws_text (c := 29) (by omega) hF (by decide) (by decide) g2 h4 (fun w5 h5 => last w5 h5))⟩
        · refine ⟨fun _ => p_95 (ws_text (c := 30) (by omega) hF (by decide) (by decide) g2 h4 (fun w5 h5 => last w5 h5)), fun q => absurd q (by rw [g1]; decide)⟩
      rw [z]
      refine ⟨fun _ => ⟨fun q => absurd rfl q, fun _ => ?_⟩, fun q => absurd q (by decide)⟩
      rcases k5 with ⟨v1, v2, rfl⟩ | ⟨v1, v2, rfl⟩
      · rw [rg_app (i := i) (j := i + 8) (by omega) hje, show i + 8 - i = 8 by omega] at hs
        have hs' : St T L PF w0 w1 (i :: (i + 1) :: (i + 2) :: (i + 3) :: (i + 4) :: (i + 5) :: (i + 6) :: (i + 7) :: (List.range' (i + 8) (je - (i + 8)) ++ O)) := hs
        refine main _ hs' (fun w2 h2 => ?_)
        rw [(u1 v1).1]
        refine ⟨fun q => absurd q (by omega), fun _ => ⟨hbk, ws_show hM hF (by omega) h2 (fun w3 h3 => f123 w3 (i + 6) (i + 7) (u1 v1).2 (by omega) v2 h3)⟩⟩
      · rw [rg_app (i := i) (j := i + 7) (by omega) hje, show i + 7 - i = 7 by omega] at hs
        have hs' : St T L PF w0 w1 (i :: (i + 1) :: (i + 2) :: (i + 3) :: (i + 4) :: (i + 5) :: (i + 6) :: (List.range' (i + 7) (je - (i + 7)) ++ O)) := hs
        refine main _ hs' (fun w2 h2 => ?_)
        rw [(u2 v1).1]
        exact ⟨fun _ => f123 w2 (i + 5) (i + 6) (u2 v1).2 (by omega) v2 h2, fun q => absurd (by decide) q⟩
    · -- a fold, a global
      obtain ⟨k1, k2, k3, rfl, -⟩ := c2 z
      obtain ⟨u1, u2⟩ := t2 z
      rw [hn] at u2
      have u2 : w0 14 k = ((i + 3 : Nat) : Int) := u2
      rw [rg_app (i := i) (j := i + 5) (by omega) hje, show i + 5 - i = 5 by omega] at hs
      have hs' : St T L PF w0 w1 (i :: (i + 1) :: (i + 2) :: (i + 3) :: (i + 4) :: (List.range' (i + 5) (je - (i + 5)) ++ O)) := hs
      have go : ∀ a0 c : Nat, (1001 ≤ a0 ∧ a0 < 1060) → (sB (a0 - 1001) = sgn c ∧ 4 ≤ c) → kdT T L i = c → V g LM jMd_printAll (d + 1) K 54 [(0, vA 0), (1, vI (k : Int)), (2, vI (e.1.2.1 : Int))] [vA a0, vA 0] w1 := by
        intro a0 c g1 g2 g3
        refine p_54 (ws_text (c := c) (by omega) hF g1 g2 g3 hs' (fun w2 h2 => ⟨hbk, ?_⟩))
        rw [toN, hrow w2 h2.1 11 (by decide) (by decide), t11, hn]
        refine ws_show hM hF (by omega) h2 (fun w3 h3 => ⟨fun _ => ⟨fun q => absurd q (by omega), fun _ => ?_⟩, fun q => absurd q (by omega)⟩)
        refine ws_text (c := 11) (by omega) hF (by decide) (by decide) k2 h3 (fun w4 h4 => ⟨hbk, ?_⟩)
        rw [hrow w4 h4.1 14 (by decide) (by decide), u2]
        exact ws_show hM hF (by omega) h4 (fun w5 h5 => fin w5 (i + 4) k3 h5)
      refine ⟨fun _ => ⟨fun _ => ⟨fun q => ?_, fun q => ?_⟩, fun q => absurd q (by omega)⟩, fun q => absurd q (by omega)⟩
      · rw [if_neg (by omega)] at k1
        exact go 1009 34 (by decide) (by decide) k1
      · rw [if_pos (by omega)] at k1
        exact go 1008 33 (by decide) (by decide) k1
/-- printAll -/
theorem sp_printAll {w : Wd} {r : RT} {s : ST} (hD : 1100 ≤ D) (hM : TxM T L m w) (hP : PgM T L w r) (hr : Rd T L r) (h2 : Two T L r s) (hb : sI r.1.1 ≤ m ∧ r.2.1.2.1 ≤ m ∧ r.2.2.2.1 ≤ m) (hl : (prB T L [] (sO s)).length ≤ 5000) (h : ∀ w', FPm w w' → PRm w' (prB T L [] (sO s)) → K (.inl none) w') : Cal g LM jMd_printAll D [vA 0] w K := by
  obtain ⟨d, rfl⟩ : ∃ d, D = d + 1 := ⟨D - 1, by omega⟩
  have htg := rd_tg hr
  obtain ⟨p, a, b⟩ := r
  obtain ⟨hT, hPT, hRa, hRb, h41, h42, hWa, hWb, hna, hnb⟩ := hP
  obtain ⟨-, -, -, hEo, ha, hbk, hga, hgb, k41, k42, -⟩ := hr
  obtain ⟨-, -, -, -, hO⟩ := h2
  simp only at hT hPT hRa hRb h41 h42 hWa hWb hna hnb hEo ha hbk hga hgb hb htg k41 k42 hO
  have gA := pBk_g3 _ _ _ _ _ (Nat.zero_le _) ha
  have gB := pBk_g3 _ _ _ _ _ hga.2.2.2.2.2 hbk
  have bkA : tg a.1 = 21 := by obtain ⟨z, s, e, -⟩ := hga.1; rw [e]; rfl
  have bkB : tg b.1 = 21 := by obtain ⟨z, s, e, -⟩ := hgb.1; rw [e]; rfl
  have nA : nE a.1 ≤ 1000 ∧ nT a.1 ≤ 120 := by
    have := hga.2.2.1; have := gA.2.2; have := hga.2.2.2.2.2
    omega
  have nB : nE b.1 ≤ 1000 ∧ nT a.1 + nT b.1 ≤ 120 := by
    have := hgb.2.2.1; have := gB.2.2; have := hgb.2.2.2.2.2
    omega
  have f0 : FPm w (up w 0 58 0) := ⟨(Fx.rf _ w).up (by decide), fun x hx => up_k hx⟩
  have hM0 := hM.fp f0
  have hT0 : TD (kdT T L) (up w 0 58 0) p.2 := hT.cg (up_k (by decide)) (fun o p1 p2 => up_o (by omega))
  have rA : SR (kdT T L) (up w 0 58 0) a.1 0 0 := hRa.fp hWa f0
  have rB : SR (kdT T L) (up w 0 58 0) b.1 a.2.2 (nE a.1) := hRb.fp hWb f0
  have hst : St T L (prB T L [] (sO s)) (up w 0 58 0) (up w 0 58 0) (List.range' 0 (sI p.1 - 0) ++ (sI p.1 :: (oP (kdT T L) a.1 ++ (a.2.1 :: (oP (kdT T L) b.1 ++ []))))) := by
    refine ⟨FPm.rf _, [], ⟨up_s _ _ _ _, fun k hk => absurd hk (Nat.not_lt_zero _)⟩, ?_⟩
    rw [hO, Nat.sub_zero, ← List.range_eq_range']
    congr 1
    simp
  refine Cal.ofV (by decide) rfl (Nat.le_of_ble_eq_true rfl) (s_Md_printAll ?_)
  refine pr_told (by omega) hl hM0 hT0 hb.1 (fun w1 h1 => ?_) p.2 0 0 (up w 0 58 0) (by simp) (by omega) htg hst
  have q0 : ∀ w', FPm (up w 0 58 0) w' → ∀ x, x ≠ 58 → w' 0 x = w 0 x := fun w' f x hx => by rw [f.2 x hx, f0.2 x hx]
  refine s_Md_printAll_7 ⟨fun _ => ?_, fun z => absurd (by rw [q0 w1 h1.1 20 (by decide), hT.1]; exact Int.le_refl _) z⟩
  refine ws_text (c := 41) (by omega) hl (by decide) (by decide) k41 h1 (fun w2 h2 => ?_)
  rw [q0 w2 h2.1 41 (by decide), h41]
  refine sp_showBlock (vl := vlT T L) bkA hWa (SX.le (by omega) _ (pBk_sx _ _ _ _ _ (Nat.zero_le _) ha)) (pBk_sk _ _ _ _ _ (Nat.zero_le _) ha) (LB.le (by omega) _ (pBk_lb _ _ _ _ _ (Nat.zero_le _) ha)) (pBk_ob _ _ _ _ _ (Nat.zero_le _) ha) (by omega) (by omega) (by omega) _ _ w2 _ _ hl hM0 rA h2 (fun w3 h3 => ?_)
  refine ws_text (c := 42) (by omega) hl (by decide) (by decide) k42 h3 (fun w4 h4 => ?_)
  rw [q0 w4 h4.1 42 (by decide), h42]
  refine sp_showBlock (vl := vlT T L) bkB hWb (SX.le (by omega) _ (pBk_sx _ _ _ _ _ hga.2.2.2.2.2 hbk)) (pBk_sk _ _ _ _ _ hga.2.2.2.2.2 hbk) (LB.le (by omega) _ (pBk_lb _ _ _ _ _ hga.2.2.2.2.2 hbk)) (pBk_ob _ _ _ _ _ hga.2.2.2.2.2 hbk) (by omega) (by omega) (by omega) _ _ w4 _ _ hl hM0 rB h4 (fun w5 h5 => ?_)
  obtain ⟨f5, P, hP, e⟩ := h5
  have e' : P = prB T L [] (sO s) := e
  subst e'
  exact h w5 (f0.tr f5) hP
end ModelPrint
