/-! ===== the class against the model: between two calls ===== -/
def TpI (wc wm : Wd) : Prop := ∃ t : Nat, t ≤ 4000 ∧ wc 0 1 = (t : Int) ∧ wm 0 3 = (t : Int) ∧ ∀ i, i < t → wc 1 i = wm 2 i
/-- the latest FAULT -/
def FlI (wc wm : Wd) : Prop := ∃ L : Nat, L ≤ 4000 ∧ wc 2 1 = (L : Int) ∧ ((wc 25 2 = 0 ∧ wc 25 4 = 0 ∧ wm 0 55 = -2 ∧ wm 0 56 = -2) ∨ ∃ p : Nat, p ≤ L ∧ ((wc 25 2 ≠ 0 ∧ wc 25 3 = (p : Int)) ∨ (wc 25 2 = 0 ∧ wc 25 4 ≠ 0 ∧ wc 25 5 = (p : Int))) ∧ wm 0 55 = (p : Int) ∧ wm 0 56 = ((lnF (wc 3) p : Nat) : Int))
def BaI (wc wm : Wd) : Prop := TpI wc wm ∧ wc 3 = wm 3 ∧ ClB wc ∧ FlI wc wm
def BdI (wc wm : Wd) : Prop := wc 8 2 = 0 ∧ wm 0 43 = 0 ∧ wm 0 20 = 0 ∧ wm 0 31 = 0 ∧ ∀ k, k < 5 → wm 16 k = 0
/-- a program stands in both -/
def Gd (T : Nat → Int) (L m : Nat) (D : DE) (a0 a1 : Tr) (s1 l1 : Nat) (wc wm : Wd) : Prop := PgK T L (m + 1) D a0 a1 wc ∧ PgN T L m D a0 a1 s1 l1 wm ∧ wc 8 2 = 1 ∧ wm 0 43 = 1 ∧ (∀ s, s < 4 → wc 18 s = ((cntE s (enD D) : Nat) : Int)) ∧ wc 8 3 = wm 0 31 ∧ (∃ P : List Int, PRc wc P ∧ PRm wm P) ∧ TxC T L wc ∧ EC T L wc (enD D) ∧ kyT T L (enD D) (enD D).length = 100000 ∧ VS wc D ∧ DOK D ∧ ∀ e ∈ D, e.1.1 ≤ m
def Inv (wc wm : Wd) : Prop := BaI wc wm ∧ ∃ n na, GrR wc wm n na ∧ ((BdI wc wm ∧ wc 43 11 = 0 ∧ wm 0 64 = 0) ∨ ∃ T L m D a0 a1 s1 l1, Gd T L m D a0 a1 s1 l1 wc wm ∧ ((wc 43 11 = 0 ∧ wm 0 64 = 0) ∨ (wc 43 11 = 1 ∧ wm 0 64 = 1 ∧ ∃ k kq, RuR D n k kq wc wm)))
/-- the model answers x and comes to a world that is like wc' -/
abbrev Bo (JM : Jm) (am : List AV) (wm wc' : Wd) (x : Int) : Prop := ∀ (gm : Mg) (dM : Nat) (Kx : Ou → Wd → Prop), 1112 ≤ dM → (∀ wm', Inv wc' wm' → Kx (.inl (some (vI x))) wm') → Cal gm LM JM dM am wm Kx
section InvS
variable {T : Nat → Int} {L m j : Nat} {D : DE} {a0 a1 : Tr} {s1 l1 n na k kq : Nat} {wc wc' wm wm' : Wd}
theorem TpI.f (h : TpI wc wm) (h0 : wc' 0 = wc 0) (h1 : wc' 1 = wc 1) (h3 : wm' 0 3 = wm 0 3) (h2 : wm' 2 = wm 2) : TpI wc' wm' := by
  unfold TpI at *
  rw [h0, h1, h3, h2]; exact h
theorem FlI.f (h : FlI wc wm) (h2 : wc' 2 = wc 2) (h3 : wc' 3 = wc 3) (h25 : wc' 25 = wc 25) (h55 : wm' 0 55 = wm 0 55) (h56 : wm' 0 56 = wm 0 56) : FlI wc' wm' := by
  unfold FlI at *
  rw [h2, h3, h25, h55, h56]; exact h
theorem BaI.f (h : BaI wc wm) (hc : FrC wc wc') (hm : FrM wm wm') : BaI wc' wm' := by
  obtain ⟨b1, b2, b3, b4⟩ := h
  refine ⟨b1.f (hc.1 0 (by decide)) (hc.1 1 (by decide)) (hm.2 3 (by decide) (by decide)) (hm.1 2 (by decide)), ?_, ?_, b4.f (hc.1 2 (by decide)) (hc.1 3 (by decide)) (hc.1 25 (by decide)) (hm.2 55 (by decide) (by decide)) (hm.2 56 (by decide) (by decide))⟩
  · rw [hc.1 3 (by decide), hm.1 3 (by decide)]; exact b2
  · unfold ClB at *
    rw [hc.1 29 (by decide)]; exact b3
theorem BdI.f (h : BdI wc wm) (hc : FrC wc wc') (hm : FrM wm wm') : BdI wc' wm' := by
  unfold BdI at *
  rw [hc.1 8 (by decide), hm.2 43 (by decide) (by decide), hm.2 20 (by decide) (by decide), hm.2 31 (by decide) (by decide), hm.1 16 (by decide)]
  exact h
theorem VS.f (h : VS wc D) (h9 : wc' 9 = wc 9) (h10 : wc' 10 = wc 10) (h11 : wc' 11 = wc 11) : VS wc' D := by
  intro e he
  obtain ⟨a, b, c⟩ := h e he
  refine ⟨a, b, fun z => ?_⟩
  rw [← c z]
  rcases vcl_9 e.1.2.1 with q | q | q
  · rw [q, h9]
  · rw [q, h10]
  · rw [q, h11]
theorem TxC.f (h : TxC T L wc) (hc : ∀ o, 2 ≤ o → o ≤ 7 → wc' o = wc o) : TxC T L wc' := by
  unfold TxC Toks TokE at *
  rw [hc 2 (by decide) (by decide), hc 3 (by decide) (by decide), hc 4 (by decide) (by decide), hc 5 (by decide) (by decide), hc 6 (by decide) (by decide), hc 7 (by decide) (by decide)]
  exact h
theorem EC.f {E : List En} (h : EC T L wc E) (hc : ∀ o, 13 ≤ o → o ≤ 17 → wc' o = wc o) : EC T L wc' E := by
  unfold EC at *
  rw [hc 13 (by decide) (by decide), hc 14 (by decide) (by decide), hc 15 (by decide) (by decide), hc 16 (by decide) (by decide), hc 17 (by decide) (by decide)]
  exact h
theorem Gd.fr (h : Gd T L m D a0 a1 s1 l1 wc wm) (hc : ∀ o, 2 ≤ o → o < 31 → wc' o = wc o) (hm : ∀ o, 3 ≤ o → o ≤ 37 → wm' o = wm o) (h0 : ∀ b, (b = 20 ∨ b = 31 ∨ b = 41 ∨ b = 42 ∨ b = 43 ∨ b = 58) → wm' 0 b = wm 0 b) : Gd T L m D a0 a1 s1 l1 wc' wm' := by
  obtain ⟨d1, d2, d3, d4, d5, d6, ⟨P, d7, d8⟩, d9, d10, d11, d12, d13⟩ := h
  refine ⟨?_, d2.fr (fun o p q => hm o p (by omega)) (fun b hb => h0 b (by omega)), by rw [hc 8 (by decide) (by decide)]; exact d3, by rw [h0 43 (by decide)]; exact d4, by rw [hc 18 (by decide) (by decide)]; exact d5, by rw [hc 8 (by decide) (by decide), h0 31 (by decide)]; exact d6, ⟨P, ?_, ?_⟩, d9.f (fun o p q => hc o p (by omega)), d10.f (fun o p q => hc o (by omega) (by omega)), d11, d12.f (hc 9 (by decide) (by decide)) (hc 10 (by decide) (by decide)) (hc 11 (by decide) (by decide)), d13⟩
  · -- the class's program
    obtain ⟨p1, p4, p5, p6, p7, p8, p9, p10, p11⟩ := d1
    have bk : ∀ {a : Tr} {pc : Nat}, BkC T L (m + 1) a (enD D) wc pc → BkC T L (m + 1) a (enD D) wc' pc := by
      intro a pc hb
      obtain ⟨b1, b2, b3, b4, b5, b6, ⟨h_, h2, b7⟩, b8, b9⟩ := hb
      exact ⟨b1, b2, b3, b4, b5, b6, ⟨h_, h2, b7.fx (fun o p q => hc o (by omega) (by omega))⟩, by rw [hc 19 (by decide) (by decide)]; exact b8, b9⟩
    refine ⟨p1, p4, p5, ?_, ?_, bk p8, bk p9, by rw [hc 8 (by decide) (by decide)]; exact p10, by rw [hc 8 (by decide) (by decide)]; exact p11⟩
    · unfold WyR at *
      rw [hc 10 (by decide) (by decide), hc 11 (by decide) (by decide)]; exact p6
    · unfold WyK at *
      rw [hc 10 (by decide) (by decide), hc 11 (by decide) (by decide)]; exact p7
  · unfold PRc at *
    rw [hc 8 (by decide) (by decide), hc 12 (by decide) (by decide)]; exact d7
  · unfold PRm at *
    rw [h0 58 (by decide), hm 37 (by decide) (by decide)]; exact d8
theorem Gd.f (h : Gd T L m D a0 a1 s1 l1 wc wm) (hc : FrC wc wc') (hm : FrM wm wm') : Gd T L m D a0 a1 s1 l1 wc' wm' := h.fr (fun o _ q => hc.1 o (by omega)) (fun o p q => hm.1 o (by simp; omega)) (fun b hb => hm.2 b (by omega) (by omega))
theorem FrM.t (wm : Wd) (x : Int) : FrM wm (up wm 0 0 x) := ⟨(Fx.rf _ wm).up (by decide), fun b h _ => up_k h⟩
theorem RuR.t {x : Int} (h : RuR D n k kq wc wm) : RuR D n k kq wc (up wm 0 0 x) := h.cm (fun o p _ => up_o (by omega)) (fun b p _ => up_k (by omega))
theorem Inv.t {x : Int} (h : Inv wc wm) : Inv wc (up wm 0 0 x) := by
  obtain ⟨h1, n, na, h2, h3⟩ := h
  have fm := FrM.t wm x
  have fc := FrC.rf wc
  have e64 : up wm 0 0 x 0 64 = wm 0 64 := up_k (by decide)
  refine ⟨h1.f fc fm, n, na, h2.f fc fm, ?_⟩
  rw [e64]
  rcases h3 with ⟨a, b⟩ | ⟨T, L, m, D, a0, a1, s1, l1, a, b⟩
  · exact Or.inl ⟨a.f fc fm, b⟩
  · refine Or.inr ⟨T, L, m, D, a0, a1, s1, l1, a.f fc fm, ?_⟩
    rcases b with b | ⟨b1, b2, k, kq, b3⟩
    · exact Or.inl b
    · exact Or.inr ⟨b1, b2, k, kq, b3.t⟩
/-- an answer that changes nothing -/
theorem Bo.same {JM : Jm} {am : List AV} {x : Int} (hI : Inv wc wm) (h : ∀ (gm : Mg) (dM : Nat) (Kx : Ou → Wd → Prop), 1112 ≤ dM → Kx (.inl (some (vI x))) (up wm 0 0 0) → Cal gm LM JM dM am wm Kx) : Bo JM am wm wc x := fun gm dM Kx hd hK => h gm dM Kx hd (hK _ hI.t)
end InvS
