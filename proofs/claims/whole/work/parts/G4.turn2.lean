/-! ===== a TURN in both ===== -/
def PgK (T : Nat → Int) (L j : Nat) (D : DE) (a0 a1 : Tr) (wc : Wd) : Prop := L ≤ 4000 ∧ EV (enD D) ∧ (cntE 4 (enD D) = 0 ∧ cntE 1 (enD D) ≤ 8 ∧ cntE 2 (enD D) ≤ 4 ∧ cntE 3 (enD D) ≤ 4) ∧ WyR D (enD D) wc ∧ WyK (enD D) wc ∧ BkC T L j a0 (enD D) wc 0 ∧ BkC T L j a1 (enD D) wc (nK a0 + 1) ∧ wc 8 4 = 0 ∧ wc 8 5 = ((nK a0 + 1 : Nat) : Int)
def PgN (T : Nat → Int) (L m : Nat) (D : DE) (a0 a1 : Tr) (s1 l1 : Nat) (wm : Wd) : Prop := TxM T L m wm ∧ TD (kdT T L) wm D ∧ BkM T L m a0 (enD D) wm 0 0 ∧ BkM T L m a1 (enD D) wm s1 l1 ∧ wm 0 41 = bf_ a0 0 ∧ wm 0 42 = bf_ a1 s1 ∧ nE a0 ≤ 1000 ∧ nE a1 ≤ 1000
def FrC (wc wc' : Wd) : Prop := (∀ o, o < 43 → wc' o = wc o) ∧ wc' 43 11 = wc 43 11
def FrM (wm wm' : Wd) : Prop := Fx [0, 1, 41, 42, 43, 44, 45, 46, 47, 48, 49, 50, 51, 52, 53] wm wm' ∧ ∀ b, b ≠ 0 → b < 65 → wm' 0 b = wm 0 b
section Turn2
variable {T : Nat → Int} {L m j : Nat} {D : DE} {a0 a1 : Tr} {s1 l1 n na k kq : Nat} {wc wc' wm wm' : Wd}
theorem FrC.tr {a b c : Wd} (h1 : FrC a b) (h2 : FrC b c) : FrC a c := ⟨fun o p => (h2.1 o p).trans (h1.1 o p), h2.2.trans h1.2⟩
theorem FrM.tr {a b c : Wd} (h1 : FrM a b) (h2 : FrM b c) : FrM a c := ⟨h1.1.tr h2.1, fun b p q => (h2.2 b p q).trans (h1.2 b p q)⟩
theorem FrM.rf (a : Wd) : FrM a a := ⟨Fx.rf _ a, fun _ _ _ => rfl⟩
theorem FrC.rf (a : Wd) : FrC a a := ⟨fun _ _ => rfl, rfl⟩
theorem PgK.fr (h : PgK T L j D a0 a1 wc) (hf : ∀ o, o < 31 → wc' o = wc o) : PgK T L j D a0 a1 wc' := by
  obtain ⟨p1, p4, p5, p6, p7, p8, p9, p10, p11⟩ := h
  have bk : ∀ {a : Tr} {pc : Nat}, BkC T L j a (enD D) wc pc → BkC T L j a (enD D) wc' pc := by
    intro a pc hb
    obtain ⟨b1, b2, b3, b4, b5, b6, ⟨h_, h2, b7⟩, b8, b9⟩ := hb
    exact ⟨b1, b2, b3, b4, b5, b6, ⟨h_, h2, b7.fx (fun o p q => hf o (by omega))⟩, by rw [hf 19 (by decide)]; exact b8, b9⟩
  refine ⟨p1, p4, p5, ?_, ?_, bk p8, bk p9, by rw [hf 8 (by decide)]; exact p10, by rw [hf 8 (by decide)]; exact p11⟩
  · unfold WyR at *
    rw [hf 10 (by decide), hf 11 (by decide)]; exact p6
  · unfold WyK at *
    rw [hf 10 (by decide), hf 11 (by decide)]; exact p7
theorem PgN.fr (h : PgN T L m D a0 a1 s1 l1 wm) (hf : ∀ o, 3 ≤ o → o ≤ 33 → wm' o = wm o) (h0 : ∀ b, (b = 20 ∨ b = 41 ∨ b = 42) → wm' 0 b = wm 0 b) : PgN T L m D a0 a1 s1 l1 wm' := by
  obtain ⟨p1, p2, p3, p4, p5, p6, p7, p8⟩ := h
  have bk : ∀ {a : Tr} {s lo : Nat}, BkM T L m a (enD D) wm s lo → BkM T L m a (enD D) wm' s lo := by
    intro a s lo hb
    obtain ⟨b1, b2, b3, b4, b5, b6, b7, b8, b9, b10, b11⟩ := hb
    exact ⟨b1, b2, b3, b4, b5, b6, b7, b8, b9, SR.cgA a s lo b2 b10 (fun x _ _ o p q => by rw [hf o (by omega) (by omega)]) (fun x _ _ o p q => by rw [hf o (by omega) (by omega)]), JS.congr a (enD D) s lo b2 b11 (fun x p q => by rw [hf 24 (by decide) (by decide)]) (fun x p q => ⟨by rw [hf 32 (by decide) (by decide)], by rw [hf 33 (by decide) (by decide)]⟩)⟩
  exact ⟨p1.cg (fun o p q => hf o (by omega) (by omega)), p2.cg (h0 20 (by decide)) (fun o p q => hf o (by omega) (by omega)), bk p3, bk p4, by rw [h0 41 (by decide)]; exact p5, by rw [h0 42 (by decide)]; exact p6, p7, p8⟩
theorem PgN.f (h : PgN T L m D a0 a1 s1 l1 wm) (hf : FrM wm wm') : PgN T L m D a0 a1 s1 l1 wm' := h.fr (fun o p q => hf.1 o (by simp; omega)) (fun b hb => hf.2 b (by omega) (by omega))
theorem GrK.fr (h : GrK wc n na) (hf : ∀ o, 31 ≤ o → o < 43 → wc' o = wc o) : GrK wc' n na := by
  unfold GrK at *
  rw [hf 31 (by decide) (by decide), hf 32 (by decide) (by decide), hf 33 (by decide) (by decide), hf 35 (by decide) (by decide), hf 36 (by decide) (by decide), hf 37 (by decide) (by decide), hf 38 (by decide) (by decide), hf 39 (by decide) (by decide), hf 40 (by decide) (by decide), hf 41 (by decide) (by decide), hf 42 (by decide) (by decide)]
  exact h
theorem GrR.f (h : GrR wc wm n na) (hc : FrC wc wc') (hm : FrM wm wm') : GrR wc' wm' n na := by
  obtain ⟨g1, g2, g3, g4, g5⟩ := h
  refine ⟨g1.fr (fun o p q => hc.1 o q), by rw [hm.2 59 (by decide) (by decide)]; exact g2, by rw [hm.2 60 (by decide) (by decide)]; exact g3, ?_, by rw [hc.1 34 (by decide)]; exact g5⟩
  rw [hm.1 38 (by decide), hm.1 39 (by decide), hm.1 40 (by decide), hc.1 32 (by decide), hc.1 33 (by decide), hc.1 34 (by decide)]
  exact g4
theorem pgr_of (hK : PgK T L j D a0 a1 wc) (hN : PgN T L m D a0 a1 s1 l1 wm) : PgR T L m j D a0 a1 s1 l1 wc wm := by
  obtain ⟨p1, p4, p5, p6, p7, p8, p9, p10, p11⟩ := hK
  obtain ⟨q1, q2, q3, q4, q5, q6, q7, q8⟩ := hN
  exact ⟨p1, q1, q2, p4, p5, p6, p7, p8, p9, p10, p11, q3, q4, q5, q6, q7, q8⟩
/-- the RUN behind a TURN that was done -/
theorem ru_next {w5 w' wm5 wm' wm'' : Wd} {a : Tr} {pc : Nat} (hRg : RgC wc) (hK : PgK T L j D a0 a1 wc) (hG : GrR wc wm n na) (hR : RuR D n k kq wc wm) (hB : BkC T L j a (enD D) wc pc) (hFo : FoK (moA ((k + 1) % 8)) (moB k 0) wc w5) (hT : TC (moA ((k + 1) % 8)) (cntE 1 (enD D)) (FC T L wc (moB k 0) a (enD D)) (actC wc (moB k 0)) w5 w' n) (hb : BgM wm wm5) (hTm : TnM D (cntE 1 (enD D)) (FC T L wc (moB k 0) a (enD D)) (actC wc (moB k 0)) wm5 wm' n) (hEd : EdM kq wm' wm'') {x : Int} (hx : x = wr (wc 43 12 + 1)) (hw : wc' = up (up (up w' 43 6 ((sumT (FC T L wc (moB k 0) a (enD D)) (actC wc (moB k 0)) n : Nat) : Int)) 43 4 (((k + 1) % 8 : Nat) : Int)) 43 12 (if 6 < x then 6 else x)) : RuR D n ((k + 1) % 8) (if kq = 6 then 6 else kq + 1) wc' wm'' := by
  obtain ⟨p1, p4, ⟨c4, c1, c2, c3⟩, p6, p7, -⟩ := hK
  obtain ⟨r1, r2, r3, r4, r5, r6, r7, ⟨r8a, r8b, r8c, r8d⟩, r9, r10, r11, r12⟩ := hR
  have hma : isMo (moA ((k + 1) % 8)) := ⟨_, Nat.mod_lt _ (by decide), rfl⟩
  have ra := mo_rng hma
  have hM := mr_next p1 hRg p4 c1 c2 c3 hma moB_mo p6 p7 r10 hG.1 hB hFo hT hb hTm hEd
  obtain ⟨-, -, ht⟩ := nr_next p1 hRg p4 c2 c3 hma moB_mo p6 p7 r10 hG.1 hB hFo hT hb hTm
  obtain ⟨t1, -⟩ := hT
  obtain ⟨m1, m2, m3, m4, m5, m6⟩ := hTm
  obtain ⟨d1, d2, d3, d4, d5, d6, d7, d8, d9⟩ := hEd
  have hn : n ≤ 40 := hG.1.2.2.2.1
  have cu : ∀ o, o ≠ 43 → wc' o = w' o := fun o ho => by rw [hw, up_o ho, up_o ho, up_o ho]
  have c43 : ∀ b, b ≠ 4 → b ≠ 6 → b ≠ 12 → wc' 43 b = wc 43 b := fun b h1 h2 h3 => by rw [hw, up_k h3, up_k h1, up_k h2, t1.1 43 (by decide), hFo.1 43 (by decide) (by omega)]
  have old : ∀ i, i ≤ 6 → ∀ z, z ≤ 6 → wc' (moB k i + z) = wc (moB k i + z) := by
    intro i hi z hz
    have hne := moB_ne (k := k) (i := i) r1 hi
    have rb := mo_rng (moB_mo (k := k) (i := i))
    rw [cu _ (by omega), t1.2.1 _ (by omega) (by omega) (by omega), hFo.1 _ (by omega) (by omega)]
  have m0 : ∀ b, b ≠ 66 → b ≠ 78 → b ≠ 85 → b < 84 → wm'' 0 b = wm 0 b := fun b h1 h2 h3 h4 => by rw [d2 b h1 h2 h3, m1.2 b (Or.inl h4), hb.2.1 b (by omega)]
  have hx2 : x = ((kq + 1 : Nat) : Int) := by rw [hx, r4, wr_n1 (by omega)]
  have e51 : wm' 51 = wm 51 := by rw [m1.1 51 (by decide), hb.1 51 (by decide)]
  have e52 : ∀ y, y < 688 → wm' 52 y = svF wm y := fun y hy => by rw [m1.1 52 (by decide)]; exact hb.2.2.2.2.2 y hy
  refine ⟨Nat.mod_lt _ (by decide), by split <;> omega, ?_, ?_, ?_, ?_, ?_, ⟨?_, ?_, ?_, ?_⟩, ?_, ?_, fun i h1 h2 => ?_, fun i hi => ?_⟩
  · rw [hw, up_k (by decide), up_s]
  · rw [hw, up_s, hx2]
    by_cases z : kq = 6
    · rw [if_pos z, if_pos (by omega)]; rfl
    · rw [if_neg z, if_neg (by omega)]
  · exact d5
  · rw [c43 5 (by decide) (by decide) (by decide), m0 65 (by decide) (by decide) (by decide) (by decide)]; exact r6
  · rw [hw, up_k (by decide), up_k (by decide), up_s, d4, m5]
  · rw [c43 7 (by decide) (by decide) (by decide), m0 80 (by decide) (by decide) (by decide) (by decide)]; exact r8a
  · rw [c43 8 (by decide) (by decide) (by decide), m0 81 (by decide) (by decide) (by decide) (by decide)]; exact r8b
  · rw [c43 9 (by decide) (by decide) (by decide), m0 82 (by decide) (by decide) (by decide) (by decide)]; exact r8c
  · rw [c43 10 (by decide) (by decide) (by decide), m0 83 (by decide) (by decide) (by decide) (by decide)]; exact r8d
  · rw [moB_s0 r1, cu _ (by omega), ht, d3, m1.2 66 (by decide), hb.2.1 66 (by decide), r9]
  · rw [moB_s0 r1]
    exact hM.cg hn c1 c2 c3 (fun z hz => cu _ (by omega)) (fun _ _ => rfl)
  · obtain ⟨i, rfl⟩ : ∃ i', i = i' + 1 := ⟨i - 1, by omega⟩
    have hi6 : i ≤ 5 := by split at h2 <;> omega
    rw [moB_s r1 (by omega)]
    by_cases z : i = 0
    · subst z
      refine r10.cg hn c1 c2 c3 (fun z hz => old 0 (by decide) z hz) (fun y hy => ?_)
      have e : (if kq = 6 then 6 else kq + 1) - (0 + 1) = (if kq = 6 then 5 else kq) := by split <;> rfl
      show wm'' 51 (700 * ((if kq = 6 then 6 else kq + 1) - (0 + 1)) + y) = svF wm y
      rw [e, d8 y (by omega), e52 y hy]
    · have hik : i ≤ kq := by split at h2 <;> omega
      refine (r11 i (by omega) hik).cg hn c1 c2 c3 (fun z hz => old i (by omega) z hz) (fun y hy => ?_)
      show wm'' 51 (700 * ((if kq = 6 then 6 else kq + 1) - (i + 1)) + y) = wm 51 (700 * (kq - i) + y)
      by_cases z6 : kq = 6
      · subst z6
        have := d9 (700 * (6 - (i + 1)) + y) (by rw [if_pos rfl]; omega)
        rw [if_pos rfl] at this ⊢
        rw [this, e51]
        congr 1
        omega
      · have := d9 (700 * (kq + 1 - (i + 1)) + y) (by rw [if_neg z6]; omega)
        rw [if_neg z6] at this ⊢
        rw [this, e51]
        congr 1
        omega
  · by_cases z : i = 0
    · subst z
      rw [moB_s0 r1, moB_s r1 (by decide), cu _ (by omega), ht]
      have this : wc' (moB k 0) = wc (moB k 0) := old 0 (by decide) 0 (by decide)
      rw [this]
    · obtain ⟨i, rfl⟩ : ∃ i', i = i' + 1 := ⟨i - 1, by omega⟩
      have hi5 : i + 1 < 6 := by split at hi <;> omega
      have hik : i < kq := by split at hi <;> omega
      rw [moB_s r1 (by omega), moB_s r1 (by omega)]
      have o1 : wc' (moB k i) = wc (moB k i) := old i (by omega) 0 (by decide)
      have o2 : wc' (moB k (i + 1)) = wc (moB k (i + 1)) := old (i + 1) (by omega) 0 (by decide)
      rw [o1, o2]
      exact r12 i hik
end Turn2
