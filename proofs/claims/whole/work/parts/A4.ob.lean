/-! ===== statements as they are read, 2: blocks, lets, loops ===== -/
def OB (kd : Nat → Nat) (vl : Nat → Int) : Tr → Nat → Nat → Prop
  | .leaf, _, _ => True
  | .inner c t q l r, n, lt =>
    if c = 20 then stTag l ∧ OB kd vl l n lt ∧ OB kd vl r n (lt + (if tg l = 12 then 1 else 0)) ∧ (r = nl ∨ tg r = 20)
    else if c = 9 then OB kd vl l n lt ∧ OB kd vl r n lt ∧ tg l = 21 ∧ ((q = 0 ∧ r = nl) ∨ (q ≠ 0 ∧ tg r = 21))
    else if c = 21 then 1 ≤ n ∧ OB kd vl l (n - 1) lt ∧ (l = nl ∨ tg l = 20)
    else if c = 15 then OB kd vl r n lt ∧ tg r = 9
    else if c = 16 then OB kd vl l n lt ∧ tg l = 21 ∧ kd t = 3 ∧ vl t ≤ 100
    else if c = 12 then lt < 8
    else if c = 13 then kd (q - 1) = 46 ∨ kd (q - 1) = 45
    else True
section OBrows
variable {kd : Nat → Nat} {vl : Nat → Int} {t q n lt : Nat} {l r : Tr}
theorem OB20 : OB kd vl (nd 20 t q l r) n lt = (stTag l ∧ OB kd vl l n lt ∧ OB kd vl r n (lt + (if tg l = 12 then 1 else 0)) ∧ (r = nl ∨ tg r = 20)) := rfl
theorem OB9 : OB kd vl (nd 9 t q l r) n lt = (OB kd vl l n lt ∧ OB kd vl r n lt ∧ tg l = 21 ∧ ((q = 0 ∧ r = nl) ∨ (q ≠ 0 ∧ tg r = 21))) := rfl
theorem OB21 : OB kd vl (nd 21 t q l r) n lt = (1 ≤ n ∧ OB kd vl l (n - 1) lt ∧ (l = nl ∨ tg l = 20)) := rfl
theorem OB15 : OB kd vl (nd 15 t q l r) n lt = (OB kd vl r n lt ∧ tg r = 9) := rfl
theorem OB16 : OB kd vl (nd 16 t q l r) n lt = (OB kd vl l n lt ∧ tg l = 21 ∧ kd t = 3 ∧ vl t ≤ 100) := rfl
theorem OB12 : OB kd vl (nd 12 t q l r) n lt = (lt < 8) := rfl
theorem OB13 : OB kd vl (nd 13 t q l r) n lt = (kd (q - 1) = 46 ∨ kd (q - 1) = 45) := rfl
end OBrows
section PureOB
variable {kd : Nat → Nat} {vl : Nat → Int} {blk : Nat → Nat → Nat → PE (Tr × Nat × Nat)}
theorem pSt_ob {n : Nat} (hb : ∀ c l i q, c ≤ 120 → blk c l i = .ok q → OB kd vl q.1 n l) (hb2 : ∀ c l i q, c ≤ 120 → blk c l i = .ok q → GB c i q) {m c l i : Nat} {r : Q4} (h : pSt kd vl blk m c l i = .ok r) : OB kd vl r.1 n l ∧ r.2.2.2 = l + (if tg r.1 = 12 then 1 else 0) := by
  unfold pSt at h
  split at h
  · cases h
  rename_i hc
  split at h
  · obtain ⟨q, hq, rfl, hg, -⟩ := pSet_ok h
    exact ⟨trivial, rfl⟩
  split at h
  · obtain ⟨q, hq, rfl, hg, -, -, -, -, -, h8⟩ := pLet_ok h
    exact ⟨h8, rfl⟩
  split at h
  · obtain ⟨q, hq, rfl, hg, -, -, hk, -⟩ := pSend_ok h
    refine ⟨?_, rfl⟩
    show kd (q.2 + 1 - 1) = 46 ∨ kd (q.2 + 1 - 1) = 45
    rw [Nat.add_sub_cancel]; exact hk
  split at h
  · obtain ⟨q, hq, rfl, hg, -⟩ := pGive_ok h
    exact ⟨trivial, rfl⟩
  split at h
  · obtain ⟨q, b1, hq, hg, -, -, hb1, hr⟩ := pIf_ok h
    have g1 := hb2 _ _ _ _ (by omega) hb1
    have f5 := g1.2.2.2.2.2
    have s1 := hb _ _ _ _ (by omega) hb1
    obtain ⟨z1, y1, e1, e1'⟩ := g1.1
    have t1 : tg b1.1 = 21 := by rw [e1]; rfl
    rcases hr with ⟨-, b2, hb2', rfl, -⟩ | ⟨-, rfl⟩
    · have s2 := hb _ _ _ _ (by omega) hb2'
      obtain ⟨z2, y2, e2, -⟩ := (hb2 _ _ _ _ (by omega) hb2').1
      have t2 : tg b2.1 = 21 := by rw [e2]; rfl
      exact ⟨⟨⟨s1, s2, t1, Or.inr ⟨by omega, t2⟩⟩, rfl⟩, rfl⟩
    · exact ⟨⟨⟨s1, trivial, t1, Or.inl ⟨rfl, rfl⟩⟩, rfl⟩, rfl⟩
  split at h
  · obtain ⟨b1, hb1, rfl, -, k1, k2, -⟩ := pLoop_ok h
    obtain ⟨z1, y1, e1, -⟩ := (hb2 _ _ _ _ (by omega) hb1).1
    exact ⟨⟨hb _ _ _ _ (by omega) hb1, by rw [e1]; rfl, k1, k2⟩, rfl⟩
  · obtain ⟨rfl, -⟩ := pHalt_ok h
    exact ⟨trivial, rfl⟩
theorem pSL_ob {n : Nat} {st : Nat → Nat → Nat → PE Q4} (hs : ∀ c l i r, st c l i = .ok r → OB kd vl r.1 n l ∧ r.2.2.2 = l + (if tg r.1 = 12 then 1 else 0) ∧ stTag r.1) : ∀ (f c l i : Nat) (z : Tr × Nat × Nat), pSL kd st f c l i = .ok z → OB kd vl z.1 n l ∧ (z.1 = nl ∨ tg z.1 = 20)
  | 0, c, l, i, z, h => by cases h; exact ⟨trivial, Or.inl rfl⟩
  | f + 1, c, l, i, z, h => by
    rw [pSL] at h
    split at h
    · obtain ⟨q, hq, h⟩ := bnd_ok h
      obtain ⟨y, hy, h⟩ := bnd_ok h
      cases h
      obtain ⟨g1, g2, g3⟩ := hs _ _ _ _ hq
      obtain ⟨a1, a2⟩ := pSL_ob hs f _ _ _ y hy
      rw [g2] at a1
      exact ⟨⟨g3, g1, a1, a2⟩, Or.inr rfl⟩
    · cases h; exact ⟨trivial, Or.inl rfl⟩
theorem pBk_ob : ∀ (n c l i : Nat) (q : Tr × Nat × Nat), c ≤ 120 → pBk kd vl n c l i = .ok q → OB kd vl q.1 n l
  | 0, c, l, i, q, hc, h => by rw [pBk] at h; split at h <;> cases h
  | n + 1, c, l, i, q, hc, h => by
    rw [pBk] at h
    obtain ⟨i1, h1, h⟩ := bnd_ok h
    obtain ⟨z, h2, h⟩ := bnd_ok h
    obtain ⟨j, h3, h⟩ := bnd_ok h
    cases h
    obtain ⟨a1, a2⟩ := pSL_ob (n := n) (fun c l i r hr => by
      have h1 := pSt_ob (pBk_ob n) (pBk_gb n) hr
      have h2 := pSt_g2 (pBk_g3 n) (pBk_gb n) hr
      exact ⟨h1.1, h1.2, h2.2.1⟩) 121 c l i1 z h2
    exact ⟨Nat.succ_le_succ (Nat.zero_le _), a1, a2⟩
end PureOB
/-! ===== the model judges: NAMES behind a frame ===== -/
section EnMk
variable {w w' : Wd} {T : Nat → Int} {L m s s' lo hi n n0 : Nat} {E1 E2 : List En}
theorem EnM.fk (h : EnM m w E1 E2) (hf : FMk w w' s s' lo hi n) (h0 : n0 ≤ n) (h1 : n0 ≤ E2.length) (h50 : w' 0 50 = (n0 : Int)) : EnM m w' E1 (E2.take n0) := by
  obtain ⟨a1, a2, ⟨nn, a3, a4, a5, a6⟩, a7, a8, a9⟩ := h
  have hl : (E2.take n0).length = n0 := by rw [List.length_take]; omega
  refine ⟨a1, ?_, ⟨nn, by rw [hf.2.1 20 (by decide) (by decide) (by decide) (by decide) (by decide) (by decide)]; exact a3, a4, a5, by rw [hf.1 36 (by decide)]; exact a6⟩, by rw [hl]; exact h50, by rw [hl]; omega, fun k e he => ?_⟩
  · rw [hf.1 36 (by decide), hf.1 10 (by decide), hf.1 11 (by decide), hf.1 12 (by decide)]
    exact a2
  · have hk : k < n0 := by
      have := (List.getElem?_eq_some_iff.mp he).1
      omega
    rw [List.getElem?_take_of_lt hk] at he
    obtain ⟨b1, b2, b3, b4, b5⟩ := a9 k e he
    obtain ⟨c1, c2⟩ := hf.2.2.2.2 k (by omega)
    exact ⟨b1, b2, by rw [c1]; exact b3, by rw [c2]; exact b4, b5⟩
theorem EnM.fk0 (h : EnM m w E1 E2) (hf : FMk w w' s s' lo hi E2.length) (h50 : w' 0 50 = (E2.length : Int)) : EnM m w' E1 E2 := by
  have := h.fk (n0 := E2.length) hf (Nat.le_refl _) (Nat.le_refl _) h50
  rwa [List.take_of_length_le (Nat.le_refl _)] at this
theorem EnM.u24 {x : Nat} {v : Int} (h : EnM m w E1 E2) : EnM m (up w 24 x v) E1 E2 := by
  obtain ⟨a1, a2, ⟨nn, a3, a4, a5, a6⟩, a7, a8, a9⟩ := h
  refine ⟨a1, ?_, ⟨nn, by rw [up_o (by decide)]; exact a3, a4, a5, by rw [up_o (by decide)]; exact a6⟩, by rw [up_o (by decide)]; exact a7, a8, by rw [up_o (by decide), up_o (by decide)]; exact a9⟩
  rw [up_o (by decide), up_o (by decide), up_o (by decide), up_o (by decide)]
  exact a2
theorem FMk.u24 {x : Nat} {v : Int} (hx : s ≤ x ∧ x < s') (h4 : w 17 x ≠ 4) : FMk w (up w 24 x v) s s' lo hi n := by
  refine ⟨(Fx.rf _ w).up (by decide), fun b _ _ _ _ _ _ => by rw [up_o (by decide)], fun y hy => ?_, fun y _ => ⟨by rw [up_o (by decide)], by rw [up_o (by decide)]⟩, fun y _ => ⟨by rw [up_o (by decide)], by rw [up_o (by decide)]⟩⟩
  rw [up_k]
  rintro rfl
  rcases hy with z | z | z
  · omega
  · omega
  · exact h4 z
theorem KyM.u24 {x k : Nat} {v : Int} (h : KyM w k) : KyM (up w 24 x v) k := by
  unfold KyM at *
  rw [up_o (by decide)]
  exact h
theorem KyM.same {k : Nat} (h : KyM w k) (h46 : w' 0 46 = w 0 46) (h47 : w' 0 47 = w 0 47) : KyM w' k := by
  unfold KyM at *
  rw [h46, h47]
  exact h
end EnMk
