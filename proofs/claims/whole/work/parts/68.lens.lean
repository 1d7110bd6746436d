/-! ===== statements: how many deeds, how the NAMES grow; small steps of the state ===== -/
section Lens
variable {T : Nat → Int} {L : Nat} {vl : Nat → Int}
/-- as many deeds as are counted -/
def LenOK (T : Nat → Int) (L : Nat) (a : Tr) : Prop := ∀ E s lp h, (cmS T L a E s lp h).length = nK a
theorem len_nl : LenOK T L nl := fun _ _ _ _ => rfl
theorem len_21 {i z : Nat} {a r : Tr} (h : LenOK T L a) : LenOK T L (nd 21 i z a r) := fun E s lp hm => by
  have e : cmS T L (nd 21 i z a r) E s lp hm = cmS T L a E s lp hm := rfl
  rw [e, h]; rfl
theorem len_20 {i z : Nat} {a r : Tr} (h : LenOK T L a) (h2 : LenOK T L r) : LenOK T L (nd 20 i z a r) := fun E s lp hm => by
  have e : cmS T L (nd 20 i z a r) E s lp hm = (19, 0, 0, ((tAt T L (fsS a) : Nat) : Int)) :: (cmS T L a E (s + 1) lp ((tAt T L (fsS a) : Nat) : Int) ++ cmS T L r (eSt T L E a) (s + 1 + nK a) lp hm) := rfl
  have e2 : nK (nd 20 i z a r) = 1 + nK a + nK r := rfl
  rw [e, List.length_cons, List.length_append, h, h2, e2]; omega
theorem len_16 {i z : Nat} {a : Tr} (h : LenOK T L a) : LenOK T L (nd 16 i z a nl) := fun E s lp hm => by
  have e : cmS T L (nd 16 i z a nl) E s lp hm = (22, tVl T L (tAt T L i), (lp : Int), hm) :: (23, ((s + 2 + nK a + 1 : Nat) : Int), (lp : Int), hm) :: (cmS T L a E (s + 2) (lp + 1) hm ++ [(21, ((s + 1 : Nat) : Int), 0, hm)]) := rfl
  have e2 : nK (nd 16 i z a nl) = nK a + 3 := rfl
  rw [e, List.length_cons, List.length_cons, List.length_append, h, e2]; rfl
theorem len_9 {i z : Nat} {a r : Tr} (h : LenOK T L a) (h2 : LenOK T L r) : LenOK T L (nd 9 i z a r) := fun E s lp hm => by
  have e : cmS T L (nd 9 i z a r) E s lp hm = cmS T L a E s lp hm ++ (if z = 0 then [] else (21, ((s + nK a + 1 + nK r : Nat) : Int), 0, hm) :: cmS T L r E (s + nK a + 1) lp hm) := rfl
  have e2 : nK (nd 9 i z a r) = nK a + (if z = 0 then 0 else 1 + nK r) := rfl
  rw [e, List.length_append, h, e2]
  split
  · rfl
  · rw [List.length_cons, h2]; omega
theorem len_15 {i z : Nat} {a r : Tr} (h : WE a) (h2 : LenOK T L r) : LenOK T L (nd 15 i z a r) := fun E s lp hm => by
  have e : cmS T L (nd 15 i z a r) E s lp hm = hX T L E a s hm ++ ((20, ((s + nD a + 1 + lK r : Nat) : Int), 0, hm) :: cmS T L r E (s + nD a + 1) lp hm) := rfl
  have e2 : nK (nd 15 i z a r) = nD a + 1 + nK r := rfl
  rw [e, List.length_append, hX_len h, List.length_cons, h2, e2]; omega
theorem len_11 {i z : Nat} {a : Tr} (h : WE a) : LenOK T L (nd 11 i z a nl) := fun E s lp hm => by rw [cS11, List.length_append, hX_len h]; rfl
theorem len_12 {i z : Nat} {a : Tr} (h : WE a) : LenOK T L (nd 12 i z a nl) := fun E s lp hm => by rw [cS12, List.length_append, hX_len h]; rfl
theorem len_14 {i z : Nat} {a : Tr} (h : WE a) : LenOK T L (nd 14 i z a nl) := fun E s lp hm => by rw [cS14, List.length_append, hX_len h]; rfl
theorem len_13 {i z : Nat} {a : Tr} (h : WE a) : LenOK T L (nd 13 i z a nl) := fun E s lp hm => by
  rw [cS13, List.length_cons, List.length_append, hX_len h]; rfl
theorem len_17 {i z : Nat} : LenOK T L (nd 17 i z nl nl) := fun E s lp hm => rfl
/-- a statement: deeds counted, lets as the NAMES say -/
def SO (T : Nat → Int) (L : Nat) (E : List En) (q : Q4) : Prop := LenOK T L q.1 ∧ q.2.2.2 = cntE 4 (eSt T L E q.1) ∧ ∃ X, eSt T L E q.1 = E ++ X
theorem eSt_n {c t q : Nat} {l r : Tr} {E : List En} (h : c ≠ 12) : eSt T L E (nd c t q l r) = E := by simp [eSt, h]
theorem pSt_so {blk : Nat → Nat → Nat → PE (Tr × Nat × Nat)} (hb : ∀ c l i q, blk c l i = .ok q → LenOK T L q.1) {m c i : Nat} {E : List En} {r : Q4} (h : pSt (kdT T L) vl blk m c (cntE 4 E) i = .ok r) : SO T L E r := by
  unfold pSt at h
  split at h
  · cases h
  split at h
  · obtain ⟨q, -, rfl, hg, -⟩ := pSet_ok h
    exact ⟨len_11 hg.2.1, by rw [eSt_n (by decide)], [], by rw [eSt_n (by decide), List.append_nil]⟩
  split at h
  · obtain ⟨q, -, rfl, hg, -⟩ := pLet_ok h
    refine ⟨len_12 hg.2.1, ?_, [(i + 1, 4, cntE 4 E, (knT T L E false q.1).toNat)], rfl⟩
    show cntE 4 E + 1 = cntE 4 (E ++ [(i + 1, 4, cntE 4 E, (knT T L E false q.1).toNat)])
    rw [cnt_app]; simp
  split at h
  · obtain ⟨q, -, rfl, hg, -⟩ := pSend_ok h
    exact ⟨len_13 hg.2.1, by rw [eSt_n (by decide)], [], by rw [eSt_n (by decide), List.append_nil]⟩
  split at h
  · obtain ⟨q, -, rfl, hg, -⟩ := pGive_ok h
    exact ⟨len_14 hg.2.1, by rw [eSt_n (by decide)], [], by rw [eSt_n (by decide), List.append_nil]⟩
  split at h
  · obtain ⟨q, b1, -, hg, -, -, hb1, hr⟩ := pIf_ok h
    rcases hr with ⟨-, b2, hb2, rfl, -⟩ | ⟨-, rfl⟩
    · exact ⟨len_15 hg.2.1 (len_9 (hb _ _ _ _ hb1) (hb _ _ _ _ hb2)), by rw [eSt_n (by decide)], [], by rw [eSt_n (by decide), List.append_nil]⟩
    · exact ⟨len_15 hg.2.1 (len_9 (hb _ _ _ _ hb1) len_nl), by rw [eSt_n (by decide)], [], by rw [eSt_n (by decide), List.append_nil]⟩
  split at h
  · obtain ⟨b1, hb1, rfl, -⟩ := pLoop_ok h
    exact ⟨len_16 (hb _ _ _ _ hb1), by rw [eSt_n (by decide)], [], by rw [eSt_n (by decide), List.append_nil]⟩
  · obtain ⟨rfl, -⟩ := pHalt_ok h
    exact ⟨len_17, by rw [eSt_n (by decide)], [], by rw [eSt_n (by decide), List.append_nil]⟩
theorem cnt_nil (n : Nat) : ∃ E : List En, cntE 4 E = n := by
  induction n with
  | zero => exact ⟨[], rfl⟩
  | succ n ih => obtain ⟨E, h⟩ := ih; exact ⟨(0, 4, 0, 0) :: E, by simp [cntE, h]⟩
theorem pSL_len {st : Nat → Nat → Nat → PE Q4} (hs : ∀ c l i r, st c l i = .ok r → LenOK T L r.1) : ∀ (f c l i : Nat) (z : Tr × Nat × Nat), pSL (kdT T L) st f c l i = .ok z → LenOK T L z.1
  | 0, c, l, i, z, h => by cases h; exact len_nl
  | f + 1, c, l, i, z, h => by
    rw [pSL] at h
    split at h
    · obtain ⟨q, hq, h⟩ := bnd_ok h
      obtain ⟨y, hy, h⟩ := bnd_ok h
      cases h
      exact len_20 (hs _ _ _ _ hq) (pSL_len hs f _ _ _ y hy)
    · cases h; exact len_nl
theorem pBk_len : ∀ (n c l i : Nat) (q : Tr × Nat × Nat), pBk (kdT T L) vl n c l i = .ok q → LenOK T L q.1
  | 0, c, l, i, q, h => by rw [pBk] at h; split at h <;> cases h
  | n + 1, c, l, i, q, h => by
    rw [pBk] at h
    obtain ⟨i1, h1, h⟩ := bnd_ok h
    obtain ⟨z, h2, h⟩ := bnd_ok h
    obtain ⟨j, h3, h⟩ := bnd_ok h
    cases h
    refine len_21 (pSL_len (fun c l i r hr => ?_) _ _ _ _ _ h2)
    obtain ⟨E, hE⟩ := cnt_nil l
    rw [← hE] at hr
    exact (pSt_so (pBk_len n) hr).1
end Lens
section SmallS
variable {w : Wd} {T : Nat → Int} {L : Nat} {ρ : PE ST}
/-- loops, statements, home -/
def fLp (f : Nat → Nat) (s : ST) : PE ST := .ok (sI s, sE s, sc s, f (sl s), sb s, sK s, sC s, sO s, sh s)
def fSc (s : ST) : PE ST := .ok (sI s, sE s, sc s + 1, sl s, sb s, sK s, sC s, sO s, sh s)
def fHm (f : ST → Int) (s : ST) : PE ST := .ok (sI s, sE s, sc s, sl s, sb s, sK s, sC s, sO s, f s)
theorem RdS.lp {f : Nat → Nat} {v : Int} (hR : RdS T L w ρ) (hv : ∀ s, ρ = .ok s → v = ((f (sl s) : Nat) : Int)) : RdS T L (up w 24 6 v) (bnd ρ (fLp f)) := by
  have hf : Fx [24] w (up w 24 6 v) := (Fx.rf _ w).up (by decide)
  refine ⟨hR.1.fx hf (by decide) (by decide) (by decide) (by decide) (by decide) (by decide) (by decide) (by decide) (by decide) (hR.1.2.2.1.fx hf (by decide)) (hR.1.2.2.2.fx hf (by decide)), by rw [hf 26 (by decide)]; exact hR.2.1, ?_⟩
  cases ρ with
  | error e => exact CS.fx (σ := .error e) hR.2.2 hf (by decide)
  | ok s =>
    obtain ⟨o1, o2, o3, o4, o5, o6, o7, o8, o9, o10⟩ := hR.2.2
    exact ⟨CS.fx (σ := .ok (sI s)) o1 hf (by decide), o2.fx hf (by decide) (by decide) (by decide) (by decide) (by decide), o3.fx hf (by decide), by rw [hf 8 (by decide)]; exact o4, by rw [up_s]; exact hv s rfl, by rw [hf 26 (by decide)]; exact o6, o7.same (hf 25 (by decide)), o8.fx hf (by decide) (by decide) (by decide) (by decide) (by decide), o9.congr (fun x _ _ => by rw [hf 30 (by decide)]), fun x hx => by rw [hf 30 (by decide)]; exact o10 x hx⟩
theorem RdS.sc {v : Int} (hR : RdS T L w ρ) (hv : ∀ s, ρ = .ok s → v = ((sc s + 1 : Nat) : Int)) : RdS T L (up w 8 3 v) (bnd ρ fSc) := by
  have hf : Fx [8] w (up w 8 3 v) := (Fx.rf _ w).up (by decide)
  refine ⟨hR.1.fx hf (by decide) (by decide) (by decide) (by decide) (by decide) (by decide) (by decide) (by decide) (by decide) (hR.1.2.2.1.fx hf (by decide)) (hR.1.2.2.2.fx hf (by decide)), by rw [hf 26 (by decide)]; exact hR.2.1, ?_⟩
  cases ρ with
  | error e => exact CS.fx (σ := .error e) hR.2.2 hf (by decide)
  | ok s =>
    obtain ⟨o1, o2, o3, o4, o5, o6, o7, o8, o9, o10⟩ := hR.2.2
    exact ⟨CS.fx (σ := .ok (sI s)) o1 hf (by decide), o2.fx hf (by decide) (by decide) (by decide) (by decide) (by decide), o3.fx hf (by decide), by rw [up_s]; exact hv s rfl, by rw [hf 24 (by decide)]; exact o5, by rw [hf 26 (by decide)]; exact o6, o7.same (hf 25 (by decide)), o8.fx hf (by decide) (by decide) (by decide) (by decide) (by decide), o9.congr (fun x _ _ => by rw [hf 30 (by decide)]), fun x hx => by rw [hf 30 (by decide)]; exact o10 x hx⟩
theorem RdS.hm {f : ST → Int} {v : Int} (hR : RdS T L w ρ) (hv : ∀ s, ρ = .ok s → v = f s) : RdS T L (up w 19 5 v) (bnd ρ (fHm f)) := by
  have hf : Fx [19] w (up w 19 5 v) := (Fx.rf _ w).up (by decide)
  refine ⟨hR.1.fx hf (by decide) (by decide) (by decide) (by decide) (by decide) (by decide) (by decide) (by decide) (by decide) ?_ (hR.1.2.2.2.fx hf (by decide)), by rw [hf 26 (by decide)]; exact hR.2.1, ?_⟩
  · obtain ⟨s, h1, h2⟩ := hR.1.2.2.1
    exact ⟨s, by rw [up_k (by decide)]; exact h1, h2⟩
  cases ρ with
  | error e => exact CS.fx (σ := .error e) hR.2.2 hf (by decide)
  | ok s =>
    obtain ⟨o1, o2, o3, o4, o5, o6, o7, ⟨q1, q2, q3⟩, o9, o10⟩ := hR.2.2
    exact ⟨CS.fx (σ := .ok (sI s)) o1 hf (by decide), o2.fx hf (by decide) (by decide) (by decide) (by decide) (by decide), o3.fx hf (by decide), by rw [hf 8 (by decide)]; exact o4, by rw [hf 24 (by decide)]; exact o5, by rw [hf 26 (by decide)]; exact o6, o7.same (hf 25 (by decide)), ⟨by rw [up_k (by decide)]; exact q1, by rw [up_s]; exact hv s rfl, fun q e he => by rw [hf 20 (by decide), hf 21 (by decide), hf 22 (by decide), hf 23 (by decide)]; exact q3 q e he⟩, o9.congr (fun x _ _ => by rw [hf 30 (by decide)]), fun x hx => by rw [hf 30 (by decide)]; exact o10 x hx⟩
end SmallS
