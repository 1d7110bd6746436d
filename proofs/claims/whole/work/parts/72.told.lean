/-! ===== what is told, purely, and in the class ===== -/
def tlS (c : Nat) : Nat := if c = 27 then 0 else if c = 28 then 1 else if c = 33 then 2 else 3
abbrev tls (c : Nat) : Prop := c = 27 ∨ c = 28 ∨ c = 33 ∨ c = 34
section PureTold
variable (kd : Nat → Nat) (vl : Nat → Int)
def pInt (i : Nat) : PE (Int × Nat) := if kd i = 16 then bnd (ex kd 16 i) (fun i1 => bnd (ex kd 3 i1) (fun j => .ok (wr (-(vl i1)), j))) else bnd (ex kd 3 i) (fun j => .ok (vl i, j))
def pBool (i : Nat) : PE (Int × Nat) := if kd i = 31 then bnd (ex kd 31 i) (fun j => .ok (1, j)) else bnd (ex kd 32 i) (fun j => .ok (0, j))
/-- a told thing behind its NAME: kind, value, where it ends -/
def pTv (so i2 : Nat) : PE ((Nat × Int) × Nat) :=
  if so = 0 then .ok ((1, 0), i2)
  else bnd (ex kd 11 i2) (fun i3 =>
    if so = 1 then bnd (ex kd (if kd i3 = 30 then 30 else 29) i3) (fun i4 => bnd (ex kd 12 i4) (fun i5 => bnd (if kd i3 = 30 then pBool kd i5 else pInt kd vl i5) (fun v => .ok ((if kd i3 = 30 then 2 else 1, v.1), v.2))))
    else if 35 ≤ kd i3 ∧ kd i3 ≤ 40 then bnd (ex kd (kd i3) i3) (fun i4 => .ok ((if kd i3 = 39 ∨ kd i3 = 40 then 2 else 1, ((kd i3 : Nat) : Int)), i4)) else .error (1, i3))
def pTd (E : List En) (i : Nat) : PE ((Nat × Int) × Nat) := bnd (ex kd (kd i) i) (fun i1 => bnd (pNm kd (mostL.getD (tlS (kd i)) 0 ≤ ((cntE (tlS (kd i)) E : Nat) : Int)) i1) (fun i2 => bnd (pTv kd vl (tlS (kd i)) i2) (fun q => bnd (ex kd 4 q.2) (fun j => .ok (q.1, j)))))
end PureTold
theorem pInt_ok {kd : Nat → Nat} {vl : Nat → Int} {i : Nat} {q : Int × Nat} (h : pInt kd vl i = .ok q) : i < q.2 ∧ q.2 ≤ 1000 := by
  unfold pInt at h
  split at h
  · obtain ⟨i1, h1, h⟩ := bnd_ok h
    obtain ⟨j, h2, h⟩ := bnd_ok h
    obtain ⟨-, rfl, -⟩ := ex_ok h1
    obtain ⟨-, rfl, h3⟩ := ex_ok h2
    cases h
    exact ⟨by show i < i + 1 + 1; omega, by show i + 1 + 1 ≤ 1000; omega⟩
  · obtain ⟨j, h2, h⟩ := bnd_ok h
    obtain ⟨-, rfl, h3⟩ := ex_ok h2
    cases h
    exact ⟨by show i < i + 1; omega, by show i + 1 ≤ 1000; omega⟩
section ToldS
variable {g : Mg} {d D : Nat} {K : Ou → Wd → Prop} {w : Wd} {T : Nat → Int} {L : Nat} {ρ : PE ST}
/-- what has been read is all printed -/
def fJ (s : ST) (j : Nat) : ST := (j, sE s, sc s, sl s, sb s, sK s, sC s, List.range j, sh s)
def fIn (T : Nat → Int) (L : Nat) (s : ST) : PE ST := bnd (pInt (kdT T L) (vlT T L) (sI s)) (fun q => .ok (fJ s q.2))
def fBo (T : Nat → Int) (L : Nat) (s : ST) : PE ST := bnd (pBool (kdT T L) (sI s)) (fun q => .ok (fJ s q.2))
theorem fTk_j {c : Nat} {s : ST} (ho : sO s = List.range (sI s)) : fTk (kdT T L) c s = bnd (ex (kdT T L) c (sI s)) (fun j => .ok (fJ s j)) := by
  unfold fTk
  cases h : ex (kdT T L) c (sI s) with
  | error e => rfl
  | ok j =>
    obtain ⟨-, rfl, -⟩ := ex_ok h
    show Except.ok _ = Except.ok _
    unfold fJ
    rw [ho, List.range_succ]
theorem st_int (hD : 2 ≤ D) (hR : RdS T L w ρ) (ho : ∀ s, ρ = .ok s → sO s = List.range (sI s)) (h : ∀ (w' : Wd) (v : Int), Fx FEl w w' → (∀ s, ρ = .ok s → ∀ q, pInt (kdT T L) (vlT T L) (sI s) = .ok q → v = q.1) → RdS T L w' (bnd ρ (fIn T L)) → K (.inl (some (vI v))) w') : Cal g LC jRe_readInt D [vA 24] w K := by
  obtain ⟨d, rfl⟩ : ∃ d, D = d + 1 := ⟨D - 1, by omega⟩
  have hnT := nTk_le (T := T) (L := L)
  have hval : ∀ {w1 : Wd} {ρ1 : PE ST} {x : Nat}, RdS T L w1 ρ1 → (∀ s1, ρ1 = .ok s1 → ∃ i, x = i ∧ sI s1 = i + 1 ∧ kdT T L i = 3) → (∀ s1, ρ1 = .ok s1 → w1 7 x = vlT T L x) := by
    intro w1 ρ1 x hR1 hx s1 hs1
    obtain ⟨i, rfl, h2, h3⟩ := hx s1 hs1
    subst hs1
    have hc := hR1.2.2.1
    have h4 : sI s1 ≤ nTk T L := hc.2.2.1
    exact (hR1.1.1.sz (by omega)).2.2
  refine Cal.ofV (by decide) rfl (Nat.le_of_ble_eq_true rfl) (s_Re_readInt (st_sees (c := 16) hR ⟨fun c => st_take (c := 3) (by omega) hR (by decide) (fun w1 x1 hF1 hx1 hxi1 hR1 _ => ⟨by omega, fun _ => ?_, fun z => absurd c z⟩), fun c => st_take (c := 16) (by omega) hR (by decide) (fun w1 x1 hF1 hx1 hxi1 hR1 _ => st_take (c := 3) (by omega) hR1 (by decide) (fun w2 x2 hF2 hx2 hxi2 hR2 _ => ⟨by omega, fun z => absurd z c, fun _ => ?_⟩))⟩))
  · rw [toN]
    have hk : ∀ s, ρ = .ok s → ¬ kdT T L (sI s) = 16 := fun s hs z => by
      subst hs
      have z' : kS T L (iS (.ok s)) = 16 := z
      rw [if_pos z'] at c
      exact absurd c (by decide)
    refine h w1 _ hF1 (fun s hs q hq => ?_) ?_
    · have hk' := hk s hs
      have ho' := ho s hs
      subst hs
      unfold pInt at hq
      rw [if_neg hk'] at hq
      obtain ⟨j, h1, h2⟩ := bnd_ok hq
      cases h2
      have hs1 : bnd (.ok s) (fTk (kdT T L) 3) = .ok (fJ s j) := by show fTk (kdT T L) 3 s = _; rw [fTk_j ho', h1]; rfl
      obtain ⟨k3, rfl, -⟩ := ex_ok h1
      have := hval hR1 (fun s1 z => ⟨x1, rfl, by rw [hs1] at z; cases z; rw [hxi1 s rfl]; rfl, by rw [hxi1 s rfl]; exact k3⟩) _ hs1
      rw [this, hxi1 s rfl]
    · cases ρ with
      | error e => exact hR1
      | ok s =>
        have e : bnd (.ok s) (fIn T L) = bnd (.ok s) (fTk (kdT T L) 3) := by
          show fIn T L s = fTk (kdT T L) 3 s
          rw [fTk_j (ho s rfl)]
          unfold fIn pInt
          rw [if_neg (hk s rfl)]
          cases ex (kdT T L) 3 (sI s) <;> rfl
        rw [e]; exact hR1
  · rw [toN]
    have hk : ∀ s, ρ = .ok s → kdT T L (sI s) = 16 := fun s hs => by
      subst hs
      by_cases z : kS T L (iS (.ok s)) = 16
      · exact z
      · rw [if_neg z] at c; exact absurd rfl c
    have e : bnd (bnd ρ (fTk (kdT T L) 16)) (fTk (kdT T L) 3) = bnd ρ (fIn T L) := by
      cases ρ with
      | error e => rfl
      | ok s =>
        show bnd (fTk (kdT T L) 16 s) (fTk (kdT T L) 3) = fIn T L s
        rw [fTk_j (ho s rfl)]
        unfold fIn pInt
        rw [if_pos (hk s rfl)]
        cases e1 : ex (kdT T L) 16 (sI s) with
        | error e => rfl
        | ok i1 =>
          show fTk (kdT T L) 3 (fJ s i1) = bnd (bnd (ex (kdT T L) 3 i1) _) _
          rw [fTk_j rfl]
          show bnd (ex (kdT T L) 3 i1) _ = _
          cases ex (kdT T L) 3 i1 <;> rfl
    refine h w2 _ (hF1.tr hF2) (fun s hs q hq => ?_) (by rw [← e]; exact hR2)
    have hk' := hk s hs
    have ho' := ho s hs
    subst hs
    unfold pInt at hq
    rw [if_pos hk'] at hq
    obtain ⟨i1, h1, h2⟩ := bnd_ok hq
    obtain ⟨j, h3, h4⟩ := bnd_ok h2
    cases h4
    have hs1 : bnd (.ok s) (fTk (kdT T L) 16) = .ok (fJ s i1) := by show fTk (kdT T L) 16 s = _; rw [fTk_j ho', h1]; rfl
    have hx2' := hxi2 _ hs1
    have hs2 : bnd (bnd (.ok s) (fTk (kdT T L) 16)) (fTk (kdT T L) 3) = .ok (fJ s j) := by rw [hs1]; show fTk (kdT T L) 3 (fJ s i1) = _; rw [fTk_j rfl]; show bnd (ex (kdT T L) 3 i1) _ = _; rw [h3]; rfl
    obtain ⟨k3, rfl, -⟩ := ex_ok h3
    have hx2'' : x2 = i1 := hx2'
    have := hval hR2 (fun s1 z => ⟨x2, rfl, by rw [hs2] at z; cases z; rw [hx2'']; rfl, by rw [hx2'']; exact k3⟩) _ hs2
    rw [this, hx2'']
theorem st_bool (hD : 2 ≤ D) (hR : RdS T L w ρ) (ho : ∀ s, ρ = .ok s → sO s = List.range (sI s)) (h : ∀ (w' : Wd) (v : Int), Fx FEl w w' → (∀ s, ρ = .ok s → ∀ q, pBool (kdT T L) (sI s) = .ok q → v = q.1) → RdS T L w' (bnd ρ (fBo T L)) → K (.inl (some (vI v))) w') : Cal g LC jRe_readBool D [vA 24] w K := by
  obtain ⟨d, rfl⟩ : ∃ d, D = d + 1 := ⟨D - 1, by omega⟩
  refine Cal.ofV (by decide) rfl (Nat.le_of_ble_eq_true rfl) (s_Re_readBool (st_sees (c := 31) hR ⟨fun c => st_take (c := 32) (by omega) hR (by decide) (fun w1 x1 hF1 hx1 hxi1 hR1 _ => ⟨fun _ => ?_, fun z => absurd c z⟩), fun c => st_take (c := 31) (by omega) hR (by decide) (fun w1 x1 hF1 hx1 hxi1 hR1 _ => ⟨fun z => absurd z c, fun _ => ?_⟩)⟩))
  · have hk : ∀ s, ρ = .ok s → ¬ kdT T L (sI s) = 31 := fun s hs z => by
      subst hs
      have z' : kS T L (iS (.ok s)) = 31 := z
      rw [if_pos z'] at c
      exact absurd c (by decide)
    refine h w1 _ hF1 (fun s hs q hq => ?_) ?_
    · unfold pBool at hq
      rw [if_neg (hk s hs)] at hq
      obtain ⟨j, h1, h2⟩ := bnd_ok hq
      cases h2; rfl
    · cases ρ with
      | error e => exact hR1
      | ok s =>
        have e : bnd (.ok s) (fBo T L) = bnd (.ok s) (fTk (kdT T L) 32) := by
          show fBo T L s = fTk (kdT T L) 32 s
          rw [fTk_j (ho s rfl)]
          unfold fBo pBool
          rw [if_neg (hk s rfl)]
          cases ex (kdT T L) 32 (sI s) <;> rfl
        rw [e]; exact hR1
  · have hk : ∀ s, ρ = .ok s → kdT T L (sI s) = 31 := fun s hs => by
      subst hs
      by_cases z : kS T L (iS (.ok s)) = 31
      · exact z
      · rw [if_neg z] at c; exact absurd rfl c
    refine h w1 _ hF1 (fun s hs q hq => ?_) ?_
    · unfold pBool at hq
      rw [if_pos (hk s hs)] at hq
      obtain ⟨j, h1, h2⟩ := bnd_ok hq
      cases h2; rfl
    · cases ρ with
      | error e => exact hR1
      | ok s =>
        have e : bnd (.ok s) (fBo T L) = bnd (.ok s) (fTk (kdT T L) 31) := by
          show fBo T L s = fTk (kdT T L) 31 s
          rw [fTk_j (ho s rfl)]
          unfold fBo pBool
          rw [if_pos (hk s rfl)]
          cases ex (kdT T L) 31 (sI s) <;> rfl
        rw [e]; exact hR1
/-- the new NAME, told as this kind -/
def tdS (T : Nat → Int) (L : Nat) (s : ST) (so ki j : Nat) : ST := (j, sE s ++ [(sI s + 1, so, cntE so (sE s), ki)], sc s, sl s, sb s, min (sK s) (if fnd T L (sE s) (sI s + 1) = none then 100000 else tAt T L (sI s + 1) * 8 + 3), sC s, List.range j, sh s)
def fTo (T : Nat → Int) (L : Nat) (s : ST) : PE ST := bnd (pTd (kdT T L) (vlT T L) (sE s) (sI s)) (fun q => .ok (tdS T L s (tlS (kdT T L (sI s))) q.1.1 q.2))
/-- cells of the told values -/
def vcl (so : Nat) : Nat := if so = 1 then 9 else if so = 2 then 10 else 11
abbrev FTl : List Nat := 9 :: 10 :: 11 :: FSl
def FxT (w w' : Wd) : Prop := Fx FTl w w' ∧ ∀ b, b ≠ 3 → w' 8 b = w 8 b
theorem FxT.rf (w : Wd) : FxT w w := ⟨Fx.rf _ w, fun _ _ => rfl⟩
theorem FxT.tr {a b c : Wd} (h1 : FxT a b) (h2 : FxT b c) : FxT a c := ⟨h1.1.tr h2.1, fun x hx => (h2.2 x hx).trans (h1.2 x hx)⟩
theorem FxT.s {w w' : Wd} (h : FxS w w') : FxT w w' := ⟨h.1.mono (by decide), h.2⟩
theorem FxT.e {w w' : Wd} (h : Fx FEl w w') : FxT w w' := FxT.s (FxS.e h)
theorem RdS.vc {o n : Nat} {v : Int} (hR : RdS T L w ρ) (ho : o = 9 ∨ o = 10 ∨ o = 11) : RdS T L (up w o n v) ρ := by
  have hf : Fx [9, 10, 11] w (up w o n v) := (Fx.rf _ w).up (by rcases ho with rfl | rfl | rfl <;> decide)
  refine ⟨hR.1.fx hf (by decide) (by decide) (by decide) (by decide) (by decide) (by decide) (by decide) (by decide) (by decide) (hR.1.2.2.1.fx hf (by decide)) (hR.1.2.2.2.fx hf (by decide)), by rw [hf 26 (by decide)]; exact hR.2.1, ?_⟩
  cases ρ with
  | error e => exact CS.fx (σ := .error e) hR.2.2 hf (by decide)
  | ok s =>
    obtain ⟨o1, o2, o3, o4, o5, o6, o7, o8, o9, o10⟩ := hR.2.2
    exact ⟨CS.fx (σ := .ok (sI s)) o1 hf (by decide), o2.fx hf (by decide) (by decide) (by decide) (by decide) (by decide), o3.fx hf (by decide), by rw [hf 8 (by decide)]; exact o4, by rw [hf 24 (by decide)]; exact o5, by rw [hf 26 (by decide)]; exact o6, o7.same (hf 25 (by decide)), o8.fx hf (by decide) (by decide) (by decide) (by decide) (by decide), o9.congr (fun x _ _ => by rw [hf 30 (by decide)]), fun x hx => by rw [hf 30 (by decide)]; exact o10 x hx⟩
end ToldS
