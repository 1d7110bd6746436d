/-! ===== the first TOKENS of statements lie before the end; ways of sending ===== -/
def LD (kd : Nat → Nat) (j : Nat) : Tr → Prop
  | .leaf => True
  | .inner c t q l r => if c = 20 ∨ c = 9 then LD kd j l ∧ LD kd j r else if c = 21 then LD kd j l else if c = 15 then LD kd j r ∧ t < j else if c = 16 then LD kd j l ∧ t < j else if c = 17 then t < j else (c = 13 → kd (q - 1) = 45 ∨ kd (q - 1) = 46)
theorem LD.le {kd : Nat → Nat} {j j' : Nat} (h : j ≤ j') : ∀ (a : Tr), LD kd j a → LD kd j' a
  | .leaf, _ => trivial
  | .inner c t q l r, hx => by
    rw [LD] at hx ⊢
    by_cases h1 : c = 20 ∨ c = 9
    · rw [if_pos h1] at hx ⊢; exact ⟨LD.le h l hx.1, LD.le h r hx.2⟩
    · rw [if_neg h1] at hx ⊢
      by_cases h2 : c = 21
      · rw [if_pos h2] at hx ⊢; exact LD.le h l hx
      · rw [if_neg h2] at hx ⊢
        by_cases h3 : c = 15
        · rw [if_pos h3] at hx ⊢; exact ⟨LD.le h r hx.1, by omega⟩
        · rw [if_neg h3] at hx ⊢
          by_cases h4 : c = 16
          · rw [if_pos h4] at hx ⊢; exact ⟨LD.le h l hx.1, by omega⟩
          · rw [if_neg h4] at hx ⊢
            by_cases h5 : c = 17
            · rw [if_pos h5] at hx ⊢; omega
            · rw [if_neg h5] at hx ⊢; exact hx
section PureLD
variable {kd : Nat → Nat} {vl : Nat → Int} {blk : Nat → Nat → Nat → PE (Tr × Nat × Nat)}
theorem pSt_ld (hb : ∀ c l i q, c ≤ 120 → blk c l i = .ok q → LD kd q.2.1 q.1) (hb2 : ∀ c l i q, c ≤ 120 → blk c l i = .ok q → GB c i q) {m c l i : Nat} {r : Q4} (h : pSt kd vl blk m c l i = .ok r) : LD kd r.2.1 r.1 := by
  unfold pSt at h
  split at h
  · cases h
  rename_i hc
  split at h
  · obtain ⟨q, hq, rfl, -⟩ := pSet_ok h
    exact fun z => absurd z (show (11 : Nat) ≠ 13 by decide)
  split at h
  · obtain ⟨q, hq, rfl, -⟩ := pLet_ok h
    exact fun z => absurd z (show (12 : Nat) ≠ 13 by decide)
  split at h
  · obtain ⟨q, hq, rfl, -, -, -, k, -⟩ := pSend_ok h
    intro _
    show kd (q.2 + 1 - 1) = 45 ∨ kd (q.2 + 1 - 1) = 46
    rw [Nat.add_sub_cancel]
    exact k.symm
  split at h
  · obtain ⟨q, hq, rfl, -⟩ := pGive_ok h
    exact fun z => absurd z (show (14 : Nat) ≠ 13 by decide)
  split at h
  · obtain ⟨q, b1, hq, hg, k1, -, hb1, hr⟩ := pIf_ok h
    have hgl : i + 1 < q.2 := hg.1.2.1
    have f5 := (hb2 _ _ _ _ (by omega) hb1).2.2.2.2.2
    have f6 := (hb2 _ _ _ _ (by omega) hb1).2.1
    have s1 := hb _ _ _ _ (by omega) hb1
    rcases hr with ⟨k2, b2, hb2', rfl, -⟩ | ⟨-, rfl⟩
    · have s2 := hb _ _ _ _ (by omega) hb2'
      have f1 := (hb2 _ _ _ _ (by omega) hb2').2.1
      exact ⟨⟨LD.le (by show b1.2.1 ≤ b2.2.1; omega) _ s1, s2⟩, by show i < b2.2.1; omega⟩
    · exact ⟨⟨s1, trivial⟩, by show i < b1.2.1; omega⟩
  split at h
  · obtain ⟨b1, hb1, rfl, -⟩ := pLoop_ok h
    have f1 := (hb2 _ _ _ _ (by omega) hb1).2.1
    exact ⟨hb _ _ _ _ (by omega) hb1, by show i + 1 < b1.2.1; omega⟩
  · obtain ⟨rfl, -⟩ := pHalt_ok h
    show i < i + 1 + 1
    omega
theorem pSL_ld {st : Nat → Nat → Nat → PE Q4} (hs : ∀ c l i r, st c l i = .ok r → LD kd r.2.1 r.1 ∧ i < r.2.1) : ∀ (f c l i : Nat) (z : Tr × Nat × Nat), pSL kd st f c l i = .ok z → LD kd z.2.1 z.1 ∧ i ≤ z.2.1
  | 0, c, l, i, z, h => by cases h; exact ⟨trivial, Nat.le_refl _⟩
  | f + 1, c, l, i, z, h => by
    rw [pSL] at h
    split at h
    · obtain ⟨q, hq, h⟩ := bnd_ok h
      obtain ⟨y, hy, h⟩ := bnd_ok h
      cases h
      obtain ⟨g1, g2⟩ := hs _ _ _ _ hq
      obtain ⟨a1, a2⟩ := pSL_ld hs f _ _ _ y hy
      exact ⟨⟨LD.le a2 _ g1, a1⟩, by show i ≤ y.2.1; omega⟩
    · cases h; exact ⟨trivial, Nat.le_refl _⟩
theorem pBk_ld : ∀ (n c l i : Nat) (q : Tr × Nat × Nat), c ≤ 120 → pBk kd vl n c l i = .ok q → LD kd q.2.1 q.1
  | 0, c, l, i, q, hc, h => by rw [pBk] at h; split at h <;> cases h
  | n + 1, c, l, i, q, hc, h => by
    rw [pBk] at h
    obtain ⟨i1, h1, h⟩ := bnd_ok h
    obtain ⟨z, h2, h⟩ := bnd_ok h
    obtain ⟨j, h3, h⟩ := bnd_ok h
    obtain ⟨-, rfl, k3⟩ := ex_ok h3
    cases h
    obtain ⟨a1, a2⟩ := pSL_ld (fun c l i r hr => ⟨pSt_ld (pBk_ld n) (pBk_gb n) hr, (pSt_gs (pBk_gb n) hr).1.2.1⟩) 121 c l i1 z h2
    exact LD.le (Nat.le_succ _) _ a1
end PureLD
/-! ===== the model: what is sent and given ===== -/
/-- folding, as the model does it -/
def fldM (way cnt bef v : Int) : Int := if cnt = 0 then v else if way = 0 then wr (bef + v) else if way = 1 then (if bef ≤ v then bef else v) else if way = 2 then (if v ≤ bef then bef else v) else if way = 3 then bef else if way = 4 then iAnd bef v else iOr bef v
def evM (D : DE) (w : Wd) (e : Nat × Nat × Int) : Wd :=
  if e.1 = 0 then up (up w 50 e.2.1 (fldM (wyD D 3 e.2.1) (w 49 e.2.1) (w 50 e.2.1) e.2.2)) 49 e.2.1 (wr (w 49 e.2.1 + 1))
  else up (up w 48 (4 * (e.1 - 1) + e.2.1) (fldM (wyD D 2 e.2.1) (w 47 (4 * (e.1 - 1) + e.2.1)) (w 48 (4 * (e.1 - 1) + e.2.1)) e.2.2)) 47 (4 * (e.1 - 1) + e.2.1) (wr (w 47 (4 * (e.1 - 1) + e.2.1) + 1))
theorem up_cg {w w' : Wd} {a k o : Nat} {x y : Int} (h : w o = w' o) (hx : x = y) : up w a k x o = up w' a k y o := by
  subst hx
  funext b
  unfold up
  split
  · rfl
  · rw [h]
theorem evM_cg {D : DE} {w w' : Wd} (e : Nat × Nat × Int) (h : ∀ o, 47 ≤ o → o ≤ 50 → w o = w' o) : ∀ o, 47 ≤ o → o ≤ 50 → evM D w e o = evM D w' e o := by
  intro o p q
  unfold evM
  split
  · exact up_cg (up_cg (h o p q) (by rw [h 49 (by decide) (by decide), h 50 (by decide) (by decide)])) (by rw [h 49 (by decide) (by decide)])
  · exact up_cg (up_cg (h o p q) (by rw [h 47 (by decide) (by decide), h 48 (by decide) (by decide)])) (by rw [h 47 (by decide) (by decide)])
theorem evM_fx {D : DE} {w : Wd} {e : Nat × Nat × Int} : Fx [47, 48, 49, 50] w (evM D w e) := by
  unfold evM
  split
  · exact ((Fx.rf _ w).up (by decide)).up (by decide)
  · exact ((Fx.rf _ w).up (by decide)).up (by decide)
def FMw (v : Nat) (w0 w : Wd) : Prop := Fx [0, 1, 41, 42, 47, 48, 49, 50, 53] w0 w ∧ (∀ b, (b < 87 ∨ 91 < b) → w 0 b = w0 0 b) ∧ (∀ x, (x < 8 * v ∨ 8 * v + 8 ≤ x) → w 41 x = w0 41 x) ∧ ∀ x, x ≠ v → w 42 x = w0 42 x
/-- the model's world amid the work of a node -/
def RM (D : DE) (v : Nat) (w0 w : Wd) (σ : SS) : Prop := FMw v w0 w ∧ OwM w v (zo σ) (zl σ) ∧ w 0 87 = (zs σ : Int) ∧ w 0 88 = (zd σ : Int) ∧ w 0 89 = (if zb σ = true then 1 else 0) ∧ w 42 v = (if zb σ = true then 1 else w0 42 v) ∧ ∀ o, 47 ≤ o → o ≤ 50 → w o = ((ze σ).foldl (evM D) w0) o
abbrev KFg (K : Ou → Wd → Prop) (v : Nat) (w0 : Wd) (e : Nat × Nat) : Prop := ∀ w', FMw v w0 w' → w' 1 0 = (e.1 : Int) → w' 1 1 = (e.2 : Int) → K (.inr 1) w'
section MGo
variable {g : Mg} {d D_ m v na : Nat} {K : Ou → Wd → Prop} {w w' w0 : Wd} {T : Nat → Int} {L : Nat} {X : Xv} {D : DE} {σ : SS} {E : List En}
theorem FMw.rf : FMw v w w := ⟨Fx.rf _ w, fun _ _ => rfl, fun _ _ => rfl, fun _ _ => rfl⟩
theorem FMw.fv (h : FMw v w0 w) (hf : FMv w w') : FMw v w0 w' := ⟨h.1.tr (hf.1.mono (by decide)), fun b hb => (hf.2 b (by omega) (by omega)).trans (h.2.1 b hb), fun x hx => by rw [hf.cd 41 (by decide)]; exact h.2.2.1 x hx, fun x hx => by rw [hf.cd 42 (by decide)]; exact h.2.2.2 x hx⟩
theorem FMw.cd (h : FMw v w0 w) (o : Nat) (ho : o ∉ [0, 1, 41, 42, 47, 48, 49, 50, 53]) : w o = w0 o := h.1 o ho
theorem XMd.fw (h : XMd T L m X D w0 v na) (hf : FMw v w0 w) : XMd T L m X D w v na := by
  obtain ⟨h1, h2, h3, h4, h5, h6, h7, h8, h9, h10, h11, h12, h13, h14, h15, h16, h17, h18⟩ := h
  have q : ∀ b, b < 87 → w 0 b = w0 0 b := fun b hb => hf.2.1 b (Or.inl hb)
  refine ⟨h1.cg (fun o p r => hf.1 o (by simp; omega)), h2.cg (q 20 (by decide)) (fun o p r => hf.1 o (by simp; omega)), h3, by rw [q 86 (by decide)]; exact h4, h5, h6, by rw [q 66 (by decide)]; exact h7, by rw [q 65 (by decide)]; exact h8, by rw [q 59 (by decide)]; exact h9, by rw [q 60 (by decide)]; exact h10, h11, h12, ?_, h14, h15, ?_, ?_, ?_⟩
  · rw [hf.cd 38 (by decide), hf.cd 39 (by decide), hf.cd 40 (by decide)]; exact h13
  · rw [hf.cd 43 (by decide)]; exact h16
  · rw [hf.cd 43 (by decide), hf.cd 44 (by decide)]; exact h17
  · rw [hf.cd 45 (by decide), hf.cd 46 (by decide)]; exact h18
theorem RM.fv {s dr : Nat} (h : RM D v w0 w σ) (hf : FMv w w') (h87 : w' 0 87 = (s : Int)) (h88 : w' 0 88 = (dr : Int)) : RM D v w0 w' (s, dr, zo σ, zl σ, ze σ, zb σ) := by
  obtain ⟨h1, h2, h3, h4, h5, h6, h7⟩ := h
  exact ⟨h1.fv hf, ⟨by rw [hf.cd 41 (by decide)]; exact h2.1, by rw [hf.cd 53 (by decide)]; exact h2.2⟩, h87, h88, by rw [hf.2 89 (by decide) (by decide)]; exact h5, by rw [hf.cd 42 (by decide)]; exact h6, fun o p q => by rw [hf.cd o (by omega)]; exact h7 o p q⟩
/-- the arc, the statement now -/
theorem RM.nw {b : Nat} {x : Int} (h : RM D v w0 w σ) (hb : b = 90 ∨ b = 91) : RM D v w0 (up w 0 b x) σ := by
  obtain ⟨⟨f1, f2, f3, f4⟩, h2, h3, h4, h5, h6, h7⟩ := h
  have q : ∀ c, c ≠ b → up w 0 b x 0 c = w 0 c := fun c hc => up_k hc
  exact ⟨⟨f1.up (by decide), fun c hc => by rw [q c (by omega)]; exact f2 c hc, fun y hy => by rw [up_o (by decide)]; exact f3 y hy, fun y hy => by rw [up_o (by decide)]; exact f4 y hy⟩, ⟨by rw [up_o (by decide)]; exact h2.1, by rw [up_o (by decide)]; exact h2.2⟩, by rw [q 87 (by omega)]; exact h3, by rw [q 88 (by omega)]; exact h4, by rw [q 89 (by omega)]; exact h5, by rw [up_o (by decide)]; exact h6, fun o p r => by rw [up_o (by omega)]; exact h7 o p r⟩
theorem RM.ev {e : Nat × Nat × Int} (h : RM D v w0 w σ) : RM D v w0 (evM D w e) (zs σ, zd σ, zo σ, zl σ, ze σ ++ [e], zb σ) := by
  obtain ⟨⟨f1, f2, f3, f4⟩, h2, h3, h4, h5, h6, h7⟩ := h
  have hf := evM_fx (D := D) (w := w) (e := e)
  refine ⟨⟨f1.tr (hf.mono (by decide)), fun c hc => by rw [hf 0 (by decide)]; exact f2 c hc, fun y hy => by rw [hf 41 (by decide)]; exact f3 y hy, fun y hy => by rw [hf 42 (by decide)]; exact f4 y hy⟩, ⟨by rw [hf 41 (by decide)]; exact h2.1, by rw [hf 53 (by decide)]; exact h2.2⟩, by rw [hf 0 (by decide)]; exact h3, by rw [hf 0 (by decide)]; exact h4, by rw [hf 0 (by decide)]; exact h5, by rw [hf 42 (by decide)]; exact h6, fun o p r => ?_⟩
  show evM D w e o = ((ze σ ++ [e]).foldl (evM D) w0) o
  rw [List.foldl_append]
  exact evM_cg e h7 o p r
theorem RM.own {k : Nat} {x : Int} (h : RM D v w0 w σ) (hk : k < 8) : RM D v w0 (up w 41 (8 * v + k) x) (zs σ, zd σ, upf (zo σ) k x, zl σ, ze σ, zb σ) := by
  obtain ⟨⟨f1, f2, f3, f4⟩, h2, h3, h4, h5, h6, h7⟩ := h
  refine ⟨⟨f1.up (by decide), fun c hc => by rw [up_o (by decide)]; exact f2 c hc, fun y hy => by rw [up_k (by omega)]; exact f3 y hy, fun y hy => by rw [up_o (by decide)]; exact f4 y hy⟩, ⟨fun c hc => ?_, by rw [up_o (by decide)]; exact h2.2⟩, by rw [up_o (by decide)]; exact h3, by rw [up_o (by decide)]; exact h4, by rw [up_o (by decide)]; exact h5, by rw [up_o (by decide)]; exact h6, fun o p r => by rw [up_o (by omega)]; exact h7 o p r⟩
  show _ = upf (zo σ) k x c
  unfold upf
  by_cases hck : c = k
  · rw [if_pos hck, hck, up_s]
  · rw [if_neg hck, up_k (by omega)]
    exact h2.1 c hc
theorem RM.let_ {k : Nat} {x : Int} (h : RM D v w0 w σ) : RM D v w0 (up w 53 k x) (zs σ, zd σ, zo σ, upf (zl σ) k x, ze σ, zb σ) := by
  obtain ⟨⟨f1, f2, f3, f4⟩, h2, h3, h4, h5, h6, h7⟩ := h
  refine ⟨⟨f1.up (by decide), fun c hc => by rw [up_o (by decide)]; exact f2 c hc, fun y hy => by rw [up_o (by decide)]; exact f3 y hy, fun y hy => by rw [up_o (by decide)]; exact f4 y hy⟩, ⟨by rw [up_o (by decide)]; exact h2.1, fun c hc => ?_⟩, by rw [up_o (by decide)]; exact h3, by rw [up_o (by decide)]; exact h4, by rw [up_o (by decide)]; exact h5, by rw [up_o (by decide)]; exact h6, fun o p r => by rw [up_o (by omega)]; exact h7 o p r⟩
  show _ = upf (zl σ) k x c
  unfold upf
  by_cases hck : c = k
  · rw [if_pos hck, hck, up_s]
  · rw [if_neg hck, up_k hck]
    exact h2.2 c hc
theorem RM.halt (h : RM D v w0 w σ) : RM D v w0 (up (up w 42 v 1) 0 89 1) (zs σ, zd σ, zo σ, zl σ, ze σ, true) := by
  obtain ⟨⟨f1, f2, f3, f4⟩, h2, h3, h4, h5, h6, h7⟩ := h
  refine ⟨⟨(f1.up (by decide)).up (by decide), fun c hc => by rw [up_k (by omega), up_o (by decide)]; exact f2 c hc, fun y hy => by rw [up_o (by decide), up_o (by decide)]; exact f3 y hy, fun y hy => by rw [up_o (by decide), up_k hy]; exact f4 y hy⟩, ⟨by rw [up_o (by decide), up_o (by decide)]; exact h2.1, by rw [up_o (by decide), up_o (by decide)]; exact h2.2⟩, by rw [up_k (by decide), up_o (by decide)]; exact h3, by rw [up_k (by decide), up_o (by decide)]; exact h4, by rw [up_s]; rfl, by rw [up_o (by decide), up_s]; rfl, fun o p r => by rw [up_o (by omega), up_o (by omega)]; exact h7 o p r⟩
theorem sp_foldM {a b c x : Int} (h : K (.inl (some (vI (fldM a b c x)))) w) : Cal g LM jMd_folded D_ [vI a, vI b, vI c, vI x] w K := by
  unfold fldM at h
  refine Cal.ofV (by decide) rfl (Nat.le_of_ble_eq_true rfl) (s_Md_folded ⟨fun z => ?_, fun z => ?_⟩)
  · rw [if_neg z] at h
    refine ⟨fun y => ?_, fun y => ?_, fun y => ?_, fun y => ?_, fun y => ?_, fun y => ?_⟩
    · rw [if_neg (by omega), if_neg (by omega), if_neg (by omega), if_neg (by omega), if_neg (by omega)] at h; exact h
    · rw [if_pos y] at h; exact h
    · rw [if_neg (by omega), if_pos y] at h
      exact ⟨fun q => by rw [if_pos q] at h; exact h, fun q => by rw [if_neg q] at h; exact h⟩
    · rw [if_neg (by omega), if_neg (by omega), if_pos y] at h
      exact ⟨fun q => by rw [if_pos q] at h; exact h, fun q => by rw [if_neg q] at h; exact h⟩
    · rw [if_neg (by omega), if_neg (by omega), if_neg (by omega), if_pos y] at h; exact h
    · rw [if_neg (by omega), if_neg (by omega), if_neg (by omega), if_neg (by omega), if_pos y] at h; exact h
  · rw [if_pos z] at h; exact h
theorem sp_giveM {k : Nat} {x : Int} (hD : 3 ≤ D_) (hX : XMd T L m X D w v na) (hk : k < cntE 3 (D.map (fun e => e.1))) (hk4 : k < 4) (h : K (.inl none) (evM D w (0, k, x))) : Cal g LM jMd_give D_ [vA 0, vI (k : Int), vI x] w K := by
  obtain ⟨d, rfl⟩ : ∃ d, D_ = d + 1 := ⟨D_ - 1, by omega⟩
  refine Cal.ofV (by decide) rfl (Nat.le_of_ble_eq_true rfl) (s_Md_give (sp_wayM (so := 3) (by omega) (by decide) hX.2.1 hX.2.2.1 hk ⟨ibd hk4, ibd hk4, sp_foldM ⟨ibd hk4, ibd hk4, ibd hk4, ?_⟩⟩))
  rw [toN]
  exact h
theorem sp_deliverM {k to : Nat} {x : Int} (hD : 3 ≤ D_) (hX : XMd T L m X D w v na) (hk : k < cntE 2 (D.map (fun e => e.1))) (hk4 : k < 4) (ht : to < 40) (h : K (.inl none) (evM D w (to + 1, k, x))) : Cal g LM jMd_deliver D_ [vA 0, vI (to : Int), vI (k : Int), vI x] w K := by
  obtain ⟨d, rfl⟩ : ∃ d, D_ = d + 1 := ⟨D_ - 1, by omega⟩
  refine Cal.ofV (by decide) rfl (Nat.le_of_ble_eq_true rfl) (s_Md_deliver ?_)
  rw [ix4' ht hk4, toN]
  exact sp_wayM (so := 2) (by omega) (by decide) hX.2.1 hX.2.2.1 hk ⟨ib4 ht hk4, ib4 ht hk4, sp_foldM ⟨ib4 ht hk4, ib4 ht hk4, ib4 ht hk4, h⟩⟩
/-- an exp of a statement -/
theorem gv_exp {l : Tr} {lo sn tk arc : Nat} {bb : Bool} (hL : L ≤ 4000) (hX : XMd T L m X D w0 v na) (hE : ENb E) (hK : EK E) (hT : TyX E (zo σ) (zl σ) X) (hF : NFs D E) (hW : WE l) (hx : XO (kdT T L) (m + 1) l) (h0 : K0 (kdT T L) l) (hj : 100000 ≤ jkT T L E bb l) (hD : nX l + 10 ≤ D_) (hlo : lo + nX l ≤ 2000) (hA : AR (kdT T L) w0 l lo) (hJ : JR T L E bb w0 l lo) (hR : RM D v w0 w σ) (h91 : w 0 91 = (sn : Int)) (hsn : sn < 130) (h18 : w0 18 sn = (tk : Int)) (htk : tk ≤ m) (ha : bb = true → w 0 90 = (arc : Int) ∧ arc < na) (hs : zs σ ≤ 1000) (hdz : zd σ ≤ zs σ) (hok : ∀ q w', evs T L X (tAt T L tk) E arc l σ = .ok q → q.2.1 ≤ 1000 → q.2.2 ≤ q.2.1 → FMv w w' → RM D v w0 w' (q.2.1, q.2.2, zo σ, zl σ, ze σ, zb σ) → K (.inl (some (vI q.1))) w') (her : ∀ e, evs T L X (tAt T L tk) E arc l σ = .error e → KFg K v w0 e) : Cal g LM jMd_value D_ [vA 0, vI ((lo + nX l - 1 : Nat) : Int)] w K := by
  have hA' : AR (kdT T L) w l lo := AR.congr l lo hA (fun x _ _ o p q _ => by rw [hR.1.cd o (by simp; omega)])
  have hJ' : JR T L E bb w l lo := JR.congr l lo hJ (fun x _ _ => ⟨by rw [hR.1.cd 32 (by decide)], by rw [hR.1.cd 33 (by decide)]⟩)
  exact sp_value hL hE hK hT hF (szT l) l lo D_ (Nat.le_refl _) hW hx.1 hx.2 h0 hj hD hlo K w (zs σ) (zd σ) ⟨hX.fw hR.1, hR.2.1, ha, sn, tk, h91, hsn, by rw [hR.1.cd 18 (by decide)]; exact h18, htk, rfl⟩ hA' hJ' hR.2.2.1 hR.2.2.2.1 hs hdz (fun q hq h1 h2 w' f q1 q2 => hok q w' hq h1 h2 f (hR.fv f q1 q2)) (fun e he w' f q1 q2 => her e he w' (hR.1.fv f) q1 q2)
/-- a STEP of a statement -/
theorem gv_step {sn tk : Nat} (hD : 2 ≤ D_) (hX : XMd T L m X D w0 v na) (hR : RM D v w0 w σ) (h91 : w 0 91 = (sn : Int)) (hsn : sn < 130) (h18 : w0 18 sn = (tk : Int)) (htk : tk ≤ m) (hs : zs σ ≤ 1000) (hok : ∀ w', stq (tAt T L tk) (zs σ) = .ok (zs σ + 1) → zs σ + 1 ≤ 1000 → FMv w w' → RM D v w0 w' (zs σ + 1, zd σ, zo σ, zl σ, ze σ, zb σ) → K (.inl none) w') (her : ∀ e, stq (tAt T L tk) (zs σ) = .error e → KFg K v w0 e) : Cal g LM jMd_step D_ [vA 0] w K :=
  sp_stepM hD (hX.fw hR.1).1 hR.2.2.1 hs h91 hsn (by rw [hR.1.cd 18 (by decide)]; exact h18) htk (fun s1 e1 w' f q1 q2 => by
    obtain ⟨rfl, e3⟩ := stq_ok e1
    exact hok w' e1 (by omega) f (hR.fv f q1 (by rw [q2]; exact hR.2.2.2.1))) (fun e e1 w' f q1 q2 => her e e1 w' (hR.1.fv f) q1 q2)
end MGo
