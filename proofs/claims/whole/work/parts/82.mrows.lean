/-! ===== the model reads statements: rows, frames ===== -/
/-- how many statements; how many nodes of exps -/
def nT : Tr → Nat
  | .leaf => 0
  | .inner c _ _ l r => if c = 20 ∨ c = 9 then nT l + nT r else if c = 21 then nT l else if c = 15 then 1 + nT r else if c = 16 then 1 + nT l else 1
def nE : Tr → Nat
  | .leaf => 0
  | .inner c _ _ l r => if c = 20 ∨ c = 9 then nE l + nE r else if c = 21 ∨ c = 16 then nE l else if c = 15 then nX l + nE r else if c = 17 then 0 else nX l
/-- the first statement of a row, of a block -/
def nx_ : Tr → Nat → Int
  | .leaf, _ => -2
  | .inner _ _ _ _ _, c => (c : Int)
def el_ : Tr → Int
  | .leaf => 0
  | .inner _ _ _ _ _ => 1
abbrev bf_ (a : Tr) (c : Nat) : Int := nx_ (lf_ a) c
/-- the rows hold the statements of a, the first at s, its exps from lo on -/
def SR (kd : Nat → Nat) (w : Wd) : Tr → Nat → Nat → Prop
  | .leaf, _, _ => True
  | .inner c t q l r, s, lo =>
    if c = 20 then SR kd w l s lo ∧ SR kd w r (s + nT l) (lo + nE l) ∧ w 23 s = nx_ r (s + nT l)
    else if c = 9 then SR kd w l s lo ∧ SR kd w r (s + nT l) (lo + nE l)
    else if c = 21 then SR kd w l s lo
    else if c = 15 then w 17 s = 4 ∧ w 18 s = (t : Int) ∧ w 20 s = ((lo + nX l - 1 : Nat) : Int) ∧ ARx kd w l lo ∧ SR kd w r (s + 1) (lo + nX l) ∧ w 21 s = bf_ (lf_ r) (s + 1) ∧ w 22 s = bf_ (rt_ r) (s + 1 + nT (lf_ r)) ∧ w 24 s = el_ (rt_ r)
    else if c = 16 then w 17 s = 5 ∧ w 18 s = ((t - 1 : Nat) : Int) ∧ w 19 s = (t : Int) ∧ w 21 s = bf_ l (s + 1) ∧ SR kd w l (s + 1) lo
    else if c = 17 then w 17 s = 6 ∧ w 18 s = (t : Int)
    else w 17 s = (if c = 11 then 0 else if c = 12 then 1 else if c = 13 then 2 else 3) ∧ w 18 s = (if c = 11 then (t : Int) else ((t - 1 : Nat) : Int)) ∧ w 19 s = (t : Int) ∧ w 20 s = ((lo + nX l - 1 : Nat) : Int) ∧ ARx kd w l lo ∧ (c = 13 → w 25 s = (if kd (q - 1) = 45 then 1 else 0))
def MSt (w : Wd) (i n dep c l : Nat) : Prop := MS w i n dep ∧ w 0 31 = (c : Int) ∧ w 0 45 = (l : Int)
abbrev FMSl : List Nat := [0, 1, 17, 18, 19, 20, 21, 22, 23, 24, 25, 26, 27, 28, 29, 30, 31, 32, 33]
def FMs (w w' : Wd) : Prop := Fx FMSl w w' ∧ ∀ b, b ≠ 11 → b ≠ 31 → b ≠ 40 → b ≠ 44 → b ≠ 45 → w' 0 b = w 0 b
def LoS (w w' : Wd) (c : Nat) : Prop := ∀ x, x < c → ∀ o, 17 ≤ o → o ≤ 25 → w' o x = w o x
theorem FMs.rf (w : Wd) : FMs w w := ⟨Fx.rf _ w, fun _ _ _ _ _ _ => rfl⟩
theorem FMs.tr {a b c : Wd} (h1 : FMs a b) (h2 : FMs b c) : FMs a c := ⟨h1.1.tr h2.1, fun x p q r s t => (h2.2 x p q r s t).trans (h1.2 x p q r s t)⟩
theorem FMs.x {w w' : Wd} (h : FMx w w') : FMs w w' := ⟨h.1.mono (by decide), fun b h1 _ h3 h4 _ => h.2 b h1 h3 h4⟩
theorem LoS.rf (w : Wd) (n : Nat) : LoS w w n := fun _ _ _ _ _ => rfl
theorem LoS.tr {a b c : Wd} {n : Nat} (h1 : LoS a b n) (h2 : LoS b c n) : LoS a c n := fun x hx o p q => (h2 x hx o p q).trans (h1 x hx o p q)
theorem LoS.le {a b : Wd} {n n' : Nat} (h : LoS a b n) (hn : n' ≤ n) : LoS a b n' := fun x hx o p q => h x (by omega) o p q
theorem LoS.x {w w' : Wd} {n : Nat} (h : FMx w w') : LoS w w' n := fun x _ o p q => by rw [h.1 o (by simp; omega)]
theorem TxM.fs {T : Nat → Int} {L m : Nat} {w w' : Wd} (h : TxM T L m w) (hf : FMs w w') : TxM T L m w' := by
  obtain ⟨h1, h2, h3, h4, h5, h6⟩ := h
  refine ⟨?_, h2, h3, h4, by rw [hf.1 3 (by decide)]; exact h5, h6⟩
  unfold MTk at *
  rw [hf.1 4 (by decide), hf.1 5 (by decide), hf.1 6 (by decide), hf.1 7 (by decide)]
  exact h1
theorem ARx.congr {kd : Nat → Nat} {w w' : Wd} {a : Tr} {lo : Nat} (h : ARx kd w a lo) (h1 : 1 ≤ nX a) (hx : ∀ x, lo ≤ x → x < lo + nX a → ∀ o, 26 ≤ o → o ≤ 31 → w' o x = w o x) : ARx kd w' a lo := ⟨AR.congr a lo h.1 (fun x p q o r s _ => hx x p q o r s), by rw [hx _ (by omega) (by omega) 28 (by decide) (by decide)]; exact h.2⟩
def stTag : Tr → Prop
  | .leaf => False
  | .inner c _ _ _ _ => 11 ≤ c ∧ c ≤ 17
/-- statements as they are read -/
def WS : Tr → Prop
  | .leaf => True
  | .inner c _ _ l r => (c = 20 ∧ WS l ∧ WS r ∧ stTag l) ∨ (c = 9 ∧ WS l ∧ WS r) ∨ (c = 21 ∧ WS l) ∨ (c = 15 ∧ WE l ∧ WS r) ∨ (c = 16 ∧ WS l) ∨ c = 17 ∨ ((c = 11 ∨ c = 12 ∨ c = 13 ∨ c = 14) ∧ WE l)
section SRrows
variable {kd : Nat → Nat} {w : Wd} {t q s lo : Nat} {l r : Tr}
theorem SR20 : SR kd w (nd 20 t q l r) s lo = (SR kd w l s lo ∧ SR kd w r (s + nT l) (lo + nE l) ∧ w 23 s = nx_ r (s + nT l)) := rfl
theorem SR9 : SR kd w (nd 9 t q l r) s lo = (SR kd w l s lo ∧ SR kd w r (s + nT l) (lo + nE l)) := rfl
theorem SR21 : SR kd w (nd 21 t q l r) s lo = SR kd w l s lo := rfl
theorem SR15 : SR kd w (nd 15 t q l r) s lo = (w 17 s = 4 ∧ w 18 s = (t : Int) ∧ w 20 s = ((lo + nX l - 1 : Nat) : Int) ∧ ARx kd w l lo ∧ SR kd w r (s + 1) (lo + nX l) ∧ w 21 s = bf_ (lf_ r) (s + 1) ∧ w 22 s = bf_ (rt_ r) (s + 1 + nT (lf_ r)) ∧ w 24 s = el_ (rt_ r)) := rfl
theorem SR16 : SR kd w (nd 16 t q l r) s lo = (w 17 s = 5 ∧ w 18 s = ((t - 1 : Nat) : Int) ∧ w 19 s = (t : Int) ∧ w 21 s = bf_ l (s + 1) ∧ SR kd w l (s + 1) lo) := rfl
theorem SR17 : SR kd w (nd 17 t q l r) s lo = (w 17 s = 6 ∧ w 18 s = (t : Int)) := rfl
theorem SR11 {c : Nat} (hc : c = 11 ∨ c = 12 ∨ c = 13 ∨ c = 14) : SR kd w (nd c t q l r) s lo = (w 17 s = (if c = 11 then 0 else if c = 12 then 1 else if c = 13 then 2 else 3) ∧ w 18 s = (if c = 11 then (t : Int) else ((t - 1 : Nat) : Int)) ∧ w 19 s = (t : Int) ∧ w 20 s = ((lo + nX l - 1 : Nat) : Int) ∧ ARx kd w l lo ∧ (c = 13 → w 25 s = (if kd (q - 1) = 45 then 1 else 0))) := by
  rcases hc with rfl | rfl | rfl | rfl <;> rfl
theorem nT11 {c : Nat} (hc : c = 11 ∨ c = 12 ∨ c = 13 ∨ c = 14 ∨ c = 17) : nT (nd c t q l r) = 1 := by rcases hc with rfl | rfl | rfl | rfl | rfl <;> rfl
theorem nE11 {c : Nat} (hc : c = 11 ∨ c = 12 ∨ c = 13 ∨ c = 14) : nE (nd c t q l r) = nX l := by rcases hc with rfl | rfl | rfl | rfl <;> rfl
end SRrows
theorem nT_tag : ∀ {a : Tr}, WS a → stTag a → 1 ≤ nT a
  | .leaf, _, h => h.elim
  | .inner c t q l r, hw, h => by
    obtain ⟨h1, h2⟩ := h
    rcases (by omega : (c = 11 ∨ c = 12 ∨ c = 13 ∨ c = 14 ∨ c = 17) ∨ c = 15 ∨ c = 16) with z | rfl | rfl
    · rw [nT11 z]; exact Nat.le_refl _
    · show 1 ≤ 1 + nT r; omega
    · show 1 ≤ 1 + nT l; omega
theorem SR.congr {kd : Nat → Nat} {w w' : Wd} : ∀ (a : Tr) (s lo ex : Nat), WS a → (ex < s ∨ (ex = s ∧ stTag a)) → SR kd w a s lo → (∀ x, s ≤ x → x < s + nT a → ∀ o, 17 ≤ o → o ≤ 25 → (o = 23 → x ≠ ex) → w' o x = w o x) → (∀ x, lo ≤ x → x < lo + nE a → ∀ o, 26 ≤ o → o ≤ 31 → w' o x = w o x) → SR kd w' a s lo
  | .leaf, s, lo, ex, hw, hex, h, hs, hx => trivial
  | .inner c t q l r, s, lo, ex, hw, hex, h, hs, hx => by
    simp only [WS] at hw
    rcases hw with ⟨rfl, w1, w2, w3⟩ | ⟨rfl, w1, w2⟩ | ⟨rfl, w1⟩ | ⟨rfl, w1, w2⟩ | ⟨rfl, w1⟩ | rfl | ⟨hc, w1⟩
    · have hex' : ex < s := by
        rcases hex with z | ⟨-, z⟩
        · exact z
        · exact absurd z.2 (by decide)
      have e1 : nT (nd 20 t q l r) = nT l + nT r := rfl
      have e2 : nE (nd 20 t q l r) = nE l + nE r := rfl
      have hp := nT_tag w1 w3
      rw [SR20] at h ⊢
      obtain ⟨h1, h2, h3⟩ := h
      refine ⟨SR.congr l s lo ex w1 (Or.inl hex') h1 (fun x p1 p2 o p3 p4 p5 => hs x p1 (by rw [e1]; omega) o p3 p4 p5) (fun x p1 p2 o p3 p4 => hx x p1 (by rw [e2]; omega) o p3 p4), SR.congr r (s + nT l) (lo + nE l) ex w2 (Or.inl (by omega)) h2 (fun x p1 p2 o p3 p4 p5 => hs x (by omega) (by rw [e1]; omega) o p3 p4 p5) (fun x p1 p2 o p3 p4 => hx x (by omega) (by rw [e2]; omega) o p3 p4), ?_⟩
      rw [hs s (Nat.le_refl _) (by rw [e1]; omega) 23 (by decide) (by decide) (fun _ => by omega)]; exact h3
    · have hex' : ex < s := by
        rcases hex with z | ⟨-, z⟩
        · exact z
        · exact absurd z.1 (by decide)
      have e1 : nT (nd 9 t q l r) = nT l + nT r := rfl
      have e2 : nE (nd 9 t q l r) = nE l + nE r := rfl
      rw [SR9] at h ⊢
      obtain ⟨h1, h2⟩ := h
      exact ⟨SR.congr l s lo ex w1 (Or.inl hex') h1 (fun x p1 p2 o p3 p4 p5 => hs x p1 (by rw [e1]; omega) o p3 p4 p5) (fun x p1 p2 o p3 p4 => hx x p1 (by rw [e2]; omega) o p3 p4), SR.congr r (s + nT l) (lo + nE l) ex w2 (Or.inl (by omega)) h2 (fun x p1 p2 o p3 p4 p5 => hs x (by omega) (by rw [e1]; omega) o p3 p4 p5) (fun x p1 p2 o p3 p4 => hx x (by omega) (by rw [e2]; omega) o p3 p4)⟩
    · have hex' : ex < s := by
        rcases hex with z | ⟨-, z⟩
        · exact z
        · exact absurd z.2 (by decide)
      rw [SR21] at h ⊢
      exact SR.congr l s lo ex w1 (Or.inl hex') h hs hx
    · have e1 : nT (nd 15 t q l r) = 1 + nT r := rfl
      have e2 : nE (nd 15 t q l r) = nX l + nE r := rfl
      have hexs : ex ≤ s := by rcases hex with z | ⟨z, -⟩ <;> omega
      have hp := nX_pos l w1
      rw [SR15] at h ⊢
      obtain ⟨h1, h2, h3, h4, h5, h6, h7, h8⟩ := h
      have g : ∀ o, 17 ≤ o → o ≤ 25 → o ≠ 23 → w' o s = w o s := fun o p1 p2 p3 => hs s (Nat.le_refl _) (by rw [e1]; omega) o p1 p2 (fun z => absurd z p3)
      refine ⟨by rw [g 17 (by decide) (by decide) (by decide)]; exact h1, by rw [g 18 (by decide) (by decide) (by decide)]; exact h2, by rw [g 20 (by decide) (by decide) (by decide)]; exact h3, h4.congr hp (fun x p1 p2 o p3 p4 => hx x p1 (by rw [e2]; omega) o p3 p4), SR.congr r (s + 1) (lo + nX l) ex w2 (Or.inl (by omega)) h5 (fun x p1 p2 o p3 p4 p5 => hs x (by omega) (by rw [e1]; omega) o p3 p4 p5) (fun x p1 p2 o p3 p4 => hx x (by omega) (by rw [e2]; omega) o p3 p4), by rw [g 21 (by decide) (by decide) (by decide)]; exact h6, by rw [g 22 (by decide) (by decide) (by decide)]; exact h7, by rw [g 24 (by decide) (by decide) (by decide)]; exact h8⟩
    · have e1 : nT (nd 16 t q l r) = 1 + nT l := rfl
      have hexs : ex ≤ s := by rcases hex with z | ⟨z, -⟩ <;> omega
      rw [SR16] at h ⊢
      obtain ⟨h1, h2, h3, h4, h5⟩ := h
      have g : ∀ o, 17 ≤ o → o ≤ 25 → o ≠ 23 → w' o s = w o s := fun o p1 p2 p3 => hs s (Nat.le_refl _) (by rw [e1]; omega) o p1 p2 (fun z => absurd z p3)
      exact ⟨by rw [g 17 (by decide) (by decide) (by decide)]; exact h1, by rw [g 18 (by decide) (by decide) (by decide)]; exact h2, by rw [g 19 (by decide) (by decide) (by decide)]; exact h3, by rw [g 21 (by decide) (by decide) (by decide)]; exact h4, SR.congr l (s + 1) lo ex w1 (Or.inl (by omega)) h5 (fun x p1 p2 o p3 p4 p5 => hs x (by omega) (by rw [e1]; omega) o p3 p4 p5) hx⟩
    · rw [SR17] at h ⊢
      have g : ∀ o, 17 ≤ o → o ≤ 25 → o ≠ 23 → w' o s = w o s := fun o p1 p2 p3 => hs s (Nat.le_refl _) (by rw [nT11 (by decide)]; omega) o p1 p2 (fun z => absurd z p3)
      exact ⟨by rw [g 17 (by decide) (by decide) (by decide)]; exact h.1, by rw [g 18 (by decide) (by decide) (by decide)]; exact h.2⟩
    · rw [SR11 hc] at h ⊢
      rw [nT11 (by omega)] at hs
      rw [nE11 hc] at hx
      have hp := nX_pos l w1
      obtain ⟨h1, h2, h3, h4, h5, h6⟩ := h
      have g : ∀ o, 17 ≤ o → o ≤ 25 → o ≠ 23 → w' o s = w o s := fun o p1 p2 p3 => hs s (Nat.le_refl _) (by omega) o p1 p2 (fun z => absurd z p3)
      exact ⟨by rw [g 17 (by decide) (by decide) (by decide)]; exact h1, by rw [g 18 (by decide) (by decide) (by decide)]; exact h2, by rw [g 19 (by decide) (by decide) (by decide)]; exact h3, by rw [g 20 (by decide) (by decide) (by decide)]; exact h4, h5.congr hp hx, fun z => by rw [g 25 (by decide) (by decide) (by decide)]; exact h6 z⟩
/-! what the reading of statements keeps for the rows -/
def G2 (c i : Nat) (q : Q4) : Prop := WS q.1 ∧ stTag q.1 ∧ q.2.2.1 = c + nT q.1 ∧ nE q.1 ≤ q.2.1 - i
def G3 (c i : Nat) (q : Tr × Nat × Nat) : Prop := WS q.1 ∧ q.2.2 = c + nT q.1 ∧ nE q.1 + 2 ≤ q.2.1 - i
section PureG2
variable {kd : Nat → Nat} {vl : Nat → Int} {blk : Nat → Nat → Nat → PE (Tr × Nat × Nat)}
theorem WS.n1 {c t q : Nat} {l : Tr} (hc : c = 11 ∨ c = 12 ∨ c = 13 ∨ c = 14) (h : WE l) : WS (nd c t q l nl) := Or.inr (Or.inr (Or.inr (Or.inr (Or.inr (Or.inr ⟨hc, h⟩)))))
theorem pSt_g2 (hb : ∀ c l i q, c ≤ 120 → blk c l i = .ok q → G3 c i q) (hb2 : ∀ c l i q, c ≤ 120 → blk c l i = .ok q → GB c i q) {m c l i : Nat} {r : Q4} (h : pSt kd vl blk m c l i = .ok r) : G2 (c + 1 - 1) i r := by
  rw [Nat.add_sub_cancel]
  unfold pSt at h
  split at h
  · cases h
  rename_i hc
  split at h
  · obtain ⟨q, -, rfl, hg, -, -, -, h5⟩ := pSet_ok h
    have g2 := hg.1.2.1; have g3 := hg.1.2.2.2; have g4 := nX_nD q.1
    refine ⟨WS.n1 (by decide) hg.2.1, by show 11 ≤ 11 ∧ _; decide, rfl, ?_⟩
    show nX q.1 ≤ q.2 + 1 - i; omega
  split at h
  · obtain ⟨q, -, rfl, hg, -, -, -, -, h5, -⟩ := pLet_ok h
    have g2 := hg.1.2.1; have g3 := hg.1.2.2.2; have g4 := nX_nD q.1
    refine ⟨WS.n1 (by decide) hg.2.1, by show 11 ≤ 12 ∧ _; decide, rfl, ?_⟩
    show nX q.1 ≤ q.2 + 1 - i; omega
  split at h
  · obtain ⟨q, -, rfl, hg, -, -, -, -, h5⟩ := pSend_ok h
    have g2 := hg.1.2.1; have g3 := hg.1.2.2.2; have g4 := nX_nD q.1
    refine ⟨WS.n1 (by decide) hg.2.1, by show 11 ≤ 13 ∧ _; decide, rfl, ?_⟩
    show nX q.1 ≤ q.2 + 1 + 1 - i; omega
  split at h
  · obtain ⟨q, -, rfl, hg, -, -, -, h5⟩ := pGive_ok h
    have g2 := hg.1.2.1; have g3 := hg.1.2.2.2; have g4 := nX_nD q.1
    refine ⟨WS.n1 (by decide) hg.2.1, by show 11 ≤ 14 ∧ _; decide, rfl, ?_⟩
    show nX q.1 ≤ q.2 + 1 - i; omega
  split at h
  · obtain ⟨q, b1, -, hg, -, -, hb1, hr⟩ := pIf_ok h
    have g2 := hg.1.2.1; have g3 := hg.1.2.2.2; have g4 := nX_nD q.1
    obtain ⟨a1, a2, a3⟩ := hb _ _ _ _ (by omega) hb1
    obtain ⟨-, e1, e2, e3, e4, e5⟩ := hb2 _ _ _ _ (by omega) hb1
    rcases hr with ⟨-, b2, hb2', rfl, -⟩ | ⟨-, rfl⟩
    · obtain ⟨d1, d2, d3⟩ := hb _ _ _ _ (by omega) hb2'
      obtain ⟨-, f1, -⟩ := hb2 _ _ _ _ (by omega) hb2'
      refine ⟨Or.inr (Or.inr (Or.inr (Or.inl ⟨rfl, hg.2.1, Or.inr (Or.inl ⟨rfl, a1, d1⟩)⟩))), by show 11 ≤ 15 ∧ _; decide, ?_, ?_⟩
      · show b2.2.2 = c + (1 + (nT b1.1 + nT b2.1)); omega
      · show nX q.1 + (nE b1.1 + nE b2.1) ≤ b2.2.1 - i; omega
    · refine ⟨Or.inr (Or.inr (Or.inr (Or.inl ⟨rfl, hg.2.1, Or.inr (Or.inl ⟨rfl, a1, trivial⟩)⟩))), by show 11 ≤ 15 ∧ _; decide, ?_, ?_⟩
      · show b1.2.2 = c + (1 + (nT b1.1 + 0)); omega
      · show nX q.1 + (nE b1.1 + 0) ≤ b1.2.1 - i; omega
  split at h
  · obtain ⟨b1, hb1, rfl, -⟩ := pLoop_ok h
    obtain ⟨a1, a2, a3⟩ := hb _ _ _ _ (by omega) hb1
    obtain ⟨-, e1, -⟩ := hb2 _ _ _ _ (by omega) hb1
    refine ⟨Or.inr (Or.inr (Or.inr (Or.inr (Or.inl ⟨rfl, a1⟩)))), by show 11 ≤ 16 ∧ _; decide, ?_, ?_⟩
    · show b1.2.2 = c + (1 + nT b1.1); omega
    · show nE b1.1 ≤ b1.2.1 - i; omega
  · obtain ⟨rfl, -⟩ := pHalt_ok h
    exact ⟨Or.inr (Or.inr (Or.inr (Or.inr (Or.inr (Or.inl rfl))))), by show 11 ≤ 17 ∧ _; decide, rfl, Nat.zero_le _⟩
theorem pSL_g3 {st : Nat → Nat → Nat → PE Q4} (hs : ∀ c l i r, st c l i = .ok r → G2 c i r ∧ GS i r ∧ r.2.2.1 ≤ 120) : ∀ (f c l i : Nat) (z : Tr × Nat × Nat), i ≤ 1000 → c ≤ 120 → pSL kd st f c l i = .ok z → WS z.1 ∧ z.2.2 = c + nT z.1 ∧ nE z.1 ≤ z.2.1 - i ∧ i ≤ z.2.1
  | 0, c, l, i, z, hi, hc, h => by cases h; exact ⟨trivial, rfl, Nat.zero_le _, Nat.le_refl _⟩
  | f + 1, c, l, i, z, hi, hc, h => by
    rw [pSL] at h
    split at h
    · obtain ⟨q, hq, h⟩ := bnd_ok h
      obtain ⟨y, hy, h⟩ := bnd_ok h
      cases h
      obtain ⟨⟨g1, g2, g3, g4⟩, ⟨k1, k2, k3, k4⟩, k5⟩ := hs _ _ _ _ hq
      obtain ⟨a1, a2, a3, a4⟩ := pSL_g3 hs f _ _ _ y k3 k5 hy
      refine ⟨Or.inl ⟨rfl, g1, a1, g2⟩, ?_, ?_, ?_⟩
      · show y.2.2 = c + (nT q.1 + nT y.1); omega
      · show nE q.1 + nE y.1 ≤ y.2.1 - i; omega
      · show i ≤ y.2.1; omega
    · cases h; exact ⟨trivial, rfl, Nat.zero_le _, Nat.le_refl _⟩
theorem pBk_g3 : ∀ (n c l i : Nat) (q : Tr × Nat × Nat), c ≤ 120 → pBk kd vl n c l i = .ok q → G3 c i q
  | 0, c, l, i, q, hc, h => by rw [pBk] at h; split at h <;> cases h
  | n + 1, c, l, i, q, hc, h => by
    rw [pBk] at h
    obtain ⟨i1, h1, h⟩ := bnd_ok h
    obtain ⟨-, rfl, k1⟩ := ex_ok h1
    obtain ⟨z, h2, h⟩ := bnd_ok h
    obtain ⟨j, h3, h⟩ := bnd_ok h
    obtain ⟨-, rfl, k3⟩ := ex_ok h3
    cases h
    obtain ⟨a1, a2, a3, a4⟩ := pSL_g3 (fun c l i r hr => by
      have h1 := pSt_gs (pBk_gb n) hr
      have h2 := pSt_g2 (pBk_g3 n) (pBk_gb n) hr
      rw [Nat.add_sub_cancel] at h2
      exact ⟨h2, h1.1, h1.2.2.1⟩) 121 c l (i + 1) z (by omega) hc h2
    refine ⟨Or.inr (Or.inr (Or.inl ⟨rfl, a1⟩)), a2, ?_⟩
    show nE z.1 + 2 ≤ z.2.1 + 1 - i
    omega
end PureG2
