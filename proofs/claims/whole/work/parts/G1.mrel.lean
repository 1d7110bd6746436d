/-! ===== a moment of the class against a row of the model ===== -/
abbrev RgC (w : Wd) : Prop := ∀ o, o < LC.nn → ∀ k, k < (LC.ly o).2 → rng LC o k (w o k)
def MR (D : DE) (E : List En) (n q : Nat) (wc : Wd) (S : Nat → Int) : Prop := (∀ v k, v < n → k < cntE 1 E → wc (q + 1) (8 * v + k) = S (8 * v + k)) ∧ (∀ v, v < n → wc (q + 2) v = S (320 + v) ∧ b01 (S (320 + v))) ∧ (∀ i, i < 160 → wc (q + 4) i = S (360 + i) ∧ 0 ≤ S (360 + i) ∧ S (360 + i) ≤ 40000) ∧ (∀ k, k < 4 → wc (q + 6) k = S (680 + k) ∧ 0 ≤ S (680 + k) ∧ S (680 + k) ≤ 40000) ∧ (∀ v k, v < 40 → k < cntE 2 E → wc (q + 3) (4 * v + k) = (if S (360 + (4 * v + k)) ≤ 0 then nthM (wyD D 2 k) else S (520 + (4 * v + k)))) ∧ (∀ k, k < cntE 3 E → wc (q + 5) k = (if S (680 + k) ≤ 0 then nthM (wyD D 3 k) else S (684 + k))) ∧ wc q 1 = smI (fun i => S (360 + i)) (4 * n) ∧ NK E q wc ∧ ∀ e ∈ E, e.2.2.2 = 2 → e.2.1 = 1 → ∀ v, v < n → b01 (wc (q + 1) (8 * v + e.2.2.1))
/-- the last arc of a node, or - 1 -/
def lsA (f : Nat → Int) (v : Int) : Nat → Int
  | 0 => -1
  | n + 1 => if f n = v then (n : Int) else lsA f v n
/-- the class's graph -/
def GrK (w : Wd) (n na : Nat) : Prop := w 31 0 = (n : Int) ∧ w 31 1 = (na : Int) ∧ 1 ≤ n ∧ n ≤ 40 ∧ na ≤ 120 ∧ (∀ i, i < na → (0 ≤ w 32 i ∧ w 32 i < (n : Int)) ∧ (0 ≤ w 33 i ∧ w 33 i < (n : Int))) ∧ (∀ v : Nat, v < 40 → w 35 v = ((fltA (w 32) (v : Int) na 0).length : Int) ∧ w 36 v = ((fltA (w 33) (v : Int) na 0).length : Int)) ∧ (∀ v : Nat, v < 40 → w 37 v = nxA (w 32) (v : Int) na 0 ∧ w 40 v = nxA (w 33) (v : Int) na 0) ∧ (∀ i, i < na → w 39 i = nxA (w 32) (w 32 i) (na - (i + 1)) (i + 1) ∧ w 42 i = nxA (w 33) (w 33 i) (na - (i + 1)) (i + 1)) ∧ ∀ v : Nat, v < 40 → (lsA (w 32) (v : Int) na ≠ -1 → w 38 v = lsA (w 32) (v : Int) na) ∧ (lsA (w 33) (v : Int) na ≠ -1 → w 41 v = lsA (w 33) (v : Int) na)
theorem smI_cg {C C' : Nat → Int} : ∀ m, (∀ i, i < m → C' i = C i) → smI C' m = smI C m
  | 0, _ => rfl
  | m + 1, h => by rw [smI, smI, smI_cg m (fun i hi => h i (by omega)), h m (by omega)]
section MRel
variable {T : Nat → Int} {L : Nat} {D : DE} {E : List En} {n na q mb ma : Nat} {w w' : Wd} {S S' : Nat → Int}
theorem NK.cg (h : NK E q w) (hc : ∀ i, i ≤ 6 → w' (q + i) = w (q + i)) : NK E q w' := by
  unfold NK at *
  rw [hc 3 (by decide), hc 5 (by decide)]
  exact h
theorem MR.cg (h : MR D E n q w S) (hn : n ≤ 40) (h1 : cntE 1 E ≤ 8) (h2 : cntE 2 E ≤ 4) (h3 : cntE 3 E ≤ 4) (hc : ∀ i, i ≤ 6 → w' (q + i) = w (q + i)) (hS : ∀ x, x < 688 → S' x = S x) : MR D E n q w' S' := by
  obtain ⟨a1, a2, a3, a4, a5, a6, a7, a8, a9⟩ := h
  refine ⟨fun v k hv hk => ?_, fun v hv => ?_, fun i hi => ?_, fun k hk => ?_, fun v k hv hk => ?_, fun k hk => ?_, ?_, a8.cg hc, fun e he z y v hv => ?_⟩
  · rw [hc 1 (by decide), hS _ (by omega)]; exact a1 v k hv hk
  · rw [hc 2 (by decide), hS _ (by omega)]; exact a2 v hv
  · rw [hc 4 (by decide), hS _ (by omega)]; exact a3 i hi
  · rw [hc 6 (by decide), hS _ (by omega)]; exact a4 k hk
  · rw [hc 3 (by decide), hS _ (by omega), hS _ (by omega)]; exact a5 v k hv hk
  · rw [hc 5 (by decide), hS _ (by omega), hS _ (by omega)]; exact a6 k hk
  · have := hc 0 (by decide)
    rw [Nat.add_zero] at this
    rw [this, a7]
    exact (smI_cg _ (fun i hi => hS _ (by omega))).symm
  · rw [hc 1 (by decide)]; exact a9 e he z y v hv
theorem rg_m0 (h : RgC w) (hq : isMo q) : inI (w q 0) := by
  have := h q (mo_0 hq).1 0 (by rw [(mo_0 hq).2]; decide)
  unfold rng at this
  rw [(mo_0 hq).2, if_neg (by decide), if_neg (by decide)] at this
  exact this
theorem rg_m1 (h : RgC w) (hq : isMo q) {x : Nat} (hx : x < 320) : inI (w (q + 1) x) := by
  have := h (q + 1) (mo_1 hq).1 x (by rw [(mo_1 hq).2]; exact hx)
  unfold rng at this
  rw [(mo_1 hq).2, if_neg (by decide), if_neg (fun z => z.elim (by decide) (fun y => absurd y.1 (by decide)))] at this
  exact this
theorem rg_43 (h : RgC w) : inI (w 43 5) := h 43 (by decide) 5 (by decide)
theorem rg_34 (h : RgC w) {x : Nat} (hx : x < 480) : inI (w 34 x) := h 34 (by decide) x hx
theorem rg_35 (h : RgC w) {x : Nat} (hx : x < 40) : inI (w 35 x) := h 35 (by decide) x hx
theorem rg_36 (h : RgC w) {x : Nat} (hx : x < 40) : inI (w 36 x) := h 36 (by decide) x hx
theorem GrK.c (h : GrK w n na) (v : Nat) : GrC (XCw w mb v) w na := by
  obtain ⟨g1, g2, g3, g4, g5, g6, g7, g8, g9, -⟩ := h
  refine ⟨g2, g5, fun i hi => ⟨rfl, rfl, ?_, ?_⟩, g8, g9⟩
  · show 0 ≤ w 32 i ∧ w 32 i < 40
    have := g6 i hi
    omega
  · show 0 ≤ w 33 i ∧ w 33 i < 40
    have := g6 i hi
    omega
/-- kinds of what a node sees -/
theorem MR.ty {lets : Nat → Int} {v : Nat} (h : MR D E n mb w S) (hn : n ≤ 40) (hl : ∀ k, b01 (lets k)) (hv : v < n) : TyX E (fun k => w (mb + 1) (8 * v + k)) lets (XCw w mb v) := by
  obtain ⟨-, -, -, -, -, -, -, a8, a9⟩ := h
  intro e he hk
  obtain ⟨b1, b2⟩ := a8.2.2 e he hk
  exact ⟨fun z => a9 e he hk z v hv, fun _ => hl _, fun z => b1 z v (by omega), fun z => b2 z⟩
theorem RgC.x {lets : Nat → Int} {v : Nat} (h : RgC w) (hE : ENb E) (hm : isMo mb) (hK : NK E mb w) (hG : GrK w n na) (hl : ∀ k, inI (lets k)) (hv : v < n) : RgX E (fun k => w (mb + 1) (8 * v + k)) lets (XCw w mb v) := by
  obtain ⟨g1, g2, g3, g4, g5, -⟩ := hG
  refine ⟨fun e he => ⟨fun z => ?_, fun _ => hl _, fun z => ?_, fun z => ?_⟩, fun b hb => ?_⟩
  · obtain ⟨-, h2⟩ := hE e he
    rw [z] at h2
    have h2 : (e.2.2.1 : Int) < 8 := h2
    exact rg_m1 h hm (by omega)
  · exact hK.1 _ (idx_160 (by omega) (enb_4 hE he (Or.inl z)))
  · exact hK.2.1 _ (enb_4 hE he (Or.inr z))
  · rcases (by omega : b = 0 ∨ b = 1 ∨ b = 2 ∨ b = 3 ∨ b = 4 ∨ b = 5) with rfl | rfl | rfl | rfl | rfl | rfl
    · show inI (v : Int)
      unfold inI; omega
    · exact rg_m0 h hm
    · exact rg_43 h
    · show inI (w 31 0)
      rw [g1]; unfold inI; omega
    · exact rg_35 h (by omega)
    · exact rg_36 h (by omega)
/-- what a node's work leaves -/
theorem fc_ok {a : Tr} {j v pc : Nat} {σ : SS} (hL : L ≤ 4000) (hR : RgC w) (hE : EV E) (hm : isMo mb) (hM : MR D E n mb w S) (hG : GrK w n na) (hB : BkC T L j a E w pc) (hv : v < n) (hσ : FC T L w mb a E v = .ok σ) : (∀ e ∈ ze σ, WEv E n e ∧ inI e.2.2) ∧ (ze σ).length ≤ zs σ ∧ ∀ e ∈ E, e.2.2.2 = 2 → e.2.1 = 1 → b01 (zo σ e.2.2.1) := by
  obtain ⟨g1, g2, g3, g4, g5, g6, -⟩ := id hG
  obtain ⟨b1, b2, b3, b4, b5, b6, -⟩ := hB
  have hTy := hM.ty (lets := fun _ => 0) g4 (fun _ => Or.inl rfl) hv
  have hRg := hR.x (lets := fun _ => 0) hE.1 hm hM.2.2.2.2.2.2.2.1 hG (fun _ => (by decide)) hv
  have e06 : (XCw w mb v 0 6).toNat = na := by
    show (w 31 1).toNat = na
    rw [g2]; rfl
  have hev := rns_ev (n := n) (vl := vlT T L) hL (fun i hi => by
    rw [e06] at hi
    have := g6 i hi
    refine ⟨?_, ?_⟩
    · show (w 32 i).toNat < n
      omega
    · show (w 33 i).toNat < n
      omega) a true E 0 13 _ σ b2 b3 b5 b6 hE hTy hσ
  have hin := rns_in (vl := vlT T L) hL (fun i hi k hk => by
    rw [e06] at hi
    exact rg_34 hR (by omega)) a true E 0 13 _ σ b2 b5 b6 hE ⟨hRg, fun e he => by cases he⟩ hσ
  have hty := rns_ty (vl := vlT T L) hL a true E 0 13 _ σ b2 b3 b5 b6 hE hTy hσ
  rw [eSt_n12 (by rw [b1]; decide)] at hin hty
  obtain ⟨l, e1, e2, e3⟩ := hev
  have e1 : ze σ = [] ++ l := e1
  have e2 : 0 + l.length ≤ zs σ := e2
  rw [List.nil_append] at e1
  refine ⟨fun e he => ⟨e3 e (by rw [← e1]; exact he), hin.2 e he⟩, by rw [e1]; omega, fun e he hk hs => (hty e he hk).1 hs⟩
theorem evT_ok {F : Nat → PE SS} {act : Nat → Bool} (hF : ∀ v, v < n → act v = true → ∃ σ, F v = .ok σ) (hσ : ∀ v σ, v < n → F v = .ok σ → (∀ e ∈ ze σ, WEv E n e ∧ inI e.2.2) ∧ (ze σ).length ≤ zs σ) : ∀ u, u ≤ n → (∀ e ∈ evT F act u, WEv E n e ∧ inI e.2.2) ∧ (evT F act u).length ≤ sumT F act u
  | 0, _ => ⟨fun e he => (by cases he), Nat.le_refl _⟩
  | u + 1, hu => by
    obtain ⟨i1, i2⟩ := evT_ok hF hσ u (by omega)
    rw [evT, sumT]
    by_cases ha : act u = true
    · rw [if_pos ha, if_pos ha]
      obtain ⟨σ, hs⟩ := hF u (by omega) ha
      obtain ⟨s1, s2⟩ := hσ u σ (by omega) hs
      rw [gT_ok hs, List.length_append]
      refine ⟨fun e he => ?_, by omega⟩
      rcases List.mem_append.mp he with z | z
      · exact i1 e z
      · exact s1 e z
    · rw [if_neg ha, if_neg ha, List.append_nil]
      exact ⟨i1, i2⟩
theorem ev_f0 (hm : isMo ma) : ∀ (l : List (Nat × Nat × Int)) (w0 : Wd), (l.foldl (evW ma) w0) ma 0 = w0 ma 0
  | [], _ => rfl
  | e :: l, w0 => by
    have hr := mo_rng hm
    show (l.foldl (evW ma) (evW ma w0 e)) ma 0 = w0 ma 0
    rw [ev_f0 hm l]
    unfold evW
    split
    · rw [up_o (by omega), up_o (by omega)]
    · rw [up_k (by decide), up_o (by omega), up_o (by omega)]
end MRel
