/-! ===== the class: a TURN ===== -/
def XCw (w : Wd) (mb v : Nat) : Xv := fun a b => if a = 0 then (if b = 0 then (v : Int) else if b = 1 then w mb 0 else if b = 2 then w 43 5 else if b = 3 then w 31 0 else if b = 4 then w 35 v else if b = 5 then w 36 v else w 31 1) else if a = 1 then w (mb + 3) (4 * v + b) else if a = 2 then w (mb + 4) (4 * v + b) else if a = 3 then w (mb + 5) b else if a = 4 then w 34 b else if a = 5 then w 32 b else w 33 b
def gT (F : Nat → PE SS) (v : Nat) : SS := match F v with
  | .ok σ => σ
  | .error _ => (0, 0, fun _ => 0, fun _ => 0, [], false)
def evT (F : Nat → PE SS) (act : Nat → Bool) : Nat → List (Nat × Nat × Int)
  | 0 => []
  | u + 1 => evT F act u ++ (if act u = true then ze (gT F u) else [])
def sumT (F : Nat → PE SS) (act : Nat → Bool) : Nat → Nat
  | 0 => 0
  | u + 1 => sumT F act u + (if act u = true then zs (gT F u) else 0)
theorem gT_ok {F : Nat → PE SS} {v : Nat} {σ : SS} (h : F v = .ok σ) : gT F v = σ := by unfold gT; rw [h]
/-- a block of the program, as the class holds it -/
def BkC (T : Nat → Int) (L j : Nat) (a : Tr) (E : List En) (w : Wd) (pc : Nat) : Prop := tg a = 21 ∧ WS a ∧ SX (kdT T L) j a ∧ SY (kdT T L) a ∧ OB (kdT T L) (vlT T L) a 13 (cntE 4 E) ∧ 100000 ≤ jS T L a E ∧ (∃ h_ h2 : Nat, CdA w pc (cmS T L a E pc 0 (h_ : Int) ++ [(31, 0, 0, (h2 : Int))])) ∧ ((pc + nK a : Nat) : Int) < w 19 4 ∧ pc + nK a < 1024
def FoK (q q1 : Nat) (w w' : Wd) : Prop := (∀ o, o ≠ 101 → ¬ (q ≤ o ∧ o ≤ q + 6) → w' o = w o) ∧ w' q 0 = wr (w q1 0 + 1) ∧ w' q 1 = 0 ∧ (∀ x, x < 320 → w' (q + 1) x = w (q1 + 1) x) ∧ (∀ x, x < 40 → w' (q + 2) x = w (q1 + 2) x) ∧ (∀ i, i < 160 → w' (q + 3) i = nthC (w 10 (i % 4)) ∧ w' (q + 4) i = 0) ∧ ∀ k, k < 4 → w' (q + 5) k = nthC (w 11 k) ∧ w' (q + 6) k = 0
/-- amid a TURN: the nodes before u are done -/
def TC (ma c1 : Nat) (F : Nat → PE SS) (act : Nat → Bool) (w5 w' : Wd) (u : Nat) : Prop := FWk ma w5 w' ∧ (∀ v, v < u → act v = true → (∀ k, k < c1 → w' (ma + 1) (8 * v + k) = zo (gT F v) k) ∧ w' (ma + 2) v = (if zb (gT F v) = true then 1 else 0) ∧ ∃ σ, F v = .ok σ) ∧ (∀ v, (u ≤ v ∨ act v = false) → (∀ k, k < 8 → w' (ma + 1) (8 * v + k) = w5 (ma + 1) (8 * v + k)) ∧ w' (ma + 2) v = w5 (ma + 2) v) ∧ (∀ o, isEv ma o → w' o = ((evT F act u).foldl (evW ma) w5) o) ∧ sumT F act u ≤ 1000 * u
theorem stq_e1 {h s : Nat} {x : Nat × Nat} (e : stq h s = .error x) : 1 ≤ x.1 := by
  obtain ⟨rfl, -⟩ := stq_er e
  show 1 ≤ 3
  decide
theorem bnd_e {α β : Type} {x : PE α} {f : α → PE β} {e : Nat × Nat} (h : bnd x f = .error e) : x = .error e ∨ ∃ a, x = .ok a ∧ f a = .error e := by
  cases x with
  | error e' =>
    left
    have h : (.error e' : PE β) = .error e := h
    cases h
    rfl
  | ok a => right; exact ⟨a, rfl, h⟩
theorem evx_er {T : Nat → Int} {L : Nat} {X : Xv} {h arc : Nat} {E : List En} {own lets : Nat → Int} : ∀ (a : Tr) (b : Bool) (s d : Nat) (e : Nat × Nat), evx T L X h E own lets arc b a s d = .error e → 1 ≤ e.1
  | .leaf, b, s, d, e, he => by cases b <;> cases he
  | .inner c t q l r, b, s, d, e, he => by
    have hl := evx_er (T := T) (L := L) (X := X) (h := h) (arc := arc) (E := E) (own := own) (lets := lets) l
    have hr := evx_er (T := T) (L := L) (X := X) (h := h) (arc := arc) (E := E) (own := own) (lets := lets) r
    rw [evx] at he
    split at he
    · rcases bnd_e he with z | ⟨s1, -, z⟩
      · exact stq_e1 z
      · cases z
    split at he
    · rcases bnd_e he with z | ⟨p, -, z⟩
      · exact hl _ _ _ _ z
      · rcases bnd_e z with z | ⟨s1, -, z⟩
        · exact stq_e1 z
        · split at z
          · cases z; show 1 ≤ 2; decide
          · cases z
    split at he
    · rcases bnd_e he with z | ⟨p, -, z⟩
      · exact hl _ _ _ _ z
      · rcases bnd_e z with z | ⟨s1, -, z⟩
        · exact stq_e1 z
        · exact hr _ _ _ _ z
    split at he
    · split at he
      · exact hl _ _ _ _ he
      · exact hr _ _ _ _ he
    split at he
    · rcases bnd_e he with z | ⟨p, -, z⟩
      · exact hl _ _ _ _ z
      · rcases bnd_e z with z | ⟨s1, -, z⟩
        · exact stq_e1 z
        · cases z
    split at he
    · split at he
      · rcases bnd_e he with z | ⟨p, -, z⟩
        · exact hl _ _ _ _ z
        · rcases bnd_e z with z | ⟨s1, -, z⟩
          · exact stq_e1 z
          · by_cases hq : p.1 = (if lnO (kdT T L t) = 2 then 0 else 1)
            · rw [if_pos hq] at z; cases z
            · rw [if_neg hq] at z; exact hr _ _ _ _ z
      · rcases bnd_e he with z | ⟨p, -, z⟩
        · exact hl _ _ _ _ z
        · rcases bnd_e z with z | ⟨p2, -, z⟩
          · exact hr _ _ _ _ z
          · rcases bnd_e z with z | ⟨s1, -, z⟩
            · exact stq_e1 z
            · split at z
              · cases z; show 1 ≤ 1; decide
              · cases z
    · exact hl _ _ _ _ he
theorem itr_er {h : Nat} {f : SS → PE SS} (hf : ∀ σ e, f σ = .error e → 1 ≤ e.1) : ∀ (n : Nat) (σ : SS) (e : Nat × Nat), itr h f n σ = .error e → 1 ≤ e.1
  | 0, σ, e, he => by cases he
  | n + 1, σ, e, he => by
    rw [itr] at he
    split at he
    · cases he
    · rcases bnd_e he with z | ⟨s1, -, z⟩
      · exact stq_e1 z
      · rcases bnd_e z with z | ⟨σ', -, z⟩
        · exact hf _ _ z
        · exact itr_er hf n _ _ z
theorem snd_er {h k : Nat} {f : Nat → SS → PE (Int × Nat × Nat)} {to : Nat → Nat} (hf : ∀ i σ e, f i σ = .error e → 1 ≤ e.1) : ∀ (l : List Nat) (σ : SS) (e : Nat × Nat), snd_ h f to k l σ = .error e → 1 ≤ e.1
  | [], σ, e, he => by cases he
  | i :: t, σ, e, he => by
    rw [snd_] at he
    rcases bnd_e he with z | ⟨s1, -, z⟩
    · exact stq_e1 z
    · rcases bnd_e z with z | ⟨q, -, z⟩
      · exact hf _ _ _ z
      · exact snd_er hf t _ _ z
/-- a FAILURE has a number -/
theorem rns_er' {T : Nat → Int} {L : Nat} {X : Xv} : ∀ (a : Tr) (b : Bool) (E : List En) (h : Nat) (σ : SS) (e : Nat × Nat), rns T L X b a E h σ = .error e → 1 ≤ e.1
  | .leaf, b, E, h, σ, e, he => by cases b <;> cases he
  | .inner c t q l r, b, E, h, σ, e, he => by
    have hl := rns_er' (T := T) (L := L) (X := X) l
    have hr := rns_er' (T := T) (L := L) (X := X) r
    have hev : ∀ arc σ e, evs T L X h E arc l σ = .error e → 1 ≤ e.1 := fun arc σ e z => evx_er l _ _ _ e z
    rw [rns] at he
    split at he
    · split at he
      · cases he
      · rcases bnd_e he with z | ⟨s1, -, z⟩
        · exact stq_e1 z
        · rcases bnd_e z with z | ⟨σ', -, z⟩
          · exact hl _ _ _ _ _ z
          · exact hr _ _ _ _ _ z
    split at he
    · split at he
      · exact hl _ _ _ _ _ he
      · exact hr _ _ _ _ _ he
    split at he
    · exact hl _ _ _ _ _ he
    split at he
    · rcases bnd_e he with z | ⟨v, -, z⟩
      · exact hev _ _ _ z
      · exact hr _ _ _ _ _ z
    split at he
    · exact itr_er (fun σ e z => hl _ _ _ _ _ z) _ _ _ he
    split at he
    · cases he
    split at he
    · rcases bnd_e he with z | ⟨v, -, z⟩
      · exact hev _ _ _ z
      · cases z
    split at he
    · rcases bnd_e he with z | ⟨v, -, z⟩
      · exact hev _ _ _ z
      · cases z
    split at he
    · rcases bnd_e he with z | ⟨v, -, z⟩
      · exact hev _ _ _ z
      · cases z
    · exact snd_er (fun i σ e z => hev i σ e z) _ _ _ he
theorem rns_er {T : Nat → Int} {L : Nat} {X : Xv} {a : Tr} {b : Bool} {E : List En} {h : Nat} {σ : SS} {e : Nat × Nat} (he : rns T L X b a E h σ = .error e) : 1 ≤ e.1 := rns_er' a b E h σ e he
theorem sum_le {a b u : Nat} (h : a ≤ 1000 * u) (hb : b ≤ 1000) : a + b ≤ 1000 * (u + 1) := by omega
theorem sum_l0 {a u : Nat} (h : a ≤ 1000 * u) : a ≤ 1000 * (u + 1) := by omega
theorem sum_wr {a b u : Nat} (h : a ≤ 1000 * u) (hu : u ≤ 40) (hb : b ≤ 1000) : wr ((a : Int) + (b : Int)) = ((a + b : Nat) : Int) := by
  rw [wr_id (by unfold inI; omega)]
  omega
section TurnC
variable {g : Mg} {d : Nat} {T : Nat → Int} {L : Nat} {ma mb n na j c1 : Nat} {K : Ou → Wd → Prop} {w w5 w' : Wd} {a : Tr} {E : List En} {pc : Nat} {F : Nat → PE SS} {act : Nat → Bool}
theorem evf_cg (hm : isMo ma) : ∀ (l : List (Nat × Nat × Int)) {w w' : Wd}, w' 10 = w 10 → w' 11 = w 11 → (∀ o, isEv ma o → w' o = w o) → ∀ o, isEv ma o → l.foldl (evW ma) w' o = l.foldl (evW ma) w o
  | [], _, _, _, _, h => h
  | e :: l, w, w', h10, h11, h => by
    have hr := mo_rng hm
    exact evf_cg hm l (by rw [evW_o (by unfold isEv; omega), evW_o (by unfold isEv; omega)]; exact h10) (by rw [evW_o (by unfold isEv; omega), evW_o (by unfold isEv; omega)]; exact h11) (evW_cg hm h10 h11 h)
theorem FWk.tr {a b c : Wd} (h1 : FWk ma a b) (h2 : FWk ma b c) : FWk ma a c := ⟨fun o p => (h2.1 o p).trans (h1.1 o p), fun o p q r => (h2.2.1 o p q r).trans (h1.2.1 o p q r), fun b p => (h2.2.2 b p).trans (h1.2.2 b p)⟩
/-- the world at a node's work -/
theorem w0_of {v : Nat} {p : Int} (hL : L ≤ 4000) (hd : 7 ≤ d) (hma : isMo ma) (hmb : isMo mb) (hne : ma ≠ mb) (hv : v < 40) (hG : GrC (XCw w mb v) w na) (hFo : FoK ma mb w w5) (h6 : w5 101 6 = (mb : Int)) (h7 : w5 101 7 = (ma : Int)) (h8 : w5 101 8 = w 43 5) (hF : FWk ma w5 w') : W0 L (XCw w mb v) ma mb v na (wk (up w' (ma + 2) v 0) v p) d := by
  have ra := mo_rng hma
  have rb := mo_rng hmb
  have rn := mo_ne hma hmb hne
  have lo : ∀ o, o < 45 → wk (up w' (ma + 2) v 0) v p o = w o := fun o ho => by rw [wk_o (by omega), up_o (by omega), hF.1 o ho, hFo.1 o (by omega) (by omega)]
  have mo : ∀ i, i ≤ 6 → wk (up w' (ma + 2) v 0) v p (mb + i) = w (mb + i) := fun i hi => by rw [wk_o (by omega), up_o (by omega), hF.2.1 (mb + i) (by omega) (by omega) (by omega), hFo.1 (mb + i) (by omega) (by omega)]
  have wb : ∀ b, b < 9 → wk (up w' (ma + 2) v 0) v p 101 b = w5 101 b := fun b hb => by rw [wk_b hb, up_o (by omega), hF.2.2 b hb]
  refine ⟨hL, hd, ⟨by rw [wb 6 (by decide)]; exact h6, hmb, ?_, hv, rfl, ?_, by rw [wb 8 (by decide)]; exact h8, by rw [lo 31 (by decide)]; rfl, by rw [lo 35 (by decide)]; rfl, by rw [lo 36 (by decide)]; rfl, fun k hk => ⟨by rw [mo 3 (by decide)]; rfl, by rw [mo 4 (by decide)]; rfl, by rw [mo 5 (by decide)]; rfl⟩, fun i hi => by rw [lo 34 (by decide)]; rfl⟩, hma, hne, by rw [wb 7 (by decide)]; exact h7, ?_⟩
  · unfold wk; rw [up_k (by decide), up_k (by decide), up_k (by decide), up_k (by decide), up_k (by decide), up_s]
  · rw [show wk (up w' (ma + 2) v 0) v p mb = w mb from mo 0 (by decide)]; rfl
  · unfold GrC at *
    rw [lo 32 (by decide), lo 33 (by decide), lo 37 (by decide), lo 40 (by decide), lo 39 (by decide), lo 42 (by decide)]
    exact hG
/-- what a node does, purely -/
def FC (T : Nat → Int) (L : Nat) (w : Wd) (mb : Nat) (a : Tr) (E : List En) (v : Nat) : PE SS := rns T L (XCw w mb v) true a E 0 (0, 0, (fun k => w (mb + 1) (8 * v + k)), (fun _ => 0), [], false)
abbrev actC (w : Wd) (mb : Nat) (v : Nat) : Bool := decide (w (mb + 2) v = 0 ∨ wkB (w (mb + 4)) v)
theorem turn_loop {x2 : Int} (hL : L ≤ 4000) (hd : 8 ≤ d) (hma : isMo ma) (hmb : isMo mb) (hne : ma ≠ mb) (hn : n ≤ 40) (h31 : w 31 0 = (n : Int)) (hG : ∀ v, v < n → GrC (XCw w mb v) w na) (hB : BkC T L j a E w pc) (hpc : if w mb 0 = 0 then w 8 4 = (pc : Int) else w 8 5 = (pc : Int)) (hE : ENb E) (hN : NUM E) (hc4 : cntE 4 E = 0) (hc1 : cntE 1 E ≤ 8) (hFo : FoK ma mb w w5) (h6 : w5 101 6 = (mb : Int)) (h7 : w5 101 7 = (ma : Int)) (h8 : w5 101 8 = w 43 5)
    (hok : ∀ w', TC ma (cntE 1 E) (FC T L w mb a E) (actC w mb) w5 w' n → ∀ x, x = wr (w' 43 12 + 1) → K (.inl (some (vI 1))) (up (up (up w' 43 6 ((sumT (FC T L w mb a E) (actC w mb) n : Nat) : Int)) 43 4 x2) 43 12 (if 6 < x then 6 else x)))
    (her : ∀ v e w', v < n → actC w mb v = true → FC T L w mb a E v = .error e → (∀ u, u < v → actC w mb u = true → ∃ σ, FC T L w mb a E u = .ok σ) → FWk ma w5 w' → K (.inl (some (vI 0))) (up (up (up (up w' 43 7 (e.1 : Int)) 43 8 (v : Int)) 43 9 (e.2 : Int)) 43 10 (w mb 0))) : ∀ (m u : Nat) (w' : Wd), u + m = n → TC ma (cntE 1 E) (FC T L w mb a E) (actC w mb) w5 w' u → V g LC jMa_doTurn (d + 1) K 50 [(0, vA 43), (1, vA mb), (2, vI x2), (3, vA ma), (4, vI ((sumT (FC T L w mb a E) (actC w mb) u : Nat) : Int)), (5, vI (u : Int))] [] w' := by
  have ra := mo_rng hma
  have rb := mo_rng hmb
  have rn := mo_ne hma hmb hne
  obtain ⟨b1, b2, b3, b4, b5, b6, ⟨h_, h2, b7⟩, b8, b9⟩ := hB
  intro m
  induction m with
  | zero =>
    intro u w' hu hT
    have : u = n := by omega
    subst this
    have e31 : w' 31 0 = (u : Int) := by rw [hT.1.1 31 (by decide), hFo.1 31 (by decide) (by omega)]; exact h31
    refine s_Ma_doTurn_50 hmb hma ⟨fun _ => sp_min ?_, fun z => absurd (by rw [e31]; exact Int.le_refl _) z⟩
    exact hok w' hT _ rfl
  | succ m ih =>
    intro u w' hu hT
    obtain ⟨t1, t2, t3, t4, t5⟩ := id hT
    have e31 : w' 31 0 = (n : Int) := by rw [t1.1 31 (by decide), hFo.1 31 (by decide) (by omega)]; exact h31
    have hu40 : u < 40 := by omega
    have hbu : (0 : Int) ≤ (u : Int) ∧ (u : Int) < 40 := by omega
    have emb : ∀ i, i ≤ 6 → w' (mb + i) = w (mb + i) := fun i hi => by rw [t1.2.1 (mb + i) (by omega) (by omega) (by omega), hFo.1 (mb + i) (by omega) (by omega)]
    have work : actC w mb u = true → Cal g LC jWo_work d [vA 101, vI (u : Int)] (up w' (ma + 2) ((u : Int)).toNat 0) (fun o w3 => rV o (((w3 101 16) = 0 → (V g LC jMa_doTurn (d + 1) K 50 [(0, vA 43), (1, vA mb), (2, vI x2), (3, vA ma), (4, vI (wr (((sumT (FC T L w mb a E) (actC w mb) u : Nat) : Int) + (w3 101 15)))), (5, vI (wr ((u : Int) + 1)))] [] w3)) ∧ (¬ (w3 101 16) = 0 → (Cal g LC jMa_noteFailure d [vA 43, vI (u : Int), vI (w3 mb 0)] w3 (fun o w4 => rV o (K (.inl (some (vI 0))) w4)))))) := by
      intro hact
      rw [toN u]
      obtain ⟨d', rfl⟩ : ∃ d', d = d' + 1 := ⟨d - 1, by omega⟩
      have hW0 := w0_of (p := (pc : Int)) (v := u) (d := d') hL (by omega) hma hmb hne hu40 (hG u (by omega)) hFo h6 h7 h8 t1
      have lo : ∀ o, o < 45 → up w' (ma + 2) u 0 o = w o := fun o ho => by rw [up_o (by omega), t1.1 o ho, hFo.1 o (by omega) (by omega)]
      have hmb' : up w' (ma + 2) u 0 mb = w mb := by rw [up_o (by omega)]; exact emb 0 (by decide)
      have hSQ : SQ E (0, 0, (fun k => up w' (ma + 2) u 0 (ma + 1) (8 * u + k)), (fun k => up w' (ma + 2) u 0 103 k), [], false) (0, 0, (fun k => w (mb + 1) (8 * u + k)), (fun _ => 0), [], false) := by
        refine ⟨rfl, rfl, fun k hk => ?_, fun k hk => by omega, rfl, rfl⟩
        show up w' (ma + 2) u 0 (ma + 1) (8 * u + k) = w (mb + 1) (8 * u + k)
        rw [up_o (by omega), (t3 u (Or.inl (Nat.le_refl _))).1 k (by omega), hFo.2.2.2.1 _ (by omega)]
      have hrq : RQ E (rns T L (XCw w mb u) true a E 0 (0, 0, (fun k => up w' (ma + 2) u 0 (ma + 1) (8 * u + k)), (fun k => up w' (ma + 2) u 0 103 k), [], false)) (FC T L w mb a E u) := by
        have := rns_cg (T := T) (L := L) (X := XCw w mb u) a true E 0 _ _ hN hSQ
        rw [eSt_n12 (by rw [b1]; decide)] at this
        exact this
      refine sp_workC (T := T) (j := j) (a := a) (E := E) (h_ := h_) (h2 := (h2 : Int)) hW0 b1 b2 b3 b4 b5 b6 hE (by rw [toN]; exact b7.fx (fun o p q => lo o (by omega))) (by rw [lo 19 (by decide)]; exact b8) b9 (by rw [hmb', lo 8 (by decide)]; exact hpc) (fun σ' hσ z1 w3 f3 m3 r3 s3 k3 => ⟨fun _ => ?_, fun z => absurd k3 z⟩) (fun e he w3 f3 q1 q2 => ⟨fun z => ?_, fun _ => ?_⟩)
      · rw [hσ] at hrq
        cases hFu : FC T L w mb a E u with
        | error e => rw [hFu] at hrq; exact hrq.elim
        | ok τ =>
          rw [hFu] at hrq
          obtain ⟨s1, s2, s3', s4, s5, s6⟩ := hrq
          have hg : gT (FC T L w mb a E) u = τ := gT_ok hFu
          have hsum : sumT (FC T L w mb a E) (actC w mb) (u + 1) = sumT (FC T L w mb a E) (actC w mb) u + zs τ := by rw [sumT, if_pos hact, hg]
          have hev : evT (FC T L w mb a E) (actC w mb) (u + 1) = evT (FC T L w mb a E) (actC w mb) u ++ ze τ := by rw [evT, if_pos hact, hg]
          have hz : zs τ ≤ 1000 := by rw [← s1]; exact z1
          have hw : wr (((sumT (FC T L w mb a E) (actC w mb) u : Nat) : Int) + (zs σ' : Int)) = ((sumT (FC T L w mb a E) (actC w mb) u + zs τ : Nat) : Int) := by
            rw [s1]
            exact sum_wr t5 (by omega) hz
          rw [s3, hw, wr_n1 (by omega), ← hsum]
          refine ih (u + 1) w3 (by omega) ⟨?_, fun v hv hav => ?_, fun v hv => ?_, fun o ho => ?_, by rw [hsum]; exact sum_le t5 hz⟩
          · refine t1.tr (FWk.tr ⟨fun o p => up_o (by omega), fun o p q r => up_o (by omega), fun b p => by rw [up_o (by omega)]⟩ f3)
          · by_cases hvu : v = u
            · subst hvu
              rw [hg]
              refine ⟨fun k hk => ?_, ?_, ⟨τ, hFu⟩⟩
              · rw [m3.1 k (by omega)]; exact s3' k hk
              · rw [r3, s6]
                split
                · unfold upf; rw [if_pos rfl]
                · exact up_s _ _ _ _
            · obtain ⟨y1, y2, y3⟩ := t2 v (by omega) hav
              refine ⟨fun k hk => ?_, ?_, y3⟩
              · rw [m3.2.1 (8 * v + k) (by omega), up_o (by omega)]; exact y1 k hk
              · rw [r3]
                split
                · unfold upf; rw [if_neg hvu, up_k hvu]; exact y2
                · rw [up_k hvu]; exact y2
          · have hvu : v ≠ u := by
              intro z
              subst z
              rcases hv with z | z
              · omega
              · rw [hact] at z; cases z
            obtain ⟨y1, y2⟩ := t3 v (by rcases hv with z | z; exact Or.inl (by omega); exact Or.inr z)
            refine ⟨fun k hk => ?_, ?_⟩
            · rw [m3.2.1 (8 * v + k) (by omega), up_o (by omega)]; exact y1 k hk
            · rw [r3]
              split
              · unfold upf; rw [if_neg hvu, up_k hvu]; exact y2
              · rw [up_k hvu]; exact y2
          · rw [m3.2.2.2 o ho, s5, hev, List.foldl_append]
            refine evf_cg hma (ze τ) ?_ ?_ (fun o ho => ?_) o ho
            · rw [lo 10 (by decide), ev_fold_o hma (by unfold isEv; omega), hFo.1 10 (by decide) (by omega)]
            · rw [lo 11 (by decide), ev_fold_o hma (by unfold isEv; omega), hFo.1 11 (by decide) (by omega)]
            · rw [up_o (by unfold isEv at ho; omega)]; exact t4 o ho
      · exfalso
        have hne0 := rns_er he
        omega
      · rw [he] at hrq
        cases hFu : FC T L w mb a E u with
        | ok τ => rw [hFu] at hrq; exact hrq.elim
        | error e' =>
          rw [hFu] at hrq
          have hrq : e = e' := hrq
          subst hrq
          have hm3 : w3 mb 0 = w mb 0 := by rw [f3.2.1 mb (by omega) (by omega) (by omega), hmb']
          refine Cal.ofV (by decide) rfl (Nat.le_of_ble_eq_true rfl) (s_Ma_noteFailure ?_)
          rw [q1, q2, hm3]
          refine her u e w3 (by omega) hact hFu (fun v hv hav => (t2 v hv hav).2.2) ?_
          exact t1.tr (FWk.tr ⟨fun o p => up_o (by omega), fun o p q r => up_o (by omega), fun b p => by rw [up_o (by omega)]⟩ f3)
    have skip : actC w mb u = false → V g LC jMa_doTurn (d + 1) K 50 [(0, vA 43), (1, vA mb), (2, vI x2), (3, vA ma), (4, vI ((sumT (FC T L w mb a E) (actC w mb) u : Nat) : Int)), (5, vI (wr ((u : Int) + 1)))] [] w' := by
      intro hact
      have hsum : sumT (FC T L w mb a E) (actC w mb) (u + 1) = sumT (FC T L w mb a E) (actC w mb) u := by rw [sumT, if_neg (by rw [hact]; decide)]; rfl
      have hev : evT (FC T L w mb a E) (actC w mb) (u + 1) = evT (FC T L w mb a E) (actC w mb) u := by rw [evT, if_neg (by rw [hact]; decide), List.append_nil]
      rw [wr_n1 (by omega), ← hsum]
      refine ih (u + 1) w' (by omega) ⟨t1, fun v hv hav => t2 v ?_ hav, fun v hv => t3 v ?_, fun o ho => by rw [hev]; exact t4 o ho, by rw [hsum]; exact sum_l0 t5⟩
      · by_cases hvu : v = u
        · subst hvu; rw [hact] at hav; cases hav
        · omega
      · rcases hv with z | z
        · exact Or.inl (by omega)
        · exact Or.inr z
    refine s_Ma_doTurn_50 hmb hma ⟨fun z => absurd z (by rw [e31]; omega), fun _ => ⟨hbu, fun z => ⟨hbu, work ?_⟩, fun z => sp_wakes hmb hu40 ⟨fun y => skip ?_, fun y => ⟨hbu, work ?_⟩⟩⟩⟩
    · rw [toN, emb 2 (by decide)] at z
      exact decide_eq_true (Or.inl z)
    · rw [toN, emb 2 (by decide)] at z
      rw [emb 4 (by decide)] at y
      refine decide_eq_false (fun q => ?_)
      rcases q with q | q
      · exact z q
      · rw [if_pos q] at y; exact absurd y (by decide)
    · rw [emb 4 (by decide)] at y
      refine decide_eq_true (Or.inr ?_)
      by_cases q : wkB (w (mb + 4)) u
      · exact q
      · rw [if_neg q] at y; exact absurd rfl y
end TurnC
