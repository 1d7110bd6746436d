/-! ===== the class's worker does statements ===== -/
abbrev KEr (K : Ou → Wd → Prop) (ma : Nat) (w0 : Wd) (e : Nat × Nat) : Prop := ∀ w', FW2 ma w0 w' → w' 101 16 = (e.1 : Int) → w' 101 17 = (e.2 : Int) → K (.inl none) w'
abbrev KHa (K : Ou → Wd → Prop) (ma v : Nat) (w0 : Wd) (σ : SS) : Prop := ∀ w', FW2 ma w0 w' → MvC ma v w0 w' σ → w' (ma + 2) = upf (w0 (ma + 2)) v 1 → w' 101 15 = (zs σ : Int) → w' 101 16 = 0 → K (.inl none) w'
def slk (a : Tr) : Nat := if 11 ≤ tg a ∧ tg a ≤ 17 then 2 else 0
/-- what is done with a statement, a row of them, a block -/
def SpSt (g : Mg) (d : Nat) (T : Nat → Int) (L : Nat) (X : Xv) (ma v : Nat) (w0 : Wd) (a : Tr) (E : List En) (nb : Nat) : Prop := ∀ (K : Ou → Wd → Prop) (pc lp h_ n : Nat) (σ : SS) (w : Wd), lp + nb ≤ 13 → RS ma v w0 w σ → At w pc [] (zs σ) (zd σ) → zb σ = false → CdA w0 pc (cmS T L a E pc lp (h_ : Int)) → ((pc + nK a : Nat) : Int) < w0 19 4 → pc + nK a < 1024 → n + 3 * (1001 - zs σ) + slk a ≤ 90000 → zs σ ≤ 1000 → zd σ ≤ zs σ → (∀ σ', rns T L X true a E h_ σ = .ok σ' → zs σ' ≤ 1000 → zd σ' ≤ zs σ' → (zb σ' = false → ∀ w' n', RS ma v w0 w' σ' → At w' (pc + nK a) [] (zs σ') (zd σ') → (∀ i, i < lp → w' 104 i = w 104 i) → n' + 3 * (1001 - zs σ') ≤ n + 3 * (1001 - zs σ) + slk a → WH g d K n' w') ∧ (zb σ' = true → KHa K ma v w0 σ')) → (∀ e, rns T L X true a E h_ σ = .error e → KEr K ma w0 e) → WH g d K n w
section WSt3
variable {g : Mg} {d : Nat} {T : Nat → Int} {L : Nat} {X : Xv} {ma mb v na j : Nat} {w0 : Wd}
/-- what holds of the world before -/
def W0 (L : Nat) (X : Xv) (ma mb v na : Nat) (w0 : Wd) (d : Nat) : Prop := L ≤ 4000 ∧ 7 ≤ d ∧ XCl X w0 mb v ∧ isMo ma ∧ ma ≠ mb ∧ w0 101 7 = (ma : Int) ∧ GrC X w0 na
theorem CdA.f2 {w : Wd} {pc : Nat} {l : List Hd} (h : CdA w0 pc l) (hf : FW2 ma w0 w) : CdA w pc l := h.fx (fun o p q => hf.1 o (by omega))
theorem wc_exp {K : Ou → Wd → Prop} {bb : Bool} {arc pc h_ n : Nat} {a : Tr} {E : List En} {σ : SS} {w : Wd} (h0 : W0 L X ma mb v na w0 d) (hE : ENb E) (hW : WE a) (hx : XO (kdT T L) j a) (hy : K0 (kdT T L) a ∧ skN (kdT T L) a ≤ 50) (hj : 100000 ≤ jkT T L E bb a) (hR : RS ma v w0 w σ) (hA : At w pc [] (zs σ) (zd σ)) (ha : bb = true → w 101 12 = (arc : Int) ∧ arc < 120) (hcd : CdA w0 pc (hX T L E a pc (h_ : Int))) (hsz : ((pc + nD a : Nat) : Int) < w0 19 4) (hpc : pc + nD a < 1024) (hn : n + 3 * (1001 - zs σ) ≤ 100000) (hs : zs σ ≤ 1000) (hdz : zd σ ≤ zs σ) (hok : ∀ q n' w', evs T L X h_ E arc a σ = .ok q → n' + 3 * (1001 - q.2.1) + 1 ≤ n + 3 * (1001 - zs σ) → q.2.1 ≤ 1000 → q.2.2 ≤ q.2.1 → FrX w w' → RS ma v w0 w' (q.2.1, q.2.2, zo σ, zl σ, ze σ, zb σ) → At w' (pc + nD a) [q.1] q.2.1 q.2.2 → WH g d K n' w') (her : ∀ e, evs T L X h_ E arc a σ = .error e → KEr K ma w0 e) : WH g d K n w := by
  obtain ⟨hL, hd, hX0, hm, hne, h7, -⟩ := h0
  exact wx_all hL (by omega) hE (szT a) a pc [] (zs σ) (zd σ) n w (Nat.le_refl _) hW hx.1 hx.2 hy.1 hj ⟨hX0.f2 hm hne hR.1, ⟨by rw [hR.1.2.2 7 (by decide)]; exact h7, hm, hR.2.1.1, hR.2.1.2.2.1⟩, ha⟩ (hcd.f2 hR.1) (by rw [hR.1.1 19 (by decide)]; exact hsz) hpc hA (by show 0 + _ ≤ 60; omega) hn hs hdz (fun q n' hq hb h1 h2 w' f A => hok q n' w' hq hb h1 h2 f (hR.fr hm f).sd A) (fun e he w' f q1 q2 => her e he w' (hR.1.fr f) q1 q2)
theorem nb_f {E : List En} {t : Nat} {so : Int} (hL : L ≤ 4000) (hE : ENb E) {e : En} (hf : fnd T L E t = some e) : nmN T L E t = e.2.2.1 ∧ eNu (fnd T L E t) = ((nmN T L E t : Nat) : Int) ∧ eSo (fnd T L E t) = (e.2.1 : Int) := by
  obtain ⟨n1, n2, n3, n4⟩ := fnd_nb hE hf
  exact ⟨n1, by rw [n1]; exact n2, n3⟩
theorem bl_no {p : Prop} [Decidable p] {t k : Nat} (hL : L ≤ 4000) (hk : k < 8) (h : 100000 ≤ (if p then 100000 else tAt T L t * 8 + k)) : p := by
  by_cases z : p
  · exact z
  · rw [if_neg z] at h
    have := tAt_le T L t
    omega
/-- set -/
theorem wc_set {t q nb : Nat} {l r : Tr} {E : List En} (h0 : W0 L X ma mb v na w0 d) (hE : ENb E) (hW : WE l) (hx : XO (kdT T L) j l) (hy : K0 (kdT T L) l ∧ skN (kdT T L) l ≤ 50) (hj : 100000 ≤ jS T L (nd 11 t q l r) E) : SpSt g d T L X ma v w0 (nd 11 t q l r) E nb := by
  intro K pc lp h_ n σ w hlp hR hA hzb hcd hsz hpc hn hs hdz hok her
  obtain ⟨hL, hd, hX0, hm, hne, h7, hG⟩ := id h0
  have hv := hX0.2.2.2.1
  have hjj : jS T L (nd 11 t q l r) E = min (min (if eSo (fnd T L E t) = 1 ∨ eSo (fnd T L E t) = 4 then 100000 else tAt T L t * 8 + 4) (jkT T L E false l)) (dm T L (knT T L E false l) (if eSo (fnd T L E t) = 1 ∨ eSo (fnd T L E t) = 4 then eKi (fnd T L E t) else 0) (fst_ l)) := rfl
  rw [hjj] at hj
  have hso : eSo (fnd T L E t) = 1 ∨ eSo (fnd T L E t) = 4 := bl_no (T := T) (t := t) (k := 4) hL (by decide) (by omega)
  have hjl : 100000 ≤ jkT T L E false l := by omega
  clear hj hjj
  have hnK : nK (nd 11 t q l r) = nD l + 1 := rfl
  rw [hnK] at hsz hpc hok
  have hsl : slk (nd 11 t q l r) = 2 := rfl
  rw [hsl] at hn hok
  have hrn : rns T L X true (nd 11 t q l r) E h_ σ = bnd (evs T L X h_ E 0 l σ) (fun v => .ok (if eSo (fnd T L E t) = 4 then (v.2.1, v.2.2, zo σ, upf (zl σ) (nmN T L E t) v.1, ze σ, zb σ) else (v.2.1, v.2.2, upf (zo σ) (nmN T L E t) v.1, zl σ, ze σ, zb σ))) := rfl
  rw [hrn] at hok her
  obtain ⟨cd1, cd2⟩ := (show CdA w0 pc (hX T L E l pc (h_ : Int) ++ [((if eSo (fnd T L E t) = 4 then 27 else 26), eNu (fnd T L E t), 0, (h_ : Int))]) from hcd).app
  rw [hXl hW] at cd2
  cases hf : fnd T L E t with
  | none => rw [hf] at hso; exact absurd hso (by decide)
  | some e =>
    obtain ⟨n1, n2, n3, n4⟩ := fnd_nb hE hf
    refine wc_exp (arc := 0) h0 hE hW hx hy hjl hR hA (fun z => by cases z) cd1 (by omega) (by omega) (by omega) hs hdz (fun q1 n1' w1 hq hb h1 h2 f1 R1 A1 => ?_) (fun e' he => her e' (by rw [he]; rfl))
    rw [hq, bnd_ok'] at hok
    have a1 : n1' < 999999 := by omega
    have a2 : n1' + 1 + 3 * (1001 - q1.2.1) ≤ n + 3 * (1001 - zs σ) + 2 := by omega
    have hsz' : ((pc + nD l : Nat) : Int) < w1 19 4 := by rw [R1.1.1 19 (by decide)]; omega
    rcases hso with z | z
    · have z1 : ¬ eSo (fnd T L E t) = 4 := by omega
      rw [if_neg z1, n2] at cd2
      rw [if_neg z1] at hok
      have he1 : e.2.1 = 1 := by rw [n3] at z; omega
      have n8 := nb_8 (Or.inl he1) n4
      refine w_setS (by omega) a1 hv n8 (by rw [R1.1.2.2 9 (by decide)]; exact hX0.2.2.1) (by rw [R1.1.2.2 7 (by decide)]; exact h7) hm (cd2.f2 R1.1) hsz' (by omega) A1 (by decide) (fun w2 f2 A2 => ?_)
      have R2 := RS.own (x := q1.1) hm hv n8 (R1.fr hm f2)
      rw [n1] at hok
      exact (hok _ rfl h1 h2).1 hzb _ (n1' + 1) R2 A2 (fun i _ => by rw [up_o (by have := mo_rng hm; omega), f2.1 104 (by decide), f1.1 104 (by decide)]) a2
    · rw [if_pos z, n2] at cd2
      rw [if_pos z] at hok
      have he1 : e.2.1 = 4 := by rw [n3] at z; omega
      have n8 := nb_8 (Or.inr he1) n4
      refine w_setL (by omega) a1 n8 (cd2.f2 R1.1) hsz' (by omega) A1 (by decide) (fun w2 f2 A2 => ?_)
      have R2 := RS.let_ (k := e.2.2.1) (x := q1.1) hm (R1.fr hm f2)
      rw [n1] at hok
      exact (hok _ rfl h1 h2).1 hzb _ (n1' + 1) R2 A2 (fun i _ => by rw [up_o (by decide), f2.1 104 (by decide), f1.1 104 (by decide)]) a2
/-- let -/
theorem wc_let {t q nb : Nat} {l r : Tr} {E : List En} (h0 : W0 L X ma mb v na w0 d) (hE : ENb E) (hW : WE l) (hx : XO (kdT T L) j l) (hy : K0 (kdT T L) l ∧ skN (kdT T L) l ≤ 50) (h8 : cntE 4 E < 8) (hj : 100000 ≤ jS T L (nd 12 t q l r) E) : SpSt g d T L X ma v w0 (nd 12 t q l r) E nb := by
  intro K pc lp h_ n σ w hlp hR hA hzb hcd hsz hpc hn hs hdz hok her
  obtain ⟨hL, hd, hX0, hm, hne, h7, hG⟩ := id h0
  have hjj : jS T L (nd 12 t q l r) E = min (if fnd T L E t = none then 100000 else tAt T L t * 8 + 3) (jkT T L E false l) := rfl
  rw [hjj] at hj
  have hjl : 100000 ≤ jkT T L E false l := by omega
  clear hj hjj
  have hnK : nK (nd 12 t q l r) = nD l + 1 := rfl
  rw [hnK] at hsz hpc hok
  have hsl : slk (nd 12 t q l r) = 2 := rfl
  rw [hsl] at hn hok
  have hrn : rns T L X true (nd 12 t q l r) E h_ σ = bnd (evs T L X h_ E 0 l σ) (fun v => .ok (v.2.1, v.2.2, zo σ, upf (zl σ) (cntE 4 E) v.1, ze σ, zb σ)) := rfl
  rw [hrn] at hok her
  obtain ⟨cd1, cd2⟩ := (show CdA w0 pc (hX T L E l pc (h_ : Int) ++ [(27, ((cntE 4 E : Nat) : Int), 0, (h_ : Int))]) from hcd).app
  rw [hXl hW] at cd2
  refine wc_exp (arc := 0) h0 hE hW hx hy hjl hR hA (fun z => by cases z) cd1 (by omega) (by omega) (by omega) hs hdz (fun q1 n1' w1 hq hb h1 h2 f1 R1 A1 => ?_) (fun e' he => her e' (by rw [he]; rfl))
  rw [hq, bnd_ok'] at hok
  have a1 : n1' < 999999 := by omega
  have a2 : n1' + 1 + 3 * (1001 - q1.2.1) ≤ n + 3 * (1001 - zs σ) + 2 := by omega
  have hsz' : ((pc + nD l : Nat) : Int) < w1 19 4 := by rw [R1.1.1 19 (by decide)]; omega
  refine w_setL (by omega) a1 h8 (cd2.f2 R1.1) hsz' (by omega) A1 (by decide) (fun w2 f2 A2 => ?_)
  have R2 := RS.let_ (k := cntE 4 E) (x := q1.1) hm (R1.fr hm f2)
  exact (hok _ rfl h1 h2).1 hzb _ (n1' + 1) R2 A2 (fun i _ => by rw [up_o (by decide), f2.1 104 (by decide), f1.1 104 (by decide)]) a2
theorem nm_eq {E : List En} {t : Nat} {so : Int} (h : eSo (fnd T L E t) = so) : nmE T L E so t = fnd T L E t := by unfold nmE; rw [if_pos h]
/-- give -/
theorem wc_give {t q nb : Nat} {l r : Tr} {E : List En} (h0 : W0 L X ma mb v na w0 d) (hE : ENb E) (hW : WE l) (hx : XO (kdT T L) j l) (hy : K0 (kdT T L) l ∧ skN (kdT T L) l ≤ 50) (hj : 100000 ≤ jS T L (nd 14 t q l r) E) : SpSt g d T L X ma v w0 (nd 14 t q l r) E nb := by
  intro K pc lp h_ n σ w hlp hR hA hzb hcd hsz hpc hn hs hdz hok her
  obtain ⟨hL, hd, hX0, hm, hne, h7, hG⟩ := id h0
  have hjj : jS T L (nd 14 t q l r) E = min (min (if eSo (fnd T L E t) = 3 then 100000 else tAt T L t * 8 + 4) (jkT T L E false l)) (dm T L (knT T L E false l) (eKi (nmE T L E 3 t)) (fst_ l)) := rfl
  rw [hjj] at hj
  have hso : eSo (fnd T L E t) = 3 := bl_no (T := T) (t := t) (k := 4) hL (by decide) (by omega)
  have hjl : 100000 ≤ jkT T L E false l := by omega
  clear hj hjj
  have hnK : nK (nd 14 t q l r) = nD l + 1 := rfl
  rw [hnK] at hsz hpc hok
  have hsl : slk (nd 14 t q l r) = 2 := rfl
  rw [hsl] at hn hok
  have hrn : rns T L X true (nd 14 t q l r) E h_ σ = bnd (evs T L X h_ E 0 l σ) (fun v => .ok (v.2.1, v.2.2, zo σ, zl σ, ze σ ++ [(0, nmN T L E t, v.1)], zb σ)) := rfl
  rw [hrn] at hok her
  obtain ⟨cd1, cd2⟩ := (show CdA w0 pc (hX T L E l pc (h_ : Int) ++ [(29, eNu (nmE T L E 3 t), 0, (h_ : Int))]) from hcd).app
  rw [hXl hW, nm_eq hso] at cd2
  cases hf : fnd T L E t with
  | none => rw [hf] at hso; exact absurd hso (by decide)
  | some e =>
    obtain ⟨n1, n2, n3, n4⟩ := fnd_nb hE hf
    have he1 : e.2.1 = 3 := by rw [n3] at hso; omega
    have n8 := nb_4 (Or.inr (Or.inr he1)) n4
    rw [n2] at cd2
    rw [n1] at hok
    refine wc_exp (arc := 0) h0 hE hW hx hy hjl hR hA (fun z => by cases z) cd1 (by omega) (by omega) (by omega) hs hdz (fun q1 n1' w1 hq hb h1 h2 f1 R1 A1 => ?_) (fun e' he => her e' (by rw [he]; rfl))
    rw [hq, bnd_ok'] at hok
    have a1 : n1' < 999999 := by omega
    have a2 : n1' + 1 + 3 * (1001 - q1.2.1) ≤ n + 3 * (1001 - zs σ) + 2 := by omega
    have hsz' : ((pc + nD l : Nat) : Int) < w1 19 4 := by rw [R1.1.1 19 (by decide)]; omega
    refine w_give (by omega) a1 n8 (by rw [R1.1.2.2 7 (by decide)]; exact h7) hm (cd2.f2 R1.1) hsz' (by omega) A1 (by decide) (fun w2 f2 A2 => ?_)
    have R2 := RS.ev (e := (0, e.2.2.1, q1.1)) hm (R1.fr hm f2)
    have hr := mo_rng hm
    exact (hok _ rfl h1 h2).1 hzb _ (n1' + 1) R2 A2 (fun i _ => by rw [evW_o (by unfold isEv; omega), f2.1 104 (by decide), f1.1 104 (by decide)]) a2
/-- halt -/
theorem wc_halt {t q nb : Nat} {l r : Tr} {E : List En} (h0 : W0 L X ma mb v na w0 d) : SpSt g d T L X ma v w0 (nd 17 t q l r) E nb := by
  intro K pc lp h_ n σ w hlp hR hA hzb hcd hsz hpc hn hs hdz hok her
  obtain ⟨hL, hd, hX0, hm, hne, h7, hG⟩ := id h0
  have hr := mo_rng hm
  have hnK : nK (nd 17 t q l r) = 1 := rfl
  rw [hnK] at hsz hpc
  have hv := hX0.2.2.2.1
  refine w_haltD (by omega) (by omega) hv (by rw [hR.1.2.2 9 (by decide)]; exact hX0.2.2.1) (by rw [hR.1.2.2 7 (by decide)]; exact h7) hm (CdA.f2 (show CdA w0 pc [(30, 0, 0, (h_ : Int))] from hcd) hR.1) (by rw [hR.1.1 19 (by decide)]; omega) (by omega) hA (fun w1 f1 A1 => ?_)
  have R1 := hR.fr hm f1
  refine (hok (zs σ, zd σ, zo σ, zl σ, ze σ, true) rfl hs hdz).2 rfl _ ?_ ?_ ?_ ?_ ?_
  · obtain ⟨⟨b1, b2, b3⟩, -, -⟩ := R1
    exact ⟨fun o ho => by rw [up_o (by omega), up_o (by omega)]; exact b1 o ho, fun o p1 p2 p3 => by rw [up_o (by omega), up_o (by omega)]; exact b2 o p1 p2 p3, fun b hb => by rw [up_k (by omega), up_o (by omega)]; exact b3 b hb⟩
  · obtain ⟨-, ⟨m1, m2, m3, m4⟩, -⟩ := R1
    refine ⟨?_, ?_, ?_, fun o ho => ?_⟩
    · rw [up_o (by omega), up_o (by omega)]; exact m1
    · rw [up_o (by omega), up_o (by omega)]; exact m2
    · rw [up_o (by omega), up_o (by omega)]; exact m3
    · rw [up_o (by omega), up_o (by omega)]; exact m4 o ho
  · rw [up_o (by omega)]
    funext x
    unfold upf
    by_cases hx : x = v
    · subst hx; rw [up_s, if_pos rfl]
    · rw [up_k hx, if_neg hx, R1.2.2]
  · rw [up_k (by decide), up_o (by omega)]; exact A1.2.2.1
  · rw [up_k (by decide), up_o (by omega)]; exact A1.2.2.2.2
end WSt3
