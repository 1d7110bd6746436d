/-! ===== the class's worker does statements: send, if, loop ===== -/
section WSt4
variable {g : Mg} {d : Nat} {T : Nat → Int} {L : Nat} {X : Xv} {ma mb v na j : Nat} {w0 : Wd}
theorem wc_arcs {K : Ou → Wd → Prop} {E : List En} {l : Tr} {k ag pc h_ : Nat} {f : Nat → Int} {to : Nat → Nat} {c104 : Nat → Int} (h0 : W0 L X ma mb v na w0 d) (hE : ENb E) (hW : WE l) (hx : XO (kdT T L) j l) (hy : K0 (kdT T L) l ∧ skN (kdT T L) l ≤ 50) (hj : 100000 ≤ jkT T L E true l) (hk : k < 4) (hag : (ag = 0 ∧ f = X 5 ∧ to = fun i => (X 6 i).toNat) ∨ (ag = 1 ∧ f = X 6 ∧ to = fun i => (X 5 i).toNat)) (cd1 : CdA w0 (pc + 1) (hX T L E l (pc + 1) (h_ : Int))) (cd2 : CdA w0 (pc + 1 + nD l) [(28, (k : Int), 0, (h_ : Int))]) (cd3 : CdA w0 (pc + 1 + nD l + 1) [(25, ((pc + 1 : Nat) : Int), 0, (h_ : Int))]) (hsz : ((pc + 1 + nD l + 2 : Nat) : Int) < w0 19 4) (hpc : pc + 1 + nD l + 2 < 1024) :
    ∀ (t : List Nat) (i : Nat) (σ1 : SS) (n : Nat) (w : Wd), i < na → f i = X 0 0 → t = fltA f (X 0 0) (na - (i + 1)) (i + 1) → RS ma v w0 w σ1 → At w (pc + 1) [] (zs σ1) (zd σ1) → w 101 12 = (i : Int) → w 101 13 = (ag : Int) → w 104 = c104 → zb σ1 = false → n + 3 * (1001 - zs σ1) ≤ 95000 → zs σ1 ≤ 1000 → zd σ1 ≤ zs σ1 → (∀ σ', bnd (evs T L X h_ E i l σ1) (fun q => snd_ h_ (fun i σ => evs T L X h_ E i l σ) to k t (q.2.1, q.2.2, zo σ1, zl σ1, ze σ1 ++ [(to i + 1, k, q.1)], zb σ1)) = .ok σ' → zs σ' ≤ 1000 → zd σ' ≤ zs σ' → zb σ' = false → ∀ w' n', RS ma v w0 w' σ' → At w' (pc + 1 + nD l + 2) [] (zs σ') (zd σ') → w' 104 = c104 → n' + 3 * (1001 - zs σ') ≤ n + 3 * (1001 - zs σ1) + 1 → WH g d K n' w') → (∀ e, bnd (evs T L X h_ E i l σ1) (fun q => snd_ h_ (fun i σ => evs T L X h_ E i l σ) to k t (q.2.1, q.2.2, zo σ1, zl σ1, ze σ1 ++ [(to i + 1, k, q.1)], zb σ1)) = .error e → KEr K ma w0 e) → WH g d K n w := by
  obtain ⟨hL, hd, hX0, hm, hne, h7, hG⟩ := id h0
  have hr := mo_rng hm
  obtain ⟨g1, g2, g3, g4, g5⟩ := hG
  intro t
  induction t with
  | nil =>
    intro i σ1 n w hi hfi ht hR hA h12 h13 h104 hzb hn hs hdz hok her
    obtain ⟨y1, y2, y3, y4⟩ := g3 i hi
    refine wc_exp (arc := i) (bb := true) h0 hE hW hx hy hj hR hA (fun _ => ⟨h12, by omega⟩) cd1 (by omega) (by omega) (by omega) hs hdz (fun q n1 w1 hq hb h1 h2 f1 R1 A1 => ?_) (fun e he => her e (by rw [he]; rfl))
    rw [hq, bnd_ok'] at hok her
    have b12 : w1 101 12 = (i : Int) := by rw [f1.2 12 (by decide) (by decide) (by decide) (by decide) (by decide) (by decide)]; exact h12
    have b13 : w1 101 13 = (ag : Int) := by rw [f1.2 13 (by decide) (by decide) (by decide) (by decide) (by decide) (by decide)]; exact h13
    have hto : (if ag = 0 then w1 33 i else w1 32 i) = ((to i : Nat) : Int) ∧ to i < 40 := by
      rw [R1.1.1 33 (by decide), R1.1.1 32 (by decide), y1, y2]
      rcases hag with ⟨rfl, -, rfl⟩ | ⟨rfl, -, rfl⟩
      · rw [if_pos rfl]
        show X 6 i = (((X 6 i).toNat : Nat) : Int) ∧ (X 6 i).toNat < 40
        omega
      · rw [if_neg (by decide)]
        show X 5 i = (((X 5 i).toNat : Nat) : Int) ∧ (X 5 i).toNat < 40
        omega
    refine w_sendD (by omega) (by omega) hk (by omega) hto.2 b12 b13 hto.1 (by rw [R1.1.2.2 7 (by decide)]; exact h7) hm (cd2.f2 R1.1) (by rw [R1.1.1 19 (by decide)]; omega) (by omega) A1 (by decide) (fun w2 f2 A2 => ?_)
    have R2 := RS.ev (e := (to i + 1, k, q.1)) hm (R1.fr hm f2)
    have e2 : ∀ o, 100 < o → evW ma w2 (to i + 1, k, q.1) o = w2 o := fun o ho => evW_o (by unfold isEv; omega)
    have c12 : evW ma w2 (to i + 1, k, q.1) 101 12 = (i : Int) := by rw [e2 101 (by decide), f2.2 12 (by decide) (by decide) (by decide) (by decide) (by decide) (by decide)]; exact b12
    have c13 : evW ma w2 (to i + 1, k, q.1) 101 13 = (ag : Int) := by rw [e2 101 (by decide), f2.2 13 (by decide) (by decide) (by decide) (by decide) (by decide) (by decide)]; exact b13
    have c104' : evW ma w2 (to i + 1, k, q.1) 104 = c104 := by rw [e2 104 (by decide), f2.1 104 (by decide), f1.1 104 (by decide)]; exact h104
    generalize evW ma w2 (to i + 1, k, q.1) = w3 at *
    have hfa : (if ag = 0 then w3 39 i else w3 42 i) = -1 := by
      rw [R2.1.1 39 (by decide), R2.1.1 42 (by decide), (g5 i hi).1, (g5 i hi).2]
      rcases hag with ⟨rfl, rfl, -⟩ | ⟨rfl, rfl, -⟩
      · rw [if_pos rfl, hfi]; exact nxA_nil _ _ ht.symm
      · rw [if_neg (by decide), hfi]; exact nxA_nil _ _ ht.symm
    refine w_next hd (by omega) (by omega) (by omega) c12 c13 hfa (cd3.f2 R2.1) (by rw [R2.1.1 19 (by decide)]; omega) (by omega) A2 (fun _ w4 f4 e4 A4 => ?_) (fun z => absurd z (by decide)) (fun z => absurd z (by decide))
    exact hok _ rfl h1 h2 hzb w4 (n1 + 1 + 1) (R2.fy hm f4) A4 (by rw [e4]; exact c104') (by show n1 + 1 + 1 + 3 * (1001 - q.2.1) ≤ _; omega)
  | cons i' t' ih =>
    intro i σ1 n w hi hfi ht hR hA h12 h13 h104 hzb hn hs hdz hok her
    obtain ⟨y1, y2, y3, y4⟩ := g3 i hi
    obtain ⟨k1, k2, k3, k4, k5⟩ := nxA_cons _ _ ht.symm
    have hi' : i' < na := by omega
    have ht' : t' = fltA f (X 0 0) (na - (i' + 1)) (i' + 1) := by rw [k5, show i + 1 + (na - (i + 1)) = na by omega]
    refine wc_exp (arc := i) (bb := true) h0 hE hW hx hy hj hR hA (fun _ => ⟨h12, by omega⟩) cd1 (by omega) (by omega) (by omega) hs hdz (fun q n1 w1 hq hb h1 h2 f1 R1 A1 => ?_) (fun e he => her e (by rw [he]; rfl))
    rw [hq, bnd_ok'] at hok her
    have b12 : w1 101 12 = (i : Int) := by rw [f1.2 12 (by decide) (by decide) (by decide) (by decide) (by decide) (by decide)]; exact h12
    have b13 : w1 101 13 = (ag : Int) := by rw [f1.2 13 (by decide) (by decide) (by decide) (by decide) (by decide) (by decide)]; exact h13
    have hto : (if ag = 0 then w1 33 i else w1 32 i) = ((to i : Nat) : Int) ∧ to i < 40 := by
      rw [R1.1.1 33 (by decide), R1.1.1 32 (by decide), y1, y2]
      rcases hag with ⟨rfl, -, rfl⟩ | ⟨rfl, -, rfl⟩
      · rw [if_pos rfl]
        show X 6 i = (((X 6 i).toNat : Nat) : Int) ∧ (X 6 i).toNat < 40
        omega
      · rw [if_neg (by decide)]
        show X 5 i = (((X 5 i).toNat : Nat) : Int) ∧ (X 5 i).toNat < 40
        omega
    refine w_sendD (by omega) (by omega) hk (by omega) hto.2 b12 b13 hto.1 (by rw [R1.1.2.2 7 (by decide)]; exact h7) hm (cd2.f2 R1.1) (by rw [R1.1.1 19 (by decide)]; omega) (by omega) A1 (by decide) (fun w2 f2 A2 => ?_)
    have R2 := RS.ev (e := (to i + 1, k, q.1)) hm (R1.fr hm f2)
    have e2 : ∀ o, 100 < o → evW ma w2 (to i + 1, k, q.1) o = w2 o := fun o ho => evW_o (by unfold isEv; omega)
    have c12 : evW ma w2 (to i + 1, k, q.1) 101 12 = (i : Int) := by rw [e2 101 (by decide), f2.2 12 (by decide) (by decide) (by decide) (by decide) (by decide) (by decide)]; exact b12
    have c13 : evW ma w2 (to i + 1, k, q.1) 101 13 = (ag : Int) := by rw [e2 101 (by decide), f2.2 13 (by decide) (by decide) (by decide) (by decide) (by decide) (by decide)]; exact b13
    have c104' : evW ma w2 (to i + 1, k, q.1) 104 = c104 := by rw [e2 104 (by decide), f2.1 104 (by decide), f1.1 104 (by decide)]; exact h104
    generalize evW ma w2 (to i + 1, k, q.1) = w3 at *
    have hfa : (if ag = 0 then w3 39 i else w3 42 i) = (i' : Int) := by
      rw [R2.1.1 39 (by decide), R2.1.1 42 (by decide), (g5 i hi).1, (g5 i hi).2]
      rcases hag with ⟨rfl, rfl, -⟩ | ⟨rfl, rfl, -⟩
      · rw [if_pos rfl, hfi]; exact k1
      · rw [if_neg (by decide), hfi]; exact k1
    have hsn : snd_ h_ (fun i σ => evs T L X h_ E i l σ) to k (i' :: t') (q.2.1, q.2.2, zo σ1, zl σ1, ze σ1 ++ [(to i + 1, k, q.1)], zb σ1) = bnd (stq h_ q.2.1) (fun s1 => bnd (evs T L X h_ E i' l (s1, q.2.2, zo σ1, zl σ1, ze σ1 ++ [(to i + 1, k, q.1)], zb σ1)) (fun p => snd_ h_ (fun i σ => evs T L X h_ E i l σ) to k t' (p.2.1, p.2.2, zo σ1, zl σ1, (ze σ1 ++ [(to i + 1, k, q.1)]) ++ [(to i' + 1, k, p.1)], zb σ1))) := rfl
    rw [hsn] at hok her
    refine w_next hd (by omega) (by omega) (by omega) c12 c13 hfa (cd3.f2 R2.1) (by rw [R2.1.1 19 (by decide)]; omega) (by omega) A2 (fun z => absurd z (by omega)) (fun _ s1 e1 w4 f4 e4 u12 u13 A4 => ?_) (fun _ e e1 w4 f4 q1 q2 => her e (by rw [e1]; rfl) w4 (R2.1.fy f4) q1 q2)
    rw [e1, bnd_ok'] at hok her
    obtain ⟨rfl, e3⟩ := stq_ok e1
    refine ih i' (q.2.1 + 1, q.2.2, zo σ1, zl σ1, ze σ1 ++ [(to i + 1, k, q.1)], zb σ1) (n1 + 1 + 1) w4 hi' k2 ht' (R2.fy hm f4).sd A4 u12 u13 (by rw [e4]; exact c104') hzb ?_ ?_ ?_ (fun σ' hσ z1 z2 z3 w' n' R' A' c' b' => hok σ' hσ z1 z2 z3 w' n' R' A' c' ?_) her
    · show n1 + 1 + 1 + 3 * (1001 - (q.2.1 + 1)) ≤ 95000; omega
    · show q.2.1 + 1 ≤ 1000; omega
    · show q.2.2 ≤ q.2.1 + 1; omega
    · have b'' : n' + 3 * (1001 - zs σ') ≤ n1 + 1 + 1 + 3 * (1001 - (q.2.1 + 1)) + 1 := b'
      omega
/-- send -/
theorem wc_send {t q nb : Nat} {l r : Tr} {E : List En} (h0 : W0 L X ma mb v na w0 d) (hE : ENb E) (hW : WE l) (hx : XO (kdT T L) j l) (hy : K0 (kdT T L) l ∧ skN (kdT T L) l ≤ 50) (hj : 100000 ≤ jS T L (nd 13 t q l r) E) : SpSt g d T L X ma v w0 (nd 13 t q l r) E nb := by
  intro K pc lp h_ n σ w hlp hR hA hzb hcd hsz hpc hn hs hdz hok her
  obtain ⟨hL, hd, hX0, hm, hne, h7, hG⟩ := id h0
  obtain ⟨g1, g2, g3, g4, g5⟩ := id hG
  have hv := hX0.2.2.2.1
  have hX00 : X 0 0 = (v : Int) := hX0.2.2.2.2.1
  have hjj : jS T L (nd 13 t q l r) E = min (min (if eSo (fnd T L E t) = 2 then 100000 else tAt T L t * 8 + 4) (jkT T L E true l)) (dm T L (knT T L E true l) (eKi (nmE T L E 2 t)) (fst_ l)) := rfl
  rw [hjj] at hj
  have hso : eSo (fnd T L E t) = 2 := bl_no (T := T) (t := t) (k := 4) hL (by decide) (by omega)
  have hjl : 100000 ≤ jkT T L E true l := by omega
  clear hj hjj
  have hnK : nK (nd 13 t q l r) = nD l + 3 := rfl
  rw [hnK] at hsz hpc hok
  have hsl : slk (nd 13 t q l r) = 2 := rfl
  rw [hsl] at hn hok
  obtain ⟨ag, hagd⟩ : ∃ ag : Nat, ag = (if kdT T L (q - 1) = 46 then 1 else 0) := ⟨_, rfl⟩
  obtain ⟨f, to, hag, hal, htt⟩ : ∃ (f : Nat → Int) (to : Nat → Nat), ((ag = 0 ∧ f = X 5 ∧ to = fun i => (X 6 i).toNat) ∨ (ag = 1 ∧ f = X 6 ∧ to = fun i => (X 5 i).toNat)) ∧ alA X (decide (kdT T L (q - 1) = 46)) = fltA f (X 0 0) na 0 ∧ (fun i => ((if kdT T L (q - 1) = 46 then X 5 i else X 6 i)).toNat) = to := by
    by_cases k46 : kdT T L (q - 1) = 46
    · refine ⟨X 6, fun i => (X 5 i).toNat, Or.inr ⟨by rw [hagd, if_pos k46], rfl, rfl⟩, ?_, by simp [k46]⟩
      rw [alA_flt, g1, toN]
      simp [k46]
    · refine ⟨X 5, fun i => (X 6 i).toNat, Or.inl ⟨by rw [hagd, if_neg k46], rfl, rfl⟩, ?_, by simp [k46]⟩
      rw [alA_flt, g1, toN]
      simp [k46]
  have hrn : rns T L X true (nd 13 t q l r) E h_ σ = snd_ h_ (fun i σ => evs T L X h_ E i l σ) to (nmN T L E t) (fltA f (X 0 0) na 0) σ := by
    rw [← hal, ← htt]; rfl
  rw [hrn] at hok her
  cases hf : fnd T L E t with
  | none => rw [hf] at hso; exact absurd hso (by decide)
  | some e =>
    obtain ⟨n1, n2, n3, n4⟩ := fnd_nb hE hf
    have he1 : e.2.1 = 2 := by rw [n3] at hso; omega
    have n8 := nb_4 (Or.inr (Or.inl he1)) n4
    rw [n1] at hok her
    have hcd' : CdA w0 pc ([(24, ((pc + 1 + nD l + 2 : Nat) : Int), (ag : Int), (h_ : Int))] ++ (hX T L E l (pc + 1) (h_ : Int) ++ ([(28, (e.2.2.1 : Int), 0, (h_ : Int))] ++ [(25, ((pc + 1 : Nat) : Int), 0, (h_ : Int))]))) := by
      have e' : cmS T L (nd 13 t q l r) E pc lp (h_ : Int) = (24, ((pc + 1 + nD l + 2 : Nat) : Int), (if kdT T L (q - 1) = 46 then 1 else 0), (h_ : Int)) :: (hX T L E l (pc + 1) (h_ : Int) ++ [(28, eNu (nmE T L E 2 t), 0, (h_ : Int)), (25, ((pc + 1 : Nat) : Int), 0, (h_ : Int))]) := rfl
      rw [e', nm_eq hso, n2] at hcd
      have e2 : (if kdT T L (q - 1) = 46 then (1 : Int) else 0) = (ag : Int) := by rw [hagd]; split <;> rfl
      rw [e2] at hcd
      exact hcd
    obtain ⟨cd1, cdr⟩ := hcd'.app
    obtain ⟨cd2, cdr2⟩ := cdr.app
    obtain ⟨cd3, cd4⟩ := cdr2.app
    rw [hXl hW] at cd3 cd4
    have hfa : (if ag = 0 then w 37 v else w 40 v) = nxA f (X 0 0) na 0 := by
      rw [hR.1.1 37 (by decide), hR.1.1 40 (by decide), (g4 v hv).1, (g4 v hv).2, hX00]
      rcases hag with ⟨rfl, rfl, -⟩ | ⟨rfl, rfl, -⟩
      · rw [if_pos rfl]
      · rw [if_neg (by decide)]
    have hA9 : w 101 9 = (v : Int) := by rw [hR.1.2.2 9 (by decide)]; exact hX0.2.2.1
    cases hfl : fltA f (X 0 0) na 0 with
    | nil =>
      rw [hfl] at hok
      rw [nxA_nil _ _ hfl] at hfa
      refine w_first (to := pc + 1 + nD l + 2) hd (by omega) hv (by omega) hA9 hfa (cd1.f2 hR.1) (by rw [hR.1.1 19 (by decide)]; omega) (by omega) hA (fun _ w1 f1 e4 A1 => ?_) (fun z => absurd z (by decide)) (fun z => absurd z (by decide))
      have := (hok σ rfl hs hdz).1 hzb w1 (n + 1) (hR.fy hm f1)
      rw [show pc + (nD l + 3) = pc + 1 + nD l + 2 by omega] at this
      exact this A1 (fun i _ => by rw [e4]) (by omega)
    | cons i tl =>
      rw [hfl] at hok her
      obtain ⟨k1, k2, k3, k4, k5⟩ := nxA_cons _ _ hfl
      rw [k1] at hfa
      have hsn : snd_ h_ (fun i σ => evs T L X h_ E i l σ) to e.2.2.1 (i :: tl) σ = bnd (stq h_ (zs σ)) (fun s1 => bnd (evs T L X h_ E i l (s1, zd σ, zo σ, zl σ, ze σ, zb σ)) (fun p => snd_ h_ (fun i σ => evs T L X h_ E i l σ) to e.2.2.1 tl (p.2.1, p.2.2, zo σ, zl σ, ze σ ++ [(to i + 1, e.2.2.1, p.1)], zb σ))) := rfl
      rw [hsn] at hok her
      refine w_first (to := pc + 1 + nD l + 2) hd (by omega) hv (by omega) hA9 hfa (cd1.f2 hR.1) (by rw [hR.1.1 19 (by decide)]; omega) (by omega) hA (fun z => absurd z (by omega)) (fun _ s1 e1 w1 f1 e4 u12 u13 A1 => ?_) (fun _ e' e1 w1 f1 q1 q2 => her e' (by rw [e1]; rfl) w1 (hR.1.fy f1) q1 q2)
      rw [e1, bnd_ok'] at hok her
      obtain ⟨rfl, e3⟩ := stq_ok e1
      refine wc_arcs (c104 := w 104) h0 hE hW hx hy hjl n8 hag cd2 cd3 cd4 (by omega) (by omega) tl i (zs σ + 1, zd σ, zo σ, zl σ, ze σ, zb σ) (n + 1) w1 (by omega) k2 (by rw [k5, Nat.zero_add]) (hR.fy hm f1).sd A1 u12 u13 e4 hzb ?_ ?_ ?_ (fun σ' hσ z1 z2 z3 w' n' R' A' c' b' => ?_) her
      · show n + 1 + 3 * (1001 - (zs σ + 1)) ≤ 95000; omega
      · show zs σ + 1 ≤ 1000; omega
      · show zd σ ≤ zs σ + 1; omega
      · have := (hok σ' hσ z1 z2).1 z3 w' n' R'
        rw [show pc + (nD l + 3) = pc + 1 + nD l + 2 by omega] at this
        have b'' : n' + 3 * (1001 - zs σ') ≤ n + 1 + 3 * (1001 - (zs σ + 1)) + 1 := b'
        exact this A' (fun i _ => by rw [c']) (by omega)
/-- if -/
theorem wc_if {t q t9 q9 nb : Nat} {l b1 b2 : Tr} {E : List En} (h0 : W0 L X ma mb v na w0 d) (hE : ENb E) (hW : WE l) (hx : XO (kdT T L) j l) (hy : K0 (kdT T L) l ∧ skN (kdT T L) l ≤ 50) (hj : 100000 ≤ jkT T L E false l) (hW1 : WS b1) (hb1 : SpSt g d T L X ma v w0 b1 E nb) (hb2 : SpSt g d T L X ma v w0 b2 E nb) (hs1 : slk b1 = 0) (hs2 : slk b2 = 0) (hq : (q9 = 0 ∧ b2 = nl) ∨ q9 ≠ 0) : SpSt g d T L X ma v w0 (nd 15 t q l (nd 9 t9 q9 b1 b2)) E nb := by
  intro K pc lp h_ n σ w hlp hR hA hzb hcd hsz hpc hn hs hdz hok her
  obtain ⟨hL, hd, hX0, hm, hne, h7, hG⟩ := id h0
  have hnK : nK (nd 15 t q l (nd 9 t9 q9 b1 b2)) = nD l + 1 + (nK b1 + (if q9 = 0 then 0 else 1 + nK b2)) := rfl
  rw [hnK] at hsz hpc hok
  have hsl : slk (nd 15 t q l (nd 9 t9 q9 b1 b2)) = 2 := rfl
  rw [hsl] at hn hok
  have hrn : rns T L X true (nd 15 t q l (nd 9 t9 q9 b1 b2)) E h_ σ = bnd (evs T L X h_ E 0 l σ) (fun v => if decide (v.1 ≠ 0) = true then rns T L X true b1 E h_ (v.2.1, v.2.2, zo σ, zl σ, ze σ, zb σ) else rns T L X true b2 E h_ (v.2.1, v.2.2, zo σ, zl σ, ze σ, zb σ)) := rfl
  rw [hrn] at hok her
  have hcd' : CdA w0 pc (hX T L E l pc (h_ : Int) ++ ([(20, ((pc + nD l + 1 + (nK b1 + (if q9 = 0 then 0 else 1)) : Nat) : Int), 0, (h_ : Int))] ++ (cmS T L b1 E (pc + nD l + 1) lp (h_ : Int) ++ (if q9 = 0 then [] else (21, ((pc + nD l + 1 + nK b1 + 1 + nK b2 : Nat) : Int), 0, (h_ : Int)) :: cmS T L b2 E (pc + nD l + 1 + nK b1 + 1) lp (h_ : Int))))) := hcd
  obtain ⟨cd1, cdr⟩ := hcd'.app
  rw [hXl hW] at cdr
  obtain ⟨cd2, cdr2⟩ := cdr.app
  obtain ⟨cd3, cd4⟩ := cdr2.app
  rw [show pc + nD l + [((20 : Int), ((pc + nD l + 1 + (nK b1 + (if q9 = 0 then 0 else 1)) : Nat) : Int), (0 : Int), (h_ : Int))].length = pc + nD l + 1 from rfl] at cd3 cd4
  rw [cmS_len b1 _ _ _ _ hW1] at cd4
  refine wc_exp (arc := 0) h0 hE hW hx hy hj hR hA (fun z => by cases z) cd1 (by omega) (by omega) (by omega) hs hdz (fun q1 n1 w1 hq1 hb h1 h2 f1 R1 A1 => ?_) (fun e' he => her e' (by rw [he]; rfl))
  rw [hq1, bnd_ok'] at hok her
  refine w_unless (to := pc + nD l + 1 + (nK b1 + (if q9 = 0 then 0 else 1))) (by omega) (by omega) (cd2.f2 R1.1) (by rw [R1.1.1 19 (by decide)]; omega) (by omega) A1 (by decide) (fun w2 f2 A2 => ?_)
  have R2 := R1.fr hm f2
  have e104 : w2 104 = w 104 := by rw [f2.1 104 (by decide), f1.1 104 (by decide)]
  by_cases ha : q1.1 = 0
  · have hd0 : decide (q1.1 ≠ 0) = false := by simp [ha]
    rw [hd0, if_neg (by decide)] at hok her
    rw [if_pos ha] at A2
    by_cases h9 : q9 = 0
    · have hb2n : b2 = nl := by
        rcases hq with z | z
        · exact z.2
        · exact absurd h9 z
      subst hb2n
      rw [if_pos h9] at A2 hok
      have := (hok _ rfl h1 h2).1 hzb w2 (n1 + 1) R2
      rw [show pc + (nD l + 1 + (nK b1 + 0)) = pc + nD l + 1 + (nK b1 + 0) by omega] at this
      exact this A2 (fun i _ => by rw [e104]) (by show n1 + 1 + 3 * (1001 - q1.2.1) ≤ _; omega)
    · rw [if_neg h9] at A2 hok hsz hpc cd4
      obtain ⟨cd5, cd6⟩ := (show CdA w0 (pc + nD l + 1 + nK b1) ([(21, ((pc + nD l + 1 + nK b1 + 1 + nK b2 : Nat) : Int), 0, (h_ : Int))] ++ cmS T L b2 E (pc + nD l + 1 + nK b1 + 1) lp (h_ : Int)) from cd4).app
      refine hb2 K (pc + nD l + 1 + nK b1 + 1) lp h_ (n1 + 1) (q1.2.1, q1.2.2, zo σ, zl σ, ze σ, zb σ) w2 hlp R2 A2 hzb cd6 (by omega) (by omega) ?_ h1 h2 (fun σ' hσ z1 z2 => ⟨fun z3 w' n' R' A' c' b' => ?_, fun z3 => (hok σ' hσ z1 z2).2 z3⟩) her
      · show n1 + 1 + 3 * (1001 - q1.2.1) + slk b2 ≤ 90000; omega
      · have := (hok σ' hσ z1 z2).1 z3 w' n' R'
        rw [show pc + (nD l + 1 + (nK b1 + (1 + nK b2))) = pc + nD l + 1 + nK b1 + 1 + nK b2 by omega] at this
        have b'' : n' + 3 * (1001 - zs σ') ≤ n1 + 1 + 3 * (1001 - q1.2.1) + slk b2 := b'
        exact this A' (fun i hi => by rw [c' i hi, e104]) (by omega)
  · have hd0 : decide (q1.1 ≠ 0) = true := by simp [ha]
    rw [hd0, if_pos rfl] at hok her
    rw [if_neg ha] at A2
    refine hb1 K (pc + nD l + 1) lp h_ (n1 + 1) (q1.2.1, q1.2.2, zo σ, zl σ, ze σ, zb σ) w2 hlp R2 A2 hzb cd3 (by omega) (by omega) ?_ h1 h2 (fun σ' hσ z1 z2 => ⟨fun z3 w' n' R' A' c' b' => ?_, fun z3 => (hok σ' hσ z1 z2).2 z3⟩) her
    · show n1 + 1 + 3 * (1001 - q1.2.1) + slk b1 ≤ 90000; omega
    · have b'' : n' + 3 * (1001 - zs σ') ≤ n1 + 1 + 3 * (1001 - q1.2.1) + slk b1 := b'
      by_cases h9 : q9 = 0
      · rw [if_pos h9] at hok
        have := (hok σ' hσ z1 z2).1 z3 w' n' R'
        rw [show pc + (nD l + 1 + (nK b1 + 0)) = pc + nD l + 1 + nK b1 by omega] at this
        exact this A' (fun i hi => by rw [c' i hi, e104]) (by omega)
      · rw [if_neg h9] at hok hsz hpc cd4
        obtain ⟨cd5, cd6⟩ := (show CdA w0 (pc + nD l + 1 + nK b1) ([(21, ((pc + nD l + 1 + nK b1 + 1 + nK b2 : Nat) : Int), 0, (h_ : Int))] ++ cmS T L b2 E (pc + nD l + 1 + nK b1 + 1) lp (h_ : Int)) from cd4).app
        refine w_jump (to := pc + nD l + 1 + nK b1 + 1 + nK b2) (by omega) (by omega) (cd5.f2 R'.1) (by rw [R'.1.1 19 (by decide)]; omega) (by omega) A' (fun w4 f4 A4 => ?_)
        have := (hok σ' hσ z1 z2).1 z3 w4 (n' + 1) (R'.fr hm f4)
        rw [show pc + (nD l + 1 + (nK b1 + (1 + nK b2))) = pc + nD l + 1 + nK b1 + 1 + nK b2 by omega] at this
        exact this A4 (fun i hi => by rw [f4.1 104 (by decide), c' i hi, e104]) (by omega)
/-- loop -/
theorem wc_loop {t q nb : Nat} {l r : Tr} {E : List En} (h0 : W0 L X ma mb v na w0 d) (hW1 : WS l) (hb1 : SpSt g d T L X ma v w0 l E (nb - 1)) (hnb : 1 ≤ nb) (hs1 : slk l = 0) (hvl : 0 ≤ tVl T L (tAt T L t) ∧ tVl T L (tAt T L t) ≤ 100) : SpSt g d T L X ma v w0 (nd 16 t q l r) E nb := by
  intro K pc lp h_ n σ w hlp hR hA hzb hcd hsz hpc hn hs hdz hok her
  obtain ⟨hL, hd, hX0, hm, hne, h7, hG⟩ := id h0
  have hnK : nK (nd 16 t q l r) = nK l + 3 := rfl
  rw [hnK] at hsz hpc hok
  have hsl : slk (nd 16 t q l r) = 2 := rfl
  rw [hsl] at hn hok
  obtain ⟨tm, htm⟩ : ∃ tm : Nat, tVl T L (tAt T L t) = (tm : Int) := ⟨(tVl T L (tAt T L t)).toNat, by omega⟩
  have hrn : rns T L X true (nd 16 t q l r) E h_ σ = itr h_ (rns T L X true l E h_) tm σ := by
    have e : rns T L X true (nd 16 t q l r) E h_ σ = itr h_ (rns T L X true l E h_) (tVl T L (tAt T L t)).toNat σ := rfl
    rw [e, htm, toN]
  rw [hrn] at hok her
  have hcd' : CdA w0 pc ([(22, tVl T L (tAt T L t), (lp : Int), (h_ : Int))] ++ ([(23, ((pc + 2 + nK l + 1 : Nat) : Int), (lp : Int), (h_ : Int))] ++ (cmS T L l E (pc + 2) (lp + 1) (h_ : Int) ++ [(21, ((pc + 1 : Nat) : Int), 0, (h_ : Int))]))) := hcd
  obtain ⟨cd1, cdr⟩ := hcd'.app
  obtain ⟨cd2, cdr2⟩ := cdr.app
  obtain ⟨cd3, cd4⟩ := cdr2.app
  rw [cmS_len l _ _ _ _ hW1] at cd4
  have hend : pc + (nK l + 3) = pc + 2 + nK l + 1 := by omega
  rw [hend] at hok
  have lpp : ∀ (m : Nat) (σ1 : SS) (n1 : Nat) (w1 : Wd), m ≤ 100 → RS ma v w0 w1 σ1 → At w1 (pc + 1) [] (zs σ1) (zd σ1) → w1 104 lp = (m : Int) → (∀ i, i < lp → w1 104 i = w 104 i) → zb σ1 = false → n1 + 3 * (1001 - zs σ1) + 1 ≤ 90000 → zs σ1 ≤ 1000 → zd σ1 ≤ zs σ1 → (∀ σ', itr h_ (rns T L X true l E h_) m σ1 = .ok σ' → zs σ' ≤ 1000 → zd σ' ≤ zs σ' → (zb σ' = false → ∀ w' n', RS ma v w0 w' σ' → At w' (pc + 2 + nK l + 1) [] (zs σ') (zd σ') → (∀ i, i < lp → w' 104 i = w 104 i) → n' + 3 * (1001 - zs σ') ≤ n1 + 3 * (1001 - zs σ1) + 1 → WH g d K n' w') ∧ (zb σ' = true → KHa K ma v w0 σ')) → (∀ e, itr h_ (rns T L X true l E h_) m σ1 = .error e → KEr K ma w0 e) → WH g d K n1 w1 := by
    intro m
    induction m with
    | zero =>
      intro σ1 n1 w1 hm1 R1 A1 h104 hlo hz1 hn1 hs1' hd1 hok1 her1
      refine w_repeat (to := pc + 2 + nK l + 1) hd (by omega) (by omega) (by omega) h104 (cd2.f2 R1.1) (by rw [R1.1.1 19 (by decide)]; show ((pc + 1 : Nat) : Int) < w0 19 4; omega) (by show pc + 1 < 1024; omega) A1 (fun _ w2 f2 A2 => ?_) (fun m' z => by omega) (fun m' z => by omega)
      exact (hok1 σ1 rfl hs1' hd1).1 hz1 w2 (n1 + 1) (R1.fr hm f2) A2 (fun i hi => by rw [f2.1 104 (by decide)]; exact hlo i hi) (by omega)
    | succ m ih =>
      intro σ1 n1 w1 hm1 R1 A1 h104 hlo hz1 hn1 hs1' hd1 hok1 her1
      have hit : itr h_ (rns T L X true l E h_) (m + 1) σ1 = bnd (stq h_ (zs σ1)) (fun s1 => bnd (rns T L X true l E h_ (s1, zd σ1, zo σ1, zl σ1, ze σ1, zb σ1)) (fun σ' => itr h_ (rns T L X true l E h_) m σ')) := by
        rw [itr, if_neg (by rw [hz1]; decide)]
      rw [hit] at hok1 her1
      refine w_repeat (to := pc + 2 + nK l + 1) hd (by omega) (by omega) (by omega) h104 (cd2.f2 R1.1) (by rw [R1.1.1 19 (by decide)]; show ((pc + 1 : Nat) : Int) < w0 19 4; omega) (by show pc + 1 < 1024; omega) A1 (fun z => by omega) (fun m' z s1 e1 w2 f2 A2 => ?_) (fun m' z e e1 w2 f2 q1 q2 => her1 e (by rw [e1]; rfl) w2 (R1.1.fr f2) q1 q2)
      have hmm : m' = m := by omega
      subst hmm
      rw [e1, bnd_ok'] at hok1 her1
      obtain ⟨rfl, e3⟩ := stq_ok e1
      have fy : FrY w1 (up w2 104 lp (m' : Int)) := (FrY.x f2).tr FrY.r
      have R2 := R1.fy hm fy
      refine hb1 K (pc + 2) (lp + 1) h_ (n1 + 1) (zs σ1 + 1, zd σ1, zo σ1, zl σ1, ze σ1, zb σ1) _ (by omega) R2.sd A2 hz1 cd3 (by omega) (by omega) ?_ ?_ ?_ (fun σ' hσ z1 z2 => ?_) (fun e he => her1 e (by rw [he]; rfl))
      · show n1 + 1 + 3 * (1001 - (zs σ1 + 1)) + slk l ≤ 90000; omega
      · show zs σ1 + 1 ≤ 1000; omega
      · show zd σ1 ≤ zs σ1 + 1; omega
      · rw [hσ, bnd_ok'] at hok1 her1
        refine ⟨fun z3 w' n' R' A' c' b' => ?_, fun z3 => ?_⟩
        · have b'' : n' + 3 * (1001 - zs σ') ≤ n1 + 1 + 3 * (1001 - (zs σ1 + 1)) + slk l := b'
          refine w_jump (to := pc + 1) (by omega) (by omega) (cd4.f2 R'.1) (by rw [R'.1.1 19 (by decide)]; show ((pc + 2 + nK l : Nat) : Int) < w0 19 4; omega) (by show pc + 2 + nK l < 1024; omega) A' (fun w4 f4 A4 => ?_)
          have c4 : ∀ i, i < lp + 1 → w4 104 i = up w2 104 lp (m' : Int) 104 i := fun i hi => by rw [f4.1 104 (by decide)]; exact c' i hi
          refine ih σ' (n' + 1) w4 (by omega) (R'.fr hm f4) A4 ?_ (fun i hi => ?_) z3 (by omega) z1 z2 (fun σ2 h2 y1 y2 => ⟨fun y3 w5 n5 R5 A5 c5 b5 => (hok1 σ2 h2 y1 y2).1 y3 w5 n5 R5 A5 c5 (by omega), (hok1 σ2 h2 y1 y2).2⟩) her1
          · rw [c4 lp (by omega), up_s]
          · rw [c4 i (by omega), up_k (by omega), f2.1 104 (by decide)]; exact hlo i hi
        · have hit2 : itr h_ (rns T L X true l E h_) m' σ' = .ok σ' := by
            cases m' with
            | zero => rfl
            | succ k => rw [itr, if_pos z3]
          exact (hok1 σ' hit2 z1 z2).2 z3
  refine w_loopD (by omega) (by omega) (by omega) (cd1.f2 hR.1) (by rw [hR.1.1 19 (by decide)]; omega) (by omega) hA (fun w1 f1 A1 => ?_)
  have fy : FrY w (up w1 104 lp (tVl T L (tAt T L t))) := (FrY.x f1).tr FrY.r
  refine lpp tm σ (n + 1) _ (by omega) (hR.fy hm fy) A1 (by rw [up_s, htm]) (fun i hi => by rw [up_k (by omega), f1.1 104 (by decide)]) hzb (by omega) hs hdz (fun σ' hσ z1 z2 => ⟨fun z3 w' n' R' A' c' b' => (hok σ' hσ z1 z2).1 z3 w' n' R' A' c' (by omega), (hok σ' hσ z1 z2).2⟩) her
end WSt4
