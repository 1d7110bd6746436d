/-! ===== the events of a node's work ===== -/
section Events2
variable {T : Nat → Int} {L : Nat} {X : Xv} {j n : Nat} {vl : Nat → Int}
theorem alA_mem {ag : Bool} {i : Nat} (h : i ∈ alA X ag) : i < (X 0 6).toNat := by
  unfold alA at h
  exact List.mem_range.mp (List.mem_filter.mp h).1
theorem rns_ev (hL : L ≤ 4000) (hXn : ∀ i, i < (X 0 6).toNat → (X 5 i).toNat < n ∧ (X 6 i).toNat < n) : ∀ (a : Tr) (b : Bool) (E : List En) (h nb : Nat) (σ σ' : SS), WS a → SX (kdT T L) j a → OB (kdT T L) vl a nb (cntE 4 E) → 100000 ≤ jS T L a E → EV E → TyX E (zo σ) (zl σ) X → rns T L X b a E h σ = .ok σ' → EvR E n σ σ'
  | .leaf, b, E, h, nb, σ, σ', _, _, _, _, _, hT, e => by
    have : rns T L X b .leaf E h σ = .ok σ := by cases b <;> rfl
    rw [this] at e
    cases e
    exact EvR.rf rfl (Nat.le_refl _)
  | .inner c t q l r, b, E, h, nb, σ, σ', hW, hX, hO, hj, hE, hT, e => by
    have ihl := rns_ev hL hXn l
    have ihr := rns_ev hL hXn r
    have hWc := hW
    simp only [WS] at hWc
    rcases hWc with ⟨rfl, w1, w2, w3⟩ | ⟨rfl, w1, w2⟩ | ⟨rfl, w1⟩ | ⟨rfl, w1, w2⟩ | ⟨rfl, w1⟩ | rfl | ⟨hc, w1⟩
    · obtain ⟨o1, o2, o3, o4⟩ : stTag l ∧ OB (kdT T L) vl l nb (cntE 4 E) ∧ OB (kdT T L) vl r nb (cntE 4 E + (if tg l = 12 then 1 else 0)) ∧ (r = nl ∨ tg r = 20) := hO
      obtain ⟨x1, x2⟩ : SX (kdT T L) j l ∧ SX (kdT T L) j r := hX
      have hjj : jS T L (.inner 20 t q l r) E = min (jS T L l E) (jS T L r (eSt T L E l)) := rfl
      rw [hjj] at hj
      have e : (if zb σ = true then .ok σ else bnd (stq (tAt T L (fsS l)) (zs σ)) (fun s1 => bnd (rns T L X true l E (tAt T L (fsS l)) (s1, zd σ, zo σ, zl σ, ze σ, zb σ)) (fun σ' => rns T L X true r (eSt T L E l) h σ'))) = (.ok σ' : PE SS) := e
      split at e
      · cases e; exact EvR.rf rfl (Nat.le_refl _)
      · obtain ⟨s1, h1, e2⟩ := bnd_ok e
        obtain ⟨σ1, h2, e3⟩ := bnd_ok e2
        obtain ⟨rfl, -⟩ := stq_ok h1
        obtain ⟨g1, g2, g3⟩ := eSt_ok (T := T) hL w1 o2 (by omega) hE
        have t1 := rns_ty (j := j) (vl := vl) hL l true E _ nb (zs σ + 1, zd σ, zo σ, zl σ, ze σ, zb σ) σ1 w1 x1 o2 (by omega) hE hT h2
        have v1 := ihl true E _ nb (zs σ + 1, zd σ, zo σ, zl σ, ze σ, zb σ) σ1 w1 x1 o2 (by omega) hE hT h2
        have v2 := ihr true (eSt T L E l) h nb σ1 σ' w2 x2 (by rw [g2]; exact o3) (by omega) g1 t1 e3
        have v0 : EvR E n σ (zs σ + 1, zd σ, zo σ, zl σ, ze σ, zb σ) := EvR.rf rfl (Nat.le_succ _)
        exact (v0.tr v1).tr v2.dn
    · obtain ⟨x1, x2⟩ : SX (kdT T L) j l ∧ SX (kdT T L) j r := hX
      obtain ⟨o1, o2, y3, y4⟩ : OB (kdT T L) vl l nb (cntE 4 E) ∧ OB (kdT T L) vl r nb (cntE 4 E) ∧ tg l = 21 ∧ ((q = 0 ∧ r = nl) ∨ (q ≠ 0 ∧ tg r = 21)) := hO
      have hjj : jS T L (.inner 9 t q l r) E = min (jS T L l E) (jS T L r E) := rfl
      rw [hjj] at hj
      have e : (if b = true then rns T L X true l E h σ else rns T L X true r E h σ) = (.ok σ' : PE SS) := e
      split at e
      · exact ihl true E h nb σ σ' w1 x1 o1 (by omega) hE hT e
      · exact ihr true E h nb σ σ' w2 x2 o2 (by omega) hE hT e
    · obtain ⟨p1, p2, p3⟩ : 1 ≤ nb ∧ OB (kdT T L) vl l (nb - 1) (cntE 4 E) ∧ (l = nl ∨ tg l = 20) := hO
      exact ihl true E h (nb - 1) σ σ' w1 hX p2 hj hE hT e
    · obtain ⟨p1, p2⟩ : OB (kdT T L) vl r nb (cntE 4 E) ∧ tg r = 9 := hO
      obtain ⟨q1, q2⟩ : XO (kdT T L) j l ∧ SX (kdT T L) j r := hX
      have hjj : jS T L (.inner 15 t q l r) E = min (min (jkT T L E false l) (dm T L (knT T L E false l) 2 (fst_ l))) (jS T L r E) := rfl
      rw [hjj] at hj
      have e : bnd (evs T L X h E 0 l σ) (fun v => rns T L X (decide (v.1 ≠ 0)) r E h (v.2.1, v.2.2, zo σ, zl σ, ze σ, zb σ)) = (.ok σ' : PE SS) := e
      obtain ⟨v, h1, e2⟩ := bnd_ok e
      have hst := evx_st l true _ _ v w1 h1
      have v1 := ihr _ E h nb (v.2.1, v.2.2, zo σ, zl σ, ze σ, zb σ) σ' w2 q2 p1 (by omega) hE hT e2
      have v0 : EvR E n σ (v.2.1, v.2.2, zo σ, zl σ, ze σ, zb σ) := EvR.rf rfl (Nat.le_of_lt hst)
      exact v0.tr v1
    · obtain ⟨p1, p2, -⟩ : OB (kdT T L) vl l nb (cntE 4 E) ∧ tg l = 21 ∧ _ := hO
      have e : itr h (rns T L X true l E h) (tVl T L (tAt T L t)).toNat σ = (.ok σ' : PE SS) := e
      refine (itr_inv2 (P := fun τ => TyX E (zo τ) (zl τ) X ∧ EvR E n σ τ) (fun σ1 σ2 hp he => ⟨?_, ?_⟩) _ σ σ' ⟨hT, EvR.rf rfl (Nat.le_refl _)⟩ e).2
      · have := rns_ty (j := j) (vl := vl) hL l true E h nb (zs σ1 + 1, zd σ1, zo σ1, zl σ1, ze σ1, zb σ1) σ2 w1 hX p1 hj hE hp.1 he
        rw [eSt_n12 (by rw [p2]; decide)] at this
        exact this
      · have v1 := ihl true E h nb (zs σ1 + 1, zd σ1, zo σ1, zl σ1, ze σ1, zb σ1) σ2 w1 hX p1 hj hE hp.1 he
        have v0 : EvR E n σ1 (zs σ1 + 1, zd σ1, zo σ1, zl σ1, ze σ1, zb σ1) := EvR.rf rfl (Nat.le_succ _)
        exact (hp.2.tr v0).tr v1
    · have e : (.ok (zs σ, zd σ, zo σ, zl σ, ze σ, true) : PE SS) = .ok σ' := e
      cases e
      exact EvR.rf rfl (Nat.le_refl _)
    · have xo : XO (kdT T L) j l := by
        have := hX
        rw [SX, if_neg (by omega), if_neg (by omega), if_neg (by omega), if_neg (by omega)] at this
        exact this.1
      clear ihl ihr
      rcases hc with rfl | rfl | rfl | rfl
      · have e : bnd (evs T L X h E 0 l σ) (fun v => .ok (if eSo (fnd T L E t) = 4 then (v.2.1, v.2.2, zo σ, upf (zl σ) (nmN T L E t) v.1, ze σ, zb σ) else (v.2.1, v.2.2, upf (zo σ) (nmN T L E t) v.1, zl σ, ze σ, zb σ))) = (.ok σ' : PE SS) := e
        obtain ⟨v, h1, e2⟩ := bnd_ok e
        have hst := evx_st l true _ _ v w1 h1
        by_cases z : eSo (fnd T L E t) = 4
        · rw [if_pos z] at e2; cases e2; exact EvR.rf rfl (Nat.le_of_lt hst)
        · rw [if_neg z] at e2; cases e2; exact EvR.rf rfl (Nat.le_of_lt hst)
      · have e : bnd (evs T L X h E 0 l σ) (fun v => .ok (v.2.1, v.2.2, zo σ, upf (zl σ) (cntE 4 E) v.1, ze σ, zb σ)) = (.ok σ' : PE SS) := e
        obtain ⟨v, h1, e2⟩ := bnd_ok e
        have hst := evx_st l true _ _ v w1 h1
        cases e2
        exact EvR.rf rfl (Nat.le_of_lt hst)
      · have hjj : jS T L (nd 13 t q l r) E = min (min (if eSo (fnd T L E t) = 2 then 100000 else tAt T L t * 8 + 4) (jkT T L E true l)) (dm T L (knT T L E true l) (eKi (nmE T L E 2 t)) (fst_ l)) := rfl
        rw [hjj] at hj
        have hso : eSo (fnd T L E t) = 2 := bl_no (T := T) (t := t) (k := 4) hL (by decide) (by omega)
        rw [nm_eq hso] at hj
        have hjl : 100000 ≤ jkT T L E true l := by omega
        have hdm := dm_ge (T := T) hL (show 100000 ≤ dm T L (knT T L E true l) (eKi (fnd T L E t)) (fst_ l) by omega)
        have hkn := kn_12 (T := T) (L := L) (bb := true) hL hE.1 hE.2.1 l w1 hjl
        have e : snd_ h (fun i σ => evs T L X h E i l σ) (fun i => ((if kdT T L (q - 1) = 46 then X 5 i else X 6 i)).toNat) (nmN T L E t) (alA X (decide (kdT T L (q - 1) = 46))) σ = (.ok σ' : PE SS) := e
        cases hf : fnd T L E t with
        | none => rw [hf] at hso; exact absurd hso (by decide)
        | some en =>
          obtain ⟨n1, n2, n3, n4⟩ := fnd_nb hE.1 hf
          have hki : eKi (fnd T L E t) = (en.2.2.2 : Int) := by rw [hf]; rfl
          rw [hki] at hdm
          rw [n1] at e
          refine snd_ev (fnd_mem _ hf) (by omega) rfl (zo σ) (zl σ) (fun i τ p ho hl hp => ⟨?_, fun z => ?_⟩) _ σ σ' (fun i hi => ?_) rfl rfl e
          · exact Nat.le_of_lt (evx_st l true _ _ p w1 hp)
          · have hp : evx T L X h E (zo τ) (zl τ) i true l (zs τ) (zd τ) = .ok p := hp
            rw [ho, hl] at hp
            exact ev_ty (bb := true) hL hE.1 hE.2.1 hT l true _ _ p w1 ⟨_, xo.2⟩ hjl hp (by omega)
          · have := hXn i (alA_mem hi)
            show ((if kdT T L (q - 1) = 46 then X 5 i else X 6 i)).toNat < n
            split
            · exact this.1
            · exact this.2
      · have hjj : jS T L (nd 14 t q l r) E = min (min (if eSo (fnd T L E t) = 3 then 100000 else tAt T L t * 8 + 4) (jkT T L E false l)) (dm T L (knT T L E false l) (eKi (nmE T L E 3 t)) (fst_ l)) := rfl
        rw [hjj] at hj
        have hso : eSo (fnd T L E t) = 3 := bl_no (T := T) (t := t) (k := 4) hL (by decide) (by omega)
        rw [nm_eq hso] at hj
        have hjl : 100000 ≤ jkT T L E false l := by omega
        have hdm := dm_ge (T := T) hL (show 100000 ≤ dm T L (knT T L E false l) (eKi (fnd T L E t)) (fst_ l) by omega)
        have hkn := kn_12 (T := T) (L := L) (bb := false) hL hE.1 hE.2.1 l w1 hjl
        have e : bnd (evs T L X h E 0 l σ) (fun v => .ok (v.2.1, v.2.2, zo σ, zl σ, ze σ ++ [(0, nmN T L E t, v.1)], zb σ)) = (.ok σ' : PE SS) := e
        obtain ⟨v, h1, e2⟩ := bnd_ok e
        have hst := evx_st l true _ _ v w1 h1
        have hty := ev_ty (bb := false) hL hE.1 hE.2.1 hT l true (zs σ) (zd σ) v w1 ⟨_, xo.2⟩ hjl h1
        cases hf : fnd T L E t with
        | none => rw [hf] at hso; exact absurd hso (by decide)
        | some en =>
          obtain ⟨n1, n2, n3, n4⟩ := fnd_nb hE.1 hf
          have hki : eKi (fnd T L E t) = (en.2.2.2 : Int) := by rw [hf]; rfl
          rw [hki] at hdm
          rw [n1] at e2
          cases e2
          refine ⟨[(0, en.2.2.1, v.1)], rfl, hst, fun x hx => ?_⟩
          simp at hx
          subst hx
          exact ⟨fun _ => ⟨en, fnd_mem _ hf, by omega, rfl, fun z => hty (by omega)⟩, fun z => absurd rfl z⟩
end Events2
