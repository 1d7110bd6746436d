/-! ===== states, lets, what is sent and given: ints ===== -/
def RgS (E : List En) (X : Xv) (σ : SS) : Prop := RgX E (zo σ) (zl σ) X ∧ ∀ e ∈ ze σ, inI e.2.2
section Range2
variable {T : Nat → Int} {L : Nat} {X : Xv} {j : Nat} {vl : Nat → Int}
theorem RgX.sub {E E' : List En} {own lets : Nat → Int} (h : RgX E' own lets X) (hs : ∀ e ∈ E, e ∈ E') : RgX E own lets X := ⟨fun e he => h.1 e (hs e he), h.2⟩
theorem rg_own {E : List En} {own lets : Nat → Int} {k : Nat} {x : Int} (h : RgX E own lets X) (hx : inI x) : RgX E (upf own k x) lets X := by
  refine ⟨fun e he => ?_, h.2⟩
  obtain ⟨h1, h2⟩ := h.1 e he
  refine ⟨fun z => ?_, h2⟩
  unfold upf
  split
  · exact hx
  · exact h1 z
theorem rg_let {E : List En} {own lets : Nat → Int} {k : Nat} {x : Int} (h : RgX E own lets X) (hx : inI x) : RgX E own (upf lets k x) X := by
  refine ⟨fun e he => ?_, h.2⟩
  obtain ⟨h1, h2, h3⟩ := h.1 e he
  refine ⟨h1, fun z => ?_, h3⟩
  unfold upf
  split
  · exact hx
  · exact h2 z
theorem snd_in {h k : Nat} {f : Nat → SS → PE (Int × Nat × Nat)} {to : Nat → Nat} (own lets : Nat → Int) : ∀ (l : List Nat) (σ σ' : SS), (∀ i ∈ l, ∀ σ q, zo σ = own → zl σ = lets → f i σ = .ok q → inI q.1) → zo σ = own → zl σ = lets → (∀ e ∈ ze σ, inI e.2.2) → snd_ h f to k l σ = .ok σ' → ∀ e ∈ ze σ', inI e.2.2
  | [], σ, σ', _, _, _, hev, e => by cases e; exact hev
  | i :: t, σ, σ', hf, ho, hl, hev, e => by
    rw [snd_] at e
    obtain ⟨s1, h1, e2⟩ := bnd_ok e
    obtain ⟨q, hq, e3⟩ := bnd_ok e2
    have hx := hf i (List.mem_cons_self ..) (s1, zd σ, zo σ, zl σ, ze σ, zb σ) q ho hl hq
    refine snd_in own lets t (q.2.1, q.2.2, zo σ, zl σ, ze σ ++ [(to i + 1, k, q.1)], zb σ) σ' (fun x hx => hf x (List.mem_cons_of_mem _ hx)) ho hl (fun y hy => ?_) e3
    rcases List.mem_append.mp hy with z | z
    · exact hev y z
    · simp at z; subst z; exact hx
theorem rns_in (hL : L ≤ 4000) (hA : ∀ i, i < (X 0 6).toNat → ∀ k, k < 4 → inI (X 4 (4 * i + k))) : ∀ (a : Tr) (b : Bool) (E : List En) (h nb : Nat) (σ σ' : SS), WS a → OB (kdT T L) vl a nb (cntE 4 E) → 100000 ≤ jS T L a E → EV E → RgS E X σ → rns T L X b a E h σ = .ok σ' → RgS (eSt T L E a) X σ'
  | .leaf, b, E, h, nb, σ, σ', _, _, _, _, hT, e => by
    have : rns T L X b .leaf E h σ = .ok σ := by cases b <;> rfl
    rw [this] at e
    cases e
    exact hT
  | .inner c t q l r, b, E, h, nb, σ, σ', hW, hO, hj, hE, hT, e => by
    have ihl := rns_in hL hA l
    have ihr := rns_in hL hA r
    have hWc := hW
    simp only [WS] at hWc
    rcases hWc with ⟨rfl, w1, w2, w3⟩ | ⟨rfl, w1, w2⟩ | ⟨rfl, w1⟩ | ⟨rfl, w1, w2⟩ | ⟨rfl, w1⟩ | rfl | ⟨hc, w1⟩
    · obtain ⟨o1, o2, o3, o4⟩ : stTag l ∧ OB (kdT T L) vl l nb (cntE 4 E) ∧ OB (kdT T L) vl r nb (cntE 4 E + (if tg l = 12 then 1 else 0)) ∧ (r = nl ∨ tg r = 20) := hO
      have hjj : jS T L (.inner 20 t q l r) E = min (jS T L l E) (jS T L r (eSt T L E l)) := rfl
      rw [hjj] at hj
      have e : (if zb σ = true then .ok σ else bnd (stq (tAt T L (fsS l)) (zs σ)) (fun s1 => bnd (rns T L X true l E (tAt T L (fsS l)) (s1, zd σ, zo σ, zl σ, ze σ, zb σ)) (fun σ' => rns T L X true r (eSt T L E l) h σ'))) = (.ok σ' : PE SS) := e
      show RgS E X σ'
      split at e
      · cases e; exact hT
      · obtain ⟨s1, h1, e2⟩ := bnd_ok e
        obtain ⟨σ1, h2, e3⟩ := bnd_ok e2
        obtain ⟨g1, g2, g3⟩ := eSt_ok (T := T) hL w1 o2 (by omega) hE
        have t1 := ihl true E _ nb (s1, zd σ, zo σ, zl σ, ze σ, zb σ) σ1 w1 o2 (by omega) hE hT h2
        have t2 := ihr true (eSt T L E l) h nb σ1 σ' w2 (by rw [g2]; exact o3) (by omega) g1 t1 e3
        have hr : eSt T L (eSt T L E l) r = eSt T L E l := eSt_n12 (by rcases o4 with z | z; (rw [z]; decide); (rw [z]; decide))
        rw [hr] at t2
        exact ⟨t2.1.sub g3, t2.2⟩
    · obtain ⟨o1, o2, y3, y4⟩ : OB (kdT T L) vl l nb (cntE 4 E) ∧ OB (kdT T L) vl r nb (cntE 4 E) ∧ tg l = 21 ∧ ((q = 0 ∧ r = nl) ∨ (q ≠ 0 ∧ tg r = 21)) := hO
      have hjj : jS T L (.inner 9 t q l r) E = min (jS T L l E) (jS T L r E) := rfl
      rw [hjj] at hj
      have e : (if b = true then rns T L X true l E h σ else rns T L X true r E h σ) = (.ok σ' : PE SS) := e
      show RgS E X σ'
      split at e
      · have := ihl true E h nb σ σ' w1 o1 (by omega) hE hT e
        rw [eSt_n12 (by rw [y3]; decide)] at this
        exact this
      · have := ihr true E h nb σ σ' w2 o2 (by omega) hE hT e
        rw [eSt_n12 (by rcases y4 with ⟨-, z⟩ | ⟨-, z⟩; (rw [z]; decide); (rw [z]; decide))] at this
        exact this
    · obtain ⟨p1, p2, p3⟩ : 1 ≤ nb ∧ OB (kdT T L) vl l (nb - 1) (cntE 4 E) ∧ (l = nl ∨ tg l = 20) := hO
      have := ihl true E h (nb - 1) σ σ' w1 p2 hj hE hT e
      rw [eSt_n12 (by rcases p3 with z | z; (rw [z]; decide); (rw [z]; decide))] at this
      exact this
    · obtain ⟨p1, p2⟩ : OB (kdT T L) vl r nb (cntE 4 E) ∧ tg r = 9 := hO
      have hjj : jS T L (.inner 15 t q l r) E = min (min (jkT T L E false l) (dm T L (knT T L E false l) 2 (fst_ l))) (jS T L r E) := rfl
      rw [hjj] at hj
      have e : bnd (evs T L X h E 0 l σ) (fun v => rns T L X (decide (v.1 ≠ 0)) r E h (v.2.1, v.2.2, zo σ, zl σ, ze σ, zb σ)) = (.ok σ' : PE SS) := e
      obtain ⟨v, h1, e2⟩ := bnd_ok e
      have := ihr _ E h nb (v.2.1, v.2.2, zo σ, zl σ, ze σ, zb σ) σ' w2 p1 (by omega) hE hT e2
      rw [eSt_n12 (by rw [p2]; decide)] at this
      exact this
    · obtain ⟨p1, p2, -⟩ : OB (kdT T L) vl l nb (cntE 4 E) ∧ tg l = 21 ∧ _ := hO
      have e : itr h (rns T L X true l E h) (tVl T L (tAt T L t)).toNat σ = (.ok σ' : PE SS) := e
      refine itr_inv (P := fun σ => RgS E X σ) (fun σ1 s σ2 hp he => ?_) _ σ σ' hT e
      have := ihl true E h nb (s, zd σ1, zo σ1, zl σ1, ze σ1, zb σ1) σ2 w1 p1 hj hE hp he
      rw [eSt_n12 (by rw [p2]; decide)] at this
      exact this
    · have e : (.ok (zs σ, zd σ, zo σ, zl σ, ze σ, true) : PE SS) = .ok σ' := e
      cases e
      exact hT
    · clear ihl ihr
      have val : 100000 ≤ jkT T L E false l → ∀ v, evs T L X h E 0 l σ = .ok v → inI v.1 := fun hjl v hv => evx_in (bb := false) hL hE.1 hT.1 (fun z => by cases z) l true (zs σ) (zd σ) v w1 hjl hv
      rcases hc with rfl | rfl | rfl | rfl
      · have hjj : jS T L (nd 11 t q l r) E = min (min (if eSo (fnd T L E t) = 1 ∨ eSo (fnd T L E t) = 4 then 100000 else tAt T L t * 8 + 4) (jkT T L E false l)) (dm T L (knT T L E false l) (if eSo (fnd T L E t) = 1 ∨ eSo (fnd T L E t) = 4 then eKi (fnd T L E t) else 0) (fst_ l)) := rfl
        rw [hjj] at hj
        have e : bnd (evs T L X h E 0 l σ) (fun v => .ok (if eSo (fnd T L E t) = 4 then (v.2.1, v.2.2, zo σ, upf (zl σ) (nmN T L E t) v.1, ze σ, zb σ) else (v.2.1, v.2.2, upf (zo σ) (nmN T L E t) v.1, zl σ, ze σ, zb σ))) = (.ok σ' : PE SS) := e
        obtain ⟨v, h1, e2⟩ := bnd_ok e
        have hv := val (by omega) v h1
        show RgS E X σ'
        by_cases z : eSo (fnd T L E t) = 4
        · rw [if_pos z] at e2; cases e2; exact ⟨rg_let hT.1 hv, hT.2⟩
        · rw [if_neg z] at e2; cases e2; exact ⟨rg_own hT.1 hv, hT.2⟩
      · have hjj : jS T L (nd 12 t q l r) E = min (if fnd T L E t = none then 100000 else tAt T L t * 8 + 3) (jkT T L E false l) := rfl
        rw [hjj] at hj
        have e : bnd (evs T L X h E 0 l σ) (fun v => .ok (v.2.1, v.2.2, zo σ, upf (zl σ) (cntE 4 E) v.1, ze σ, zb σ)) = (.ok σ' : PE SS) := e
        obtain ⟨v, h1, e2⟩ := bnd_ok e
        have hv := val (by omega) v h1
        cases e2
        show RgS (E ++ [(t, 4, cntE 4 E, (knT T L E false l).toNat)]) X (v.2.1, v.2.2, zo σ, upf (zl σ) (cntE 4 E) v.1, ze σ, zb σ)
        refine ⟨⟨fun f hf => ?_, hT.1.2⟩, hT.2⟩
        rcases List.mem_append.mp hf with z | z
        · exact (rg_let (k := cntE 4 E) hT.1 hv).1 f z
        · simp at z
          subst z
          refine ⟨fun y => absurd y (show (4 : Nat) ≠ 1 by decide), fun _ => ?_, fun y => absurd y (show (4 : Nat) ≠ 2 by decide), fun y => absurd y (show (4 : Nat) ≠ 3 by decide)⟩
          show inI (upf (zl σ) (cntE 4 E) v.1 (cntE 4 E))
          unfold upf
          rw [if_pos rfl]
          exact hv
      · have hjj : jS T L (nd 13 t q l r) E = min (min (if eSo (fnd T L E t) = 2 then 100000 else tAt T L t * 8 + 4) (jkT T L E true l)) (dm T L (knT T L E true l) (eKi (nmE T L E 2 t)) (fst_ l)) := rfl
        rw [hjj] at hj
        have hjl : 100000 ≤ jkT T L E true l := by omega
        have e : snd_ h (fun i σ => evs T L X h E i l σ) (fun i => ((if kdT T L (q - 1) = 46 then X 5 i else X 6 i)).toNat) (nmN T L E t) (alA X (decide (kdT T L (q - 1) = 46))) σ = (.ok σ' : PE SS) := e
        obtain ⟨a1, a2, -⟩ := snd_own _ _ _ e
        show RgS E X σ'
        refine ⟨by rw [a1, a2]; exact hT.1, snd_in (zo σ) (zl σ) _ σ σ' (fun i hi τ p ho hl hp => ?_) rfl rfl hT.2 e⟩
        have hp : evx T L X h E (zo τ) (zl τ) i true l (zs τ) (zd τ) = .ok p := hp
        rw [ho, hl] at hp
        exact evx_in (bb := true) hL hE.1 hT.1 (fun _ => hA i (alA_mem hi)) l true _ _ p w1 hjl hp
      · have hjj : jS T L (nd 14 t q l r) E = min (min (if eSo (fnd T L E t) = 3 then 100000 else tAt T L t * 8 + 4) (jkT T L E false l)) (dm T L (knT T L E false l) (eKi (nmE T L E 3 t)) (fst_ l)) := rfl
        rw [hjj] at hj
        have e : bnd (evs T L X h E 0 l σ) (fun v => .ok (v.2.1, v.2.2, zo σ, zl σ, ze σ ++ [(0, nmN T L E t, v.1)], zb σ)) = (.ok σ' : PE SS) := e
        obtain ⟨v, h1, e2⟩ := bnd_ok e
        have hv := val (by omega) v h1
        cases e2
        refine ⟨hT.1, fun y hy => ?_⟩
        rcases List.mem_append.mp hy with z | z
        · exact hT.2 y z
        · simp at z; subst z; exact hv
end Range2
