/-! ===== kinds stay, whatever statements are done ===== -/
theorem cnt_mono {s : Nat} {E : List En} (i : Nat) : ∀ k, cntE s (E.take i) ≤ cntE s (E.take (i + k))
  | 0 => Nat.le_refl _
  | k + 1 => by
    have := cnt_mono (s := s) (E := E) i k
    cases h : E[i + k]? with
    | none =>
      rw [← Nat.add_assoc, List.take_succ, h]
      simpa using this
    | some e =>
      have := cnt_take (s := s) h
      rw [← Nat.add_assoc, this]
      omega
theorem num_lt {E : List En} {e : En} (h : NUM E) (he : e ∈ E) : e.2.2.1 < cntE e.2.1 E := by
  obtain ⟨i, hi⟩ := List.mem_iff_getElem?.mp he
  have h1 := h i e hi
  have h2 := cnt_take (s := e.2.1) hi
  rw [if_pos rfl] at h2
  have h3 := cnt_mono (s := e.2.1) (E := E) (i + 1) E.length
  rw [List.take_of_length_le (show E.length ≤ i + 1 + E.length by omega)] at h3
  omega
theorem num_inj {E : List En} {e f : En} (h : NUM E) (he : e ∈ E) (hf : f ∈ E) (hs : e.2.1 = f.2.1) (hn : e.2.2.1 = f.2.2.1) : e = f := by
  obtain ⟨i, hi⟩ := List.mem_iff_getElem?.mp he
  obtain ⟨j, hj⟩ := List.mem_iff_getElem?.mp hf
  have key : ∀ (i j : Nat) (e f : En), E[i]? = some e → E[j]? = some f → e.2.1 = f.2.1 → e.2.2.1 = f.2.2.1 → i < j → False := by
    intro i j e f hi hj hs hn hij
    have h1 := h i e hi
    have h2 := h j f hj
    have h3 := cnt_take (s := e.2.1) hi
    rw [if_pos rfl] at h3
    have h4 := cnt_mono (s := e.2.1) (E := E) (i + 1) (j - (i + 1))
    rw [show i + 1 + (j - (i + 1)) = j by omega] at h4
    rw [← hs] at h2
    omega
  rcases Nat.lt_trichotomy i j with z | z | z
  · exact (key i j e f hi hj hs hn z).elim
  · rw [z, hj] at hi; exact (Option.some.inj hi).symm
  · exact (key j i f e hj hi hs.symm hn.symm z).elim
theorem TyX.sub {E E' : List En} {own lets : Nat → Int} {X : Xv} (h : TyX E' own lets X) (hs : ∀ e ∈ E, e ∈ E') : TyX E own lets X := fun e he hk => h e (hs e he) hk
section RnsTy
variable {T : Nat → Int} {L : Nat} {X : Xv} {j : Nat} {vl : Nat → Int}
theorem snd_own {h k : Nat} {f : Nat → SS → PE (Int × Nat × Nat)} {to : Nat → Nat} : ∀ (l : List Nat) (σ σ' : SS), snd_ h f to k l σ = .ok σ' → zo σ' = zo σ ∧ zl σ' = zl σ ∧ zb σ' = zb σ
  | [], σ, σ', e => by cases e; exact ⟨rfl, rfl, rfl⟩
  | i :: t, σ, σ', e => by
    rw [snd_] at e
    obtain ⟨s1, h1, e⟩ := bnd_ok e
    obtain ⟨q, h2, e⟩ := bnd_ok e
    have := snd_own t _ σ' e
    exact this
theorem itr_inv {h : Nat} {f : SS → PE SS} {P : SS → Prop} (hP : ∀ σ s σ', P σ → f (s, zd σ, zo σ, zl σ, ze σ, zb σ) = .ok σ' → P σ') : ∀ (n : Nat) (σ σ' : SS), P σ → itr h f n σ = .ok σ' → P σ'
  | 0, σ, σ', hp, e => by cases e; exact hp
  | n + 1, σ, σ', hp, e => by
    rw [itr] at e
    split at e
    · cases e; exact hp
    · obtain ⟨s1, h1, e⟩ := bnd_ok e
      obtain ⟨σ1, h2, e⟩ := bnd_ok e
      exact itr_inv hP n σ1 σ' (hP σ s1 σ1 hp h2) e
/-- what holds of the names -/
def EV (E : List En) : Prop := ENb E ∧ EK E ∧ NUM E
theorem eSt_ok {a : Tr} {E : List En} {n : Nat} (hL : L ≤ 4000) (hW : WS a) (hO : OB (kdT T L) vl a n (cntE 4 E)) (hj : 100000 ≤ jS T L a E) (hE : EV E) : EV (eSt T L E a) ∧ cntE 4 (eSt T L E a) = cntE 4 E + (if tg a = 12 then 1 else 0) ∧ ∀ e ∈ E, e ∈ eSt T L E a := by
  cases a with
  | leaf => exact ⟨hE, rfl, fun e h => h⟩
  | inner c t q l r =>
    by_cases h12 : c = 12
    · subst h12
      have h8 : cntE 4 E < 8 := hO
      have hwe : WE l := by
        simp only [WS] at hW
        rcases hW with ⟨z, -⟩ | ⟨z, -⟩ | ⟨z, -⟩ | ⟨z, -⟩ | ⟨z, -⟩ | z | ⟨-, z⟩
        iterate 6 omega
        exact z
      have hjj : jS T L (.inner 12 t q l r) E = min (if fnd T L E t = none then 100000 else tAt T L t * 8 + 3) (jkT T L E false l) := rfl
      rw [hjj] at hj
      have hk := kn_12 (T := T) (L := L) (bb := false) hL hE.1 hE.2.1 l hwe (by omega)
      have e1 : eSt T L E (.inner 12 t q l r) = E ++ [(t, 4, cntE 4 E, (knT T L E false l).toNat)] := rfl
      rw [e1]
      refine ⟨⟨hE.1.let_ h8, fun e he => ?_, num_add hE.2.2 rfl⟩, ?_, fun e he => List.mem_append_left _ he⟩
      · rcases List.mem_append.mp he with z | z
        · exact hE.2.1 e z
        · simp at z
          subst z
          show (knT T L E false l).toNat = 1 ∨ (knT T L E false l).toNat = 2
          omega
      · rw [cnt_app]; rfl
    · have e : eSt T L E (.inner c t q l r) = E := by
        show (if c = 12 then _ else E) = E
        exact if_neg h12
      rw [e]
      refine ⟨hE, ?_, fun e h => h⟩
      show cntE 4 E = cntE 4 E + (if c = 12 then 1 else 0)
      rw [if_neg h12]; rfl
theorem eSt_n12 {a : Tr} {E : List En} (h : tg a ≠ 12) : eSt T L E a = E := by
  cases a with
  | leaf => rfl
  | inner c t q l r =>
    show (if c = 12 then _ else E) = E
    exact if_neg h
theorem ty_set {E : List En} {own lets : Nat → Int} {e : En} {x : Int} (hE : EV E) (he : e ∈ E) (hT : TyX E own lets X) (hx : e.2.2.2 = 2 → b01 x) : (e.2.1 = 1 → TyX E (upf own e.2.2.1 x) lets X) ∧ (e.2.1 = 4 → TyX E own (upf lets e.2.2.1 x) X) := by
  refine ⟨fun z f hf hk => ?_, fun z f hf hk => ?_⟩
  · obtain ⟨t1, t2, t3, t4⟩ := hT f hf hk
    refine ⟨fun y => ?_, t2, t3, t4⟩
    unfold upf
    split
    · rename_i hq
      have := num_inj hE.2.2 hf he (by omega) hq
      exact hx (by rw [← this]; exact hk)
    · exact t1 y
  · obtain ⟨t1, t2, t3, t4⟩ := hT f hf hk
    refine ⟨t1, fun y => ?_, t3, t4⟩
    unfold upf
    split
    · rename_i hq
      have := num_inj hE.2.2 hf he (by omega) hq
      exact hx (by rw [← this]; exact hk)
    · exact t2 y
theorem rns_ty (hL : L ≤ 4000) : ∀ (a : Tr) (b : Bool) (E : List En) (h n : Nat) (σ σ' : SS), WS a → SX (kdT T L) j a → OB (kdT T L) vl a n (cntE 4 E) → 100000 ≤ jS T L a E → EV E → TyX E (zo σ) (zl σ) X → rns T L X b a E h σ = .ok σ' → TyX (eSt T L E a) (zo σ') (zl σ') X
  | .leaf, b, E, h, n, σ, σ', _, _, _, _, _, hT, e => by
    have : rns T L X b .leaf E h σ = .ok σ := by cases b <;> rfl
    rw [this] at e
    cases e
    exact hT
  | .inner c t q l r, b, E, h, n, σ, σ', hW, hX, hO, hj, hE, hT, e => by
    have ihl := rns_ty hL l
    have ihr := rns_ty hL r
    have hWc := hW
    simp only [WS] at hWc
    rcases hWc with ⟨rfl, w1, w2, w3⟩ | ⟨rfl, w1, w2⟩ | ⟨rfl, w1⟩ | ⟨rfl, w1, w2⟩ | ⟨rfl, w1⟩ | rfl | ⟨hc, w1⟩
    · obtain ⟨o1, o2, o3, o4⟩ : stTag l ∧ OB (kdT T L) vl l n (cntE 4 E) ∧ OB (kdT T L) vl r n (cntE 4 E + (if tg l = 12 then 1 else 0)) ∧ (r = nl ∨ tg r = 20) := hO
      obtain ⟨x1, x2⟩ : SX (kdT T L) j l ∧ SX (kdT T L) j r := hX
      have hjj : jS T L (.inner 20 t q l r) E = min (jS T L l E) (jS T L r (eSt T L E l)) := rfl
      rw [hjj] at hj
      have e : (if zb σ = true then .ok σ else bnd (stq (tAt T L (fsS l)) (zs σ)) (fun s1 => bnd (rns T L X true l E (tAt T L (fsS l)) (s1, zd σ, zo σ, zl σ, ze σ, zb σ)) (fun σ' => rns T L X true r (eSt T L E l) h σ'))) = (.ok σ' : PE SS) := e
      show TyX E (zo σ') (zl σ') X
      split at e
      · cases e; exact hT
      · obtain ⟨s1, h1, e⟩ := bnd_ok e
        obtain ⟨σ1, h2, e⟩ := bnd_ok e
        obtain ⟨g1, g2, g3⟩ := eSt_ok (T := T) hL w1 o2 (by omega) hE
        have t1 := ihl true E _ n (s1, zd σ, zo σ, zl σ, ze σ, zb σ) σ1 w1 x1 o2 (by omega) hE hT h2
        have t2 := ihr true (eSt T L E l) h n σ1 σ' w2 x2 (by rw [g2]; exact o3) (by omega) g1 t1 e
        have hr : eSt T L (eSt T L E l) r = eSt T L E l := eSt_n12 (by rcases o4 with z | z; (rw [z]; decide); (rw [z]; decide))
        rw [hr] at t2
        exact t2.sub g3
    · obtain ⟨x1, x2⟩ : SX (kdT T L) j l ∧ SX (kdT T L) j r := hX
      obtain ⟨o1, o2, y3, y4⟩ : OB (kdT T L) vl l n (cntE 4 E) ∧ OB (kdT T L) vl r n (cntE 4 E) ∧ tg l = 21 ∧ ((q = 0 ∧ r = nl) ∨ (q ≠ 0 ∧ tg r = 21)) := hO
      have hjj : jS T L (.inner 9 t q l r) E = min (jS T L l E) (jS T L r E) := rfl
      rw [hjj] at hj
      have e : (if b = true then rns T L X true l E h σ else rns T L X true r E h σ) = (.ok σ' : PE SS) := e
      show TyX E (zo σ') (zl σ') X
      split at e
      · have := ihl true E h n σ σ' w1 x1 o1 (by omega) hE hT e
        rw [eSt_n12 (by rw [y3]; decide)] at this
        exact this
      · have := ihr true E h n σ σ' w2 x2 o2 (by omega) hE hT e
        rw [eSt_n12 (by rcases y4 with ⟨-, z⟩ | ⟨-, z⟩; (rw [z]; decide); (rw [z]; decide))] at this
        exact this
    · obtain ⟨p1, p2, p3⟩ : 1 ≤ n ∧ OB (kdT T L) vl l (n - 1) (cntE 4 E) ∧ (l = nl ∨ tg l = 20) := hO
      have := ihl true E h (n - 1) σ σ' w1 hX p2 hj hE hT e
      rw [eSt_n12 (by rcases p3 with z | z; (rw [z]; decide); (rw [z]; decide))] at this
      exact this
    · obtain ⟨p1, p2⟩ : OB (kdT T L) vl r n (cntE 4 E) ∧ tg r = 9 := hO
      obtain ⟨q1, q2⟩ : XO (kdT T L) j l ∧ SX (kdT T L) j r := hX
      have hjj : jS T L (.inner 15 t q l r) E = min (min (jkT T L E false l) (dm T L (knT T L E false l) 2 (fst_ l))) (jS T L r E) := rfl
      rw [hjj] at hj
      have e : bnd (evs T L X h E 0 l σ) (fun v => rns T L X (decide (v.1 ≠ 0)) r E h (v.2.1, v.2.2, zo σ, zl σ, ze σ, zb σ)) = (.ok σ' : PE SS) := e
      obtain ⟨v, h1, e⟩ := bnd_ok e
      have := ihr _ E h n (v.2.1, v.2.2, zo σ, zl σ, ze σ, zb σ) σ' w2 q2 p1 (by omega) hE hT e
      rw [eSt_n12 (by rw [p2]; decide)] at this
      exact this
    · obtain ⟨p1, p2, -⟩ : OB (kdT T L) vl l n (cntE 4 E) ∧ tg l = 21 ∧ _ := hO
      have e : itr h (rns T L X true l E h) (tVl T L (tAt T L t)).toNat σ = (.ok σ' : PE SS) := e
      refine itr_inv (P := fun σ => TyX E (zo σ) (zl σ) X) (fun σ1 s σ2 hp he => ?_) _ σ σ' hT e
      have := ihl true E h n (s, zd σ1, zo σ1, zl σ1, ze σ1, zb σ1) σ2 w1 hX p1 hj hE hp he
      rw [eSt_n12 (by rw [p2]; decide)] at this
      exact this
    · have e : (.ok (zs σ, zd σ, zo σ, zl σ, ze σ, true) : PE SS) = .ok σ' := e
      cases e
      exact hT
    · have xo : XO (kdT T L) j l := by
        have := hX
        rw [SX, if_neg (by omega), if_neg (by omega), if_neg (by omega), if_neg (by omega)] at this
        exact this.1
      clear ihl ihr
      rcases hc with rfl | rfl | rfl | rfl
      · have hjj : jS T L (nd 11 t q l r) E = min (min (if eSo (fnd T L E t) = 1 ∨ eSo (fnd T L E t) = 4 then 100000 else tAt T L t * 8 + 4) (jkT T L E false l)) (dm T L (knT T L E false l) (if eSo (fnd T L E t) = 1 ∨ eSo (fnd T L E t) = 4 then eKi (fnd T L E t) else 0) (fst_ l)) := rfl
        rw [hjj] at hj
        have hso : eSo (fnd T L E t) = 1 ∨ eSo (fnd T L E t) = 4 := bl_no (T := T) (t := t) (k := 4) hL (by decide) (by omega)
        rw [if_pos hso, if_pos hso] at hj
        have hdm := dm_ge (T := T) hL (show 100000 ≤ dm T L (knT T L E false l) (eKi (fnd T L E t)) (fst_ l) by omega)
        have hkn := kn_12 (T := T) (L := L) (bb := false) hL hE.1 hE.2.1 l w1 (by omega)
        have e : bnd (evs T L X h E 0 l σ) (fun v => .ok (if eSo (fnd T L E t) = 4 then (v.2.1, v.2.2, zo σ, upf (zl σ) (nmN T L E t) v.1, ze σ, zb σ) else (v.2.1, v.2.2, upf (zo σ) (nmN T L E t) v.1, zl σ, ze σ, zb σ))) = (.ok σ' : PE SS) := e
        obtain ⟨v, h1, e⟩ := bnd_ok e
        have hty := ev_ty (bb := false) hL hE.1 hE.2.1 hT l true (zs σ) (zd σ) v w1 ⟨_, xo.2⟩ (by omega) h1
        cases hf : fnd T L E t with
        | none => rw [hf] at hso; exact absurd hso (by decide)
        | some en =>
          obtain ⟨n1, n2, n3, n4⟩ := fnd_nb hE.1 hf
          have hki : eKi (fnd T L E t) = (en.2.2.2 : Int) := by rw [hf]; rfl
          rw [hki] at hdm
          obtain ⟨s1, s2⟩ := ty_set (x := v.1) hE (fnd_mem _ hf) hT (fun z => hty (by omega))
          rw [n1, n3] at e
          rw [n3] at hso
          show TyX E (zo σ') (zl σ') X
          by_cases z : (en.2.1 : Int) = 4
          · rw [if_pos z] at e
            cases e
            exact s2 (by omega)
          · rw [if_neg z] at e
            cases e
            exact s1 (by omega)
      · have hjj : jS T L (nd 12 t q l r) E = min (if fnd T L E t = none then 100000 else tAt T L t * 8 + 3) (jkT T L E false l) := rfl
        rw [hjj] at hj
        have e : bnd (evs T L X h E 0 l σ) (fun v => .ok (v.2.1, v.2.2, zo σ, upf (zl σ) (cntE 4 E) v.1, ze σ, zb σ)) = (.ok σ' : PE SS) := e
        obtain ⟨v, h1, e⟩ := bnd_ok e
        have hty := ev_ty (bb := false) hL hE.1 hE.2.1 hT l true (zs σ) (zd σ) v w1 ⟨_, xo.2⟩ (by omega) h1
        have hkn := kn_12 (T := T) (L := L) (bb := false) hL hE.1 hE.2.1 l w1 (by omega)
        cases e
        show TyX (E ++ [(t, 4, cntE 4 E, (knT T L E false l).toNat)]) (zo σ) (upf (zl σ) (cntE 4 E) v.1) X
        intro f hf hk
        rcases List.mem_append.mp hf with z | z
        · obtain ⟨t1, t2, t3, t4⟩ := hT f z hk
          refine ⟨t1, fun y => ?_, t3, t4⟩
          have := num_lt hE.2.2 z
          rw [y] at this
          unfold upf
          rw [if_neg (by omega)]
          exact t2 y
        · simp at z
          subst z
          have hk : (knT T L E false l).toNat = 2 := hk
          refine ⟨fun y => absurd y (show (4 : Nat) ≠ 1 by decide), fun _ => ?_, fun y => absurd y (show (4 : Nat) ≠ 2 by decide), fun y => absurd y (show (4 : Nat) ≠ 3 by decide)⟩
          show b01 (upf (zl σ) (cntE 4 E) v.1 (cntE 4 E))
          unfold upf
          rw [if_pos rfl]
          exact hty (by omega)
      · have e : snd_ h (fun i σ => evs T L X h E i l σ) (fun i => ((if kdT T L (q - 1) = 46 then X 5 i else X 6 i)).toNat) (nmN T L E t) (alA X (decide (kdT T L (q - 1) = 46))) σ = (.ok σ' : PE SS) := e
        obtain ⟨a1, a2, -⟩ := snd_own _ _ _ e
        show TyX E (zo σ') (zl σ') X
        rw [a1, a2]
        exact hT
      · have e : bnd (evs T L X h E 0 l σ) (fun v => .ok (v.2.1, v.2.2, zo σ, zl σ, ze σ ++ [(0, nmN T L E t, v.1)], zb σ)) = (.ok σ' : PE SS) := e
        obtain ⟨v, h1, e⟩ := bnd_ok e
        cases e
        exact hT
end RnsTy
