/-! ===== the model does statements ===== -/
abbrev G386 (g : Mg) (d : Nat) (K : Ou → Wd → Prop) (s : Nat) (w : Wd) : Prop := V g LM jMd_goBlock (d + 1) K 386 [(0, vA 0), (2, vI (s : Int))] [] w
/-- behind the STEP of a statement -/
def GD (g : Mg) (d : Nat) (K : Ou → Wd → Prop) (s : Nat) (w1 : Wd) : Prop := (0 ≤ (s : Int) ∧ (s : Int) < 130) ∧ ((0 ≤ (s : Int) ∧ (s : Int) < 130) ∧ ((((w1 17 (s : Int).toNat) < 0 ∨ 5 < (w1 17 (s : Int).toNat)) → ((0 ≤ (w1 0 86) ∧ (w1 0 86) < 40) ∧ (V g LM jMd_goBlock (d + 1) K 386 [(0, vA 0), (2, vI (s : Int))] [] (up (up w1 42 ((w1 0 86).toNat) 1) 0 89 1)))) ∧ ((w1 17 (s : Int).toNat) = 0 → ((0 ≤ (s : Int) ∧ (s : Int) < 130) ∧ (Cal g LM jMd_value d [vA 0, vI (w1 20 (s : Int).toNat)] w1 (fun o w2 => rIt o (fun b => K (.inr b) w2) (fun x3 => ((w1 24 (s : Int).toNat) < 100 → ((0 ≤ (wr ((wr (8 * (w2 0 86))) + (w1 24 (s : Int).toNat))) ∧ (wr ((wr (8 * (w2 0 86))) + (w1 24 (s : Int).toNat))) < 320) ∧ (V g LM jMd_goBlock (d + 1) K 386 [(0, vA 0), (2, vI (s : Int))] [] (up w2 41 ((wr ((wr (8 * (w2 0 86))) + (w1 24 (s : Int).toNat))).toNat) x3)))) ∧ (¬ (w1 24 (s : Int).toNat) < 100 → ((0 ≤ (wr ((w1 24 (s : Int).toNat) - 100)) ∧ (wr ((w1 24 (s : Int).toNat) - 100)) < 130) ∧ (V g LM jMd_goBlock (d + 1) K 386 [(0, vA 0), (2, vI (s : Int))] [] (up w2 53 ((wr ((w1 24 (s : Int).toNat) - 100)).toNat) x3))))))))) ∧ ((w1 17 (s : Int).toNat) = 1 → ((0 ≤ (s : Int) ∧ (s : Int) < 130) ∧ (Cal g LM jMd_value d [vA 0, vI (w1 20 (s : Int).toNat)] w1 (fun o w4 => rIt o (fun b => K (.inr b) w4) (fun x5 => (0 ≤ (w1 24 (s : Int).toNat) ∧ (w1 24 (s : Int).toNat) < 130) ∧ (V g LM jMd_goBlock (d + 1) K 386 [(0, vA 0), (2, vI (s : Int))] [] (up w4 53 ((w1 24 (s : Int).toNat).toNat) x5))))))) ∧ ((w1 17 (s : Int).toNat) = 2 → (V g LM jMd_goBlock (d + 1) K 145 [(0, vA 0), (2, vI (s : Int)), (3, vI (w1 24 (s : Int).toNat)), (5, vI 0)] [] w1)) ∧ ((w1 17 (s : Int).toNat) = 3 → ((0 ≤ (s : Int) ∧ (s : Int) < 130) ∧ (Cal g LM jMd_value d [vA 0, vI (w1 20 (s : Int).toNat)] w1 (fun o w6 => rIt o (fun b => K (.inr b) w6) (fun x7 => Cal g LM jMd_give d [vA 0, vI (w1 24 (s : Int).toNat), vI x7] w6 (fun o w8 => rVt o (fun b => K (.inr b) w8) (V g LM jMd_goBlock (d + 1) K 386 [(0, vA 0), (2, vI (s : Int))] [] w8))))))) ∧ ((w1 17 (s : Int).toNat) = 4 → ((0 ≤ (s : Int) ∧ (s : Int) < 130) ∧ (Cal g LM jMd_value d [vA 0, vI (w1 20 (s : Int).toNat)] w1 (fun o w9 => rIt o (fun b => K (.inr b) w9) (fun x10 => (¬ x10 = 1 → (V g LM jMd_goBlock (d + 1) K 288 [(0, vA 0), (2, vI (s : Int))] [vI 0] w9)) ∧ (x10 = 1 → (V g LM jMd_goBlock (d + 1) K 288 [(0, vA 0), (2, vI (s : Int))] [vI 1] w9))))))) ∧ ((w1 17 (s : Int).toNat) = 5 → (V g LM jMd_goBlock (d + 1) K 320 [(0, vA 0), (2, vI (s : Int)), (6, vI 0)] [] w1))))
/-- what holds of the world before a node's work -/
def MW0 (T : Nat → Int) (L m : Nat) (X : Xv) (D : DE) (v na : Nat) (w0 : Wd) : Prop := L ≤ 4000 ∧ XMd T L m X D w0 v na ∧ ∀ i, i < na → (0 ≤ X 5 i ∧ X 5 i < 40) ∧ (0 ≤ X 6 i ∧ X 6 i < 40)
def SpSg (g : Mg) (d : Nat) (T : Nat → Int) (L : Nat) (X : Xv) (D : DE) (v : Nat) (w0 : Wd) (l : Tr) (E : List En) (s : Nat) : Prop := ∀ (K : Ou → Wd → Prop) (w : Wd) (σ : SS), RM D v w0 w σ → w 0 91 = (s : Int) → zb σ = false → zs σ ≤ 1000 → zd σ ≤ zs σ → TyX E (zo σ) (zl σ) X → (∀ σ' w', rns T L X true l E (tAt T L (fsS l)) σ = .ok σ' → zs σ' ≤ 1000 → zd σ' ≤ zs σ' → RM D v w0 w' σ' → G386 g d K s w') → (∀ e, rns T L X true l E (tAt T L (fsS l)) σ = .error e → KFg K v w0 e) → GD g d K s w
def SpGB (g : Mg) (d : Nat) (T : Nat → Int) (L : Nat) (X : Xv) (D : DE) (v : Nat) (w0 : Wd) (a : Tr) (E : List En) (s : Nat) : Prop := ∀ (K : Ou → Wd → Prop) (w : Wd) (σ : SS) (h : Nat), RM D v w0 w σ → zs σ ≤ 1000 → zd σ ≤ zs σ → TyX E (zo σ) (zl σ) X → (∀ σ' w', rns T L X true a E h σ = .ok σ' → zs σ' ≤ 1000 → zd σ' ≤ zs σ' → RM D v w0 w' σ' → K (.inl none) w') → (∀ e, rns T L X true a E h σ = .error e → KFg K v w0 e) → Cal g LM jMd_goBlock d [vA 0, vI (bf_ a s)] w K
section MGo2
variable {g : Mg} {d m v na : Nat} {w0 : Wd} {T : Nat → Int} {L : Nat} {X : Xv} {D : DE} {E : List En} {t q s lo : Nat} {l r : Tr}
theorem wr_100 {k : Nat} (h : k < 8) : wr (((100 + k : Nat) : Int) - 100) = (k : Int) := by unfold wr; omega
/-- set -/
theorem gs_set (h0 : MW0 T L m X D v na w0) (hE : EV E) (hF : NFs D E) (hW : WE l) (hx : XO (kdT T L) (m + 1) l) (hy : K0 (kdT T L) l) (htm : t ≤ m) (hj : 100000 ≤ jS T L (nd 11 t q l r) E) (hD : nX l + 10 ≤ d) (hs1 : s < 130) (hlo : lo + nX l ≤ 2000) (hSR : SR (kdT T L) w0 (nd 11 t q l r) s lo) (hJS : JS T L w0 (nd 11 t q l r) E s lo) : SpSg g d T L X D v w0 (nd 11 t q l r) E s := by
  intro K w σ hR h91 hzb hs hdz hT hok her
  obtain ⟨hL, hX, hXb⟩ := h0
  obtain ⟨k1, k2, k3, k4, k5, -⟩ := hSR
  obtain ⟨J1, J2⟩ := hJS
  have hjj : jS T L (nd 11 t q l r) E = min (min (if eSo (fnd T L E t) = 1 ∨ eSo (fnd T L E t) = 4 then 100000 else tAt T L t * 8 + 4) (jkT T L E false l)) (dm T L (knT T L E false l) (if eSo (fnd T L E t) = 1 ∨ eSo (fnd T L E t) = 4 then eKi (fnd T L E t) else 0) (fst_ l)) := rfl
  rw [hjj] at hj
  have hso : eSo (fnd T L E t) = 1 ∨ eSo (fnd T L E t) = 4 := bl_no (T := T) (t := t) (k := 4) hL (by decide) (by omega)
  have hjl : 100000 ≤ jkT T L E false l := by omega
  clear hj hjj
  have hfs : fsS (nd 11 t q l r) = t := rfl
  rw [hfs] at hok her
  have hrn : rns T L X true (nd 11 t q l r) E (tAt T L t) σ = bnd (evs T L X (tAt T L t) E 0 l σ) (fun v => .ok (if eSo (fnd T L E t) = 4 then (v.2.1, v.2.2, zo σ, upf (zl σ) (nmN T L E t) v.1, ze σ, zb σ) else (v.2.1, v.2.2, upf (zo σ) (nmN T L E t) v.1, zl σ, ze σ, zb σ))) := rfl
  rw [hrn] at hok her
  have hb : (0 : Int) ≤ (s : Int) ∧ (s : Int) < 130 := by omega
  unfold GD
  rw [toN s, hR.1.cd 17 (by decide), k1, hR.1.cd 20 (by decide), k4, hR.1.cd 24 (by decide)]
  refine ⟨hb, hb, fun z => absurd z (by decide), fun _ => ⟨hb, ?_⟩, fun z => absurd z (by decide), fun z => absurd z (by decide), fun z => absurd z (by decide), fun z => absurd z (by decide), fun z => absurd z (by decide)⟩
  refine gv_exp (arc := 0) (bb := false) hL hX hE.1 hE.2.1 hT hF hW hx hy hjl hD hlo k5.1 J1 hR h91 hs1 k2 htm (fun z => by cases z) hs hdz (fun q1 w1 hq h1 h2 f1 R1 => ?_) (fun e he => her e (by rw [he]; rfl))
  rw [hq, bnd_ok'] at hok
  have hX1 := hX.fw R1.1
  have h86 : w1 0 86 = (v : Int) := hX1.2.2.2.1
  have hv : v < 40 := hX.2.2.2.2.1
  cases hf : fnd T L E t with
  | none => rw [hf] at hso; exact absurd hso (by decide)
  | some e =>
    obtain ⟨n1, n2, n3, n4⟩ := fnd_nb hE.1 hf
    obtain ⟨j1, j2⟩ := J2 e hf
    rw [n3] at hso hok
    rw [n1] at hok
    rcases hso with z | z
    · have n8 := nb_8 (Or.inl (by omega)) n4
      rw [if_neg (by omega)] at hok
      have R2 := RM.own (k := e.2.2.1) (x := q1.1) R1 n8
      rw [j1 (by omega), h86, ix8' hv n8, toN]
      exact ⟨fun _ => ⟨ib8 hv n8, hok _ _ rfl h1 h2 R2⟩, fun y => absurd (by omega) y⟩
    · have n8 := nb_8 (Or.inr (by omega)) n4
      rw [if_pos z] at hok
      have R2 := RM.let_ (k := e.2.2.1) (x := q1.1) R1
      rw [j2 (by omega), wr_100 n8, toN]
      exact ⟨fun y => absurd y (by omega), fun _ => ⟨by omega, hok _ _ rfl h1 h2 R2⟩⟩
/-- let -/
theorem gs_let (h0 : MW0 T L m X D v na w0) (hE : EV E) (hF : NFs D E) (hW : WE l) (hx : XO (kdT T L) (m + 1) l) (hy : K0 (kdT T L) l) (htm : t ≤ m) (h8 : cntE 4 E < 8) (hj : 100000 ≤ jS T L (nd 12 t q l r) E) (hD : nX l + 10 ≤ d) (hs1 : s < 130) (hlo : lo + nX l ≤ 2000) (hSR : SR (kdT T L) w0 (nd 12 t q l r) s lo) (hJS : JS T L w0 (nd 12 t q l r) E s lo) : SpSg g d T L X D v w0 (nd 12 t q l r) E s := by
  intro K w σ hR h91 hzb hs hdz hT hok her
  obtain ⟨hL, hX, hXb⟩ := h0
  obtain ⟨k1, k2, k3, k4, k5, -⟩ := hSR
  obtain ⟨J1, J2⟩ := hJS
  have hjj : jS T L (nd 12 t q l r) E = min (if fnd T L E t = none then 100000 else tAt T L t * 8 + 3) (jkT T L E false l) := rfl
  rw [hjj] at hj
  have hjl : 100000 ≤ jkT T L E false l := by omega
  clear hj hjj
  have hfs : fsS (nd 12 t q l r) = t - 1 := rfl
  rw [hfs] at hok her
  have hrn : rns T L X true (nd 12 t q l r) E (tAt T L (t - 1)) σ = bnd (evs T L X (tAt T L (t - 1)) E 0 l σ) (fun v => .ok (v.2.1, v.2.2, zo σ, upf (zl σ) (cntE 4 E) v.1, ze σ, zb σ)) := rfl
  rw [hrn] at hok her
  have hb : (0 : Int) ≤ (s : Int) ∧ (s : Int) < 130 := by omega
  unfold GD
  rw [toN s, hR.1.cd 17 (by decide), k1, hR.1.cd 20 (by decide), k4, hR.1.cd 24 (by decide)]
  refine ⟨hb, hb, fun z => absurd z (by decide), fun z => absurd z (by decide), fun _ => ⟨hb, ?_⟩, fun z => absurd z (by decide), fun z => absurd z (by decide), fun z => absurd z (by decide), fun z => absurd z (by decide)⟩
  refine gv_exp (arc := 0) (bb := false) hL hX hE.1 hE.2.1 hT hF hW hx hy hjl hD hlo k5.1 J1 hR h91 hs1 k2 (by omega) (fun z => by cases z) hs hdz (fun q1 w1 hq h1 h2 f1 R1 => ?_) (fun e he => her e (by rw [he]; rfl))
  rw [hq, bnd_ok'] at hok
  have R2 := RM.let_ (k := cntE 4 E) (x := q1.1) R1
  rw [J2, toN]
  exact ⟨by omega, hok _ _ rfl h1 h2 R2⟩
/-- give -/
theorem gs_give (h0 : MW0 T L m X D v na w0) (hE : EV E) (hF : NFs D E) (hW : WE l) (hx : XO (kdT T L) (m + 1) l) (hy : K0 (kdT T L) l) (htm : t ≤ m) (hj : 100000 ≤ jS T L (nd 14 t q l r) E) (hD : nX l + 10 ≤ d) (hs1 : s < 130) (hlo : lo + nX l ≤ 2000) (hSR : SR (kdT T L) w0 (nd 14 t q l r) s lo) (hJS : JS T L w0 (nd 14 t q l r) E s lo) : SpSg g d T L X D v w0 (nd 14 t q l r) E s := by
  intro K w σ hR h91 hzb hs hdz hT hok her
  obtain ⟨hL, hX, hXb⟩ := h0
  obtain ⟨k1, k2, k3, k4, k5, -⟩ := hSR
  obtain ⟨J1, J2⟩ := hJS
  have hjj : jS T L (nd 14 t q l r) E = min (min (if eSo (fnd T L E t) = 3 then 100000 else tAt T L t * 8 + 4) (jkT T L E false l)) (dm T L (knT T L E false l) (eKi (nmE T L E 3 t)) (fst_ l)) := rfl
  rw [hjj] at hj
  have hso : eSo (fnd T L E t) = 3 := bl_no (T := T) (t := t) (k := 4) hL (by decide) (by omega)
  have hjl : 100000 ≤ jkT T L E false l := by omega
  clear hj hjj
  have hfs : fsS (nd 14 t q l r) = t - 1 := rfl
  rw [hfs] at hok her
  have hrn : rns T L X true (nd 14 t q l r) E (tAt T L (t - 1)) σ = bnd (evs T L X (tAt T L (t - 1)) E 0 l σ) (fun v => .ok (v.2.1, v.2.2, zo σ, zl σ, ze σ ++ [(0, nmN T L E t, v.1)], zb σ)) := rfl
  rw [hrn] at hok her
  have hb : (0 : Int) ≤ (s : Int) ∧ (s : Int) < 130 := by omega
  unfold GD
  rw [toN s, hR.1.cd 17 (by decide), k1, hR.1.cd 20 (by decide), k4, hR.1.cd 24 (by decide)]
  refine ⟨hb, hb, fun z => absurd z (by decide), fun z => absurd z (by decide), fun z => absurd z (by decide), fun z => absurd z (by decide), fun _ => ⟨hb, ?_⟩, fun z => absurd z (by decide), fun z => absurd z (by decide)⟩
  refine gv_exp (arc := 0) (bb := false) hL hX hE.1 hE.2.1 hT hF hW hx hy hjl hD hlo k5.1 J1 hR h91 hs1 k2 (by omega) (fun z => by cases z) hs hdz (fun q1 w1 hq h1 h2 f1 R1 => ?_) (fun e he => her e (by rw [he]; rfl))
  rw [hq, bnd_ok'] at hok
  cases hf : fnd T L E t with
  | none => rw [hf] at hso; exact absurd hso (by decide)
  | some e =>
    obtain ⟨n1, n2, n3, n4⟩ := fnd_nb hE.1 hf
    have he3 : e.2.1 = 3 := by rw [n3] at hso; omega
    have n8 := nb_4 (Or.inr (Or.inr he3)) n4
    rw [n1] at hok
    have R2 := RM.ev (e := (0, e.2.2.1, q1.1)) R1
    rw [J2 e hf he3]
    exact sp_giveM (by omega) (hX.fw R1.1) ((hF e (fnd_mem _ hf)).2 he3) n8 (hok _ _ rfl h1 h2 R2)
/-- halt -/
theorem gs_halt (h0 : MW0 T L m X D v na w0) (hs1 : s < 130) (hSR : SR (kdT T L) w0 (nd 17 t q l r) s lo) : SpSg g d T L X D v w0 (nd 17 t q l r) E s := by
  intro K w σ hR h91 hzb hs hdz hT hok her
  obtain ⟨hL, hX, hXb⟩ := h0
  obtain ⟨k1, k2⟩ : w0 17 s = 6 ∧ w0 18 s = (t : Int) := hSR
  have hb : (0 : Int) ≤ (s : Int) ∧ (s : Int) < 130 := by omega
  have h86 : w 0 86 = (v : Int) := (hX.fw hR.1).2.2.2.1
  have hv : v < 40 := hX.2.2.2.2.1
  unfold GD
  rw [toN s, hR.1.cd 17 (by decide), k1, h86, toN v]
  exact ⟨hb, hb, fun _ => ⟨by omega, hok _ _ rfl hs hdz hR.halt⟩, fun z => absurd z (by decide), fun z => absurd z (by decide), fun z => absurd z (by decide), fun z => absurd z (by decide), fun z => absurd z (by decide), fun z => absurd z (by decide)⟩
/-- if -/
theorem gs_if {t9 q9 : Nat} {b1 b2 : Tr} (h0 : MW0 T L m X D v na w0) (hE : EV E) (hF : NFs D E) (hW : WE l) (hx : XO (kdT T L) (m + 1) l) (hy : K0 (kdT T L) l) (htm : t ≤ m) (hjl : 100000 ≤ jkT T L E false l) (hdl : 100000 ≤ dm T L (knT T L E false l) 2 (fst_ l)) (hD : nX l + 10 ≤ d) (hs1 : s < 130) (hlo : lo + nX l ≤ 2000) (hSR : SR (kdT T L) w0 (nd 15 t q l (nd 9 t9 q9 b1 b2)) s lo) (hJS : JS T L w0 (nd 15 t q l (nd 9 t9 q9 b1 b2)) E s lo) (hb1 : SpGB g d T L X D v w0 b1 E (s + 1)) (hb2 : SpGB g d T L X D v w0 b2 E (s + 1 + nT b1)) : SpSg g d T L X D v w0 (nd 15 t q l (nd 9 t9 q9 b1 b2)) E s := by
  intro K w σ hR h91 hzb hs hdz hT hok her
  obtain ⟨hL, hX, hXb⟩ := h0
  rw [SR15] at hSR
  obtain ⟨k1, k2, k4, k5, -, k6, k7, -⟩ := hSR
  rw [JS15] at hJS
  obtain ⟨J1, -⟩ := hJS
  have hkl2 : knT T L E false l = 2 := by
    have h1 := kn_12 (T := T) (bb := false) hL hE.1 hE.2.1 l hW hjl
    have h2 := dm_ge (T := T) hL hdl
    clear hok her hb1 hb2 hR hX
    omega
  have hfs : fsS (nd 15 t q l (nd 9 t9 q9 b1 b2)) = t := rfl
  rw [hfs] at hok her
  have hrn : rns T L X true (nd 15 t q l (nd 9 t9 q9 b1 b2)) E (tAt T L t) σ = bnd (evs T L X (tAt T L t) E 0 l σ) (fun v => if decide (v.1 ≠ 0) = true then rns T L X true b1 E (tAt T L t) (v.2.1, v.2.2, zo σ, zl σ, ze σ, zb σ) else rns T L X true b2 E (tAt T L t) (v.2.1, v.2.2, zo σ, zl σ, ze σ, zb σ)) := rfl
  rw [hrn] at hok her
  have hb : (0 : Int) ≤ (s : Int) ∧ (s : Int) < 130 := by omega
  unfold GD
  rw [toN s, hR.1.cd 17 (by decide), k1, hR.1.cd 20 (by decide), k4]
  refine ⟨hb, hb, fun z => absurd z (by decide), fun z => absurd z (by decide), fun z => absurd z (by decide), fun z => absurd z (by decide), fun z => absurd z (by decide), fun _ => ⟨hb, ?_⟩, fun z => absurd z (by decide)⟩
  refine gv_exp (arc := 0) (bb := false) hL hX hE.1 hE.2.1 hT hF hW hx hy hjl hD hlo k5.1 J1 hR h91 hs1 k2 htm (fun z => by cases z) hs hdz (fun q1 w1 hq h1 h2 f1 R1 => ?_) (fun e he => her e (by rw [he]; rfl))
  have hb01 := ev_ty (bb := false) hL hE.1 hE.2.1 hT l true (zs σ) (zd σ) q1 hW ⟨_, hx.2⟩ hjl hq hkl2
  rw [hq, bnd_ok'] at hok her
  refine ⟨fun z => s_Md_goBlock_288 ⟨fun _ => ⟨hb, s_Md_goBlock_311 ?_⟩, fun y => absurd rfl y⟩, fun z => s_Md_goBlock_288 ⟨fun y => absurd y (by decide), fun _ => ⟨hb, s_Md_goBlock_311 ?_⟩⟩⟩
  · have hd0 : decide (q1.1 ≠ 0) = false := by
      rcases hb01 with y0 | y0
      · simp [y0]
      · exact absurd y0 z
    rw [hd0, if_neg (by decide)] at hok her
    rw [toN s, R1.1.cd 22 (by decide), k7]
    exact hb2 _ w1 _ (tAt T L t) R1 h1 h2 hT (fun σ' w' hσ z1 z2 R' => hok σ' w' hσ z1 z2 R') her
  · have hd0 : decide (q1.1 ≠ 0) = true := by simp [z]
    rw [hd0, if_pos rfl] at hok her
    rw [toN s, R1.1.cd 21 (by decide), k6]
    exact hb1 _ w1 _ (tAt T L t) R1 h1 h2 hT (fun σ' w' hσ z1 z2 R' => hok σ' w' hσ z1 z2 R') her
/-- a loop -/
theorem gs_loop (h0 : MW0 T L m X D v na w0) (htm : t ≤ m) (hk3 : kdT T L t = 3) (hv100 : tVl T L (tAt T L t) ≤ 100) (hD : 2 ≤ d) (hs1 : s < 130) (hSR : SR (kdT T L) w0 (nd 16 t q l r) s lo) (hb1 : SpGB g d T L X D v w0 l E (s + 1)) (hty : ∀ h σ σ', TyX E (zo σ) (zl σ) X → rns T L X true l E h σ = .ok σ' → TyX E (zo σ') (zl σ') X) : SpSg g d T L X D v w0 (nd 16 t q l r) E s := by
  intro K w σ hR h91 hzb hs hdz hT hok her
  obtain ⟨hL, hX, hXb⟩ := h0
  rw [SR16] at hSR
  obtain ⟨k1, k2, k3, k4, -⟩ := hSR
  have hv3 := kd3_val hk3
  obtain ⟨tm, htmv⟩ : ∃ tm : Nat, tVl T L (tAt T L t) = (tm : Int) := ⟨(tVl T L (tAt T L t)).toNat, by omega⟩
  have hfs : fsS (nd 16 t q l r) = t - 1 := rfl
  rw [hfs] at hok her
  have hrn : rns T L X true (nd 16 t q l r) E (tAt T L (t - 1)) σ = itr (tAt T L (t - 1)) (rns T L X true l E (tAt T L (t - 1))) tm σ := by
    have e : rns T L X true (nd 16 t q l r) E (tAt T L (t - 1)) σ = itr (tAt T L (t - 1)) (rns T L X true l E (tAt T L (t - 1))) (tVl T L (tAt T L t)).toNat σ := rfl
    rw [e, htmv, toN]
  rw [hrn] at hok her
  have hb : (0 : Int) ≤ (s : Int) ∧ (s : Int) < 130 := by omega
  have hm4 : m ≤ 4000 := hX.1.2.1
  have h7 : w0 7 t = (tm : Int) := by
    rw [← htmv]
    exact (hX.1.1 t (by omega)).2.2.2 hk3
  unfold GD
  rw [toN s, hR.1.cd 17 (by decide), k1]
  refine ⟨hb, hb, fun z => absurd z (by decide), fun z => absurd z (by decide), fun z => absurd z (by decide), fun z => absurd z (by decide), fun z => absurd z (by decide), fun z => absurd z (by decide), fun _ => ?_⟩
  have lp : ∀ (n i : Nat) (w : Wd) (σ : SS), i + n = tm → RM D v w0 w σ → zs σ ≤ 1000 → zd σ ≤ zs σ → TyX E (zo σ) (zl σ) X → (∀ σ' w', itr (tAt T L (t - 1)) (rns T L X true l E (tAt T L (t - 1))) n σ = .ok σ' → zs σ' ≤ 1000 → zd σ' ≤ zs σ' → RM D v w0 w' σ' → G386 g d K s w') → (∀ e, itr (tAt T L (t - 1)) (rns T L X true l E (tAt T L (t - 1))) n σ = .error e → KFg K v w0 e) → V g LM jMd_goBlock (d + 1) K 320 [(0, vA 0), (2, vI (s : Int)), (6, vI (i : Int))] [] w := by
    intro n
    induction n with
    | zero =>
      intro i w σ hi hR hs hdz hT hok her
      refine s_Md_goBlock_320 ⟨hb, ?_⟩
      rw [toN s, hR.1.cd 19 (by decide), k3, toN t, hR.1.cd 7 (by decide), h7]
      exact ⟨by omega, fun _ => s_Md_goBlock_368 (hok σ w rfl hs hdz hR), fun z => absurd (by omega) z⟩
    | succ n ih =>
      intro i w σ hi hR hs hdz hT hok her
      refine s_Md_goBlock_320 ⟨hb, ?_⟩
      rw [toN s, hR.1.cd 19 (by decide), k3, toN t, hR.1.cd 7 (by decide), h7]
      refine ⟨by omega, fun z => absurd z (by omega), fun _ => ⟨fun z => s_Md_goBlock_368 ?_, fun z => ?_⟩⟩
      · have hzb : zb σ = true := by
          have := hR.2.2.2.2.1
          by_cases y : zb σ = true
          · exact y
          · rw [if_neg y] at this; exact absurd this z
        exact hok σ w (by rw [itr, if_pos hzb]) hs hdz hR
      · have hzb : ¬ zb σ = true := by
          intro y
          have := hR.2.2.2.2.1
          rw [if_pos y, z] at this
          exact absurd this (by decide)
        have hit : itr (tAt T L (t - 1)) (rns T L X true l E (tAt T L (t - 1))) (n + 1) σ = bnd (stq (tAt T L (t - 1)) (zs σ)) (fun s1 => bnd (rns T L X true l E (tAt T L (t - 1)) (s1, zd σ, zo σ, zl σ, ze σ, zb σ)) (fun σ' => itr (tAt T L (t - 1)) (rns T L X true l E (tAt T L (t - 1))) n σ')) := by
          rw [itr, if_neg hzb]
        rw [hit] at hok her
        refine gv_step (by omega) hX (hR.nw (b := 91) (x := (s : Int)) (Or.inr rfl)) (up_s _ _ _ _) hs1 k2 (by omega) hs (fun w1 e1 h1 f1 R1 => ⟨hb, ?_⟩) (fun e e1 => her e (by rw [e1]; rfl))
        rw [e1, bnd_ok'] at hok her
        rw [R1.1.cd 21 (by decide), k4]
        refine hb1 _ w1 _ (tAt T L (t - 1)) R1 h1 (by show zd σ ≤ zs σ + 1; omega) hT (fun σ2 w2 h2 z1 z2 R2 => ?_) (fun e he => her e (by rw [he]; rfl))
        rw [h2, bnd_ok'] at hok her
        show V g LM jMd_goBlock (d + 1) K 320 [(0, vA 0), (2, vI (s : Int)), (6, vI (wr ((i : Int) + 1)))] [] w2
        rw [wr_n1 (by omega)]
        exact ih (i + 1) w2 σ2 (by omega) R2 z1 z2 (hty _ (zs σ + 1, zd σ, zo σ, zl σ, ze σ, zb σ) σ2 hT h2) hok her
  exact lp tm 0 w σ (by omega) hR hs hdz hT hok her
end MGo2
