/-! ===== the model sends; a block ===== -/
section MGo3
variable {g : Mg} {d m v na : Nat} {w0 : Wd} {T : Nat → Int} {L : Nat} {X : Xv} {D : DE} {E : List En} {t q s lo : Nat} {l r : Tr}
/-- along the arcs -/
theorem gs_arcs {K : Ou → Wd → Prop} {h_ k ag : Nat} {f : Nat → Int} {to : Nat → Nat} (h0 : MW0 T L m X D v na w0) (hE : EV E) (hF : NFs D E) (hW : WE l) (hx : XO (kdT T L) (m + 1) l) (hy : K0 (kdT T L) l) (htm : h_ ≤ m) (hjl : 100000 ≤ jkT T L E true l) (hD : nX l + 10 ≤ d) (hs1 : s < 130) (hlo : lo + nX l ≤ 2000) (k2 : w0 18 s = (h_ : Int)) (k4 : w0 20 s = ((lo + nX l - 1 : Nat) : Int)) (k5 : AR (kdT T L) w0 l lo) (J1 : JR T L E true w0 l lo) (k6 : w0 25 s = ((1 - ag : Nat) : Int)) (hag : (ag = 0 ∧ f = X 5 ∧ to = fun i => (X 6 i).toNat) ∨ (ag = 1 ∧ f = X 6 ∧ to = fun i => (X 5 i).toNat)) (hk : k < cntE 2 (D.map (fun e => e.1))) (hk4 : k < 4) : ∀ (n i : Nat) (w : Wd) (σ : SS), i + n = na → RM D v w0 w σ → w 0 91 = (s : Int) → zs σ ≤ 1000 → zd σ ≤ zs σ → TyX E (zo σ) (zl σ) X → (∀ σ' w', snd_ (tAt T L h_) (fun i σ => evs T L X (tAt T L h_) E i l σ) to k (fltA f (v : Int) n i) σ = .ok σ' → zs σ' ≤ 1000 → zd σ' ≤ zs σ' → RM D v w0 w' σ' → G386 g d K s w') → (∀ e, snd_ (tAt T L h_) (fun i σ => evs T L X (tAt T L h_) E i l σ) to k (fltA f (v : Int) n i) σ = .error e → KFg K v w0 e) → V g LM jMd_goBlock (d + 1) K 145 [(0, vA 0), (2, vI (s : Int)), (3, vI (k : Int)), (5, vI (i : Int))] [] w := by
  obtain ⟨hL, hX, hXb⟩ := h0
  have hb : (0 : Int) ≤ (s : Int) ∧ (s : Int) < 130 := by omega
  obtain ⟨x1, x2, x3, x4, x5, x6, x7, x8, x9, x10, x11, x12, x13, -⟩ := id hX
  intro n
  induction n with
  | zero =>
    intro i w σ hi hR h91 hs hdz hT hok her
    have h60 : w 0 60 = (na : Int) := by rw [hR.1.2.1 60 (by decide)]; exact x10
    refine s_Md_goBlock_145 ⟨fun _ => hok σ w rfl hs hdz hR, fun z => absurd (by rw [h60]; omega) z⟩
  | succ n ih =>
    intro i w σ hi hR h91 hs hdz hT hok her
    have h60 : w 0 60 = (na : Int) := by rw [hR.1.2.1 60 (by decide)]; exact x10
    have h86 : w 0 86 = (v : Int) := by rw [hR.1.2.1 86 (by decide)]; exact x4
    obtain ⟨y1, y2, -⟩ := x13 i (by omega)
    obtain ⟨b5, b6⟩ := hXb i (by omega)
    have hbi : (0 : Int) ≤ (i : Int) ∧ (i : Int) < 120 := by omega
    have nxt : ∀ (w1 : Wd) (σ1 : SS), RM D v w0 w1 σ1 → w1 0 91 = (s : Int) → zs σ1 ≤ 1000 → zd σ1 ≤ zs σ1 → TyX E (zo σ1) (zl σ1) X → (∀ σ' w', snd_ (tAt T L h_) (fun i σ => evs T L X (tAt T L h_) E i l σ) to k (fltA f (v : Int) n (i + 1)) σ1 = .ok σ' → zs σ' ≤ 1000 → zd σ' ≤ zs σ' → RM D v w0 w' σ' → G386 g d K s w') → (∀ e, snd_ (tAt T L h_) (fun i σ => evs T L X (tAt T L h_) E i l σ) to k (fltA f (v : Int) n (i + 1)) σ1 = .error e → KFg K v w0 e) → V g LM jMd_goBlock (d + 1) K 242 [(0, vA 0), (2, vI (s : Int)), (3, vI (k : Int)), (5, vI (i : Int))] [] w1 := by
      intro w1 σ1 a1 a2 a3 a4 a5 a6 a7
      refine s_Md_goBlock_242 ?_
      rw [wr_n1 (by omega)]
      exact ih (i + 1) w1 σ1 (by omega) a1 a2 a3 a4 a5 a6 a7
    have go : V g LM jMd_goBlock (d + 1) K 180 [(0, vA 0), (2, vI (s : Int)), (3, vI (k : Int)), (5, vI (i : Int))] [vI (f i)] w := by
      refine s_Md_goBlock_180 ⟨fun z => ?_, fun z => ?_⟩
      · rw [h86] at z
        rw [fltA, if_neg z] at hok her
        exact nxt w σ hR h91 hs hdz hT hok her
      · rw [h86] at z
        rw [fltA, if_pos z, snd_] at hok her
        refine gv_step (by omega) hX hR h91 hs1 k2 htm hs (fun w1 e1 h1 f1 R1 => ⟨hb, ?_⟩) (fun e e1 => her e (by rw [e1]; rfl))
        rw [e1, bnd_ok'] at hok her
        have h911 : w1 0 91 = (s : Int) := by rw [f1.2 91 (by decide) (by decide)]; exact h91
        have R2 := R1.nw (b := 90) (x := (i : Int)) (Or.inl rfl)
        rw [toN s, R1.1.cd 20 (by decide), k4]
        refine gv_exp (σ := (zs σ + 1, zd σ, zo σ, zl σ, ze σ, zb σ)) (arc := i) (bb := true) hL hX hE.1 hE.2.1 hT hF hW hx hy hjl hD hlo k5 J1 R2 (by rw [up_k (by decide)]; exact h911) hs1 k2 htm (fun _ => ⟨up_s _ _ _ _, by omega⟩) h1 (by show zd σ ≤ zs σ + 1; omega) (fun q1 w2 hq z1 z2 f2 R3 => ⟨hb, ?_⟩) (fun e he => her e (by rw [he]; rfl))
        rw [hq, bnd_ok'] at hok her
        have h912 : w2 0 91 = (s : Int) := by rw [f2.2 91 (by decide) (by decide), up_k (by decide)]; exact h911
        have hX3 := hX.fw R3.1
        have fin : ∀ x : Int, x = ((to i : Nat) : Int) → to i < 40 → V g LM jMd_goBlock (d + 1) K 236 [(0, vA 0), (2, vI (s : Int)), (3, vI (k : Int)), (5, vI (i : Int)), (6, vI q1.1)] [vI x, vA 0] w2 := by
          intro x hx hto
          subst hx
          refine s_Md_goBlock_236 (sp_deliverM (by omega) hX3 hk hk4 hto ?_)
          refine nxt _ _ (RM.ev (e := (to i + 1, k, q1.1)) R3) ?_ z1 z2 hT hok her
          rw [evM_fx 0 (by decide)]
          exact h912
        rw [toN i, R3.1.cd 25 (by decide), k6, R3.1.cd 38 (by decide), R3.1.cd 39 (by decide), y1, y2]
        rcases hag with ⟨rfl, rfl, rfl⟩ | ⟨rfl, rfl, rfl⟩
        · exact ⟨fun z => absurd z (by decide), fun _ => ⟨hbi, fin _ (by show X 6 i = (((X 6 i).toNat : Nat) : Int); omega) (by show (X 6 i).toNat < 40; omega)⟩⟩
        · exact ⟨fun _ => ⟨hbi, fin _ (by show X 5 i = (((X 5 i).toNat : Nat) : Int); omega) (by show (X 5 i).toNat < 40; omega)⟩, fun z => absurd (by decide) z⟩
    refine s_Md_goBlock_145 ⟨fun z => absurd z (by rw [h60]; omega), fun _ => ⟨hb, ?_⟩⟩
    rw [toN s, toN i, hR.1.cd 25 (by decide), k6, hR.1.cd 38 (by decide), hR.1.cd 39 (by decide), y1, y2]
    rcases hag with ⟨rfl, rfl, rfl⟩ | ⟨rfl, rfl, rfl⟩
    · exact ⟨fun z => absurd z (by decide), fun _ => ⟨hbi, go⟩⟩
    · exact ⟨fun _ => ⟨hbi, go⟩, fun z => absurd (by decide) z⟩
theorem gs_send (h0 : MW0 T L m X D v na w0) (hE : EV E) (hF : NFs D E) (hW : WE l) (hx : XO (kdT T L) (m + 1) l) (hy : K0 (kdT T L) l) (htm : t ≤ m) (hk45 : kdT T L (q - 1) = 45 ∨ kdT T L (q - 1) = 46) (hj : 100000 ≤ jS T L (nd 13 t q l r) E) (hD : nX l + 10 ≤ d) (hs1 : s < 130) (hlo : lo + nX l ≤ 2000) (hSR : SR (kdT T L) w0 (nd 13 t q l r) s lo) (hJS : JS T L w0 (nd 13 t q l r) E s lo) : SpSg g d T L X D v w0 (nd 13 t q l r) E s := by
  intro K w σ hR h91 hzb hs hdz hT hok her
  obtain ⟨hL, hX, hXb⟩ := id h0
  obtain ⟨k1, k2, k3, k4, k5, k6⟩ := hSR
  have k6 := k6 rfl
  obtain ⟨J1, J2⟩ := hJS
  have hjj : jS T L (nd 13 t q l r) E = min (min (if eSo (fnd T L E t) = 2 then 100000 else tAt T L t * 8 + 4) (jkT T L E true l)) (dm T L (knT T L E true l) (eKi (nmE T L E 2 t)) (fst_ l)) := rfl
  rw [hjj] at hj
  have hso : eSo (fnd T L E t) = 2 := bl_no (T := T) (t := t) (k := 4) hL (by decide) (by omega)
  have hjl : 100000 ≤ jkT T L E true l := by omega
  clear hj hjj
  have hfs : fsS (nd 13 t q l r) = t - 1 := rfl
  rw [hfs] at hok her
  have hX00 : X 0 0 = (v : Int) := hX.2.2.2.2.2.1
  have hX06 : X 0 6 = (na : Int) := hX.2.2.2.2.2.2.2.2.2.2.2.1
  obtain ⟨ag, hagd⟩ : ∃ ag : Nat, ag = (if kdT T L (q - 1) = 46 then 1 else 0) := ⟨_, rfl⟩
  have k6' : w0 25 s = ((1 - ag : Nat) : Int) := by
    rw [k6, hagd]
    rcases hk45 with z | z
    · rw [if_pos z, if_neg (by omega)]; rfl
    · rw [if_neg (by omega), if_pos z]; rfl
  obtain ⟨f, to, hag, hal, htt⟩ : ∃ (f : Nat → Int) (to : Nat → Nat), ((ag = 0 ∧ f = X 5 ∧ to = fun i => (X 6 i).toNat) ∨ (ag = 1 ∧ f = X 6 ∧ to = fun i => (X 5 i).toNat)) ∧ alA X (decide (kdT T L (q - 1) = 46)) = fltA f (v : Int) na 0 ∧ (fun i => ((if kdT T L (q - 1) = 46 then X 5 i else X 6 i)).toNat) = to := by
    by_cases k46 : kdT T L (q - 1) = 46
    · refine ⟨X 6, fun i => (X 5 i).toNat, Or.inr ⟨by rw [hagd, if_pos k46], rfl, rfl⟩, ?_, by simp [k46]⟩
      rw [alA_flt, hX06, hX00, toN]
      simp [k46]
    · refine ⟨X 5, fun i => (X 6 i).toNat, Or.inl ⟨by rw [hagd, if_neg k46], rfl, rfl⟩, ?_, by simp [k46]⟩
      rw [alA_flt, hX06, hX00, toN]
      simp [k46]
  have hrn : rns T L X true (nd 13 t q l r) E (tAt T L (t - 1)) σ = snd_ (tAt T L (t - 1)) (fun i σ => evs T L X (tAt T L (t - 1)) E i l σ) to (nmN T L E t) (fltA f (v : Int) na 0) σ := by
    rw [← hal, ← htt]; rfl
  rw [hrn] at hok her
  have hb : (0 : Int) ≤ (s : Int) ∧ (s : Int) < 130 := by omega
  cases hf : fnd T L E t with
  | none => rw [hf] at hso; exact absurd hso (by decide)
  | some e =>
    obtain ⟨n1, n2, n3, n4⟩ := fnd_nb hE.1 hf
    have he3 : e.2.1 = 2 := by rw [n3] at hso; omega
    have n8 := nb_4 (Or.inr (Or.inl he3)) n4
    rw [n1] at hok her
    unfold GD
    rw [toN s, hR.1.cd 17 (by decide), k1, hR.1.cd 24 (by decide), J2 e hf he3]
    refine ⟨hb, hb, fun z => absurd z (by decide), fun z => absurd z (by decide), fun z => absurd z (by decide), fun _ => ?_, fun z => absurd z (by decide), fun z => absurd z (by decide), fun z => absurd z (by decide)⟩
    exact gs_arcs (h_ := t - 1) h0 hE hF hW hx hy (by omega) hjl hD hs1 hlo k2 k4 k5.1 J1 k6' hag ((hF e (fnd_mem _ hf)).1 he3) n8 na 0 w σ (by omega) hR h91 hs hdz hT hok her
end MGo3
