/-! ===== the class: work() of a node ===== -/
section WorkC
variable {g : Mg} {d : Nat} {T : Nat → Int} {L : Nat} {X : Xv} {ma mb v na j : Nat}
theorem rns_h {vl : Nat → Int} : ∀ (a : Tr) (b : Bool) (E : List En) (n lt h h' : Nat) (σ : SS), OB (kdT T L) vl a n lt → (a = nl ∨ tg a = 20 ∨ tg a = 21) → rns T L X b a E h σ = rns T L X b a E h' σ
  | .leaf, b, E, n, lt, h, h', σ, _, _ => by cases b <;> rfl
  | .inner c t q l r, b, E, n, lt, h, h', σ, hO, ha => by
    have ihl := rns_h (vl := vl) l
    have ihr := rns_h (vl := vl) r
    rcases ha with z | z | z
    · cases z
    · have : c = 20 := z
      subst this
      obtain ⟨o1, o2, o3, o4⟩ : stTag l ∧ OB (kdT T L) vl l n lt ∧ OB (kdT T L) vl r n (lt + (if tg l = 12 then 1 else 0)) ∧ (r = nl ∨ tg r = 20) := hO
      have hr : ∀ E σ, rns T L X true r E h σ = rns T L X true r E h' σ := fun E σ => ihr true E n _ h h' σ o3 (by rcases o4 with y | y; exact Or.inl y; exact Or.inr (Or.inl y))
      show (if zb σ = true then _ else bnd _ (fun s1 => bnd _ (fun σ' => rns T L X true r (eSt T L E l) h σ'))) = (if zb σ = true then _ else bnd _ (fun s1 => bnd _ (fun σ' => rns T L X true r (eSt T L E l) h' σ')))
      simp only [hr]
    · have : c = 21 := z
      subst this
      obtain ⟨p1, p2, p3⟩ : 1 ≤ n ∧ OB (kdT T L) vl l (n - 1) lt ∧ (l = nl ∨ tg l = 20) := hO
      exact ihl true E (n - 1) lt h h' σ p2 (by rcases p3 with y | y; exact Or.inl y; exact Or.inr (Or.inl y))
theorem evW_lo {w w' : Wd} (hm : isMo ma) (e : Nat × Nat × Int) (h : ∀ o, o < 101 → w o = w' o) : ∀ o, o < 101 → evW ma w e o = evW ma w' e o := by
  have := mo_rng hm
  intro o ho
  unfold evW
  split
  · exact up_cg (up_cg (h o ho) (by rw [h 11 (by decide), h (ma + 5) (by omega), h (ma + 6) (by omega)])) (by rw [h (ma + 6) (by omega)])
  · exact up_cg (up_cg (up_cg (h o ho) (by rw [h 10 (by decide), h (ma + 3) (by omega), h (ma + 4) (by omega)])) (by rw [h (ma + 4) (by omega)])) (by rw [h ma (by omega)])
theorem evWs_cg (hm : isMo ma) : ∀ (l : List (Nat × Nat × Int)) {w w' : Wd}, (∀ o, o < 101 → w o = w' o) → ∀ o, o < 101 → l.foldl (evW ma) w o = l.foldl (evW ma) w' o
  | [], _, _, h => h
  | e :: l, _, _, h => evWs_cg hm l (evW_lo hm e h)
/-- the worker as it begins -/
abbrev wk (w : Wd) (v : Nat) (pc : Int) : Wd := up (up (up (up (up (up w 101 9 (v : Int)) 101 10 0) 101 14 0) 101 15 0) 101 16 0) 101 11 pc
theorem wk_o {w : Wd} {pc : Int} {o : Nat} (h : o ≠ 101) : wk w v pc o = w o := by unfold wk; rw [up_o h, up_o h, up_o h, up_o h, up_o h, up_o h]
theorem wk_b {w : Wd} {pc : Int} {b : Nat} (h : b < 9) : wk w v pc 101 b = w 101 b := by unfold wk; rw [up_k (by omega), up_k (by omega), up_k (by omega), up_k (by omega), up_k (by omega), up_k (by omega)]
/-- what is left as it was -/
def FWk (ma : Nat) (w w' : Wd) : Prop := (∀ o, o < 45 → w' o = w o) ∧ (∀ o, 45 ≤ o → o ≤ 100 → ¬ (ma ≤ o ∧ o ≤ ma + 6) → w' o = w o) ∧ ∀ b, b < 9 → w' 101 b = w 101 b
theorem sp_workC {K : Ou → Wd → Prop} {w : Wd} {a : Tr} {E : List En} {pc h_ : Nat} {h2 : Int} (h0 : W0 L X ma mb v na (wk w v (pc : Int)) d) (ha : tg a = 21) (hW : WS a) (hX : SX (kdT T L) j a) (hY : SY (kdT T L) a) (hO : OB (kdT T L) (vlT T L) a 13 (cntE 4 E)) (hj : 100000 ≤ jS T L a E) (hE : ENb E) (hcd : CdA w pc (cmS T L a E pc 0 (h_ : Int) ++ [(31, 0, 0, ((h2.toNat : Nat) : Int))])) (hsz : ((pc + nK a : Nat) : Int) < w 19 4) (hpc : pc + nK a < 1024) (hp : if w mb 0 = 0 then w 8 4 = (pc : Int) else w 8 5 = (pc : Int))
    (hok : ∀ σ', rns T L X true a E 0 (0, 0, (fun k => w (ma + 1) (8 * v + k)), (fun k => w 103 k), [], false) = .ok σ' → zs σ' ≤ 1000 → ∀ w', FWk ma w w' → MvC ma v w w' σ' → w' (ma + 2) = (if zb σ' = true then upf (w (ma + 2)) v 1 else w (ma + 2)) → w' 101 15 = (zs σ' : Int) → w' 101 16 = 0 → K (.inl none) w')
    (her : ∀ e, rns T L X true a E 0 (0, 0, (fun k => w (ma + 1) (8 * v + k)), (fun k => w 103 k), [], false) = .error e → ∀ w', FWk ma w w' → w' 101 16 = (e.1 : Int) → w' 101 17 = (e.2 : Int) → K (.inl none) w') : Cal g LC jWo_work (d + 1) [vA 101, vI (v : Int)] w K := by
  obtain ⟨hL, hd, hX0, hm, hne, h7, hG⟩ := id h0
  have hmr := mo_rng hm
  have hmb := mo_rng hX0.2.1
  have h6 : wk w v (pc : Int) 101 6 = (mb : Int) := hX0.1
  rw [wk_b (by decide)] at h6
  have hrh : ∀ σ, rns T L X true a E 0 σ = rns T L X true a E h_ σ := fun σ => rns_h (vl := vlT T L) a true E 13 _ 0 h_ σ hO (Or.inr (Or.inr ha))
  rw [hrh] at hok her
  have hwo : ∀ o, o < 101 → wk w v (pc : Int) o = w o := fun o ho => wk_o (by omega)
  -- what comes of it
  have fw : ∀ w', FW2 ma (wk w v (pc : Int)) w' → FWk ma w w' := fun w' f => ⟨fun o ho => by rw [f.1 o ho]; exact hwo o (by omega), fun o p q r => by rw [f.2.1 o p q r]; exact hwo o (by omega), fun b hb => by rw [f.2.2 b (by omega)]; exact wk_b hb⟩
  have mv : ∀ w' σ', MvC ma v (wk w v (pc : Int)) w' σ' → MvC ma v w w' σ' := fun w' σ' h => ⟨h.1, fun x hx => by rw [h.2.1 x hx, hwo (ma + 1) (by omega)], h.2.2.1, fun o ho => by rw [h.2.2.2 o ho]; exact evWs_cg hm _ hwo o (by omega)⟩
  have main : WH g d K 0 (wk w v (pc : Int)) := by
    obtain ⟨cd1, cd2⟩ := (show CdA (wk w v (pc : Int)) pc (cmS T L a E pc 0 (h_ : Int) ++ [(31, 0, 0, ((h2.toNat : Nat) : Int))]) from hcd.fx (fun o p q => hwo o (by omega))).app
    rw [cmS_len a _ _ _ _ hW] at cd2
    have hR : RS ma v (wk w v (pc : Int)) (wk w v (pc : Int)) (0, 0, (fun k => w (ma + 1) (8 * v + k)), (fun k => w 103 k), [], false) := ⟨FW2.rf _ _, ⟨fun k _ => by rw [hwo (ma + 1) (by omega)], fun _ _ => rfl, fun k _ => by rw [wk_o (by decide)], fun _ _ => rfl⟩, rfl⟩
    have hA : At (wk w v (pc : Int)) pc [] 0 0 := ⟨up_s _ _ _ _, ⟨by unfold wk; rw [up_k (by decide), up_k (by decide), up_k (by decide), up_k (by decide), up_s]; rfl, fun i x hx => by cases hx⟩, by unfold wk; rw [up_k (by decide), up_k (by decide), up_s]; rfl, by unfold wk; rw [up_k (by decide), up_k (by decide), up_k (by decide), up_s]; rfl, by unfold wk; rw [up_k (by decide), up_s]⟩
    have hslk : slk a = 0 := slk_0 (Or.inr (Or.inr ha))
    refine ws_all h0 (szT a) a E 13 (Nat.le_refl _) (Or.inr (Or.inr (Or.inl ha))) hW hX hY hO hj hE K pc 0 h_ 0 (0, 0, (fun k => w (ma + 1) (8 * v + k)), (fun k => w 103 k), [], false) _ (by omega) hR hA rfl cd1 (by rw [hwo 19 (by decide)]; exact hsz) hpc (by rw [hslk]; show 0 + 3 * (1001 - 0) + 0 ≤ 90000; decide) (Nat.zero_le _) (Nat.le_refl _) (fun σ' hσ z1 z2 => ⟨fun z3 w' n' R' A' _ b' => ?_, fun z3 w' f' m' r' s' e' => ?_⟩) (fun e he w' f' q1 q2 => her e he w' (fw w' f') q1 q2)
    · have b'' : n' + 3 * (1001 - zs σ') ≤ 0 + 3 * (1001 - 0) + slk a := b'
      rw [hslk] at b''
      refine w_endD (by omega) (by omega) (cd2.f2 R'.1) (by rw [R'.1.1 19 (by decide), hwo 19 (by decide)]; exact hsz) hpc A' (fun w1 f1 q1 q2 => ?_)
      have R1 := R'.fr hm f1
      refine hok σ' hσ z1 w1 (fw w1 R1.1) (mv w1 σ' R1.2.1) ?_ q1 q2
      rw [if_neg (by rw [z3]; decide), R1.2.2]
      exact hwo (ma + 2) (by omega)
    · refine hok σ' hσ z1 w' (fw w' f') (mv w' σ' m') ?_ s' e'
      rw [if_pos z3, r', hwo (ma + 2) (by omega)]
  refine Cal.ofV (by decide) rfl (Nat.le_of_ble_eq_true rfl) (s_Wo_work ⟨mb, by rw [up_k (by decide), up_k (by decide), up_k (by decide), up_k (by decide), up_k (by decide)]; exact h6, hX0.2.1, ?_⟩)
  have e0 : ∀ x0 x1 x2 x3 x4 : Int, up (up (up (up (up w 101 9 x0) 101 10 x1) 101 14 x2) 101 15 x3) 101 16 x4 mb = w mb := fun _ _ _ _ _ => by rw [up_o (by omega), up_o (by omega), up_o (by omega), up_o (by omega), up_o (by omega)]
  rw [e0]
  by_cases hz : w mb 0 = 0
  · rw [if_pos hz] at hp
    refine ⟨fun z => absurd hz z, fun _ => ?_⟩
    rw [hp]
    exact main
  · rw [if_neg hz] at hp
    refine ⟨fun _ => ?_, fun z => absurd z hz⟩
    rw [hp]
    exact main
end WorkC
