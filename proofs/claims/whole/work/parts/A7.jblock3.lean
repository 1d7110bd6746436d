/-! ===== the model judges blocks ===== -/
section ModelJudge9
variable {g : Mg} {T : Nat → Int} {L m : Nat} {E1 : List En} {vl : Nat → Int}
theorem FMk.u50 {w : Wd} {s s' lo hi n : Nat} {v : Int} : FMk w (up w 0 50 v) s s' lo hi n := ⟨(Fx.rf _ w).up (by decide), fun b _ _ p3 _ _ _ => up_k p3, fun x _ => by rw [up_o (by decide)], fun x _ => ⟨by rw [up_o (by decide)], by rw [up_o (by decide)]⟩, fun x _ => ⟨by rw [up_o (by decide)], by rw [up_o (by decide)]⟩⟩
def isBk (a : Tr) : Prop := a = nl ∨ tg a = 21
theorem ob_pos {kd : Nat → Nat} {vl : Nat → Int} {a : Tr} {n lt : Nat} (h : tg a = 21) (ho : OB kd vl a n lt) : 1 ≤ n := by
  cases a with
  | leaf => exact absurd h (show (0 : Nat) ≠ 21 by decide)
  | inner c t q l r =>
    have : c = 21 := h
    subst this
    have ho' : 1 ≤ n ∧ _ := ho
    exact ho'.1
theorem nx_inner {c t q s : Nat} {l r : Tr} : nx_ (.inner c t q l r) s = (s : Int) := rfl
theorem jb_all (hS : ∀ e ∈ E1, e.2.1 ≤ 3) : ∀ (N : Nat) (a : Tr) (s lo n D : Nat) (E2 : List En) (K : Ou → Wd → Prop) (w : Wd) (k x2 : Nat), szT a ≤ N → (a = nl ∨ tg a = 20) → WS a → SX (kdT T L) (m + 1) a → OB (kdT T L) vl a n E2.length → s + nT a ≤ 130 → lo + nE a ≤ 2000 → nE a + 10 + n ≤ D → (∀ e ∈ E1 ++ E2, e.2.1 ≤ 4 ∧ e.2.2.2 ≤ 2) → cntE 4 (E1 ++ E2) = E2.length → x2 ≤ E2.length → TxM T L m w → EnM m w E1 E2 → SR (kdT T L) w a s lo → KyM w k → (∀ w', FMk w w' s (s + nT a) lo (lo + nE a) x2 → KyM w' (min k (jS T L a (E1 ++ E2))) → JS T L w' a (E1 ++ E2) s lo → w' 0 50 = (x2 : Int) → K (.inl none) w') → V g LM jMd_judgeBlock (D + 1) K 7 [(0, vA 0), (2, vI (x2 : Int)), (3, vI (nx_ a s))] [] w := by
  intro N
  induction N with
  | zero =>
    intro a s lo n D E2 K w k x2 hN ha
    cases a with
    | leaf =>
      intro _ _ _ _ _ _ _ _ _ _ _ _ hK h
      refine s_Md_judgeBlock_7 ⟨fun _ => h _ FMk.u50 ?_ trivial (up_s _ _ _ _), fun z => absurd (show (-2 : Int) < 0 by decide) z⟩
      have : jS T L .leaf (E1 ++ E2) = 100000 := rfl
      rw [this, hK.big]
      exact hK.same (up_k (by decide)) (up_k (by decide))
    | inner c t q l r => simp only [szT] at hN; omega
  | succ N ih =>
    intro a s lo n D E2 K w k x2 hN ha hW hX hO hs hlo hD hNk hC hx hM hE hR hK h
    cases a with
    | leaf => exact ih .leaf s lo n D E2 K w k x2 (Nat.zero_le _) ha hW hX hO hs hlo hD hNk hC hx hM hE hR hK h
    | inner c t q l r =>
      have hc : c = 20 := by
        rcases ha with z | z
        · cases z
        · exact z
      subst hc
      have hsz : szT l ≤ N ∧ szT r ≤ N := by simp only [szT] at hN; omega
      have e1 : nT (.inner 20 t q l r) = nT l + nT r := rfl
      have e2 : nE (.inner 20 t q l r) = nE l + nE r := rfl
      rw [e1] at hs h
      rw [e2] at hlo hD h
      obtain ⟨o1, o2, o3, o4⟩ : stTag l ∧ OB (kdT T L) vl l n E2.length ∧ OB (kdT T L) vl r n (E2.length + (if tg l = 12 then 1 else 0)) ∧ (r = nl ∨ tg r = 20) := hO
      obtain ⟨x1, x2'⟩ : SX (kdT T L) (m + 1) l ∧ SX (kdT T L) (m + 1) r := hX
      obtain ⟨r1, r2, r3⟩ : SR (kdT T L) w l s lo ∧ SR (kdT T L) w r (s + nT l) (lo + nE l) ∧ w 23 s = nx_ r (s + nT l) := hR
      have hW' : WS l ∧ WS r := by
        simp only [WS] at hW
        rcases hW with ⟨-, a1, a2, -⟩ | ⟨z, -⟩ | ⟨z, -⟩ | ⟨z, -⟩ | ⟨z, -⟩ | z | ⟨z, -⟩
        · exact ⟨a1, a2⟩
        all_goals omega
      obtain ⟨w1, w2⟩ := hW'
      have hp := nT_tag w1 o1
      have hj : jS T L (.inner 20 t q l r) (E1 ++ E2) = min (jS T L l (E1 ++ E2)) (jS T L r (eSt T L (E1 ++ E2) l)) := rfl
      have hb : (0 : Int) ≤ (s : Int) ∧ (s : Int) < 130 := by omega
      -- behind the statement
      have tail : ∀ (w3 : Wd) (E3 : List En), eSt T L (E1 ++ E2) l = E1 ++ E3 → E3.length = E2.length + (if tg l = 12 then 1 else 0) → (∀ e ∈ E1 ++ E3, e.2.1 ≤ 4 ∧ e.2.2.2 ≤ 2) → cntE 4 (E1 ++ E3) = E3.length → FMk w w3 s (s + nT l) lo (lo + nE l) E2.length → KyM w3 (min k (jS T L l (E1 ++ E2))) → JS T L w3 l (E1 ++ E2) s lo → EnM m w3 E1 E3 → JK g D K (x2 : Int) s w3 := by
        intro w3 E3 hes hel hn3 hc3 hF3 hK3 hJ3 hE3
        refine s_Md_judgeBlock_374 ⟨hb, ?_⟩
        rw [toN, hF3.1 23 (by decide), r3]
        refine ih r (s + nT l) (lo + nE l) n D E3 K w3 _ x2 hsz.2 o4 w2 x2' (by rw [hel]; exact o3) (by omega) (by omega) (by omega) hn3 hc3 (by omega) (hM.fk hF3) hE3 (r2.fk w2 hF3) hK3 (fun w4 hF4 hK4 hJ4 h50 => h w4 ?_ ?_ ?_ h50)
        · exact (hF3.le (Nat.le_refl _) (by omega) (Nat.le_refl _) (by omega) hx).tr (hF4.le (by omega) (by omega) (by omega) (by omega) (Nat.le_refl _))
        · rw [hj, hes, ← Nat.min_assoc]; exact hK4
        · rw [show (Std.DTreeMap.Internal.Impl.inner 20 t q l r : Tr) = nd 20 t q l r from rfl, JS20, hes]
          exact ⟨hJ3.fk w1 hF4 (Or.inl (Nat.le_refl _)) (Or.inl (Nat.le_refl _)), hJ4⟩
      have tail0 : tg l ≠ 12 → ∀ (w3 : Wd), FMk w w3 s (s + nT l) lo (lo + nE l) E2.length → KyM w3 (min k (jS T L l (E1 ++ E2))) → JS T L w3 l (E1 ++ E2) s lo → EnM m w3 E1 E2 → JK g D K (x2 : Int) s w3 := by
        intro h12 w3 hF3 hK3 hJ3 hE3
        refine tail w3 E2 ?_ (by rw [if_neg h12]; rfl) hNk hC hF3 hK3 hJ3 hE3
        cases l with
        | leaf => rfl
        | inner c' t' q' l' r' =>
          show (if c' = 12 then _ else E1 ++ E2) = E1 ++ E2
          exact if_neg h12
      have blk : ∀ (bt : Tr) (s lo : Nat), 1 ≤ n → szT bt ≤ N → isBk bt → WS bt → SX (kdT T L) (m + 1) bt → OB (kdT T L) vl bt n E2.length → s + nT bt ≤ 130 → lo + nE bt ≤ 2000 → nE bt + 10 + n ≤ D → SpJB g D T L m E1 E2 bt s lo := by
        intro bt s lo hn1 hsz hbk hWb hXb hOb hsb hlob hDb K w k hM hE hR hK h
        obtain ⟨d, rfl⟩ : ∃ d, D = d + 1 := ⟨D - 1, by omega⟩
        refine Cal.ofV (by decide) rfl (Nat.le_of_ble_eq_true rfl) (s_Md_judgeBlock ?_)
        rw [hE.2.2.2.1]
        have fin : ∀ w', FMk w w' s (s + nT bt) lo (lo + nE bt) E2.length → KyM w' (min k (jS T L bt (E1 ++ E2))) → JS T L w' bt (E1 ++ E2) s lo → w' 0 50 = (E2.length : Int) → K (.inl none) w' := fun w' f1 f2 f3 f4 => h w' f1 f2 f3 (hE.fk0 f1 f4)
        cases bt with
        | leaf => exact ih .leaf s lo 0 d E2 K w k E2.length (Nat.zero_le _) (Or.inl rfl) trivial trivial trivial hsb hlob (by show 0 + 10 + 0 ≤ d; have : nE (Std.DTreeMap.Internal.Impl.leaf : Tr) = 0 := rfl; omega) hNk hC (Nat.le_refl _) hM hE trivial hK fin
        | inner c' t' q' l' r' =>
          have hc' : c' = 21 := by
            rcases hbk with z | z
            · cases z
            · exact z
          subst hc'
          obtain ⟨p1, p2, p3⟩ : 1 ≤ n ∧ OB (kdT T L) vl l' (n - 1) E2.length ∧ (l' = nl ∨ tg l' = 20) := hOb
          have hw' : WS l' := by
            simp only [WS] at hWb
            rcases hWb with ⟨z, -⟩ | ⟨z, -⟩ | ⟨-, a1⟩ | ⟨z, -⟩ | ⟨z, -⟩ | z | ⟨z, -⟩
            · omega
            · omega
            · exact a1
            all_goals omega
          have hsz' : szT l' ≤ N := by simp only [szT] at hsz; omega
          have f2 : nE (.inner 21 t' q' l' r') = nE l' := rfl
          rw [f2] at hDb
          exact ih l' s lo (n - 1) d E2 K w k E2.length hsz' p3 hw' hXb p2 hsb hlob (by omega) hNk hC (Nat.le_refl _) hM hE hR hK fin
      rw [nx_inner]
      cases l with
      | leaf => exact o1.elim
      | inner c' t' q' l' r' =>
        have ht' : 11 ≤ c' ∧ c' ≤ 17 := o1
        simp only [WS] at w1
        rcases w1 with ⟨z, -⟩ | ⟨z, -⟩ | ⟨z, -⟩ | ⟨rfl, we, wr'⟩ | ⟨rfl, wl'⟩ | rfl | ⟨hc, we⟩
        · omega
        · omega
        · omega
        · obtain ⟨p1, p2⟩ : OB (kdT T L) vl r' n E2.length ∧ tg r' = 9 := o2
          obtain ⟨q1, q2⟩ : XO (kdT T L) (m + 1) l' ∧ SX (kdT T L) (m + 1) r' := x1
          cases r' with
          | leaf => exact absurd p2 (by decide)
          | inner c9 t9 q9 b1 b2 =>
            have : c9 = 9 := p2
            subst this
            obtain ⟨y1, y2, y3, y4⟩ : OB (kdT T L) vl b1 n E2.length ∧ OB (kdT T L) vl b2 n E2.length ∧ tg b1 = 21 ∧ ((q9 = 0 ∧ b2 = nl) ∨ (q9 ≠ 0 ∧ tg b2 = 21)) := p1
            obtain ⟨u1, u2⟩ : SX (kdT T L) (m + 1) b1 ∧ SX (kdT T L) (m + 1) b2 := q2
            have v : WS b1 ∧ WS b2 := by
              simp only [WS] at wr'
              rcases wr' with ⟨z, -⟩ | ⟨-, a1, a2⟩ | ⟨z, -⟩ | ⟨z, -⟩ | ⟨z, -⟩ | z | ⟨z, -⟩
              · omega
              · exact ⟨a1, a2⟩
              all_goals omega
            have g1 : nT (.inner 15 t' q' l' (.inner 9 t9 q9 b1 b2)) = 1 + (nT b1 + nT b2) := rfl
            have g2 : nE (.inner 15 t' q' l' (.inner 9 t9 q9 b1 b2)) = nX l' + (nE b1 + nE b2) := rfl
            have hz := hsz.1
            simp only [szT] at hz
            have hbk2 : isBk b2 := by
              rcases y4 with ⟨-, z⟩ | ⟨-, z⟩
              · exact Or.inl z
              · exact Or.inr z
            have hn1 : 1 ≤ n := ob_pos y3 y1
            refine jt_if (by omega) hNk we q1 v.1 v.2 (blk b1 (s + 1) (lo + nX l') hn1 (by omega) (Or.inr y3) v.1 u1 y1 (by omega) (by omega) (by omega)) (blk b2 (s + 1 + nT b1) (lo + nX l' + nE b1) hn1 (by omega) hbk2 v.2 u2 y2 (by omega) (by omega) (by omega)) (by omega) (by omega) hM hE r1 hK (tail0 (show (15 : Nat) ≠ 12 by decide))
        · obtain ⟨p1, p2, -⟩ : OB (kdT T L) vl l' n E2.length ∧ tg l' = 21 ∧ _ := o2
          have g1 : nT (.inner 16 t' q' l' r') = 1 + nT l' := rfl
          have g2 : nE (.inner 16 t' q' l' r') = nE l' := rfl
          have hz := hsz.1
          simp only [szT] at hz
          exact jt_loop (blk l' (s + 1) lo (ob_pos p2 p1) (by omega) (Or.inr p2) wl' x1 p1 (by omega) (by omega) (by omega)) (by omega) hM hE r1 hK (tail0 (show (16 : Nat) ≠ 12 by decide))
        · exact jt_halt (by omega) hE r1 hK (tail0 (show (17 : Nat) ≠ 12 by decide))
        · have g1 : nT (.inner c' t' q' l' r') = 1 := nT11 (by omega)
          have g2 : nE (.inner c' t' q' l' r') = nX l' := nE11 hc
          have xo : XO (kdT T L) (m + 1) l' ∧ t' < m + 1 := by
            have := x1
            rw [SX, if_neg (by omega), if_neg (by omega), if_neg (by omega), if_neg (by omega)] at this
            exact this
          have htm : t' ≤ m := by omega
          have hxo := xo.1
          clear blk
          rw [g1, g2] at tail tail0
          rcases hc with rfl | rfl | rfl | rfl
          · exact jt_set (by omega) hNk hS we hxo htm (by omega) (by omega) hM hE r1 hK (tail0 (show (11 : Nat) ≠ 12 by decide))
          · have h8 : E2.length < 8 := o2
            refine jt_let (by omega) hNk hC h8 we hxo htm (by omega) (by omega) hM hE r1 hK (fun w3 a1 a2 a3 a4 => tail w3 _ ?_ ?_ ?_ ?_ a1 a2 a3 a4)
            · show (E1 ++ E2) ++ _ = E1 ++ (E2 ++ _)
              rw [List.append_assoc]
            · rw [List.length_append]; rfl
            · intro e he
              rw [← List.append_assoc] at he
              rcases List.mem_append.mp he with z | z
              · exact hNk e z
              · simp at z
                subst z
                have := kn_rng (T := T) (L := L) (b := false) (fun e he => (hNk e he).2) l'
                refine ⟨Nat.le_refl _, ?_⟩
                show (knT T L (E1 ++ E2) false l').toNat ≤ 2
                omega
            · rw [← List.append_assoc, cnt_app, hC, List.length_append]
              rfl
          · exact jt_sg (c := 13) (so := 2) (b := true) (Or.inl ⟨rfl, rfl, rfl⟩) (by omega) hNk we hxo htm (by omega) (by omega) hM hE r1 hK (tail0 (show (13 : Nat) ≠ 12 by decide))
          · exact jt_sg (c := 14) (so := 3) (b := false) (Or.inr ⟨rfl, rfl, rfl⟩) (by omega) hNk we hxo htm (by omega) (by omega) hM hE r1 hK (tail0 (show (14 : Nat) ≠ 12 by decide))
/-- a block of the whole text -/
theorem sp_judgeBlock (hS : ∀ e ∈ E1, e.2.1 ≤ 3 ∧ e.2.2.2 ≤ 2) (hC : cntE 4 E1 = 0) {a : Tr} {s lo D : Nat} (hb : isBk a) (hW : WS a) (hX : SX (kdT T L) (m + 1) a) (hO : OB (kdT T L) vl a 13 0) (hs : s + nT a ≤ 130) (hlo : lo + nE a ≤ 2000) (hD : nE a + 30 ≤ D) : SpJB g D T L m E1 [] a s lo := by
  intro K w k hM hE hR hK h
  obtain ⟨d, rfl⟩ : ∃ d, D = d + 1 := ⟨D - 1, by omega⟩
  refine Cal.ofV (by decide) rfl (Nat.le_of_ble_eq_true rfl) (s_Md_judgeBlock ?_)
  rw [hE.2.2.2.1]
  have hN : ∀ e ∈ E1 ++ [], e.2.1 ≤ 4 ∧ e.2.2.2 ≤ 2 := fun e he => by
    rw [List.append_nil] at he
    have := hS e he
    omega
  have hC' : cntE 4 (E1 ++ []) = ([] : List En).length := by rw [List.append_nil]; exact hC
  have fin : ∀ w', FMk w w' s (s + nT a) lo (lo + nE a) 0 → KyM w' (min k (jS T L a (E1 ++ []))) → JS T L w' a (E1 ++ []) s lo → w' 0 50 = ((0 : Nat) : Int) → K (.inl none) w' := fun w' f1 f2 f3 f4 => h w' f1 f2 f3 (hE.fk0 f1 f4)
  cases a with
  | leaf => exact jb_all (vl := vl) (fun e he => (hS e he).1) 0 .leaf s lo 0 d [] K w k 0 (Nat.zero_le _) (Or.inl rfl) trivial trivial trivial hs hlo (by show 0 + 10 + 0 ≤ d; omega) hN hC' (Nat.le_refl _) hM hE trivial hK fin
  | inner c' t' q' l' r' =>
    have hc' : c' = 21 := by
      rcases hb with z | z
      · cases z
      · exact z
    subst hc'
    obtain ⟨p1, p2, p3⟩ : 1 ≤ 13 ∧ OB (kdT T L) vl l' (13 - 1) 0 ∧ (l' = nl ∨ tg l' = 20) := hO
    have hw' : WS l' := by
      simp only [WS] at hW
      rcases hW with ⟨z, -⟩ | ⟨z, -⟩ | ⟨-, a1⟩ | ⟨z, -⟩ | ⟨z, -⟩ | z | ⟨z, -⟩
      · omega
      · omega
      · exact a1
      all_goals omega
    have f2 : nE (.inner 21 t' q' l' r') = nE l' := rfl
    rw [f2] at hD
    exact jb_all (vl := vl) (fun e he => (hS e he).1) (szT l') l' s lo 12 d [] K w k 0 (Nat.le_refl _) p3 hw' hX p2 hs hlo (by omega) hN hC' (Nat.le_refl _) hM hE hR hK fin
end ModelJudge9
