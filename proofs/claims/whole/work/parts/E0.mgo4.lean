/-! ===== the model does a block ===== -/
section MGo4
variable {g : Mg} {m v na : Nat} {w0 : Wd} {T : Nat → Int} {L : Nat} {X : Xv} {D : DE}
theorem nf_eSt {E : List En} {a : Tr} (h : NFs D E) : NFs D (eSt T L E a) := by
  cases a with
  | leaf => exact h
  | inner c t q l r =>
    by_cases h12 : c = 12
    · subst h12
      intro e he
      rcases List.mem_append.mp he with z | z
      · exact h e z
      · simp at z
        subst z
        exact ⟨fun y => absurd y (show (4 : Nat) ≠ 2 by decide), fun y => absurd y (show (4 : Nat) ≠ 3 by decide)⟩
    · rw [eSt_n12 (show tg (Std.DTreeMap.Internal.Impl.inner c t q l r : Tr) ≠ 12 from h12)]; exact h
/-- the first TOKEN of a statement -/
theorem sr_fst {l : Tr} {s lo : Nat} (hW : WS l) (ht : stTag l) (h : SR (kdT T L) w0 l s lo) : w0 18 s = ((fsS l : Nat) : Int) := by
  cases l with
  | leaf => exact ht.elim
  | inner c t q l r =>
    have ht' : 11 ≤ c ∧ c ≤ 17 := ht
    simp only [WS] at hW
    rcases hW with ⟨z, -⟩ | ⟨z, -⟩ | ⟨z, -⟩ | ⟨rfl, -⟩ | ⟨rfl, -⟩ | rfl | ⟨hc, -⟩
    · omega
    · omega
    · omega
    · exact (show w0 17 s = 4 ∧ w0 18 s = (t : Int) ∧ _ from h).2.1
    · exact (show w0 17 s = 5 ∧ w0 18 s = ((t - 1 : Nat) : Int) ∧ _ from h).2.1
    · exact (show w0 17 s = 6 ∧ w0 18 s = (t : Int) from h).2
    · have h : SR (kdT T L) w0 (nd c t q l r) s lo := h
      rw [SR11 hc] at h
      rcases hc with rfl | rfl | rfl | rfl
      · exact h.2.1
      · exact h.2.1
      · exact h.2.1
      · exact h.2.1
theorem fs_le {l : Tr} (hW : WS l) (ht : stTag l) (hX : SX (kdT T L) (m + 1) l) (hL : LD (kdT T L) (m + 1) l) : fsS l ≤ m := by
  cases l with
  | leaf => exact ht.elim
  | inner c t q l r =>
    have ht' : 11 ≤ c ∧ c ≤ 17 := ht
    have : t ≤ m := by
      simp only [WS] at hW
      rcases hW with ⟨z, -⟩ | ⟨z, -⟩ | ⟨z, -⟩ | ⟨rfl, -⟩ | ⟨rfl, -⟩ | rfl | ⟨hc, -⟩
      · omega
      · omega
      · omega
      · have := (show LD (kdT T L) (m + 1) r ∧ t < m + 1 from hL).2; omega
      · have := (show LD (kdT T L) (m + 1) l ∧ t < m + 1 from hL).2; omega
      · have := (show t < m + 1 from hL); omega
      · have := hX
        rw [SX, if_neg (by omega), if_neg (by omega), if_neg (by omega), if_neg (by omega)] at this
        omega
    show (if c = 12 ∨ c = 13 ∨ c = 14 ∨ c = 16 then t - 1 else t) ≤ m
    split <;> omega
theorem go_all (h0 : MW0 T L m X D v na w0) : ∀ (N : Nat) (a : Tr) (E : List En) (s lo n d : Nat), szT a ≤ N → (a = nl ∨ tg a = 20) → WS a → SX (kdT T L) (m + 1) a → SY (kdT T L) a → LD (kdT T L) (m + 1) a → OB (kdT T L) (vlT T L) a n (cntE 4 E) → 100000 ≤ jS T L a E → EV E → NFs D E → s + nT a ≤ 130 → lo + nE a ≤ 2000 → nE a + 10 + n ≤ d → SR (kdT T L) w0 a s lo → JS T L w0 a E s lo → ∀ (K : Ou → Wd → Prop) (w : Wd) (σ : SS) (h : Nat), RM D v w0 w σ → zs σ ≤ 1000 → zd σ ≤ zs σ → TyX E (zo σ) (zl σ) X → (∀ σ' w', rns T L X true a E h σ = .ok σ' → zs σ' ≤ 1000 → zd σ' ≤ zs σ' → RM D v w0 w' σ' → K (.inl none) w') → (∀ e, rns T L X true a E h σ = .error e → KFg K v w0 e) → V g LM jMd_goBlock (d + 1) K 2 [(0, vA 0), (2, vI (nx_ a s))] [] w := by
  intro N
  induction N with
  | zero =>
    intro a E s lo n d hN ha
    cases a with
    | leaf =>
      intro _ _ _ _ _ _ _ _ _ _ _ _ _ K w σ h hR hs hdz hT hok her
      exact s_Md_goBlock_2 ⟨fun _ => s_Md_goBlock_396 (hok σ w rfl hs hdz hR), fun z => absurd (show (-2 : Int) < 0 by decide) z⟩
    | inner c t q l r => simp only [szT] at hN; omega
  | succ N ih =>
    intro a E s lo n d hN ha hW hX hY hLD hO hj hE hF hs1 hlo hD hR0 hJ0 K w σ h hR hs hdz hT hok her
    cases a with
    | leaf => exact ih .leaf E s lo n d (Nat.zero_le _) ha hW hX hY hLD hO hj hE hF hs1 hlo hD hR0 hJ0 K w σ h hR hs hdz hT hok her
    | inner c t q l r =>
      have hc : c = 20 := by
        rcases ha with z | z
        · cases z
        · exact z
      subst hc
      have hL : L ≤ 4000 := h0.1
      have hsz : szT l ≤ N ∧ szT r ≤ N := by simp only [szT] at hN; omega
      have e1 : nT (.inner 20 t q l r) = nT l + nT r := rfl
      have e2 : nE (.inner 20 t q l r) = nE l + nE r := rfl
      rw [e1] at hs1
      rw [e2] at hlo hD
      obtain ⟨o1, o2, o3, o4⟩ : stTag l ∧ OB (kdT T L) (vlT T L) l n (cntE 4 E) ∧ OB (kdT T L) (vlT T L) r n (cntE 4 E + (if tg l = 12 then 1 else 0)) ∧ (r = nl ∨ tg r = 20) := hO
      obtain ⟨x1, x2⟩ : SX (kdT T L) (m + 1) l ∧ SX (kdT T L) (m + 1) r := hX
      obtain ⟨y1, y2⟩ : SY (kdT T L) l ∧ SY (kdT T L) r := hY
      obtain ⟨d1, d2⟩ : LD (kdT T L) (m + 1) l ∧ LD (kdT T L) (m + 1) r := hLD
      obtain ⟨r1, r2, r3⟩ : SR (kdT T L) w0 l s lo ∧ SR (kdT T L) w0 r (s + nT l) (lo + nE l) ∧ w0 23 s = nx_ r (s + nT l) := hR0
      obtain ⟨j1, j2⟩ : JS T L w0 l E s lo ∧ JS T L w0 r (eSt T L E l) (s + nT l) (lo + nE l) := hJ0
      have hW' : WS l ∧ WS r := by
        simp only [WS] at hW
        rcases hW with ⟨-, a1, a2, -⟩ | ⟨z, -⟩ | ⟨z, -⟩ | ⟨z, -⟩ | ⟨z, -⟩ | z | ⟨z, -⟩
        · exact ⟨a1, a2⟩
        all_goals omega
      obtain ⟨w1, w2⟩ := hW'
      have hp := nT_tag w1 o1
      have hjj : jS T L (.inner 20 t q l r) E = min (jS T L l E) (jS T L r (eSt T L E l)) := rfl
      rw [hjj] at hj
      obtain ⟨g1, g2, g3⟩ := eSt_ok (T := T) hL w1 o2 (by omega) hE
      have hb : (0 : Int) ≤ (s : Int) ∧ (s : Int) < 130 := by omega
      have hs130 : s < 130 := by omega
      have hfs := fs_le w1 o1 x1 d1
      have h18 := sr_fst w1 o1 r1
      -- blocks in it
      have blk : ∀ (bt : Tr) (s lo : Nat), 1 ≤ n → szT bt ≤ N → isBk bt → WS bt → SX (kdT T L) (m + 1) bt → SY (kdT T L) bt → LD (kdT T L) (m + 1) bt → OB (kdT T L) (vlT T L) bt n (cntE 4 E) → 100000 ≤ jS T L bt E → s + nT bt ≤ 130 → lo + nE bt ≤ 2000 → nE bt + 10 + n ≤ d → SR (kdT T L) w0 bt s lo → JS T L w0 bt E s lo → SpGB g d T L X D v w0 bt E s := by
        intro bt s lo hn1 hsz hbk hWb hXb hYb hLb hOb hjb hsb hlob hDb hRb hJb K w σ h hR hs hdz hT hok her
        obtain ⟨d, rfl⟩ : ∃ d', d = d' + 1 := ⟨d - 1, by omega⟩
        refine Cal.ofV (by decide) rfl (Nat.le_of_ble_eq_true rfl) (s_Md_goBlock ?_)
        cases bt with
        | leaf => exact ih .leaf E s lo 0 d (Nat.zero_le _) (Or.inl rfl) trivial trivial trivial trivial trivial hjb hE hF hsb hlob (by show 0 + 10 + 0 ≤ d; have : nE (Std.DTreeMap.Internal.Impl.leaf : Tr) = 0 := rfl; omega) trivial trivial K w σ h hR hs hdz hT hok her
        | inner c' t' q' l' r' =>
          have hc' : c' = 21 := by
            rcases hbk with z | z
            · cases z
            · exact z
          subst hc'
          obtain ⟨p1, p2, p3⟩ : 1 ≤ n ∧ OB (kdT T L) (vlT T L) l' (n - 1) (cntE 4 E) ∧ (l' = nl ∨ tg l' = 20) := hOb
          have hw' : WS l' := by
            simp only [WS] at hWb
            rcases hWb with ⟨z, -⟩ | ⟨z, -⟩ | ⟨-, a1⟩ | ⟨z, -⟩ | ⟨z, -⟩ | z | ⟨z, -⟩
            · omega
            · omega
            · exact a1
            all_goals omega
          have hsz' : szT l' ≤ N := by simp only [szT] at hsz; omega
          have f2 : nE (.inner 21 t' q' l' r') = nE l' := rfl
          rw [f2] at hDb
          exact ih l' E s lo (n - 1) d hsz' p3 hw' hXb hYb hLb p2 hjb hE hF hsb hlob (by omega) hRb hJb K w σ h hR hs hdz hT hok her
      -- the statement
      have st : SpSg g d T L X D v w0 l E s := by
        clear hok her hT hR
        cases l with
        | leaf => exact o1.elim
        | inner c' t' q' l' r' =>
          have ht' : 11 ≤ c' ∧ c' ≤ 17 := o1
          have w1c := w1
          simp only [WS] at w1c
          rcases w1c with ⟨z, -⟩ | ⟨z, -⟩ | ⟨z, -⟩ | ⟨rfl, we, wr'⟩ | ⟨rfl, wl'⟩ | rfl | ⟨hc, we⟩
          · omega
          · omega
          · omega
          · obtain ⟨p1, p2⟩ : OB (kdT T L) (vlT T L) r' n (cntE 4 E) ∧ tg r' = 9 := o2
            obtain ⟨q1, q2⟩ : XO (kdT T L) (m + 1) l' ∧ SX (kdT T L) (m + 1) r' := x1
            obtain ⟨u1, u2⟩ : (K0 (kdT T L) l' ∧ skN (kdT T L) l' ≤ 50) ∧ SY (kdT T L) r' := y1
            obtain ⟨v1, v2⟩ : LD (kdT T L) (m + 1) r' ∧ t' < m + 1 := d1
            cases r' with
            | leaf => exact absurd p2 (by decide)
            | inner c9 t9 q9 b1 b2 =>
              have : c9 = 9 := p2
              subst this
              obtain ⟨y1, y2, y3, y4⟩ : OB (kdT T L) (vlT T L) b1 n (cntE 4 E) ∧ OB (kdT T L) (vlT T L) b2 n (cntE 4 E) ∧ tg b1 = 21 ∧ ((q9 = 0 ∧ b2 = nl) ∨ (q9 ≠ 0 ∧ tg b2 = 21)) := p1
              obtain ⟨a1, a2⟩ : SX (kdT T L) (m + 1) b1 ∧ SX (kdT T L) (m + 1) b2 := q2
              obtain ⟨i1, i2⟩ : SY (kdT T L) b1 ∧ SY (kdT T L) b2 := u2
              obtain ⟨k1, k2⟩ : LD (kdT T L) (m + 1) b1 ∧ LD (kdT T L) (m + 1) b2 := v1
              have vv : WS b1 ∧ WS b2 := by
                simp only [WS] at wr'
                rcases wr' with ⟨z, -⟩ | ⟨-, a1, a2⟩ | ⟨z, -⟩ | ⟨z, -⟩ | ⟨z, -⟩ | z | ⟨z, -⟩
                · omega
                · exact ⟨a1, a2⟩
                all_goals omega
              have gg1 : nT (.inner 15 t' q' l' (.inner 9 t9 q9 b1 b2)) = 1 + (nT b1 + nT b2) := rfl
              have gg2 : nE (.inner 15 t' q' l' (.inner 9 t9 q9 b1 b2)) = nX l' + (nE b1 + nE b2) := rfl
              have hz := hsz.1
              simp only [szT] at hz
              have hbk2 : isBk b2 := by
                rcases y4 with ⟨-, z⟩ | ⟨-, z⟩
                · exact Or.inl z
                · exact Or.inr z
              have hn1 : 1 ≤ n := ob_pos y3 y1
              have hjj2 : jS T L (.inner 15 t' q' l' (.inner 9 t9 q9 b1 b2)) E = min (min (jkT T L E false l') (dm T L (knT T L E false l') 2 (fst_ l'))) (min (jS T L b1 E) (jS T L b2 E)) := rfl
              rw [hjj2] at hj
              obtain ⟨-, -, -, -, sr5, -⟩ : w0 17 s = 4 ∧ w0 18 s = (t' : Int) ∧ w0 20 s = ((lo + nX l' - 1 : Nat) : Int) ∧ ARx (kdT T L) w0 l' lo ∧ SR (kdT T L) w0 (.inner 9 t9 q9 b1 b2) (s + 1) (lo + nX l') ∧ _ := id r1
              obtain ⟨sb1, sb2⟩ : SR (kdT T L) w0 b1 (s + 1) (lo + nX l') ∧ SR (kdT T L) w0 b2 (s + 1 + nT b1) (lo + nX l' + nE b1) := sr5
              obtain ⟨-, jb⟩ : JR T L E false w0 l' lo ∧ JS T L w0 (.inner 9 t9 q9 b1 b2) E (s + 1) (lo + nX l') := id j1
              obtain ⟨jb1, jb2⟩ : JS T L w0 b1 E (s + 1) (lo + nX l') ∧ JS T L w0 b2 E (s + 1 + nT b1) (lo + nX l' + nE b1) := jb
              exact gs_if h0 hE hF we q1 u1.1 (by omega) (by omega) (by omega) (by omega) hs130 (by omega) r1 j1 (blk b1 (s + 1) (lo + nX l') hn1 (by omega) (Or.inr y3) vv.1 a1 i1 k1 y1 (by omega) (by omega) (by omega) (by omega) sb1 jb1) (blk b2 (s + 1 + nT b1) (lo + nX l' + nE b1) hn1 (by omega) hbk2 vv.2 a2 i2 k2 y2 (by omega) (by omega) (by omega) (by omega) sb2 jb2)
          · obtain ⟨p1, p2, p3, p4⟩ : OB (kdT T L) (vlT T L) l' n (cntE 4 E) ∧ tg l' = 21 ∧ kdT T L t' = 3 ∧ vlT T L t' ≤ 100 := o2
            obtain ⟨v1, v2⟩ : LD (kdT T L) (m + 1) l' ∧ t' < m + 1 := d1
            have gg1 : nT (.inner 16 t' q' l' r') = 1 + nT l' := rfl
            have gg2 : nE (.inner 16 t' q' l' r') = nE l' := rfl
            have hz := hsz.1
            simp only [szT] at hz
            have hjl : 100000 ≤ jS T L l' E := by
              have hjj2 : jS T L (.inner 16 t' q' l' r') E = jS T L l' E := rfl
              rw [hjj2] at hj
              omega
            obtain ⟨-, -, -, -, sr5⟩ : w0 17 s = 5 ∧ w0 18 s = ((t' - 1 : Nat) : Int) ∧ w0 19 s = (t' : Int) ∧ w0 21 s = bf_ l' (s + 1) ∧ SR (kdT T L) w0 l' (s + 1) lo := id r1
            have jb : JS T L w0 l' E (s + 1) lo := j1
            refine gs_loop h0 (by omega) p3 p4 (by omega) hs130 r1 (blk l' (s + 1) lo (ob_pos p2 p1) (by omega) (Or.inr p2) wl' x1 y1 v1 p1 hjl (by omega) (by omega) (by omega) sr5 jb) (fun h σ σ' hT he => ?_)
            have := rns_ty (j := m + 1) hL l' true E h n σ σ' wl' x1 p1 hjl hE hT he
            rw [eSt_n12 (by rw [p2]; decide)] at this
            exact this
          · exact gs_halt h0 hs130 r1
          · have gg1 : nT (.inner c' t' q' l' r') = 1 := nT11 (by omega)
            have gg2 : nE (.inner c' t' q' l' r') = nX l' := nE11 hc
            have xo : XO (kdT T L) (m + 1) l' ∧ t' < m + 1 := by
              have := x1
              rw [SX, if_neg (by omega), if_neg (by omega), if_neg (by omega), if_neg (by omega)] at this
              exact this
            have yy : K0 (kdT T L) l' ∧ skN (kdT T L) l' ≤ 50 := by
              have := y1
              rw [SY, if_neg (by omega), if_neg (by omega), if_neg (by omega), if_neg (by omega)] at this
              exact this
            have dd : c' = 13 → kdT T L (q' - 1) = 45 ∨ kdT T L (q' - 1) = 46 := by
              have := d1
              rw [LD, if_neg (by omega), if_neg (by omega), if_neg (by omega), if_neg (by omega), if_neg (by omega)] at this
              exact this
            have hjl : 100000 ≤ jS T L (.inner c' t' q' l' r') E := by omega
            have htm : t' ≤ m := by omega
            clear blk
            rcases hc with rfl | rfl | rfl | rfl
            · exact gs_set h0 hE hF we xo.1 yy.1 htm hjl (by omega) hs130 (by omega) r1 j1
            · exact gs_let h0 hE hF we xo.1 yy.1 htm o2 hjl (by omega) hs130 (by omega) r1 j1
            · exact gs_send h0 hE hF we xo.1 yy.1 htm (dd rfl) hjl (by omega) hs130 (by omega) r1 j1
            · exact gs_give h0 hE hF we xo.1 yy.1 htm hjl (by omega) hs130 (by omega) r1 j1
      clear blk
      rw [nx_inner]
      refine s_Md_goBlock_2 ⟨fun z => absurd z (by omega), fun _ => ⟨fun z => s_Md_goBlock_396 ?_, fun z => ?_⟩⟩
      · have hzb : zb σ = true := by
          have := hR.2.2.2.2.1
          by_cases y : zb σ = true
          · exact y
          · rw [if_neg y] at this; exact absurd this z
        exact hok σ w (rns_stop (Or.inr rfl) hzb) hs hdz hR
      · have hzb : zb σ = false := by
          have := hR.2.2.2.2.1
          cases y : zb σ with
          | false => rfl
          | true => rw [if_pos y, z] at this; exact absurd this (by decide)
        have hrn : rns T L X true (.inner 20 t q l r) E h σ = bnd (stq (tAt T L (fsS l)) (zs σ)) (fun s1 => bnd (rns T L X true l E (tAt T L (fsS l)) (s1, zd σ, zo σ, zl σ, ze σ, zb σ)) (fun σ' => rns T L X true r (eSt T L E l) h σ')) := by
          show (if zb σ = true then _ else _) = _
          rw [if_neg (by rw [hzb]; decide)]
        rw [hrn] at hok her
        refine gv_step (by omega) h0.2.1 (hR.nw (b := 91) (x := (s : Int)) (Or.inr rfl)) (up_s _ _ _ _) hs130 h18 hfs hs (fun w3 e3 h3 f3 R3 => ?_) (fun e e3 => her e (by rw [e3]; rfl))
        rw [e3, bnd_ok'] at hok her
        show GD g d K s w3
        refine st K w3 (zs σ + 1, zd σ, zo σ, zl σ, ze σ, zb σ) R3 (by rw [f3.2 91 (by decide) (by decide), up_s]) hzb h3 (by show zd σ ≤ zs σ + 1; omega) hT (fun σ2 w4 h2 z1 z2 R4 => s_Md_goBlock_386 ⟨hb, ?_⟩) (fun e he => her e (by rw [he]; rfl))
        rw [h2, bnd_ok'] at hok her
        rw [toN s, R4.1.cd 23 (by decide), r3]
        exact ih r (eSt T L E l) (s + nT l) (lo + nE l) n d hsz.2 o4 w2 x2 y2 d2 (by rw [g2]; exact o3) (by omega) g1 (nf_eSt hF) (by omega) (by omega) (by omega) r2 j2 K w4 σ2 h R4 z1 z2 (rns_ty (j := m + 1) hL l true E _ n (zs σ + 1, zd σ, zo σ, zl σ, ze σ, zb σ) σ2 w1 x1 o2 (by omega) hE hT h2) hok her
/-- a block of the whole text -/
theorem sp_goBlock {a : Tr} {E : List En} {s lo d : Nat} (h0 : MW0 T L m X D v na w0) (hb : tg a = 21) (hW : WS a) (hX : SX (kdT T L) (m + 1) a) (hY : SY (kdT T L) a) (hLD : LD (kdT T L) (m + 1) a) (hO : OB (kdT T L) (vlT T L) a 13 (cntE 4 E)) (hj : 100000 ≤ jS T L a E) (hE : EV E) (hF : NFs D E) (hs1 : s + nT a ≤ 130) (hlo : lo + nE a ≤ 2000) (hD : nE a + 30 ≤ d) (hR0 : SR (kdT T L) w0 a s lo) (hJ0 : JS T L w0 a E s lo) : SpGB g d T L X D v w0 a E s := by
  intro K w σ h hR hs hdz hT hok her
  obtain ⟨d, rfl⟩ : ∃ d', d = d' + 1 := ⟨d - 1, by omega⟩
  refine Cal.ofV (by decide) rfl (Nat.le_of_ble_eq_true rfl) (s_Md_goBlock ?_)
  cases a with
  | leaf => exact absurd hb (show (0 : Nat) ≠ 21 by decide)
  | inner c' t' q' l' r' =>
    have hc' : c' = 21 := hb
    subst hc'
    obtain ⟨p1, p2, p3⟩ : 1 ≤ 13 ∧ OB (kdT T L) (vlT T L) l' (13 - 1) (cntE 4 E) ∧ (l' = nl ∨ tg l' = 20) := hO
    have hw' : WS l' := by
      simp only [WS] at hW
      rcases hW with ⟨z, -⟩ | ⟨z, -⟩ | ⟨-, a1⟩ | ⟨z, -⟩ | ⟨z, -⟩ | z | ⟨z, -⟩
      · omega
      · omega
      · exact a1
      all_goals omega
    have f2 : nE (.inner 21 t' q' l' r') = nE l' := rfl
    rw [f2] at hD
    exact go_all h0 (szT l') l' E s lo 12 d (Nat.le_refl _) p3 hw' hX hY hLD p2 hj hE hF hs1 hlo (by omega) hR0 hJ0 K w σ h hR hs hdz hT hok her
end MGo4
