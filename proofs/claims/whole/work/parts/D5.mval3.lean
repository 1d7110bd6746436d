/-! ===== the model: values of exps ===== -/
section MVal3
variable {g : Mg} {d m v na arc h_ j : Nat} {T : Nat → Int} {L : Nat} {X : Xv} {D : DE} {E : List En} {own lets : Nat → Int} {bb : Bool}
/-- a failure -/
abbrev KFm (K : Ou → Wd → Prop) (w : Wd) (e : Nat × Nat) : Prop := ∀ w', FMv w w' → w' 1 0 = (e.1 : Int) → w' 1 1 = (e.2 : Int) → K (.inr 1) w'
/-- value() of an exp -/
def SpV (g : Mg) (D_ : Nat) (T : Nat → Int) (L m : Nat) (X : Xv) (D : DE) (E : List En) (own lets : Nat → Int) (v na arc : Nat) (bb : Bool) (h_ : Nat) (a : Tr) (lo : Nat) : Prop := ∀ (K : Ou → Wd → Prop) (w : Wd) (s dr : Nat), MVs T L m X D own lets v na arc bb h_ w → AR (kdT T L) w a lo → JR T L E bb w a lo → w 0 87 = (s : Int) → w 0 88 = (dr : Int) → s ≤ 1000 → dr ≤ s → (∀ q, evx T L X h_ E own lets arc true a s dr = .ok q → q.2.1 ≤ 1000 → q.2.2 ≤ q.2.1 → ∀ w', FMv w w' → w' 0 87 = (q.2.1 : Int) → w' 0 88 = (q.2.2 : Int) → K (.inl (some (vI q.1))) w') → (∀ e, evx T L X h_ E own lets arc true a s dr = .error e → KFm K w e) → Cal g LM jMd_value D_ [vA 0, vI ((lo + nX a - 1 : Nat) : Int)] w K
theorem AR.fv {kd : Nat → Nat} {w w' : Wd} {a : Tr} {lo : Nat} (ha : AR kd w a lo) (hf : FMv w w') : AR kd w' a lo := AR.congr a lo ha (fun x _ _ o p q _ => by rw [hf.cd o (by omega)])
theorem JR.fv {w w' : Wd} {a : Tr} {lo : Nat} (ha : JR T L E bb w a lo) (hf : FMv w w') : JR T L E bb w' a lo := JR.congr a lo ha (fun x _ _ => ⟨by rw [hf.cd 32 (by decide)], by rw [hf.cd 33 (by decide)]⟩)
theorem sp_mixedM {K : Ou → Wd → Prop} {w : Wd} {D_ : Nat} {a b : Int} (h : K (.inl (some (vI (mxd a b)))) w) : Cal g LM jMd_mixed D_ [vI a, vI b] w K := Cal.ofV (by decide) rfl (Nat.le_of_ble_eq_true rfl) (s_Md_mixed h)
theorem sp_drawnM {K : Ou → Wd → Prop} {w : Wd} {D_ dr : Nat} {a : Int} (hD : 1 ≤ D_) (ha : ¬ a = 0) (hX : XMd T L m X D w v na) (h88 : w 0 88 = (dr : Int)) (hdr : dr ≤ 1000) (h : ∀ w', FMv w w' → w' 0 87 = w 0 87 → w' 0 88 = ((dr + 1 : Nat) : Int) → K (.inl (some (vI (drw X dr a)))) w') : Cal g LM jMd_drawn D_ [vA 0, vI a] w K := by
  obtain ⟨d, rfl⟩ : ∃ d, D_ = d + 1 := ⟨D_ - 1, by omega⟩
  obtain ⟨h1, h2, h3, h4, h5, h6, h7, h8, -⟩ := hX
  refine Cal.ofV (by decide) rfl (Nat.le_of_ble_eq_true rfl) (s_Md_drawn (sp_mixedM (sp_mixedM (sp_mixedM ⟨ha, ?_⟩))))
  rw [h88, wr_n1 (by omega), h8, h4, ← h6, h7]
  exact h _ ⟨(Fx.rf _ w).up (by decide), fun b _ p => up_k p⟩ (up_k (by decide)) (up_s _ _ _ _)
theorem bin_345 {K : Ou → Wd → Prop} {w : Wd} {x : Int} (hx : x = 0 ∨ x = 1) (h : K (.inl (some (vI x))) w) : V g LM jMd_binary (d + 1) K 345 [] [vI x] w := by
  rcases hx with rfl | rfl
  · exact s_Md_binary_345 ⟨fun _ => s_Md_binary_357 h, fun z => absurd rfl z⟩
  · exact s_Md_binary_345 ⟨fun z => absurd z (by decide), fun _ => s_Md_binary_357 h⟩
theorem nX_c {c t q : Nat} {l r : Tr} (h7 : c ≠ 7) (h9 : c ≠ 9) : nX (.inner c t q l r) = nX l + nX r + 1 := by
  show nX l + nX r + (if c = 7 ∨ c = 9 then 0 else 1) = _
  rw [if_neg (by omega)]
variable {t q lo : Nat} {l r x y : Tr}
theorem vl_tok (hL : L ≤ 4000) (hE : ENb E) (hF : NFs D E) (hD : 8 ≤ d) (htm : t ≤ m) (h00 : (0 : Nat) = 0 → kdT T L t = 2 ∨ kdT T L t = 3 ∨ kdT T L t = 31 ∨ kdT T L t = 32 ∨ (54 ≤ kdT T L t ∧ kdT T L t ≤ 58)) (hj : 100000 ≤ jkT T L E bb (.inner 0 t q .leaf .leaf)) (hlo : lo + nX nl + nX nl < 2000) : SpV g (d + 1) T L m X D E own lets v na arc bb h_ (.inner 0 t q .leaf .leaf) lo := by
  intro K w s dr hV hA hJ h87 h88 hs hdr hok her
  rw [nX_c (by decide) (by decide), show lo + (nX nl + nX nl + 1) - 1 = lo + nX nl + nX nl by omega]
  obtain ⟨r1, r2, -, -, r5, r6, r7, r8⟩ := hA
  obtain ⟨h27, h26⟩ := r5 (by decide) (by decide)
  obtain ⟨J1, J2, J3⟩ := hJ
  have hb : (0 : Int) ≤ ((lo + nX nl + nX nl : Nat) : Int) ∧ ((lo + nX nl + nX nl : Nat) : Int) < 2000 := by omega
  refine Cal.ofV (by decide) rfl (Nat.le_of_ble_eq_true rfl) (s_Md_value ⟨hb, hb, ?_⟩)
  rw [toN, h26, h27]
  have go : Cal g LM jMd_step d [vA 0] w (fun o w1 => rVt o (fun b => K (.inr b) w1) (Cal g LM jMd_operand d [vA 0, vI ((lo + nX nl + nX nl : Nat) : Int)] w1 (fun o w2 => rIt o (fun b => K (.inr b) w2) (fun x3 => K (.inl (some (vI x3))) w2)))) := by
    refine mv_step (by omega) hV h87 hs (fun s1 e1 w1 f1 q1 q2 => ?_) (fun e e1 w1 f1 q1 q2 => her e (by rw [show evx T L X h_ E own lets arc true (.inner 0 t q .leaf .leaf) s dr = _ from evx0 (Or.inl rfl), e1]; rfl) w1 f1 q1 q2)
    obtain ⟨rfl, e3⟩ := stq_ok e1
    refine sp_operandM (c := 0) (t := t) hL (by omega) (Or.inl rfl) h00 hE hF htm (by omega) hj (hV.fv f1) (by rw [f1.cd 27 (by decide)]; exact h27) (by rw [f1.cd 26 (by decide)]; exact h26) ?_ (hok (opv T L X E own lets arc 0 t, s + 1, dr) (by rw [show evx T L X h_ E own lets arc true (.inner 0 t q .leaf .leaf) s dr = _ from evx0 (Or.inl rfl), e1]; rfl) (by show s + 1 ≤ 1000; omega) (by show dr ≤ s + 1; omega) w1 f1 q1 (by rw [q2]; exact h88))
    rw [f1.cd 32 (by decide), f1.cd 33 (by decide)]
    exact J3
  rw [show (if (0 : Nat) = 0 then kdM (kdT T L t) else if (0 : Nat) = 1 then 4 else if (0 : Nat) = 2 then 5 else if (0 : Nat) = 3 then 7 else if (0 : Nat) = 4 then 8 else if (0 : Nat) = 5 then (if kdT T L t = 16 then 9 else 10) else 11) = kdM (kdT T L t) from rfl]
  have hkm : kdM (kdT T L t) < 7 := by
    unfold kdM
    split
    · decide
    · split
      · decide
      · split
        · decide
        · split <;> decide
  have hk0 : 0 ≤ kdM (kdT T L t) := by
    unfold kdM
    split
    · decide
    · split
      · decide
      · split
        · decide
        · split <;> decide
  exact ⟨fun _ => go, fun z => absurd z (by omega), fun z => absurd z (by omega), fun z => absurd z (by omega), fun z => absurd z (by omega), fun z => absurd z (by omega)⟩
theorem vl_arc (hL : L ≤ 4000) (hE : ENb E) (hF : NFs D E) (hD : 8 ≤ d) (htm : t ≤ m) (hj : 100000 ≤ jkT T L E bb (.inner 1 t q .leaf .leaf)) (hlo : lo + nX nl + nX nl < 2000) : SpV g (d + 1) T L m X D E own lets v na arc bb h_ (.inner 1 t q .leaf .leaf) lo := by
  intro K w s dr hV hA hJ h87 h88 hs hdr hok her
  rw [nX_c (by decide) (by decide), show lo + (nX nl + nX nl + 1) - 1 = lo + nX nl + nX nl by omega]
  obtain ⟨r1, r2, -, -, r5, r6, r7, r8⟩ := hA
  obtain ⟨h27, h26⟩ := r5 (by decide) (by decide)
  obtain ⟨J1, J2, J3⟩ := hJ
  have hb : (0 : Int) ≤ ((lo + nX nl + nX nl : Nat) : Int) ∧ ((lo + nX nl + nX nl : Nat) : Int) < 2000 := by omega
  refine Cal.ofV (by decide) rfl (Nat.le_of_ble_eq_true rfl) (s_Md_value ⟨hb, hb, ?_⟩)
  rw [toN, h26, h27]
  have go : Cal g LM jMd_step d [vA 0] w (fun o w1 => rVt o (fun b => K (.inr b) w1) (Cal g LM jMd_operand d [vA 0, vI ((lo + nX nl + nX nl : Nat) : Int)] w1 (fun o w2 => rIt o (fun b => K (.inr b) w2) (fun x3 => K (.inl (some (vI x3))) w2)))) := by
    refine mv_step (by omega) hV h87 hs (fun s1 e1 w1 f1 q1 q2 => ?_) (fun e e1 w1 f1 q1 q2 => her e (by rw [show evx T L X h_ E own lets arc true (.inner 1 t q .leaf .leaf) s dr = _ from evx0 (Or.inr (Or.inl rfl)), e1]; rfl) w1 f1 q1 q2)
    obtain ⟨rfl, e3⟩ := stq_ok e1
    refine sp_operandM (c := 1) (t := t) hL (by omega) (Or.inr (Or.inl rfl)) (fun z => absurd z (by decide)) hE hF htm (by omega) hj (hV.fv f1) (by rw [f1.cd 27 (by decide)]; exact h27) (by rw [f1.cd 26 (by decide)]; exact h26) ?_ (hok (opv T L X E own lets arc 1 t, s + 1, dr) (by rw [show evx T L X h_ E own lets arc true (.inner 1 t q .leaf .leaf) s dr = _ from evx0 (Or.inr (Or.inl rfl)), e1]; rfl) (by show s + 1 ≤ 1000; omega) (by show dr ≤ s + 1; omega) w1 f1 q1 (by rw [q2]; exact h88))
    rw [f1.cd 32 (by decide), f1.cd 33 (by decide)]
    exact J3
  rw [show (if (1 : Nat) = 0 then kdM (kdT T L t) else if (1 : Nat) = 1 then 4 else if (1 : Nat) = 2 then 5 else if (1 : Nat) = 3 then 7 else if (1 : Nat) = 4 then 8 else if (1 : Nat) = 5 then (if kdT T L t = 16 then 9 else 10) else 11) = (4 : Int) from rfl]
  exact ⟨fun _ => go, fun z => absurd z (by decide), fun z => absurd z (by decide), fun z => absurd z (by decide), fun z => absurd z (by decide), fun z => absurd z (by decide)⟩
theorem vl_has (hL : L ≤ 4000) (hE : ENb E) (hF : NFs D E) (hD : 8 ≤ d) (htm : t ≤ m) (hj : 100000 ≤ jkT T L E bb (.inner 2 t q .leaf .leaf)) (hlo : lo + nX nl + nX nl < 2000) : SpV g (d + 1) T L m X D E own lets v na arc bb h_ (.inner 2 t q .leaf .leaf) lo := by
  intro K w s dr hV hA hJ h87 h88 hs hdr hok her
  rw [nX_c (by decide) (by decide), show lo + (nX nl + nX nl + 1) - 1 = lo + nX nl + nX nl by omega]
  obtain ⟨r1, r2, -, -, r5, r6, r7, r8⟩ := hA
  obtain ⟨h27, h26⟩ := r5 (by decide) (by decide)
  obtain ⟨J1, J2, J3⟩ := hJ
  have hb : (0 : Int) ≤ ((lo + nX nl + nX nl : Nat) : Int) ∧ ((lo + nX nl + nX nl : Nat) : Int) < 2000 := by omega
  refine Cal.ofV (by decide) rfl (Nat.le_of_ble_eq_true rfl) (s_Md_value ⟨hb, hb, ?_⟩)
  rw [toN, h26, h27]
  have go : Cal g LM jMd_step d [vA 0] w (fun o w1 => rVt o (fun b => K (.inr b) w1) (Cal g LM jMd_operand d [vA 0, vI ((lo + nX nl + nX nl : Nat) : Int)] w1 (fun o w2 => rIt o (fun b => K (.inr b) w2) (fun x3 => K (.inl (some (vI x3))) w2)))) := by
    refine mv_step (by omega) hV h87 hs (fun s1 e1 w1 f1 q1 q2 => ?_) (fun e e1 w1 f1 q1 q2 => her e (by rw [show evx T L X h_ E own lets arc true (.inner 2 t q .leaf .leaf) s dr = _ from evx0 (Or.inr (Or.inr rfl)), e1]; rfl) w1 f1 q1 q2)
    obtain ⟨rfl, e3⟩ := stq_ok e1
    refine sp_operandM (c := 2) (t := t) hL (by omega) (Or.inr (Or.inr rfl)) (fun z => absurd z (by decide)) hE hF htm (by omega) hj (hV.fv f1) (by rw [f1.cd 27 (by decide)]; exact h27) (by rw [f1.cd 26 (by decide)]; exact h26) ?_ (hok (opv T L X E own lets arc 2 t, s + 1, dr) (by rw [show evx T L X h_ E own lets arc true (.inner 2 t q .leaf .leaf) s dr = _ from evx0 (Or.inr (Or.inr rfl)), e1]; rfl) (by show s + 1 ≤ 1000; omega) (by show dr ≤ s + 1; omega) w1 f1 q1 (by rw [q2]; exact h88))
    rw [f1.cd 32 (by decide), f1.cd 33 (by decide)]
    exact J3
  rw [show (if (2 : Nat) = 0 then kdM (kdT T L t) else if (2 : Nat) = 1 then 4 else if (2 : Nat) = 2 then 5 else if (2 : Nat) = 3 then 7 else if (2 : Nat) = 4 then 8 else if (2 : Nat) = 5 then (if kdT T L t = 16 then 9 else 10) else 11) = (5 : Int) from rfl]
  exact ⟨fun _ => go, fun z => absurd z (by decide), fun z => absurd z (by decide), fun z => absurd z (by decide), fun z => absurd z (by decide), fun z => absurd z (by decide)⟩
theorem vl_draw (hD : 8 ≤ d) (htm : t ≤ m) (hlo : lo + nX l + nX nl < 2000) (ihl : SpV g d T L m X D E own lets v na arc bb h_ l lo) : SpV g (d + 1) T L m X D E own lets v na arc bb h_ (.inner 3 t q l .leaf) lo := by
  intro K w s dr hV hA hJ h87 h88 hs hdr hok her
  rw [nX_c (by decide) (by decide), show lo + (nX l + nX nl + 1) - 1 = lo + nX l + nX nl by omega]
  obtain ⟨r1, r2, -, -, r5, r6, r7, r8⟩ := hA
  obtain ⟨h27, h26⟩ := r5 (by decide) (by decide)
  obtain ⟨J1, J2, J3⟩ := hJ
  have hb : (0 : Int) ≤ ((lo + nX l + nX nl : Nat) : Int) ∧ ((lo + nX l + nX nl : Nat) : Int) < 2000 := by omega
  refine Cal.ofV (by decide) rfl (Nat.le_of_ble_eq_true rfl) (s_Md_value ⟨hb, hb, ?_⟩)
  rw [toN, h26, h27]
  rw [show evx T L X h_ E own lets arc true (.inner 3 t q l .leaf) s dr = _ from evx3] at hok her
  rw [show (if (3 : Nat) = 0 then kdM (kdT T L t) else if (3 : Nat) = 1 then 4 else if (3 : Nat) = 2 then 5 else if (3 : Nat) = 3 then 7 else if (3 : Nat) = 4 then 8 else if (3 : Nat) = 5 then (if kdT T L t = 16 then 9 else 10) else 11) = (7 : Int) from rfl, r6 (Or.inl rfl)]
  refine ⟨fun z => absurd z (by decide), fun _ => ⟨hb, ?_⟩, fun z => absurd z (by decide), fun z => absurd z (by decide), fun z => absurd z (by decide), fun z => absurd z (by decide)⟩
  refine ihl _ w s dr hV r1 J1 h87 h88 hs hdr (fun p hp p1 p2 w1 f1 g87 g88 => ?_) (fun e he w1 f1 q1 q2 => her e (by rw [he]; rfl) w1 f1 q1 q2)
  rw [hp, bnd_ok'] at hok her
  refine mv_step (by omega) (hV.fv f1) g87 p1 (fun s1 e1 w2 f2 q1 q2 => ?_) (fun e e1 w2 f2 q1 q2 => her e (by rw [e1]; rfl) w2 (f1.tr f2) q1 q2)
  rw [e1, bnd_ok'] at hok her
  obtain ⟨rfl, e3⟩ := stq_ok e1
  have hV2 := (hV.fv f1).fv f2
  refine ⟨fun z => ?_, fun z => ?_⟩
  · rw [if_neg (by omega)] at hok
    refine sp_drawnM (by omega) (by omega) hV2.1 (by rw [q2]; exact g88) (by omega) (fun w3 f3 y1 y2 => hok _ rfl (by show p.2.1 + 1 ≤ 1000; omega) (by show p.2.2 + 1 ≤ p.2.1 + 1; omega) w3 ((f1.tr f2).tr f3) (by rw [y1]; exact q1) y2)
  · rw [if_pos (by omega)] at her
    refine sp_placeM hV2.1.1 htm (sp_fail (f := 2) (her _ rfl _ ((f1.tr f2).tr ⟨((Fx.rf _ _).up (by decide)).up (by decide), fun b _ _ => by rw [up_o (by decide), up_o (by decide)]⟩) (by rw [up_k (by decide), up_s]) (up_s _ _ _ _)))
theorem vl_if {t9 q9 : Nat} (hL : L ≤ 4000) (hE : ENb E) (hK : EK E) (hT : TyX E own lets X) (hD : 8 ≤ d) (hl : WE l) (hkl : tkB (kdT T L) (m + 1) l) (hjl : 100000 ≤ jkT T L E bb l) (hdl : 100000 ≤ dm T L (knT T L E bb l) 2 (fst_ l)) (hlo : lo + nX l + nX (nd 9 t9 q9 x y) < 2000) (ihl : SpV g d T L m X D E own lets v na arc bb h_ l lo) (ihx : SpV g d T L m X D E own lets v na arc bb h_ x (lo + nX l)) (ihy : SpV g d T L m X D E own lets v na arc bb h_ y (lo + nX l + nX x)) : SpV g (d + 1) T L m X D E own lets v na arc bb h_ (.inner 4 t q l (nd 9 t9 q9 x y)) lo := by
  intro K w s dr hV hA hJ h87 h88 hs hdr hok her
  rw [nX_c (by decide) (by decide), show lo + (nX l + nX (nd 9 t9 q9 x y) + 1) - 1 = lo + nX l + nX (nd 9 t9 q9 x y) by omega]
  obtain ⟨r1, r2, -, -, r5, r6, r7, r8⟩ := hA
  obtain ⟨h27, h26⟩ := r5 (by decide) (by decide)
  obtain ⟨J1, J2, J3⟩ := hJ
  have hb : (0 : Int) ≤ ((lo + nX l + nX (nd 9 t9 q9 x y) : Nat) : Int) ∧ ((lo + nX l + nX (nd 9 t9 q9 x y) : Nat) : Int) < 2000 := by omega
  refine Cal.ofV (by decide) rfl (Nat.le_of_ble_eq_true rfl) (s_Md_value ⟨hb, hb, ?_⟩)
  rw [toN, h26, h27]
  have n9 : nX (nd 9 t9 q9 x y) = nX x + nX y := rfl
  have hkl2 : knT T L E bb l = 2 := by
    have h1 := kn_12 (T := T) (bb := bb) hL hE hK l hl hjl
    have h2 := dm_ge (T := T) hL hdl
    clear ihl ihx ihy hok her hV r1 r2 J1 J2 J3
    omega
  obtain ⟨a30, a31, -⟩ := r8 rfl
  have a30 : w 30 (lo + nX l + nX (nd 9 t9 q9 x y)) = ((lo + nX l + nX x - 1 : Nat) : Int) := a30
  have a31 : w 31 (lo + nX l + nX (nd 9 t9 q9 x y)) = ((lo + nX l + nX x + nX y - 1 : Nat) : Int) := by rw [a31, n9, Nat.add_assoc (lo + nX l)]
  obtain ⟨rx, ry, -⟩ : AR (kdT T L) w x (lo + nX l) ∧ AR (kdT T L) w y (lo + nX l + nX x) ∧ _ := r2
  obtain ⟨Jx, Jy, -⟩ : JR T L E bb w x (lo + nX l) ∧ JR T L E bb w y (lo + nX l + nX x) ∧ _ := J2
  rw [show evx T L X h_ E own lets arc true (.inner 4 t q l (nd 9 t9 q9 x y)) s dr = _ from evx4] at hok her
  rw [show (if (4 : Nat) = 0 then kdM (kdT T L t) else if (4 : Nat) = 1 then 4 else if (4 : Nat) = 2 then 5 else if (4 : Nat) = 3 then 7 else if (4 : Nat) = 4 then 8 else if (4 : Nat) = 5 then (if kdT T L t = 16 then 9 else 10) else 11) = (8 : Int) from rfl, r6 (Or.inr (Or.inl rfl))]
  refine ⟨fun z => absurd z (by decide), fun z => absurd z (by decide), fun _ => ⟨hb, ?_⟩, fun z => absurd z (by decide), fun z => absurd z (by decide), fun z => absurd z (by decide)⟩
  refine ihl _ w s dr hV r1 J1 h87 h88 hs hdr (fun p hp p1 p2 w1 f1 g87 g88 => ?_) (fun e he w1 f1 q1 q2 => her e (by rw [he]; rfl) w1 f1 q1 q2)
  have hb01 := ev_ty hL hE hK hT l true s dr p hl ⟨_, hkl⟩ hjl hp hkl2
  rw [hp, bnd_ok'] at hok her
  refine mv_step (by omega) (hV.fv f1) g87 p1 (fun s1 e1 w2 f2 q1 q2 => ?_) (fun e e1 w2 f2 q1 q2 => her e (by rw [e1]; rfl) w2 (f1.tr f2) q1 q2)
  rw [e1, bnd_ok'] at hok her
  obtain ⟨rfl, e3⟩ := stq_ok e1
  have f12 := f1.tr f2
  refine ⟨fun z => ⟨hb, ?_⟩, fun z => ⟨hb, ?_⟩⟩
  · have hd0 : decide (p.1 ≠ 0) = false := by
      rcases hb01 with y0 | y0
      · simp [y0]
      · exact absurd y0 z
    rw [hd0, evx9, if_neg (by decide)] at hok her
    rw [f12.cd 31 (by decide), a31]
    exact ihy _ w2 (p.2.1 + 1) p.2.2 (hV.fv f12) (ry.fv f12) (Jy.fv f12) q1 (by rw [q2]; exact g88) (by omega) (by omega) (fun q' hq' z1 z2 w3 f3 y1 y2 => hok q' hq' z1 z2 w3 (f12.tr f3) y1 y2) (fun e he w3 f3 y1 y2 => her e he w3 (f12.tr f3) y1 y2)
  · have hd0 : decide (p.1 ≠ 0) = true := by simp [z]
    rw [hd0, evx9, if_pos rfl] at hok her
    rw [f12.cd 30 (by decide), a30]
    exact ihx _ w2 (p.2.1 + 1) p.2.2 (hV.fv f12) (rx.fv f12) (Jx.fv f12) q1 (by rw [q2]; exact g88) (by omega) (by omega) (fun q' hq' z1 z2 w3 f3 y1 y2 => hok q' hq' z1 z2 w3 (f12.tr f3) y1 y2) (fun e he w3 f3 y1 y2 => her e he w3 (f12.tr f3) y1 y2)
theorem vl_un (hD : 8 ≤ d) (hlo : lo + nX l + nX nl < 2000) (ihl : SpV g d T L m X D E own lets v na arc bb h_ l lo) : SpV g (d + 1) T L m X D E own lets v na arc bb h_ (.inner 5 t q l .leaf) lo := by
  intro K w s dr hV hA hJ h87 h88 hs hdr hok her
  rw [nX_c (by decide) (by decide), show lo + (nX l + nX nl + 1) - 1 = lo + nX l + nX nl by omega]
  obtain ⟨r1, r2, -, -, r5, r6, r7, r8⟩ := hA
  obtain ⟨h27, h26⟩ := r5 (by decide) (by decide)
  obtain ⟨J1, J2, J3⟩ := hJ
  have hb : (0 : Int) ≤ ((lo + nX l + nX nl : Nat) : Int) ∧ ((lo + nX l + nX nl : Nat) : Int) < 2000 := by omega
  refine Cal.ofV (by decide) rfl (Nat.le_of_ble_eq_true rfl) (s_Md_value ⟨hb, hb, ?_⟩)
  rw [toN, h26, h27]
  rw [show evx T L X h_ E own lets arc true (.inner 5 t q l .leaf) s dr = _ from evx5] at hok her
  have core : ∀ (F : Int → Int), (∀ a, (if kdT T L t = 16 then wr (-a) else wr (1 - a)) = F a) → Cal g LM jMd_value d [vA 0, vI ((lo + nX l - 1 : Nat) : Int)] w (fun o w21 => rIt o (fun b => K (.inr b) w21) (fun x22 => Cal g LM jMd_step d [vA 0] w21 (fun o w23 => rVt o (fun b => K (.inr b) w23) (K (.inl (some (vI (F x22)))) w23)))) := by
    intro F hFF
    refine ihl _ w s dr hV r1 J1 h87 h88 hs hdr (fun p hp p1 p2 w1 f1 g87 g88 => ?_) (fun e he w1 f1 q1 q2 => her e (by rw [he]; rfl) w1 f1 q1 q2)
    rw [hp, bnd_ok'] at hok her
    refine mv_step (by omega) (hV.fv f1) g87 p1 (fun s1 e1 w2 f2 q1 q2 => ?_) (fun e e1 w2 f2 q1 q2 => her e (by rw [e1]; rfl) w2 (f1.tr f2) q1 q2)
    rw [e1, bnd_ok'] at hok
    obtain ⟨rfl, e3⟩ := stq_ok e1
    rw [← hFF]
    exact hok _ rfl (by show p.2.1 + 1 ≤ 1000; omega) (by show p.2.2 ≤ p.2.1 + 1; omega) w2 (f1.tr f2) q1 (by rw [q2]; exact g88)
  rw [show (if (5 : Nat) = 0 then kdM (kdT T L t) else if (5 : Nat) = 1 then 4 else if (5 : Nat) = 2 then 5 else if (5 : Nat) = 3 then 7 else if (5 : Nat) = 4 then 8 else if (5 : Nat) = 5 then (if kdT T L t = 16 then 9 else 10) else 11) = ((if kdT T L t = 16 then 9 else 10) : Int) from rfl, r6 (Or.inr (Or.inr (Or.inl rfl)))]
  by_cases k16 : kdT T L t = 16
  · rw [if_pos k16]
    exact ⟨fun z => absurd z (by decide), fun z => absurd z (by decide), fun z => absurd z (by decide), fun _ => ⟨hb, core (fun a => wr (-a)) (fun a => by rw [if_pos k16])⟩, fun z => absurd z (by decide), fun z => absurd z (by decide)⟩
  · rw [if_neg k16]
    exact ⟨fun z => absurd z (by decide), fun z => absurd z (by decide), fun z => absurd z (by decide), fun z => absurd z (by decide), fun _ => ⟨hb, core (fun a => wr (1 - a)) (fun a => by rw [if_neg k16])⟩, fun z => absurd z (by decide)⟩
theorem vl_bin (hD : 8 ≤ d) (htm : t ≤ m) (hk6 : lnO (kdT T L t) ≠ 0) (hlo : lo + nX l + nX r < 2000) (ihl : SpV g d T L m X D E own lets v na arc bb h_ l lo) (ihr : SpV g d T L m X D E own lets v na arc bb h_ r (lo + nX l)) : SpV g (d + 1 + 1) T L m X D E own lets v na arc bb h_ (.inner 6 t q l r) lo := by
  intro K w s dr hV hA hJ h87 h88 hs hdr hok her
  rw [nX_c (by decide) (by decide), show lo + (nX l + nX r + 1) - 1 = lo + nX l + nX r by omega]
  obtain ⟨r1, r2, -, -, r5, r6, r7, r8⟩ := hA
  obtain ⟨h27, h26⟩ := r5 (by decide) (by decide)
  obtain ⟨J1, J2, J3⟩ := hJ
  have hb : (0 : Int) ≤ ((lo + nX l + nX r : Nat) : Int) ∧ ((lo + nX l + nX r : Nat) : Int) < 2000 := by omega
  refine Cal.ofV (by decide) rfl (Nat.le_of_ble_eq_true rfl) (s_Md_value ⟨hb, hb, ?_⟩)
  rw [toN, h26, h27]
  have hlc := ln_cases _ hk6
  have h4k : 4 ≤ kdT T L t := by omega
  rw [show evx T L X h_ E own lets arc true (.inner 6 t q l r) s dr = _ from evx6] at hok her
  rw [show (if (6 : Nat) = 0 then kdM (kdT T L t) else if (6 : Nat) = 1 then 4 else if (6 : Nat) = 2 then 5 else if (6 : Nat) = 3 then 7 else if (6 : Nat) = 4 then 8 else if (6 : Nat) = 5 then (if kdT T L t = 16 then 9 else 10) else 11) = (11 : Int) from rfl]
  refine ⟨fun z => absurd z (by decide), fun z => absurd z (by decide), fun z => absurd z (by decide), fun z => absurd z (by decide), fun z => absurd z (by decide), fun _ => ?_⟩
  refine Cal.ofV (by decide) rfl (Nat.le_of_ble_eq_true rfl) (s_Md_binary ⟨hb, hb, ?_⟩)
  rw [toN, h27, r6 (Or.inr (Or.inr (Or.inr rfl)))]
  by_cases hln : lnO (kdT T L t) ≤ 2
  · rw [if_pos hln] at hok her
    refine ihl _ w s dr hV r1 J1 h87 h88 hs hdr (fun p hp p1 p2 w1 f1 g87 g88 => ?_) (fun e he w1 f1 q1 q2 => her e (by rw [he]; rfl) w1 f1 q1 q2)
    rw [hp, bnd_ok'] at hok her
    have hV1 := hV.fv f1
    have go : V g LM jMd_binary (d + 1) (fun o w27 => rIt o (fun b => K (.inr b) w27) (fun x28 => K (.inl (some (vI x28))) w27)) 38 [(0, vA 0), (1, vI ((lo + nX l + nX r : Nat) : Int)), (2, vI (t : Int)), (3, vI p.1)] [] w1 := by
      refine s_Md_binary_38 (mv_step (by omega) hV1 g87 p1 (fun s1 e1 w2 f2 q1 q2 => ?_) (fun e e1 w2 f2 q1 q2 => her e (by rw [e1]; rfl) w2 (f1.tr f2) q1 q2))
      rw [e1, bnd_ok'] at hok her
      obtain ⟨rfl, e3⟩ := stq_ok e1
      have f12 := f1.tr f2
      have hV2 := hV.fv f12
      have settled : p.1 = (if lnO (kdT T L t) = 2 then 0 else 1) → V g LM jMd_binary (d + 1) (fun o w27 => rIt o (fun b => K (.inr b) w27) (fun x28 => K (.inl (some (vI x28))) w27)) 74 [(0, vA 0), (1, vI ((lo + nX l + nX r : Nat) : Int)), (3, vI p.1)] [vI 1] w2 := by
        intro hz
        rw [if_pos hz] at hok
        exact s_Md_binary_74 ⟨fun z => absurd z (by decide), fun _ => s_Md_binary_95 (hok _ rfl (by show p.2.1 + 1 ≤ 1000; omega) (by show p.2.2 ≤ p.2.1 + 1; omega) w2 f12 q1 (by rw [q2]; exact g88))⟩
      have goes : ¬ p.1 = (if lnO (kdT T L t) = 2 then 0 else 1) → V g LM jMd_binary (d + 1) (fun o w27 => rIt o (fun b => K (.inr b) w27) (fun x28 => K (.inl (some (vI x28))) w27)) 74 [(0, vA 0), (1, vI ((lo + nX l + nX r : Nat) : Int)), (3, vI p.1)] [vI 0] w2 := by
        intro hz
        rw [if_neg hz] at hok her
        refine s_Md_binary_74 ⟨fun _ => ⟨hb, ?_⟩, fun z => absurd rfl z⟩
        rw [toN, f12.cd 30 (by decide), r7 rfl]
        exact ihr _ w2 (p.2.1 + 1) p.2.2 hV2 (r2.fv f12) (J2.fv f12) q1 (by rw [q2]; exact g88) (by omega) (by omega) (fun q' hq' z1 z2 w3 f3 y1 y2 => s_Md_binary_95 (hok q' hq' z1 z2 w3 (f12.tr f3) y1 y2)) (fun e he w3 f3 y1 y2 => her e he w3 (f12.tr f3) y1 y2)
      refine sp_isSignM (c := 25) (by omega) hV2.1.1 htm h4k (by decide) (by decide) ⟨fun z => ⟨fun y => goes ?_, fun y => settled ?_⟩, fun z => ⟨fun y => goes ?_, fun y => settled ?_⟩⟩
      · have := is0 z; rw [if_neg (by omega)]; exact y
      · have := is0 z; rw [if_neg (by omega)]; exact y
      · have := is1 z; rw [if_pos (by omega)]; exact y
      · have := is1 z; rw [if_pos (by omega)]; exact y
    refine sp_isSignM (c := 25) (by omega) hV1.1.1 htm h4k (by decide) (by decide) ⟨fun _ => go, fun z => sp_isSignM (c := 26) (by omega) hV1.1.1 htm h4k (by decide) (by decide) ⟨fun z2 => ?_, fun _ => go⟩⟩
    have a1 := is0 z
    have a2 := is0 z2
    omega
  · rw [if_neg hln] at hok her
    refine ihl _ w s dr hV r1 J1 h87 h88 hs hdr (fun p hp p1 p2 w1 f1 g87 g88 => ?_) (fun e he w1 f1 q1 q2 => her e (by rw [he]; rfl) w1 f1 q1 q2)
    rw [hp, bnd_ok'] at hok her
    have hV1 := hV.fv f1
    refine sp_isSignM (c := 25) (by omega) hV1.1.1 htm h4k (by decide) (by decide) ⟨fun z => ?_, fun z => sp_isSignM (c := 26) (by omega) hV1.1.1 htm h4k (by decide) (by decide) ⟨fun z2 => ⟨hb, ?_⟩, fun z2 => ?_⟩⟩
    · have a1 := is1 z; omega
    rotate_left
    · have a1 := is1 z2; omega
    rw [f1.cd 30 (by decide), r7 rfl]
    refine ihr _ w1 p.2.1 p.2.2 hV1 (r2.fv f1) (J2.fv f1) g87 g88 p1 p2 (fun q2 hq2 z1 z2 w2 f2 y1 y2 => ?_) (fun e he w2 f2 y1 y2 => her e (by rw [he]; rfl) w2 (f1.tr f2) y1 y2)
    rw [hq2, bnd_ok'] at hok her
    have hV2 := hV1.fv f2
    refine mv_step (by omega) hV2 y1 z1 (fun s1 e1 w3 f3 u1 u2 => ?_) (fun e e1 w3 f3 u1 u2 => her e (by rw [e1]; rfl) w3 ((f1.tr f2).tr f3) u1 u2)
    rw [e1, bnd_ok'] at hok her
    obtain ⟨rfl, e3⟩ := stq_ok e1
    have f13 := (f1.tr f2).tr f3
    have hM3 := (hV.fv f13).1.1
    have fin : ∀ x : Int, ¬ ((kdT T L t = 18 ∨ kdT T L t = 19) ∧ q2.1 = 0) → bnv (kdT T L t) p.1 q2.1 = x → K (.inl (some (vI x))) w3 := by
      intro x hz hx
      rw [if_neg hz] at hok
      have := hok _ rfl (by show q2.2.1 + 1 ≤ 1000; omega) (by show q2.2.2 ≤ q2.2.1 + 1; omega) w3 f13 u1 (by rw [u2]; exact y2)
      rw [← hx]; exact this
    have ff : ∀ (c o : Nat) (K' : Ou → Wd → Prop), (1001 ≤ o ∧ o < 1060) → (sB (o - 1001) = sgn c ∧ 4 ≤ c ∧ c < 60) → K' (.inl (some (vI (if kdT T L t = c then 1 else 0)))) w3 → Cal g LM jMd_isSign d [vA 0, vI (t : Int), vA o] w3 K' := fun c o K' h1 h2 h3 => sp_isSignM (by omega) hM3 htm h4k h1 h2 h3
    have b177 : (kdT T L t = 18 ∨ kdT T L t = 19) → V g LM jMd_binary (d + 1) (fun o w27 => rIt o (fun b => K (.inr b) w27) (fun x28 => K (.inl (some (vI x28))) w27)) 177 [(0, vA 0), (2, vI (t : Int)), (3, vI p.1), (4, vI q2.1)] [] w3 := by
      intro h1819
      refine s_Md_binary_177 ⟨fun z => s_Md_binary_192 (ff 18 1057 _ (by decide) (by decide) ⟨fun y => ⟨z, s_Md_binary_213 (fin _ (fun q => z q.2) ?_)⟩, fun y => ⟨z, s_Md_binary_213 (fin _ (fun q => z q.2) ?_)⟩⟩), fun z => ?_⟩
      · have a1 := is0 y
        have : kdT T L t = 19 := by omega
        rw [this]; rfl
      · have a1 := is1 y
        rw [a1]; rfl
      · rw [if_pos ⟨h1819, z⟩] at her
        exact sp_placeM hM3 htm (sp_fail (f := 1) (her _ rfl _ (f13.tr ⟨((Fx.rf _ _).up (by decide)).up (by decide), fun b _ _ => by rw [up_o (by decide), up_o (by decide)]⟩) (by rw [up_k (by decide), up_s]) (up_s _ _ _ _)))
    clear ihl ihr hok her
    refine ff 15 1054 _ (by decide) (by decide) ⟨fun c1 => ff 16 1055 _ (by decide) (by decide) ⟨fun c2 => ff 17 1056 _ (by decide) (by decide) ⟨fun c3 => ff 18 1057 _ (by decide) (by decide) ⟨fun c4 => b177 (Or.inl (is1 c4)), fun c4 => ff 19 1058 _ (by decide) (by decide) ⟨fun c5 => ff 21 1037 _ (by decide) (by decide) ⟨fun c6 => ff 22 1038 _ (by decide) (by decide) ⟨fun c7 => ff 13 1052 _ (by decide) (by decide) ⟨fun c8 => ff 23 1039 _ (by decide) (by decide) ⟨fun c9 => ff 14 1053 _ (by decide) (by decide) ⟨fun c10 => ?_, fun c10 => ?_⟩, fun c9 => ?_⟩, fun c8 => ?_⟩, fun c7 => ?_⟩, fun c6 => ?_⟩, fun c5 => b177 (Or.inr (is1 c5))⟩⟩, fun c3 => ?_⟩, fun c2 => ?_⟩, fun c1 => ?_⟩
    · have d1 := is0 c1; have d2 := is0 c2; have d3 := is0 c3; have d4 := is0 c4; have d5 := is0 c5; have d6 := is0 c6; have d7 := is0 c7; have d8 := is0 c8; have d9 := is0 c9; have d10 := is0 c10
      have hk24 : kdT T L t = 24 := by omega
      have hb : bnv (kdT T L t) p.1 q2.1 = (if q2.1 ≤ p.1 then 1 else 0) := by rw [hk24]; rfl
      refine ⟨fun z => bin_345 (Or.inl rfl) (fin 0 (by omega) (by rw [hb, if_neg (by omega)])), fun z => bin_345 (Or.inr rfl) (fin 1 (by omega) (by rw [hb, if_pos (by omega)]))⟩
    · have hk24 := is1 c10
      have hb : bnv (kdT T L t) p.1 q2.1 = (if q2.1 < p.1 then 1 else 0) := by rw [hk24]; rfl
      refine ⟨fun z => bin_345 (Or.inl rfl) (fin 0 (by omega) (by rw [hb, if_neg (by omega)])), fun z => bin_345 (Or.inr rfl) (fin 1 (by omega) (by rw [hb, if_pos (by omega)]))⟩
    · have hk24 := is1 c9
      have hb : bnv (kdT T L t) p.1 q2.1 = (if p.1 ≤ q2.1 then 1 else 0) := by rw [hk24]; rfl
      refine ⟨fun z => bin_345 (Or.inl rfl) (fin 0 (by omega) (by rw [hb, if_neg (by omega)])), fun z => bin_345 (Or.inr rfl) (fin 1 (by omega) (by rw [hb, if_pos (by omega)]))⟩
    · have hk24 := is1 c8
      have hb : bnv (kdT T L t) p.1 q2.1 = (if p.1 < q2.1 then 1 else 0) := by rw [hk24]; rfl
      refine ⟨fun z => bin_345 (Or.inl rfl) (fin 0 (by omega) (by rw [hb, if_neg (by omega)])), fun z => bin_345 (Or.inr rfl) (fin 1 (by omega) (by rw [hb, if_pos (by omega)]))⟩
    · have hk24 := is1 c7
      have hb : bnv (kdT T L t) p.1 q2.1 = (if p.1 = q2.1 then 0 else 1) := by rw [hk24]; rfl
      refine ⟨fun z => bin_345 (Or.inl rfl) (fin 0 (by omega) (by rw [hb, if_pos z])), fun z => bin_345 (Or.inr rfl) (fin 1 (by omega) (by rw [hb, if_neg z]))⟩
    · have hk24 := is1 c6
      have hb : bnv (kdT T L t) p.1 q2.1 = (if p.1 = q2.1 then 1 else 0) := by rw [hk24]; rfl
      refine ⟨fun z => bin_345 (Or.inl rfl) (fin 0 (by omega) (by rw [hb, if_neg z])), fun z => bin_345 (Or.inr rfl) (fin 1 (by omega) (by rw [hb, if_pos z]))⟩
    · have hk24 := is1 c3
      exact fin _ (by omega) (by rw [hk24]; rfl)
    · have hk24 := is1 c2
      exact fin _ (by omega) (by rw [hk24]; rfl)
    · have hk24 := is1 c1
      exact fin _ (by omega) (by rw [hk24]; rfl)
theorem WE9 {t9 q9 : Nat} (hxy : WE (nd 9 t9 q9 x y)) : WE x ∧ WE y := by
  simp only [WE] at hxy
  rcases hxy with ⟨z, -⟩ | ⟨z, -⟩ | ⟨z, -⟩ | ⟨z, -⟩ | ⟨z, -⟩ | ⟨-, a1, a2⟩ | ⟨z, -⟩ | ⟨z, -⟩ | ⟨z, -⟩
  iterate 5 exact absurd z (by decide)
  · exact ⟨a1, a2⟩
  all_goals exact absurd z (by decide)
theorem sp_value (hL : L ≤ 4000) (hE : ENb E) (hK : EK E) (hT : TyX E own lets X) (hF : NFs D E) : ∀ (N : Nat) (a : Tr) (lo D_ : Nat), szT a ≤ N → WE a → M9 a → tkB (kdT T L) (m + 1) a → K0 (kdT T L) a → 100000 ≤ jkT T L E bb a → nX a + 10 ≤ D_ → lo + nX a ≤ 2000 → SpV g D_ T L m X D E own lets v na arc bb h_ a lo := by
  intro N
  induction N with
  | zero =>
    intro a lo D_ hN hW
    cases a with
    | leaf => exact hW.elim
    | inner c t q l r => simp only [szT] at hN; omega
  | succ N ih =>
    intro a lo D_ hN hW h9 hk hK0 hj hD hlo
    cases a with
    | leaf => exact hW.elim
    | inner c t q l r =>
      obtain ⟨d, rfl⟩ : ∃ d, D_ = d + 1 := ⟨D_ - 1, by omega⟩
      have hsl : szT l ≤ N ∧ szT r ≤ N := by simp only [szT] at hN; omega
      have hl9 : M9 l := ⟨h9.1.1, h9.1.2.2.1⟩
      obtain ⟨hkl, hkr, hkt, hk6, -⟩ := id hk
      have htm : t ≤ m := by omega
      obtain ⟨h0l, h0r, h00⟩ := hK0
      have hWE := hW
      simp only [WE] at hW
      by_cases h7 : c = 7
      · subst h7
        rcases hW with ⟨z, -⟩ | ⟨z, -⟩ | ⟨z, -⟩ | ⟨z, -⟩ | ⟨z, -⟩ | ⟨z, -⟩ | ⟨z, -⟩ | ⟨z, -⟩ | ⟨-, hl, rfl⟩
        iterate 8 exact absurd z (by decide)
        exact fun K w s dr hV hA hJ => ih l lo (d + 1) hsl.1 hl hl9 hkl h0l hj hD hlo K w s dr hV hA.1 hJ.1
      have hc9 : c ≠ 9 := h9.2
      rw [nX_c h7 hc9] at hlo hD
      rcases hW with ⟨rfl, rfl, rfl⟩ | ⟨rfl, rfl, rfl⟩ | ⟨rfl, rfl, rfl⟩ | ⟨rfl, hl, rfl⟩ | ⟨rfl, hl, t9, q9, x, y, rfl, hxy⟩ | ⟨z, -⟩ | ⟨rfl, hl, rfl⟩ | ⟨rfl, hl, hr⟩ | ⟨z, -⟩
      · exact vl_tok hL hE hF (by omega) htm h00 hj (by omega)
      · exact vl_arc hL hE hF (by omega) htm hj (by omega)
      · exact vl_has hL hE hF (by omega) htm hj (by omega)
      · have hjj : jkT T L E bb (.inner 3 t q l .leaf) = min (jkT T L E bb l) (dm T L (knT T L E bb l) 1 (fst_ l)) := rfl
        rw [hjj] at hj
        exact vl_draw (by omega) htm (by omega) (ih l lo d hsl.1 hl hl9 hkl h0l (by omega) (by omega) (by omega))
      · have hx' := WE9 hxy
        have m9 := h9.1.2.1
        have hx9 : M9 x := ⟨m9.1, m9.2.2.1⟩
        have hy9 : M9 y := ⟨m9.2.1, m9.2.2.2 (by decide)⟩
        have hsx : szT x ≤ N ∧ szT y ≤ N := by
          have := hsl.2
          simp only [szT] at this
          omega
        have n9 : nX (nd 9 t9 q9 x y) = nX x + nX y := rfl
        have hjj : jkT T L E bb (.inner 4 t q l (nd 9 t9 q9 x y)) = min (min (jkT T L E bb l) (dm T L (knT T L E bb l) 2 (fst_ l))) (min (min (jkT T L E bb x) (jkT T L E bb y)) (dm T L (knT T L E bb y) (knT T L E bb x) (fst_ y))) := rfl
        rw [hjj] at hj
        exact vl_if hL hE hK hT (by omega) hl hkl (by omega) (by omega) (by omega) (ih l lo d hsl.1 hl hl9 hkl h0l (by omega) (by omega) (by omega)) (ih x (lo + nX l) d hsx.1 hx'.1 hx9 hkr.1 h0r.1 (by omega) (by omega) (by omega)) (ih y (lo + nX l + nX x) d hsx.2 hx'.2 hy9 hkr.2.1 h0r.2.1 (by omega) (by omega) (by omega))
      · exact absurd z hc9
      · have hjj : jkT T L E bb (.inner 5 t q l .leaf) = min (jkT T L E bb l) (dm T L (knT T L E bb l) (if kdT T L t = 16 then 1 else 2) (fst_ l)) := rfl
        rw [hjj] at hj
        exact vl_un (by omega) (by omega) (ih l lo d hsl.1 hl hl9 hkl h0l (by omega) (by omega) (by omega))
      · have hr9 : M9 r := ⟨h9.1.2.1, h9.1.2.2.2 (by decide)⟩
        have hjl : 100000 ≤ jkT T L E bb l ∧ 100000 ≤ jkT T L E bb r := by
          have hjj : jkT T L E bb (.inner 6 t q l r) = (if kdT T L t = 21 ∨ kdT T L t = 22 then min (min (jkT T L E bb l) (jkT T L E bb r)) (dm T L (knT T L E bb r) (knT T L E bb l) (fst_ r)) else min (min (jkT T L E bb l) (jkT T L E bb r)) (min (dm T L (knT T L E bb l) (if lnO (kdT T L t) ≤ 2 then 2 else 1) (fst_ l)) (dm T L (knT T L E bb r) (if lnO (kdT T L t) ≤ 2 then 2 else 1) (fst_ r)))) := rfl
          rw [hjj] at hj
          split at hj <;> omega
        have npl := nX_pos l hl
        have npr := nX_pos r hr
        obtain ⟨d, rfl⟩ : ∃ d', d = d' + 1 := ⟨d - 1, by omega⟩
        exact vl_bin (by omega) htm (hk6 rfl) (by omega) (ih l lo d hsl.1 hl hl9 hkl h0l hjl.1 (by omega) (by omega)) (ih r (lo + nX l) d hsl.2 hr hr9 hkr h0r hjl.2 (by omega) (by omega))
      · exact absurd z h7
end MVal3
