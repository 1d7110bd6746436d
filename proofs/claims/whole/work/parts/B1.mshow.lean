/-! ===== the model prints: TOKENS, words ===== -/
def PRm (w : Wd) (P : List Int) : Prop := w 0 58 = (P.length : Int) ∧ ∀ k, k < P.length → w 37 k = P.getD k 0
def FPm (w w' : Wd) : Prop := Fx [0, 37] w w' ∧ ∀ b, b ≠ 58 → w' 0 b = w 0 b
theorem FPm.rf (w : Wd) : FPm w w := ⟨Fx.rf _ w, fun _ _ => rfl⟩
theorem FPm.tr {a b c : Wd} (h1 : FPm a b) (h2 : FPm b c) : FPm a c := ⟨h1.1.tr h2.1, fun x hx => (h2.2 x hx).trans (h1.2 x hx)⟩
theorem FPm.u {w : Wd} {n : Nat} {b v : Int} : FPm w (up (up w 37 n b) 0 58 v) := ⟨((Fx.rf _ w).up (by decide)).up (by decide), fun x hx => by rw [up_k hx, up_o (by decide)]⟩
theorem PRm.put {w : Wd} {P : List Int} {b : Int} (h : PRm w P) : PRm (up (up w 37 P.length b) 0 58 ((P.length + 1 : Nat) : Int)) (P ++ [b]) := by
  refine ⟨by rw [up_s, List.length_append]; rfl, fun k hk => ?_⟩
  rw [List.length_append] at hk
  simp at hk
  by_cases hkn : k = P.length
  · subst hkn
    rw [up_o (by decide), up_s]
    simp
  · rw [up_o (by decide), up_k hkn, h.2 k (by omega)]
    rw [List.getD_eq_getElem?_getD, List.getD_eq_getElem?_getD, List.getElem?_append_left (by omega)]
theorem sep_nil {P : List Int} (h : P.length = 0) : sepP P = [] := by
  have : P = [] := List.eq_nil_of_length_eq_zero h
  unfold sepP; rw [if_pos this]
theorem sep_one {P : List Int} (h : P.length ≠ 0) : sepP P = [32] := by
  have : P ≠ [] := fun z => h (by rw [z]; rfl)
  unfold sepP; rw [if_neg this]
theorem bytL_s (T : Nat → Int) (f j : Nat) : bytL T f (j + 1) = bytL T f j ++ [T (f + j)] := by
  unfold bytL
  rw [List.range_succ, List.map_append]; rfl
theorem bytL_len (T : Nat → Int) (f j : Nat) : (bytL T f j).length = j := by unfold bytL; simp
theorem prB_1 {T : Nat → Int} {L t : Nat} {P : List Int} : prB T L P [t] = P ++ sepP P ++ bytL T (tAt T L t) (tSz T L t) := rfl
theorem prB_cons {T : Nat → Int} {L t : Nat} {P : List Int} {O : List Nat} : prB T L P (t :: O) = prB T L (prB T L P [t]) O := rfl
theorem prB_le (T : Nat → Int) (L : Nat) : ∀ (O : List Nat) (P : List Int), P.length ≤ (prB T L P O).length
  | [], P => Nat.le_refl _
  | t :: O, P => by
    rw [prB_cons]
    have h1 := prB_le T L O (prB T L P [t])
    have h2 : P.length ≤ (prB T L P [t]).length := by rw [prB_1, List.length_append, List.length_append]; omega
    omega
theorem tok_bytes {T : Nat → Int} {L t c : Nat} (hk : kdT T L t = c) (h4 : 4 ≤ c) : bytL T (tAt T L t) (tSz T L t) = sgn c := by
  have hl : tAt T L t < L := by
    by_cases q : tAt T L t < L
    · exact q
    · unfold kdT at hk; rw [if_neg q] at hk; omega
  have e1 := kdT_at hl
  rw [e1] at hk
  rw [← hk] at h4
  obtain ⟨t1, t2, t3⟩ := tKd_text h4
  rw [hk] at t2 t3
  rw [tSz_at hl, t2]
  rw [mtb_iff] at t3
  refine List.ext_getElem (bytL_len _ _ _) (fun n h1 h2 => ?_)
  have a := t3 n h2
  rw [List.getD_eq_getElem?_getD, List.getElem?_eq_getElem h2] at a
  have a' : T (tAt T L t + n) = (sgn c)[n] := a
  rw [← a']
  simp only [bytL, List.getElem_map, List.getElem_range]
section ModelShow
variable {g : Mg} {d D : Nat} {K : Ou → Wd → Prop} {w : Wd} {T : Nat → Int} {L m : Nat} {P : List Int}
theorem TxM.fp {w' : Wd} (h : TxM T L m w) (hf : FPm w w') : TxM T L m w' := by
  obtain ⟨h1, h2, h3, h4, h5, h6⟩ := h
  refine ⟨?_, h2, h3, h4, by rw [hf.1 3 (by decide)]; exact h5, h6⟩
  unfold MTk at *
  rw [hf.1 4 (by decide), hf.1 5 (by decide), hf.1 6 (by decide), hf.1 7 (by decide)]
  exact h1
theorem show_loop {t : Nat} {Q : List Int} (hM : TxM T L m w) (ht : t ≤ m) (hB : ∀ k, k < 4020 → -128 ≤ T k ∧ T k ≤ 127) (hl : Q.length + tSz T L t ≤ 5000) (h : ∀ w', FPm w w' → PRm w' (Q ++ bytL T (tAt T L t) (tSz T L t)) → K (.inl none) w') : ∀ (f j : Nat) (w1 : Wd), j + f = tSz T L t → FPm w w1 → PRm w1 (Q ++ bytL T (tAt T L t) j) → V g LM jMd_show D K 30 [(0, vA 0), (1, vI (t : Int)), (2, vI (j : Int))] [] w1 := by
  have hm4 := hM.2.1
  have hb := tk_bd (i := t) hM
  have htb : (0 : Int) ≤ (t : Int) ∧ (t : Int) < 4022 := by omega
  intro f
  induction f with
  | zero =>
    intro j w1 hj hF hP
    obtain ⟨-, a5, a6, -⟩ := (hM.fp hF).1 t (by omega)
    have : j = tSz T L t := by omega
    subst this
    refine s_Md_show_30 ⟨htb, fun _ => h w1 hF hP, fun z => absurd ?_ z⟩
    rw [toN, a6]
    exact Int.le_refl _
  | succ f ih =>
    intro j w1 hj hF hP
    obtain ⟨-, a5, a6, -⟩ := (hM.fp hF).1 t (by omega)
    have h3 := (hM.fp hF).2.2.2.2.1
    refine s_Md_show_30 ⟨htb, fun z => ?_, fun _ => ?_⟩
    · rw [toN, a6] at z
      omega
    · have hlen : (Q ++ bytL T (tAt T L t) j).length = Q.length + j := by rw [List.length_append, bytL_len]
      rw [toN, a5, wrN (n := tAt T L t + j) (by omega) (by omega), toN, h3, hP.1, toN, wr_n1 (by omega), wr_n1 (by omega), i2b_by (hB _ (by omega))]
      refine ⟨htb, by omega, by omega, ih (j + 1) _ (by omega) (hF.tr FPm.u) ?_⟩
      have := hP.put (b := T (tAt T L t + j))
      rw [List.append_assoc, ← bytL_s] at this
      exact this
theorem sp_show {t : Nat} (hM : TxM T L m w) (ht : t ≤ m) (hP : PRm w P) (hl : (prB T L P [t]).length ≤ 5000) (h : ∀ w', FPm w w' → PRm w' (prB T L P [t]) → K (.inl none) w') : Cal g LM jMd_show D [vA 0, vI (t : Int)] w K := by
  refine Cal.rng (fun hr _ _ => ?_)
  have h3 := hM.2.2.2.2.1
  have hB : ∀ k, k < 4020 → -128 ≤ T k ∧ T k ≤ 127 := by
    intro k hk
    have := hr 3 (by decide) k hk
    rw [h3] at this
    exact this
  rw [prB_1] at hl h
  rw [List.length_append, List.length_append, bytL_len] at hl
  refine Cal.ofV (by decide) rfl (Nat.le_of_ble_eq_true rfl) (s_Md_show ?_)
  rw [hP.1]
  refine ⟨fun z => ?_, fun z => ⟨by omega, ?_⟩⟩
  · rw [sep_nil (by omega), List.append_nil] at h
    refine show_loop (Q := P) hM ht hB (by omega) h (tSz T L t) 0 w (by omega) (FPm.rf w) ?_
    show PRm w (P ++ [])
    rw [List.append_nil]; exact hP
  · rw [sep_one (by omega)] at h hl
    rw [toN, wr_n1 (by omega), i2b_by (by decide)]
    refine show_loop (Q := P ++ [32]) (hM.fp FPm.u) ht hB (by rw [List.length_append]; exact hl) (fun w' q1 q2 => h w' (FPm.u.tr q1) q2) (tSz T L t) 0 _ (by omega) (FPm.rf _) ?_
    show PRm _ (P ++ [32] ++ [])
    rw [List.append_nil]; exact hP.put
theorem showT_loop {o : Nat} {Q S : List Int} (hS : sB (o - 1001) = S) (hd : 4 ≤ d) (ho : 1001 ≤ o ∧ o < 1060) (hl : Q.length + S.length ≤ 5000) (h : ∀ w', FPm w w' → PRm w' (Q ++ S) → K (.inl none) w') : ∀ (f j : Nat) (w1 : Wd), j + f = S.length → FPm w w1 → PRm w1 (Q ++ S.take j) → V g LM jMd_showText (d + 1) K 30 [(0, vA 0), (1, vA o), (2, vI (j : Int))] [] w1 := by
  intro f
  induction f with
  | zero =>
    intro j w1 hj hF hP
    have : j = S.length := by omega
    subst this
    rw [List.take_of_length_le (Nat.le_refl _)] at hP
    refine s_Md_showText_30 ⟨ho, sp_lengthD (by omega) ho ?_⟩
    rw [hS]
    exact ⟨fun _ => h w1 hF hP, fun z => absurd (Int.le_refl _) z⟩
  | succ f ih =>
    intro j w1 hj hF hP
    have hg := sB_get (i := o - 1001) (j := j) (by omega)
    rw [hS] at hg
    have hlen : (Q ++ S.take j).length = Q.length + j := by rw [List.length_append, List.length_take]; omega
    refine s_Md_showText_30 ⟨ho, sp_lengthD (by omega) ho ?_⟩
    rw [hS]
    refine ⟨fun z => absurd z (by omega), fun _ => ⟨ho, sp_charAtD (by omega) ho (by rw [hS]; omega) ?_⟩⟩
    rw [hS, toN]
    show (0 ≤ w1 0 58 ∧ w1 0 58 < 12000) ∧ V g LM jMd_showText (d + 1) K 30 [(0, vA 0), (1, vA o), (2, vI (wr ((j : Int) + 1)))] [] (up (up w1 37 ((w1 0 58).toNat) (i2bF (i2bF (S.getD j 0)))) 0 58 (wr ((w1 0 58) + 1)))
    rw [hP.1, toN, wr_n1 (by omega), wr_n1 (by omega), i2b_by (x := S.getD j 0) (by omega), i2b_by (x := S.getD j 0) (by omega)]
    refine ⟨by omega, ih (j + 1) _ (by omega) (hF.tr FPm.u) ?_⟩
    have := hP.put (b := S.getD j 0)
    have e : S.take (j + 1) = S.take j ++ [S.getD j 0] := by
      rw [List.take_succ, List.getD_eq_getElem?_getD, List.getElem?_eq_getElem (by omega)]
      rfl
    rw [List.append_assoc, ← e] at this
    exact this
theorem sp_showText {o t c : Nat} (hD : 5 ≤ D) (ho : 1001 ≤ o ∧ o < 1060) (hc : sB (o - 1001) = sgn c ∧ 4 ≤ c) (hk : kdT T L t = c) (hP : PRm w P) (hl : (prB T L P [t]).length ≤ 5000) (h : ∀ w', FPm w w' → PRm w' (prB T L P [t]) → K (.inl none) w') : Cal g LM jMd_showText D [vA 0, vA o] w K := by
  obtain ⟨d, rfl⟩ : ∃ d, D = d + 1 := ⟨D - 1, by omega⟩
  rw [prB_1, tok_bytes hk hc.2, ← hc.1] at hl h
  rw [List.length_append, List.length_append] at hl
  refine Cal.ofV (by decide) rfl (Nat.le_of_ble_eq_true rfl) (s_Md_showText ?_)
  rw [hP.1]
  refine ⟨fun z => ?_, fun z => ⟨by omega, ?_⟩⟩
  · rw [sep_nil (by omega), List.append_nil] at h
    refine showT_loop (w := w) (Q := P) rfl (by omega) ho (by omega) h (sB (o - 1001)).length 0 w (by omega) (FPm.rf w) ?_
    show PRm w (P ++ [])
    rw [List.append_nil]; exact hP
  · rw [sep_one (by omega)] at h hl
    rw [toN, wr_n1 (by omega), i2b_by (by decide)]
    refine showT_loop (w := up (up w 37 P.length 32) 0 58 ((P.length + 1 : Nat) : Int)) (Q := P ++ [32]) rfl (by omega) ho (by rw [List.length_append]; exact hl) (fun w' q1 q2 => h w' (FPm.u.tr q1) q2) (sB (o - 1001)).length 0 _ (by omega) (FPm.rf _) ?_
    show PRm _ (P ++ [32] ++ [])
    rw [List.append_nil]; exact hP.put
end ModelShow
