/-! ===== the class's Text: numbers, signs, the cut ===== -/
/-- only these cells have changed -/
def Fx (L : List Nat) (w w' : Wd) : Prop := ∀ a, a ∉ L → w' a = w a
theorem Fx.rf (L : List Nat) (w : Wd) : Fx L w w := fun _ _ => rfl
theorem Fx.tr {L : List Nat} {a b c : Wd} (h1 : Fx L a b) (h2 : Fx L b c) : Fx L a c := fun q hq => (h2 q hq).trans (h1 q hq)
theorem Fx.up {L : List Nat} {w w' : Wd} {o k : Nat} {x : Int} (h : Fx L w w') (ho : o ∈ L) : Fx L w (up w' o k x) := fun q hq => by rw [up_o (fun z => hq (by rw [z]; exact ho))]; exact h q hq
theorem Fx.mono {L M : List Nat} {w w' : Wd} (h : Fx L w w') (hs : ∀ a ∈ L, a ∈ M) : Fx M w w' := fun q hq => h q (fun z => hq (hs q z))
theorem lMul_eq (a b : Int) : lMul a b = wrL (a * b) := by
  unfold lMul
  rw [Int64.toInt_mul, l_to, l_to, show (2 ^ 64 : Nat) = 18446744073709551616 from rfl, bm_wrL]
  have h : ∀ x : Int, wrL x % 18446744073709551616 = x % 18446744073709551616 := fun x => by unfold wrL; omega
  have h2 : ∀ x y : Int, x % 18446744073709551616 = y % 18446744073709551616 → wrL x = wrL y := fun x y q => by unfold wrL; omega
  apply h2
  rw [Int.mul_emod, h, h, ← Int.mul_emod]
theorem lAdd_eq (a b : Int) : lAdd a b = wrL (a + b) := by
  unfold lAdd
  rw [Int64.toInt_add, l_to, l_to, show (2 ^ 64 : Nat) = 18446744073709551616 from rfl, bm_wrL]
  unfold wrL; omega
theorem dig_v {v c : Int} (h0 : 0 ≤ v) (h1 : v ≤ 2147483648) (hc : isD c) : lAdd (lMul v 10) (wr (c - 48)) = v * 10 + (c - 48) ∧ inL (v * 10 + (c - 48)) := by
  obtain ⟨c1, c2⟩ := hc
  have e1 : wr (c - 48) = c - 48 := wr_s (by omega) (by omega)
  have e2 : inL (v * 10) := ⟨by omega, by omega⟩
  have e3 : inL (v * 10 + (c - 48)) := ⟨by omega, by omega⟩
  rw [lMul_eq, lAdd_eq, e1, wrL_id e2, wrL_id e3]
  exact ⟨rfl, e3⟩
theorem by_ch : ∀ b : Fin 256, i2cF (iAnd ((b.val : Int) - 128) 255) = ((b.val : Int) - 128) % 256 ∧ i2bF (((b.val : Int) - 128) % 256) = (b.val : Int) - 128 := by decide +kernel
theorem by_ch2 {x : Int} (h : -128 ≤ x ∧ x ≤ 127) : i2cF (iAnd x 255) = x % 256 ∧ i2bF (x % 256) = x := by
  have := by_ch ⟨(x + 128).toNat, by omega⟩
  have e : (((x + 128).toNat : Nat) : Int) - 128 = x := by omega
  simp only [e] at this
  exact this
theorem sB0_len : (sB 0).length = 17 := by decide +kernel
theorem sB1_len : (sB 1).length = 12 := by decide +kernel
section ClassText2
variable {g : Mg} {D : Nat} {K : Ou → Wd → Prop} {w : Wd}
def ixR : Option Nat → Int
  | some k => (k : Int)
  | none => -1
theorem ix_loop {y : Ly} {b : Int} : ∀ (l : List Int) (j : Nat), (sB 0).drop j = l → j ≤ 17 → K (.inl (some (vI (ixR (ixF l b j))))) w → V g y jSL_indexOfChar D K 7 [(0, vA 2001), (3, vI 17), (4, vI b), (5, vI (j : Int))] [] w := by
  intro l
  induction l with
  | nil =>
    intro j hj hle h
    have hj17 : 17 ≤ j := by have := congrArg List.length hj; rw [List.length_drop, sB0_len] at this; simp at this; omega
    exact s_SL_indexOfChar_7 (by decide) ⟨fun _ => h, fun c => absurd (by omega) c⟩
  | cons x l ih =>
    intro j hj hle h
    have hj17 : j < 17 := by have := congrArg List.length hj; rw [List.length_drop, sB0_len] at this; simp at this; omega
    have hjl : j < (sB 0).length := by rw [sB0_len]; exact hj17
    have hd := List.drop_eq_getElem_cons hjl
    rw [hj] at hd
    have hx : (sB 0).getD j 0 = x := by
      rw [List.getD_eq_getElem?_getD, List.getElem?_eq_getElem hjl]
      exact (List.cons.inj hd).1.symm
    have ht : (sB 0).drop (j + 1) = l := (List.cons.inj hd).2.symm
    refine s_SL_indexOfChar_7 (by decide) ⟨fun c => absurd c (by omega), fun _ => ⟨?_, fun c => ?_, fun c => ?_⟩⟩
    · show 0 ≤ (j : Int) ∧ (j : Int) < ((sB 0).length : Int)
      rw [sB0_len]; omega
    · rw [show 2001 - 2001 = 0 from rfl, toN, hx] at c
      rw [wr_n1 (by omega)]
      rw [ixF, if_neg c] at h
      exact ih (j + 1) ht (by omega) h
    · rw [show 2001 - 2001 = 0 from rfl, toN, hx] at c
      rw [ixF, if_pos c] at h
      exact h
/-- SIGNS.indexOf of a byte -/
theorem sp_indexOf {y : Ly} {b : Int} (hD : 3 ≤ D) (hb : -128 ≤ b ∧ b ≤ 127) (h : K (.inl (some (vI (ixR (ixF (sB 0) b 0))))) w) : Cal g y jSg_indexOf D [vA 1001, vI (i2cF (iAnd b 255))] w K := by
  obtain ⟨d, rfl⟩ : ∃ d, D = d + 3 := ⟨D - 3, by omega⟩
  obtain ⟨hc1, hc2⟩ := by_ch2 hb
  rw [hc1]
  refine Cal.ofV (by decide) rfl (Nat.le_of_ble_eq_true rfl) (s_Sg_indexOf (by decide) ?_)
  refine Cal.ofV (by decide) rfl (Nat.le_of_ble_eq_true rfl) (s_Sg_indexOf_2 (by decide) (sp_isLatin1 (by decide) ⟨fun z => absurd z (by decide), fun _ => sp_lengthD (by omega) (by decide) ?_⟩))
  refine Cal.ofV (by decide) rfl (Nat.le_of_ble_eq_true rfl) (s_SL_indexOf (p0 := 2001) (by decide) ?_)
  refine Cal.ofV (by decide) rfl (Nat.le_of_ble_eq_true rfl) (s_SL_canEncode ⟨fun c => absurd c (by omega), fun _ => ⟨fun c => absurd c (by omega), fun _ => ⟨fun _ => ?_, fun z => absurd z (by decide)⟩⟩⟩)
  refine sp_max (sp_min ?_)
  rw [show 1001 - 1001 = 0 from rfl, sB0_len]
  refine ⟨fun _ => ?_, fun c => absurd (by decide) c⟩
  refine Cal.ofV (by decide) rfl (Nat.le_of_ble_eq_true rfl) (s_SL_indexOfChar (by decide) ?_)
  rw [hc2]
  exact ix_loop (sB 0) 0 rfl (by omega) h
theorem half_ : ∀ k : Fin 6, iDiv (((2 * k.val : Nat) : Int)) 2 = ((k.val : Nat) : Int) := by decide +kernel
theorem pa_step {i L k : Nat} (a b : Int) (ha : ∀ _ : Unit, (sB 1).getD (2 * k) 0 = a) (hb : ∀ _ : Unit, (sB 1).getD (2 * k + 1) 0 = b) (hD : 3 ≤ D) (hk : k < 6) (hi : i + 1 < L) (hL : L ≤ 4000) (hy : (w 3 i = a ∧ w 3 (i + 1) = b) → K (.inl (some (vI (k : Int)))) w) (hn : ¬ (w 3 i = a ∧ w 3 (i + 1) = b) → V g LC jTe_pairAt (D + 1) K 14 [(0, vA 2), (1, vI (i : Int)), (2, vI ((2 * (k + 1) : Nat) : Int))] [] w) : V g LC jTe_pairAt (D + 1) K 14 [(0, vA 2), (1, vI (i : Int)), (2, vI ((2 * k : Nat) : Int))] [] w := by
  have e1 : wr (((2 * k : Nat) : Int) + 1) = ((2 * k + 1 : Nat) : Int) := wr_n1 (by omega)
  have e2 : wr (((2 * k : Nat) : Int) + 2) = ((2 * (k + 1) : Nat) : Int) := wrN (by omega) (by omega)
  have e3 : wr ((i : Int) + 1) = ((i + 1 : Nat) : Int) := wr_n1 (by omega)
  refine s_Te_pairAt_14 (sp_lengthD (by omega) (by decide) ?_)
  rw [e1, e2, e3, show 1002 - 1001 = 1 from rfl, sB1_len, toN, toN]
  refine ⟨fun c => absurd c (by omega), fun _ => ⟨by omega, ?_⟩⟩
  refine sp_charAtD hD (by decide) (by rw [show 1002 - 1001 = 1 from rfl, sB1_len]; omega) ?_
  rw [show 1002 - 1001 = 1 from rfl, toN, ha ()]
  refine ⟨fun c => hn (fun z => c z.1), fun c => ⟨by omega, ?_⟩⟩
  refine sp_charAtD hD (by decide) (by rw [show 1002 - 1001 = 1 from rfl, sB1_len]; omega) ?_
  rw [show 1002 - 1001 = 1 from rfl, toN, hb ()]
  refine ⟨fun c2 => hn (fun z => c2 z.2), fun c2 => ?_⟩
  have := half_ ⟨k, hk⟩
  simp only [] at this
  rw [this]
  exact hy ⟨c, c2⟩
theorem sp_pairAt {i L : Nat} (hD : 4 ≤ D) (hL : w 2 1 = (L : Int)) (hL4 : L ≤ 4000) (hi : i < L) (h : K (.inl (some (vI (ixR (if i + 1 < L then pKd (w 3 i) (w 3 (i + 1)) else none))))) w) : Cal g LC jTe_pairAt D [vA 2, vI (i : Int)] w K := by
  obtain ⟨d, rfl⟩ : ∃ d, D = d + 1 := ⟨D - 1, by omega⟩
  refine Cal.ofV (by decide) rfl (Nat.le_of_ble_eq_true rfl) (s_Te_pairAt ?_)
  rw [wr_n1 (by omega), hL]
  refine ⟨fun c => ?_, fun c => ?_⟩
  · have hi1 : i + 1 < L := by omega
    rw [if_pos hi1] at h
    unfold pKd at h
    refine pa_step (k := 0) 61 61 (fun _ => rfl) (fun _ => rfl) (by omega) (by omega) hi1 hL4 (fun z => ?_) (fun z0 => ?_)
    · rw [if_pos z] at h; exact h
    rw [if_neg z0] at h
    refine pa_step (k := 1) 33 61 (fun _ => rfl) (fun _ => rfl) (by omega) (by omega) hi1 hL4 (fun z => ?_) (fun z0 => ?_)
    · rw [if_pos z] at h; exact h
    rw [if_neg z0] at h
    refine pa_step (k := 2) 60 61 (fun _ => rfl) (fun _ => rfl) (by omega) (by omega) hi1 hL4 (fun z => ?_) (fun z0 => ?_)
    · rw [if_pos z] at h; exact h
    rw [if_neg z0] at h
    refine pa_step (k := 3) 62 61 (fun _ => rfl) (fun _ => rfl) (by omega) (by omega) hi1 hL4 (fun z => ?_) (fun z0 => ?_)
    · rw [if_pos z] at h; exact h
    rw [if_neg z0] at h
    refine pa_step (k := 4) 38 38 (fun _ => rfl) (fun _ => rfl) (by omega) (by omega) hi1 hL4 (fun z => ?_) (fun z0 => ?_)
    · rw [if_pos z] at h; exact h
    rw [if_neg z0] at h
    refine pa_step (k := 5) 124 124 (fun _ => rfl) (fun _ => rfl) (by omega) (by omega) hi1 hL4 (fun z => ?_) (fun z0 => ?_)
    · rw [if_pos z] at h; exact h
    rw [if_neg z0] at h
    refine s_Te_pairAt_14 (sp_lengthD (by omega) (by decide) ⟨fun _ => h, fun c => absurd ?_ c⟩)
    rw [show 1002 - 1001 = 1 from rfl, sB1_len]
    decide
  · rw [if_neg (by omega)] at h; exact h
theorem sp_cutSign {i L t : Nat} (hD : 5 ≤ D) (hL : w 2 1 = (L : Int)) (hL4 : L ≤ 4000) (hi : i < L) (ht : w 2 6 = (t : Int)) (hb : t < 1002) (hB : -128 ≤ w 3 i ∧ w 3 i ≤ 127) (h1 : ¬ isL (w 3 i)) (h2 : ¬ isD (w 3 i)) (h : K (.inl (some (vI ((tEn (w 3) L i : Nat) : Int)))) (putT w t ((tKd (w 3) L i : Nat) : Int) (i : Int) ((tEn (w 3) L i : Nat) : Int) (tVl (w 3) L i))) : Cal g LC jTe_cutSign D [vA 2, vI (i : Int)] w K := by
  obtain ⟨d, rfl⟩ : ∃ d, D = d + 1 := ⟨D - 1, by omega⟩
  have hv : tVl (w 3) L i = 0 := by unfold tVl; rw [if_neg h1, if_neg h2]
  rw [hv] at h
  refine Cal.ofV (by decide) rfl (Nat.le_of_ble_eq_true rfl) (s_Te_cutSign (sp_pairAt (by omega) hL hL4 hi ?_))
  unfold tKd tEn at h
  rw [if_neg h1, if_neg h2, if_neg h1, if_neg h2] at h
  cases hp : (if i + 1 < L then pKd (w 3 i) (w 3 (i + 1)) else none) with
  | some k =>
    rw [hp] at h
    refine ⟨fun c => absurd c (by simp only [ixR]; omega), fun _ => ?_⟩
    have hk : k < 6 := by
      by_cases hc : i + 1 < L
      · rw [if_pos hc] at hp
        unfold pKd at hp
        repeat (split at hp; · cases hp; omega)
        cases hp
      · rw [if_neg hc] at hp; cases hp
    simp only [ixR]
    have e1 : wr (21 + (k : Int)) = ((21 + k : Nat) : Int) := wrN (by omega) (by omega)
    have e2 : wr ((i : Int) + 2) = ((i + 2 : Nat) : Int) := wrN (by omega) (by omega)
    rw [e1, e2]
    exact sp_putT ht hb h
  | none =>
    rw [hp] at h
    refine ⟨fun _ => ⟨by omega, ?_⟩, fun c => absurd (by simp only [ixR]; omega) c⟩
    rw [toN]
    refine sp_indexOf (by omega) hB ?_
    rw [wr_n1 (by omega)]
    cases hx : ixF (sB 0) (w 3 i) 0 with
    | some k =>
      rw [hx] at h
      have hk : k < 100 := by
        have : ∀ (l : List Int) (c : Int) (j k : Nat), ixF l c j = some k → k < j + l.length := by
          intro l
          induction l with
          | nil => intro c j k q; cases q
          | cons x l ih =>
            intro c j k q
            rw [ixF] at q
            split at q
            · cases q; simp
            · have := ih c (j + 1) k q; simp; omega
        have := this _ _ _ _ hx
        rw [sB0_len] at this; omega
      refine ⟨fun _ => ?_, fun c => absurd (by simp only [ixR]; omega) c⟩
      simp only [ixR]
      have e1 : wr (4 + (k : Int)) = ((4 + k : Nat) : Int) := wrN (by omega) (by omega)
      rw [e1]
      exact sp_putT ht hb h
    | none =>
      rw [hx] at h
      refine ⟨fun c => absurd c (by simp only [ixR]; omega), fun _ => ?_⟩
      exact sp_putT ht hb h
theorem cw_loop {i L t : Nat} (hD : 5 ≤ D) (hL : w 2 1 = (L : Int)) (hL4 : L ≤ 4000) (ht : w 2 6 = (t : Int)) (hb : t < 1002) {E : Nat} (hE : E ≤ 4000) (h : K (.inl (some (vI (E : Int)))) (putT w t ((if 12 < E - i then 1 else wKd (w 3) i (E - i) 33 0 : Nat) : Int) (i : Int) (E : Int) 0)) :
    ∀ (m j : Nat), L - j ≤ m → j ≤ L → i ≤ j → eW (w 3) L j = E → V g LC jTe_cutWord (D + 1) K 2 [(0, vA 2), (1, vI (i : Int)), (2, vI (j : Int))] [] w := by
  have hend : i ≤ E → ((wr ((E : Int) - (i : Int)) ≤ 12 → (Cal g LC jTe_wordKind D [vA 2, vI (i : Int), vI (E : Int)] w (fun o w1 => rI o (fun x2 => Cal g LC jTe_put D [vA 2, vI x2, vI (i : Int), vI (E : Int), vI 0] w1 (fun o w3 => rV o (K (.inl (some (vI (E : Int)))) w3)))))) ∧ (¬ wr ((E : Int) - (i : Int)) ≤ 12 → (Cal g LC jTe_put D [vA 2, vI 1, vI (i : Int), vI (E : Int), vI 0] w (fun o w4 => rV o (K (.inl (some (vI (E : Int)))) w4))))) := by
    intro hiE
    have e1 : wr ((E : Int) - (i : Int)) = ((E - i : Nat) : Int) := wrN (by omega) (by omega)
    rw [e1]
    refine ⟨fun c => ?_, fun c => ?_⟩
    · rw [if_neg (by omega)] at h
      exact sp_wordKind hD hiE hE (sp_putT ht hb h)
    · rw [if_pos (by omega)] at h
      exact sp_putT ht hb h
  intro m
  induction m with
  | zero =>
    intro j hm hj hij he
    rw [eW, if_pos (by omega)] at he
    subst he
    refine s_Te_cutWord_2 ⟨fun _ => hend hij, fun c => absurd (by rw [hL]; omega) c⟩
  | succ m ih =>
    intro j hm hj hij he
    refine s_Te_cutWord_2 ⟨fun c => ?_, fun c => ?_⟩
    · rw [hL] at c
      rw [eW, if_pos (by omega)] at he
      subst he
      exact hend hij
    · rw [hL] at c
      rw [toN, wr_n1 (by omega)]
      rw [eW, if_neg (by omega)] at he
      refine ⟨by omega, sp_isL ?_⟩
      by_cases h1 : isL (w 3 j)
      · rw [if_pos h1]
        rw [if_pos (Or.inl h1)] at he
        exact ⟨fun _ => ih (j + 1) (by omega) (by omega) (by omega) he, fun z => absurd z (by decide)⟩
      · rw [if_neg h1]
        refine ⟨fun z => absurd rfl z, fun _ => ⟨by omega, sp_isD ?_⟩⟩
        by_cases h2 : isD (w 3 j)
        · rw [if_pos h2]
          rw [if_pos (Or.inr h2)] at he
          exact ⟨fun z => absurd z (by decide), fun _ => ih (j + 1) (by omega) (by omega) (by omega) he⟩
        · rw [if_neg h2]
          rw [if_neg (fun z => z.elim h1 h2)] at he
          subst he
          exact ⟨fun _ => hend hij, fun z => absurd rfl z⟩
theorem sp_cutWord {i L t : Nat} (hD : 6 ≤ D) (hL : w 2 1 = (L : Int)) (hL4 : L ≤ 4000) (hi : i < L) (ht : w 2 6 = (t : Int)) (hb : t < 1002) (h1 : isL (w 3 i)) (h : K (.inl (some (vI ((tEn (w 3) L i : Nat) : Int)))) (putT w t ((tKd (w 3) L i : Nat) : Int) (i : Int) ((tEn (w 3) L i : Nat) : Int) (tVl (w 3) L i))) : Cal g LC jTe_cutWord D [vA 2, vI (i : Int)] w K := by
  obtain ⟨d, rfl⟩ : ∃ d, D = d + 1 := ⟨D - 1, by omega⟩
  have hv : tVl (w 3) L i = 0 := by unfold tVl; rw [if_pos h1]
  have hE := tEn_gt (T := w 3) hi
  unfold tKd at h
  rw [hv, if_pos h1] at h
  have he : tEn (w 3) L i = eW (w 3) L i := by unfold tEn; rw [if_pos h1]
  rw [he] at h hE
  refine Cal.ofV (by decide) rfl (Nat.le_of_ble_eq_true rfl) (s_Te_cutWord ?_)
  exact cw_loop (by omega) hL hL4 ht hb (by omega) h (L - i) i (Nat.le_refl _) (by omega) (Nat.le_refl _) rfl
theorem cn_loop {i L t : Nat} (hL : w 2 1 = (L : Int)) (hL4 : L ≤ 4000) (ht : w 2 6 = (t : Int)) (hb : t < 1002) {E : Nat} {v : Int} (h : K (.inl (some (vI (E : Int)))) (putT w t ((if v < 2147483648 then 3 else 1 : Nat) : Int) (i : Int) (E : Int) (l2iF v))) :
    ∀ (m j : Nat) (x : Int), L - j ≤ m → j ≤ L → 0 ≤ x ∧ x ≤ 2147483648 → eD (w 3) L j = E → vD (w 3) L x j = v → V g LC jTe_cutNumber (D + 1) K 5 [(0, vA 2), (1, vI (i : Int)), (2, vL x), (4, vI (j : Int))] [] w := by
  have hend : (0 ≤ v ∧ v ≤ 2147483648) → ((0 ≤ (lCmp v 2147483648) → (Cal g LC jTe_put D [vA 2, vI 1, vI (i : Int), vI (E : Int), vI (l2iF v)] w (fun o w1 => rV o (K (.inl (some (vI (E : Int)))) w1)))) ∧ (¬ 0 ≤ (lCmp v 2147483648) → (Cal g LC jTe_put D [vA 2, vI 3, vI (i : Int), vI (E : Int), vI (l2iF v)] w (fun o w2 => rV o (K (.inl (some (vI (E : Int)))) w2))))) := by
    intro hv
    rw [lCmp_eq ⟨by omega, by omega⟩ ⟨by omega, by omega⟩]
    by_cases hc : v < 2147483648
    · rw [if_pos hc] at h
      rw [if_neg (by omega), if_neg (by omega)]
      exact ⟨fun z => absurd z (by decide), fun _ => sp_putT ht hb h⟩
    · rw [if_neg hc] at h
      rw [if_neg (by omega), if_pos (by omega)]
      exact ⟨fun _ => sp_putT ht hb h, fun z => absurd (by decide) z⟩
  intro m
  induction m with
  | zero =>
    intro j x hm hj hx he hv
    rw [eD, if_pos (by omega)] at he
    rw [vD, if_pos (by omega)] at hv
    subst he hv
    exact s_Te_cutNumber_5 ⟨fun _ => hend hx, fun c => absurd (by rw [hL]; omega) c⟩
  | succ m ih =>
    intro j x hm hj hx he hv
    rw [eD] at he
    rw [vD] at hv
    refine s_Te_cutNumber_5 ⟨fun c => ?_, fun c => ?_⟩
    · rw [hL] at c
      rw [if_pos (by omega)] at he hv
      subst he hv
      exact hend hx
    · rw [hL] at c
      rw [if_neg (by omega)] at he hv
      rw [toN, wr_n1 (by omega)]
      refine ⟨by omega, sp_isD ?_⟩
      by_cases h2 : isD (w 3 j)
      · rw [if_pos h2]
        rw [if_pos h2] at he hv
        refine ⟨fun z => absurd z (by decide), fun _ => ⟨by omega, ?_⟩⟩
        obtain ⟨q1, q2⟩ := dig_v hx.1 hx.2 h2
        rw [q1]
        refine sp_minL q2 ⟨by omega, by omega⟩ ?_
        refine ih (j + 1) _ (by omega) (by omega) ?_ he hv
        split
        · exact ⟨by omega, Int.le_refl _⟩
        · exact ⟨by omega, by omega⟩
      · rw [if_neg h2]
        rw [if_neg h2] at he hv
        subst he hv
        exact ⟨fun _ => hend hx, fun z => absurd rfl z⟩
theorem sp_cutNumber {i L t : Nat} (hD : 2 ≤ D) (hL : w 2 1 = (L : Int)) (hL4 : L ≤ 4000) (hi : i < L) (ht : w 2 6 = (t : Int)) (hb : t < 1002) (h1 : ¬ isL (w 3 i)) (h2 : isD (w 3 i)) (h : K (.inl (some (vI ((tEn (w 3) L i : Nat) : Int)))) (putT w t ((tKd (w 3) L i : Nat) : Int) (i : Int) ((tEn (w 3) L i : Nat) : Int) (tVl (w 3) L i))) : Cal g LC jTe_cutNumber D [vA 2, vI (i : Int)] w K := by
  obtain ⟨d, rfl⟩ : ∃ d, D = d + 1 := ⟨D - 1, by omega⟩
  have hv : tVl (w 3) L i = l2iF (vD (w 3) L 0 i) := by unfold tVl; rw [if_neg h1, if_pos h2]
  unfold tKd at h
  rw [hv, if_neg h1, if_pos h2] at h
  have he : tEn (w 3) L i = eD (w 3) L i := by unfold tEn; rw [if_neg h1, if_pos h2]
  rw [he] at h
  refine Cal.ofV (by decide) rfl (Nat.le_of_ble_eq_true rfl) (s_Te_cutNumber ?_)
  exact cn_loop hL hL4 ht hb h (L - i) i 0 (Nat.le_refl _) (by omega) ⟨by omega, by omega⟩ rfl rfl
theorem sp_cutToken {i L t : Nat} (hD : 7 ≤ D) (hL : w 2 1 = (L : Int)) (hL4 : L ≤ 4000) (hi : i < L) (ht : w 2 6 = (t : Int)) (hb : t < 1002) (hB : -128 ≤ w 3 i ∧ w 3 i ≤ 127) (h : K (.inl (some (vI ((tEn (w 3) L i : Nat) : Int)))) (putT w t ((tKd (w 3) L i : Nat) : Int) (i : Int) ((tEn (w 3) L i : Nat) : Int) (tVl (w 3) L i))) : Cal g LC jTe_cutToken D [vA 2, vI (i : Int)] w K := by
  obtain ⟨d, rfl⟩ : ∃ d, D = d + 1 := ⟨D - 1, by omega⟩
  refine Cal.ofV (by decide) rfl (Nat.le_of_ble_eq_true rfl) (s_Te_cutToken ⟨by omega, ?_⟩)
  rw [toN]
  refine sp_isL ?_
  by_cases h1 : isL (w 3 i)
  · rw [if_pos h1]
    exact ⟨fun z => absurd z (by decide), fun _ => sp_cutWord (by omega) hL hL4 hi ht hb h1 h⟩
  · rw [if_neg h1]
    refine ⟨fun _ => sp_isD ?_, fun z => absurd rfl z⟩
    by_cases h2 : isD (w 3 i)
    · rw [if_pos h2]
      exact ⟨fun z => absurd z (by decide), fun _ => sp_cutNumber (by omega) hL hL4 hi ht hb h1 h2 h⟩
    · rw [if_neg h2]
      exact ⟨fun _ => sp_cutSign (by omega) hL hL4 hi ht hb hB h1 h2 h, fun z => absurd rfl z⟩
end ClassText2
