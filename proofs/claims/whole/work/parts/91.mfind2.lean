/-! ===== the model judges: NAMES, blame, 2 ===== -/
section ModelFind2
variable {g : Mg} {d D : Nat} {K : Ou → Wd → Prop} {w w' : Wd} {T : Nat → Int} {L m : Nat}
theorem sp_numberM {k : Nat} {E1 E2 : List En} {e : En} (hE : EnM m w E1 E2) (he : E1[k]? = some e) (h : K (.inl (some (vI (e.2.2.1 : Int)))) w) : Cal g LM jMd_numberOf D [vA 0, vI (k : Int)] w K := by
  obtain ⟨n1, n2, ⟨n, n3, n4, n5, -⟩, -⟩ := hE
  have hkl : k < E1.length := (List.getElem?_eq_some_iff.mp he).1
  have hek := (n2 k e he).2.1
  rw [n1 k e he] at h
  have lp : ∀ (f i : Nat), i + f = k → V g LM jMd_numberOf D K 4 [(0, vA 0), (1, vI (k : Int)), (2, vI ((cntE e.2.1 (E1.take i) : Nat) : Int)), (3, vI (i : Int))] [] w := by
    intro f
    induction f with
    | zero =>
      intro i hi
      rw [Nat.add_zero] at hi
      subst hi
      exact s_Md_numberOf_4 ⟨fun _ => h, fun c => absurd (Int.le_refl _) c⟩
    | succ f ih =>
      intro i hi
      have hil : i < E1.length := by omega
      obtain ⟨e2, h2⟩ : ∃ e2, E1[i]? = some e2 := ⟨E1[i], List.getElem?_eq_some_iff.mpr ⟨hil, rfl⟩⟩
      have hc := cnt_take (s := e.2.1) h2
      have hl := cnt_len e.2.1 (E1.take i)
      rw [List.length_take] at hl
      have hl2 : cntE e.2.1 (E1.take i) ≤ 28 := by omega
      have hgo := ih (i + 1) (by omega)
      refine s_Md_numberOf_4 ⟨fun c => absurd c (by omega), fun _ => ⟨by omega, by omega, fun c => ?_, fun c => ?_⟩⟩
      · rw [toN, toN, (n2 i e2 h2).2.1, hek] at c
        rw [wr_n1 (by omega), Int.add_zero, wr_id (by unfold inI; omega)]
        rw [hc, if_neg (fun z => c (by rw [z]))] at hgo
        exact hgo
      · rw [toN, toN, (n2 i e2 h2).2.1, hek] at c
        rw [wr_n1 (by omega), wr_n1 (by omega)]
        rw [hc, if_pos (by omega)] at hgo
        exact hgo
  exact Cal.ofV (by decide) rfl (Nat.le_of_ble_eq_true rfl) (s_Md_numberOf (lp k 0 (Nat.zero_add _)))
theorem sp_findM {t : Nat} {E1 E2 : List En} (hD : 2 ≤ D) (hM : TxM T L m w) (hE : EnM m w E1 E2) (ht : t ≤ m) (h : ∀ w', Fnd w w' (fnd T L (E1 ++ E2) t) → K (.inl (some (vI (if (fnd T L (E1 ++ E2) t) = none then 0 else 1)))) w') : Cal g LM jMd_find D [vA 0, vI (t : Int)] w K := by
  obtain ⟨d, rfl⟩ : ∃ d, D = d + 1 := ⟨D - 1, by omega⟩
  have hE0 := hE
  obtain ⟨n1, n2, ⟨n, n3, n4, n5, n6⟩, n7, n8, n9⟩ := hE
  -- among the lets
  have lp2 : fnd T L E1 t = none → ∀ (f k : Nat), k + f = E2.length → fnd T L (E2.take k) t = none → V g LM jMd_find (d + 1) K 72 [(0, vA 0), (1, vI (t : Int)), (2, vI (k : Int))] [] w := by
    intro hno f
    induction f with
    | zero =>
      intro k hk hb
      rw [List.take_of_length_le (by omega)] at hb
      have hf : fnd T L (E1 ++ E2) t = none := by rw [fnd_app, hno]; exact hb
      have := h w ⟨fun _ _ => rfl, fun _ _ _ _ => rfl, fun e z => by rw [hf] at z; cases z⟩
      rw [if_pos hf] at this
      refine s_Md_find_72 ⟨fun _ => this, fun c => ?_⟩
      rw [n7] at c
      exact absurd (by omega) c
    | succ f ih =>
      intro k hk hb
      have hkl : k < E2.length := by omega
      obtain ⟨e, he⟩ : ∃ e, E2[k]? = some e := ⟨E2[k], List.getElem?_eq_some_iff.mpr ⟨hkl, rfl⟩⟩
      obtain ⟨q1, q2, q3, q4, q5⟩ := n9 k e he
      have hft := fnd_tk (t := t) he hb
      refine s_Md_find_72 ⟨fun c => ?_, fun _ => ⟨by omega, ?_⟩⟩
      · rw [n7] at c
        exact absurd c (by omega)
      · rw [toN, q3]
        refine sp_sameName hM q5 ht ⟨fun z => ?_, fun z => ⟨by omega, ?_⟩⟩
        · have hns : ¬ sameT T L e.1 t = true := fun y => by rw [if_pos y] at z; cases z
          rw [if_neg hns] at hft
          rw [wr_n1 (by omega)]
          exact ih (k + 1) (by omega) hft
        · have hns : sameT T L e.1 t = true := by
            by_cases y : sameT T L e.1 t = true
            · exact y
            · rw [if_neg y] at z; exact absurd rfl z
          rw [if_pos hns] at hft
          have hf : fnd T L (E1 ++ E2) t = some e := by rw [fnd_app, hno]; exact fnd_pre hft
          rw [q4]
          have := h (up (up (up w 0 51 4) 0 52 (k : Int)) 0 53 (kM e.2.2.2)) ⟨fun c hc => by rw [up_o hc, up_o hc, up_o hc], fun b p q r => by rw [up_k r, up_k q, up_k p], fun e' z' => by rw [hf] at z'; cases z'; exact ⟨by rw [up_k (by decide), up_k (by decide), up_s, q1]; rfl, by rw [up_k (by decide), up_s, q2], up_s _ _ _ _⟩⟩
          rw [hf] at this
          exact this
  have lp : ∀ (f k : Nat), k + f = n → fnd T L (E1.take k) t = none → V g LM jMd_find (d + 1) K 2 [(0, vA 0), (1, vI (t : Int)), (2, vI (k : Int))] [] w := by
    intro f
    induction f with
    | zero =>
      intro k hk hb
      rw [List.take_of_length_le (by omega)] at hb
      refine s_Md_find_2 ⟨fun _ => lp2 hb E2.length 0 (Nat.zero_add _) rfl, fun c => ?_⟩
      rw [n3] at c
      exact absurd (by omega) c
    | succ f ih =>
      intro k hk hb
      refine s_Md_find_2 ⟨fun c => ?_, fun _ => ⟨by omega, ?_⟩⟩
      · rw [n3] at c
        exact absurd c (by omega)
      rw [toN]
      by_cases hkl : k < E1.length
      · obtain ⟨e, he⟩ : ∃ e, E1[k]? = some e := ⟨E1[k], List.getElem?_eq_some_iff.mpr ⟨hkl, rfl⟩⟩
        obtain ⟨q1, q2, q3, q4, q5⟩ := n2 k e he
        have hft := fnd_tk (t := t) he hb
        refine ⟨fun c => absurd c q1, fun _ => ⟨by omega, ?_⟩⟩
        rw [q3]
        refine sp_sameName hM q5 ht ⟨fun z => ?_, fun z => ⟨by omega, ?_⟩⟩
        · have hns : ¬ sameT T L e.1 t = true := fun y => by rw [if_pos y] at z; cases z
          rw [if_neg hns] at hft
          rw [wr_n1 (by omega)]
          exact ih (k + 1) (by omega) hft
        · have hns : sameT T L e.1 t = true := by
            by_cases y : sameT T L e.1 t = true
            · exact y
            · rw [if_neg y] at z; exact absurd rfl z
          rw [if_pos hns] at hft
          have hf : fnd T L (E1 ++ E2) t = some e := by rw [fnd_app, fnd_pre hft]
          have hE5 : EnM m (up w 0 51 (w 10 k)) E1 E2 := ⟨n1, by simp only [up_o (show (36 : Nat) ≠ 0 by decide), up_o (show (10 : Nat) ≠ 0 by decide), up_o (show (11 : Nat) ≠ 0 by decide), up_o (show (12 : Nat) ≠ 0 by decide)]; exact n2, ⟨n, by rw [up_k (by decide)]; exact n3, n4, n5, by rw [up_o (by decide)]; exact n6⟩, by rw [up_k (by decide)]; exact n7, n8, by rw [up_o (by decide), up_o (by decide)]; exact n9⟩
          refine sp_numberM hE5 he ⟨by omega, ?_⟩
          rw [q2, up_o (show (12 : Nat) ≠ 0 by decide), q4]
          have := h (up (up (up w 0 51 (e.2.1 : Int)) 0 52 (e.2.2.1 : Int)) 0 53 (kM e.2.2.2)) ⟨fun c hc => by rw [up_o hc, up_o hc, up_o hc], fun b p q r => by rw [up_k r, up_k q, up_k p], fun e' z' => by rw [hf] at z'; cases z'; exact ⟨by rw [up_k (by decide), up_k (by decide), up_s], by rw [up_k (by decide), up_s], up_s _ _ _ _⟩⟩
          rw [hf] at this
          exact this
      · refine ⟨fun _ => ?_, fun c => absurd (n6 k (by omega) (by omega)) c⟩
        rw [wr_n1 (by omega)]
        exact ih (k + 1) (by omega) (by rw [List.take_of_length_le (by omega)] at hb ⊢; exact hb)
  exact Cal.ofV (by decide) rfl (Nat.le_of_ble_eq_true rfl) (s_Md_find (lp n 0 (Nat.zero_add _) rfl))
/-- the least blame so far -/
def KyM (w : Wd) (k : Nat) : Prop := (k = 100000 ∧ w 0 46 = 0) ∨ ∃ p f : Nat, k = p * 8 + f ∧ 1 ≤ f ∧ f < 8 ∧ p ≤ 4020 ∧ w 0 46 = (f : Int) ∧ w 0 47 = (p : Int)
theorem sp_blameM {t f k : Nat} (hD : 1 ≤ D) (hM : TxM T L m w) (ht : t ≤ m) (hf : 1 ≤ f ∧ f < 8) (hK : KyM w k) (h : ∀ w', (∀ c, c ≠ 0 → w' c = w c) → (∀ b, b ≠ 46 → b ≠ 47 → w' 0 b = w 0 b) → KyM w' (min k (tAt T L t * 8 + f)) → K (.inl none) w') : Cal g LM jMd_blame D [vA 0, vI (f : Int), vI (t : Int)] w K := by
  obtain ⟨d, rfl⟩ : ∃ d, D = d + 1 := ⟨D - 1, by omega⟩
  have hb := tk_bd (i := t) hM
  have hset : (min k (tAt T L t * 8 + f) = tAt T L t * 8 + f) → K (.inl none) (up (up w 0 46 (f : Int)) 0 47 ((tAt T L t : Nat) : Int)) := fun z => h _ (fun c hc => by rw [up_o hc, up_o hc]) (fun b p q => by rw [up_k q, up_k p]) (Or.inr ⟨tAt T L t, f, z, hf.1, hf.2, by omega, by rw [up_k (by decide), up_s], up_s _ _ _ _⟩)
  have hkeep : (min k (tAt T L t * 8 + f) = k) → K (.inl none) w := fun z => h w (fun _ _ => rfl) (fun _ _ _ => rfl) (by rw [z]; exact hK)
  refine Cal.ofV (by decide) rfl (Nat.le_of_ble_eq_true rfl) (s_Md_blame (sp_placeM hM ht ?_))
  rcases hK with ⟨z1, z2⟩ | ⟨p, f0, z1, z2, z3, z4, z5, z6⟩
  · rw [z2]
    exact ⟨fun _ => hset (by omega), fun z => absurd rfl z⟩
  · rw [z5, z6]
    exact ⟨fun z => absurd z (by omega), fun _ => ⟨fun _ => hset (by omega), fun _ => ⟨fun _ => hkeep (by omega), fun _ => ⟨fun _ => hkeep (by omega), fun _ => hset (by omega)⟩⟩⟩⟩
end ModelFind2
