/-! ===== the model: STEPS, ways, operands ===== -/
/-- told things and their ways -/
def wyD (D : DE) (so k : Nat) : Int := match D.find? (fun e => decide (e.1.2.1 = so ∧ e.1.2.2.1 = k)) with
  | some e => (if so = 1 then e.2 else e.2 - 35)
  | none => 0
def nthM (way : Int) : Int := if way = 1 then 2147483647 else if way = 2 then -2147483648 else if way = 4 then 1 else 0
def FMv (w w' : Wd) : Prop := Fx [0, 1] w w' ∧ ∀ b, b ≠ 87 → b ≠ 88 → w' 0 b = w 0 b
theorem FMv.rf (w : Wd) : FMv w w := ⟨Fx.rf _ w, fun _ _ _ => rfl⟩
theorem FMv.tr {a b c : Wd} (h1 : FMv a b) (h2 : FMv b c) : FMv a c := ⟨h1.1.tr h2.1, fun x p q => (h2.2 x p q).trans (h1.2 x p q)⟩
theorem FMv.cd {w w' : Wd} (h : FMv w w') (o : Nat) (ho : 2 ≤ o) : w' o = w o := h.1 o (by simp; omega)
/-- the model's world of a node -/
def XMd (T : Nat → Int) (L m : Nat) (X : Xv) (D : DE) (w : Wd) (v na : Nat) : Prop := TxM T L m w ∧ TD (kdT T L) w D ∧ NUM (D.map (fun e => e.1)) ∧ w 0 86 = (v : Int) ∧ v < 40 ∧ X 0 0 = (v : Int) ∧ w 0 66 = X 0 1 ∧ w 0 65 = X 0 2 ∧ w 0 59 = X 0 3 ∧ w 0 60 = (na : Int) ∧ na ≤ 120 ∧ X 0 6 = (na : Int) ∧ (∀ i, i < na → w 38 i = X 5 i ∧ w 39 i = X 6 i ∧ ∀ c, c < 4 → w 40 (4 * i + c) = X 4 (4 * i + c)) ∧ X 0 4 = ((fltA (X 5) (v : Int) na 0).length : Int) ∧ X 0 5 = ((fltA (X 6) (v : Int) na 0).length : Int) ∧ (∀ k, k < 4 → X 2 k = w 43 (4 * v + k)) ∧ (∀ k, k < cntE 2 (D.map (fun e => e.1)) → X 1 k = (if w 43 (4 * v + k) ≤ 0 then nthM (wyD D 2 k) else w 44 (4 * v + k))) ∧ (∀ k, k < cntE 3 (D.map (fun e => e.1)) → X 3 k = (if w 45 k ≤ 0 then nthM (wyD D 3 k) else w 46 k))
section MVal
variable {g : Mg} {d D_ m v na : Nat} {K : Ou → Wd → Prop} {w w' : Wd} {T : Nat → Int} {L : Nat} {X : Xv} {D : DE}
theorem XMd.fv (h : XMd T L m X D w v na) (hf : FMv w w') : XMd T L m X D w' v na := by
  obtain ⟨h1, h2, h3, h4, h5, h6, h7, h8, h9, h10, h11, h12, h13, h14, h15, h16, h17, h18⟩ := h
  have q : ∀ b, b ≠ 87 → b ≠ 88 → w' 0 b = w 0 b := hf.2
  refine ⟨h1.cg (fun o p _ => hf.cd o (by omega)), h2.cg (q 20 (by decide) (by decide)) (fun o p _ => hf.cd o (by omega)), h3, by rw [q 86 (by decide) (by decide)]; exact h4, h5, h6, by rw [q 66 (by decide) (by decide)]; exact h7, by rw [q 65 (by decide) (by decide)]; exact h8, by rw [q 59 (by decide) (by decide)]; exact h9, by rw [q 60 (by decide) (by decide)]; exact h10, h11, h12, ?_, h14, h15, ?_, ?_, ?_⟩
  · rw [hf.cd 38 (by decide), hf.cd 39 (by decide), hf.cd 40 (by decide)]; exact h13
  · rw [hf.cd 43 (by decide)]; exact h16
  · rw [hf.cd 43 (by decide), hf.cd 44 (by decide)]; exact h17
  · rw [hf.cd 45 (by decide), hf.cd 46 (by decide)]; exact h18
/-- step() -/
theorem sp_stepM {s sn tk : Nat} (hD : 2 ≤ D_) (hM : TxM T L m w) (h87 : w 0 87 = (s : Int)) (hs : s ≤ 1000) (h91 : w 0 91 = (sn : Int)) (hsn : sn < 130) (h18 : w 18 sn = (tk : Int)) (htk : tk ≤ m) (h : ∀ s1, stq (tAt T L tk) s = .ok s1 → ∀ w', FMv w w' → w' 0 87 = (s1 : Int) → w' 0 88 = w 0 88 → K (.inl none) w') (he : ∀ e, stq (tAt T L tk) s = .error e → ∀ w', FMv w w' → w' 1 0 = (e.1 : Int) → w' 1 1 = (e.2 : Int) → K (.inr 1) w') : Cal g LM jMd_step D_ [vA 0] w K := by
  obtain ⟨d, rfl⟩ : ∃ d, D_ = d + 1 := ⟨D_ - 1, by omega⟩
  refine Cal.ofV (by decide) rfl (Nat.le_of_ble_eq_true rfl) (s_Md_step ?_)
  rw [h87, wr_n1 (by omega)]
  have f1 : FMv w (up w 0 87 ((s + 1 : Nat) : Int)) := ⟨(Fx.rf _ w).up (by decide), fun b p _ => up_k p⟩
  refine ⟨fun z => h (s + 1) (by unfold stq; rw [if_neg (by omega)]) _ f1 (up_s _ _ _ _) (up_k (by decide)), fun z => ?_⟩
  rw [h91, toN, h18]
  have hM1 : TxM T L m (up w 0 87 ((s + 1 : Nat) : Int)) := hM.cg (fun o p _ => up_o (by omega))
  exact ⟨by omega, sp_placeM hM1 htk (sp_fail (f := 3) (he (3, tAt T L tk) (by unfold stq; rw [if_pos (by omega)]) _ (f1.tr ⟨((Fx.rf _ _).up (by decide)).up (by decide), fun b _ _ => by rw [up_o (by decide), up_o (by decide)]⟩) (by rw [up_k (by decide), up_s]) (up_s _ _ _ _)))⟩
theorem sp_nothM {x : Int} (h : K (.inl (some (vI (nthM x)))) w) : Cal g LM jMd_nothing D_ [vI x] w K := by
  unfold nthM at h
  refine Cal.ofV (by decide) rfl (Nat.le_of_ble_eq_true rfl) (s_Md_nothing ⟨fun z => ⟨fun z2 => ⟨fun z3 => ?_, fun z3 => ?_⟩, fun z2 => ?_⟩, fun z => ?_⟩)
  · rw [if_neg z, if_neg z2, if_neg z3] at h; exact h
  · rw [if_neg z, if_neg z2, if_pos z3] at h; exact h
  · rw [if_neg z, if_pos z2] at h; exact h
  · rw [if_pos z] at h; exact h
/-- numberOf(k), whatever is marked -/
theorem sp_numM {k : Nat} {e : En × Int} (hT : TD (kdT T L) w D) (hN : NUM (D.map (fun e => e.1))) (he : D[k]? = some e) (h : K (.inl (some (vI (e.1.2.2.1 : Int)))) w) : Cal g LM jMd_numberOf D_ [vA 0, vI (k : Int)] w K := by
  have hlen := hT.len
  have hkl : k < D.length := (List.getElem?_eq_some_iff.mp he).1
  have hek : w 10 k = (e.1.2.1 : Int) := (hT.2.2.2 k e he).1
  have he1 : (D.map (fun e => e.1))[k]? = some e.1 := by rw [List.getElem?_map, he]; rfl
  rw [hN k e.1 he1] at h
  have lp : ∀ (f i : Nat), i + f = k → V g LM jMd_numberOf D_ K 4 [(0, vA 0), (1, vI (k : Int)), (2, vI ((cntE e.1.2.1 ((D.map (fun e => e.1)).take i) : Nat) : Int)), (3, vI (i : Int))] [] w := by
    intro f
    induction f with
    | zero =>
      intro i hi
      rw [Nat.add_zero] at hi
      subst hi
      exact s_Md_numberOf_4 ⟨fun _ => h, fun c => absurd (Int.le_refl _) c⟩
    | succ f ih =>
      intro i hi
      have hil : i < D.length := by omega
      obtain ⟨e2, h2⟩ : ∃ e2, D[i]? = some e2 := ⟨D[i], List.getElem?_eq_some_iff.mpr ⟨hil, rfl⟩⟩
      have h2' : (D.map (fun e => e.1))[i]? = some e2.1 := by rw [List.getElem?_map, h2]; rfl
      have hc := cnt_take (s := e.1.2.1) h2'
      have hl := cnt_len e.1.2.1 ((D.map (fun e => e.1)).take i)
      rw [List.length_take, List.length_map] at hl
      have hl2 : cntE e.1.2.1 ((D.map (fun e => e.1)).take i) ≤ 28 := by omega
      have hgo := ih (i + 1) (by omega)
      have h10 : w 10 i = (e2.1.2.1 : Int) := (hT.2.2.2 i e2 h2).1
      refine s_Md_numberOf_4 ⟨fun c => absurd c (by omega), fun _ => ⟨by omega, by omega, fun c => ?_, fun c => ?_⟩⟩
      · rw [toN, toN, h10, hek] at c
        rw [wr_n1 (by omega), Int.add_zero, wr_id (by unfold inI; omega)]
        rw [hc, if_neg (fun z => c (by rw [z]))] at hgo
        exact hgo
      · rw [toN, toN, h10, hek] at c
        rw [wr_n1 (by omega), wr_n1 (by omega)]
        rw [hc, if_pos (by omega)] at hgo
        exact hgo
  exact Cal.ofV (by decide) rfl (Nat.le_of_ble_eq_true rfl) (s_Md_numberOf (lp k 0 (Nat.zero_add _)))
theorem cnt_ex {so k : Nat} : ∀ (E : List En), k < cntE so E → ∃ i e, E[i]? = some e ∧ e.2.1 = so ∧ cntE so (E.take i) = k
  | [], h => by simp [cntE] at h
  | a :: E, h => by
    rw [show cntE so (a :: E) = (if a.2.1 = so then 1 else 0) + cntE so E from by rw [cntE]; exact Nat.add_comm _ _] at h
    by_cases ha : a.2.1 = so
    · rw [if_pos ha] at h
      cases k with
      | zero => exact ⟨0, a, rfl, ha, rfl⟩
      | succ k =>
        obtain ⟨i, e, h1, h2, h3⟩ := cnt_ex (so := so) (k := k) E (by omega)
        refine ⟨i + 1, e, h1, h2, ?_⟩
        rw [List.take_succ_cons, show cntE so (a :: E.take i) = (if a.2.1 = so then 1 else 0) + cntE so (E.take i) from by rw [cntE]; exact Nat.add_comm _ _, if_pos ha, h3]
        omega
    · rw [if_neg ha] at h
      obtain ⟨i, e, h1, h2, h3⟩ := cnt_ex (so := so) (k := k) E (by omega)
      refine ⟨i + 1, e, h1, h2, ?_⟩
      rw [List.take_succ_cons, show cntE so (a :: E.take i) = (if a.2.1 = so then 1 else 0) + cntE so (E.take i) from by rw [cntE]; exact Nat.add_comm _ _, if_neg ha, h3]
      omega
/-- wayOf -/
theorem sp_wayM {so k : Nat} (hD : 2 ≤ D_) (hso : 1 ≤ so ∧ so ≤ 3) (hT : TD (kdT T L) w D) (hN : NUM (D.map (fun e => e.1))) (hk : k < cntE so (D.map (fun e => e.1))) (h : K (.inl (some (vI (wyD D so k)))) w) : Cal g LM jMd_wayOf D_ [vA 0, vI (so : Int), vI (k : Int)] w K := by
  obtain ⟨d, rfl⟩ : ∃ d, D_ = d + 2 := ⟨D_ - 2, by omega⟩
  have hlen := hT.len
  have lp : ∀ (f i : Nat), i + f = D.length → (D.take i).find? (fun e => decide (e.1.2.1 = so ∧ e.1.2.2.1 = k)) = none → V g LM jMd_toldOf (d + 1) (fun o w1 => rIt o (fun b => K (.inr b) w1) (fun x2 => (0 ≤ x2 ∧ x2 < 30) ∧ (K (.inl (some (vI (w1 13 x2.toNat)))) w1))) 2 [(0, vA 0), (1, vI (so : Int)), (2, vI (k : Int)), (3, vI (i : Int))] [] w := by
    intro f
    induction f with
    | zero =>
      intro i hi hno
      exfalso
      obtain ⟨i0, e0, h1, h2, h3⟩ := cnt_ex _ hk
      have hn := hN i0 e0 h1
      rw [h2, h3] at hn
      rw [List.getElem?_map] at h1
      cases hd : D[i0]? with
      | none => rw [hd] at h1; cases h1
      | some x =>
        rw [hd] at h1
        have hx : x.1 = e0 := Option.some.inj h1
        rw [List.take_of_length_le (by omega), List.find?_eq_none] at hno
        have := hno x (List.mem_of_getElem? hd)
        rw [hx] at this
        simp [h2, hn] at this
    | succ f ih =>
      intro i hi hno
      have hil : i < D.length := by omega
      obtain ⟨e, he⟩ : ∃ e, D[i]? = some e := ⟨D[i], List.getElem?_eq_some_iff.mpr ⟨hil, rfl⟩⟩
      obtain ⟨t10, t11, t12, t13, t13', -⟩ := hT.2.2.2 i e he
      have t10 : w 10 i = (e.1.2.1 : Int) := t10
      have hft : (D.take (i + 1)).find? (fun e => decide (e.1.2.1 = so ∧ e.1.2.2.1 = k)) = (if e.1.2.1 = so ∧ e.1.2.2.1 = k then some e else none) := by
        rw [List.take_succ, he, List.find?_append, hno, Option.none_or]
        show (List.find? _ [e]) = _
        by_cases hq : e.1.2.1 = so ∧ e.1.2.2.1 = k
        · rw [if_pos hq]; simp [List.find?, hq]
        · rw [if_neg hq]; simp [List.find?, hq]
      refine s_Md_toldOf_2 ⟨fun z => ?_, fun _ => ⟨by omega, ?_⟩⟩
      · rw [hT.1] at z; omega
      rw [toN, t10]
      refine ⟨fun z => ?_, fun z => sp_numM hT hN he ⟨fun z2 => ?_, fun z2 => ⟨by omega, ?_⟩⟩⟩
      · rw [wr_n1 (by omega)]
        exact ih (i + 1) (by omega) (by rw [hft, if_neg (by omega)])
      · rw [wr_n1 (by omega)]
        exact ih (i + 1) (by omega) (by rw [hft, if_neg (by omega)])
      · have hq : e.1.2.1 = so ∧ e.1.2.2.1 = k := by omega
        have hfind : D.find? (fun e => decide (e.1.2.1 = so ∧ e.1.2.2.1 = k)) = some e := by
          have hsp : D = D.take (i + 1) ++ D.drop (i + 1) := (List.take_append_drop _ _).symm
          rw [hsp, List.find?_append, hft, if_pos hq]; rfl
        have hw : wyD D so k = w 13 i := by
          unfold wyD
          rw [hfind]
          show (if so = 1 then e.2 else e.2 - 35) = w 13 i
          by_cases h1 : so = 1
          · rw [if_pos h1]; exact (t13 (by omega)).symm
          · rw [if_neg h1]; exact (t13' (by omega)).symm
        rw [toN, ← hw]
        exact h
  exact Cal.ofV (by decide) rfl (Nat.le_of_ble_eq_true rfl) (s_Md_wayOf (Cal.ofV (by decide) rfl (Nat.le_of_ble_eq_true rfl) (s_Md_toldOf (lp D.length 0 (by omega) rfl))))
end MVal
