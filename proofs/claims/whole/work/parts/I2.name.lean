/-! ===== name ===== -/
/-- the NAME at a TOKEN has just the bytes of the tape -/
def nmB (T : Nat → Int) (L : Nat) (S : Nat → Int) (t a : Nat) : Prop := sameB T (tAt T L a) (tSz T L a) S 0 t
theorem nmB_cg {T S S' : Nat → Int} {L t a : Nat} (h : ∀ i, i < t → S' i = S i) : nmB T L S' t a ↔ nmB T L S t a := by
  unfold nmB sameB
  refine ⟨fun ⟨x, y⟩ => ⟨x, fun q hq => ?_⟩, fun ⟨x, y⟩ => ⟨x, fun q hq => ?_⟩⟩
  · rw [y q hq, Nat.zero_add, h q (by omega)]
  · rw [y q hq, Nat.zero_add, h q (by omega)]
theorem kyT_none {T : Nat → Int} {L : Nat} {E : List En} (hA : ∀ e ∈ E, tAt T L e.1 ≤ 4000) : ∀ n, kyT T L E n = 100000 → ∀ k e, k < n → E[k]? = some e → fnd T L (E.take k) e.1 = none
  | 0, _, k, e, hk, _ => by omega
  | n + 1, h, k, e, hk, he => by
    rw [kyT] at h
    have hle : kyT T L E n ≤ 100000 := by
      have : ∀ n, kyT T L E n ≤ 100000 := by
        intro n
        induction n with
        | zero => exact Nat.le_refl _
        | succ n ih => rw [kyT]; omega
      exact this n
    by_cases z : k = n
    · subst z
      rw [he] at h
      have h : min (kyT T L E k) (if fnd T L (E.take k) e.1 = none then 100000 else tAt T L e.1 * 8 + 3) = 100000 := h
      by_cases y : fnd T L (E.take k) e.1 = none
      · exact y
      · rw [if_neg y] at h
        have := hA e (List.mem_of_getElem? he)
        omega
    · exact kyT_none hA n (by omega) k e (by omega) he
theorem fnd_none {T : Nat → Int} {L t : Nat} : ∀ (E : List En), fnd T L E t = none → ∀ e ∈ E, ¬ sameT T L e.1 t = true
  | [], _, e, he => by cases he
  | a :: E, h, e, he => by
    rw [fnd] at h
    by_cases z : sameT T L a.1 t = true
    · rw [if_pos z] at h; cases h
    · rw [if_neg z] at h
      rcases List.mem_cons.mp he with q | q
      · rw [q]; exact z
      · exact fnd_none E h e q
/-- one NAME at most has these bytes -/
theorem nm_one {T S : Nat → Int} {L t : Nat} {E : List En} (hA : ∀ e ∈ E, tAt T L e.1 ≤ 4000) (hk : kyT T L E E.length = 100000) {i j : Nat} {e f : En} (hi : E[i]? = some e) (hj : E[j]? = some f) (he : nmB T L S t e.1) (hf : nmB T L S t f.1) (hij : i < j) : False := by
  have hjl : j < E.length := (List.getElem?_eq_some_iff.mp hj).1
  have := kyT_none hA _ hk j f hjl hj
  have hm : e ∈ E.take j := by
    refine List.mem_of_getElem? (i := i) ?_
    rw [List.getElem?_take, if_pos hij]
    exact hi
  refine fnd_none _ this e hm (sameT_iff.mpr ?_)
  obtain ⟨a1, a2⟩ := he
  obtain ⟨b1, b2⟩ := hf
  exact ⟨by rw [a1, b1], fun q hq => by rw [a2 q hq, b2 q (by omega)]⟩
section Name
variable {g gm : Mg} {d : Nat} {K : Ou → Wd → Prop} {w wc wm : Wd} {T : Nat → Int} {L m : Nat} {D : DE}
theorem sp_findBytes {E : List En} {t : Nat} (hd : 1 ≤ d) (hX : TxC T L w) (hE : EC T L w E) (hlen : E.length ≤ 28) (ht : t ≤ 4000) (hno : (∀ (k : Nat) (e : En), E[k]? = some e → ¬ nmB T L (w 1) t e.1) → K (.inl (some (vI (-1)))) w) (hyes : ∀ (k : Nat) (e : En), E[k]? = some e → nmB T L (w 1) t e.1 → K (.inl (some (vI (k : Int)))) w) : Cal g LC jLo_findBytes d [vA 13, vA 1, vI (t : Int)] w K := by
  obtain ⟨d, rfl⟩ : ∃ d', d = d' + 1 := ⟨d - 1, by omega⟩
  obtain ⟨e1, e2⟩ := hE
  have lp : ∀ (f k : Nat), k + f = E.length → (∀ (i : Nat) (e : En), i < k → E[i]? = some e → ¬ nmB T L (w 1) t e.1) → V g LC jLo_findBytes (d + 1) K 2 [(0, vA 13), (1, vA 1), (2, vI (t : Int)), (3, vI (k : Int))] [] w := by
    intro f
    induction f with
    | zero =>
      intro k hk hn
      have : k = E.length := by omega
      subst this
      refine s_Lo_findBytes_2 ⟨fun _ => hno (fun i e hi => hn i e (List.getElem?_eq_some_iff.mp hi).1 hi), fun z => absurd (by rw [e1]; exact Int.le_refl _) z⟩
    | succ f ih =>
      intro k hk hn
      have hkl : k < E.length := by omega
      obtain ⟨e, he⟩ : ∃ e, E[k]? = some e := ⟨E[k], List.getElem?_eq_some_iff.mpr ⟨hkl, rfl⟩⟩
      obtain ⟨r1, -, -, -, r5, r6⟩ := e2 k e he
      obtain ⟨s1, s2, -⟩ := hX.sz r5
      obtain ⟨f0, e0, y1, y2, y3, y4⟩ := hX.fe (Nat.le_of_lt r5)
      have hf0 : f0 = tAt T L e.1 := by have := y1.symm.trans s1; omega
      have he0 : e0 = tAt T L e.1 + tSz T L e.1 := by have := y2.symm.trans s2; omega
      have hsz : e0 - f0 = tSz T L e.1 := by omega
      refine s_Lo_findBytes_2 ⟨fun z => absurd z (by rw [e1]; omega), fun _ => ⟨by omega, ?_⟩⟩
      rw [toN, r1]
      refine sp_readsT (t := e.1) (f := f0) (e := e0) (by omega) y1 y2 y3 y4 ht (fun z => ⟨fun q => absurd q (by decide), fun _ => ?_⟩) (fun z => ⟨fun _ => ?_, fun q => absurd rfl q⟩)
      · refine hyes k e he ?_
        rw [hsz, hf0, hX.2.2.2.1] at z
        exact z
      · rw [wr_n1 (by omega)]
        refine ih (k + 1) (by omega) (fun i e' hi he' => ?_)
        by_cases q : i = k
        · subst q
          rw [he] at he'
          have : e = e' := Option.some.inj he'
          subst this
          rw [hsz, hf0, hX.2.2.2.1] at z
          exact z
        · exact hn i e' (by omega) he'
  exact Cal.ofV (by decide) rfl (Nat.le_of_ble_eq_true rfl) (s_Lo_findBytes (lp E.length 0 (by omega) (fun i e hi => by omega)))
/-- the model's answer so far -/
def nmA (T : Nat → Int) (L : Nat) (S : Nat → Int) (t : Nat) (D : DE) : Nat → Int → Prop := fun k x => (x = -2 ∧ ∀ i e, i < k → D[i]? = some e → ¬ nmB T L S t e.1.1) ∨ ∃ i e, i < k ∧ D[i]? = some e ∧ nmB T L S t e.1.1 ∧ x = wr (wr (100 * (e.1.2.1 : Int)) + (e.1.2.2.1 : Int))
theorem name_loop {t : Nat} (hM : TxM T L m w) (hT : TD (kdT T L) w D) (hN : NUM (enD D)) (hm : ∀ e ∈ D, e.1.1 ≤ m) (hsz : ∀ e ∈ D, tAt T L e.1.1 + tSz T L e.1.1 ≤ 4000) (h3 : w 0 3 = (t : Int)) (ht : t ≤ 4000) (h : ∀ x, nmA T L (w 2) t D D.length x → K (.inl (some (vI x))) (up w 0 3 0)) : ∀ (f k : Nat) (x : Int), k + f = D.length → nmA T L (w 2) t D k x → V gm LM jMd_name (d + 1) K 19 [(0, vA 0), (1, vI x), (2, vI (k : Int))] [] w := by
  have hlen := hT.len
  obtain ⟨k1, k2, k3, k4, k5, k6⟩ := hM
  intro f
  induction f with
  | zero =>
    intro k x hk hx
    have : k = D.length := by omega
    subst this
    exact s_Md_name_19 ⟨fun _ => h x hx, fun z => absurd (by rw [hT.1]; exact Int.le_refl _) z⟩
  | succ f ih =>
    intro k x hk hx
    have hkl : k < D.length := by omega
    obtain ⟨e, he⟩ : ∃ e, D[k]? = some e := ⟨D[k], List.getElem?_eq_some_iff.mpr ⟨hkl, rfl⟩⟩
    have hem : e ∈ D := List.mem_of_getElem? he
    obtain ⟨t10, t11, -⟩ := hT.2.2.2 k e he
    have t10 : w 10 k = (e.1.2.1 : Int) := t10
    have t11 : w 11 k = (e.1.1 : Int) := t11
    have hme := hm e hem
    have hse := hsz e hem
    obtain ⟨-, m5, m6, -⟩ := k1 e.1.1 (by omega)
    have no : ¬ nmB T L (w 2) t e.1.1 → V gm LM jMd_name (d + 1) K 19 [(0, vA 0), (1, vI x), (2, vI (wr ((k : Int) + 1)))] [] w := by
      intro z
      rw [wr_n1 (by omega)]
      refine ih (k + 1) x (by omega) ?_
      rcases hx with ⟨x1, x2⟩ | ⟨i, e', i1, i2, i3, i4⟩
      · refine Or.inl ⟨x1, fun i e' hi he' => ?_⟩
        by_cases q : i = k
        · subst q
          rw [he] at he'
          have : e = e' := Option.some.inj he'
          subst this
          exact z
        · exact x2 i e' (by omega) he'
      · exact Or.inr ⟨i, e', by omega, i2, i3, i4⟩
    have yes : nmB T L (w 2) t e.1.1 → (0 ≤ (k : Int) ∧ (k : Int) < 30) ∧ Cal gm LM jMd_numberOf d [vA 0, vI (k : Int)] w (fun o w1 => rIt o (fun b => K (.inr b) w1) (fun x2 => V gm LM jMd_name (d + 1) K 19 [(0, vA 0), (1, vI (wr ((wr (100 * (w 10 (k : Int).toNat))) + x2))), (2, vI (wr ((k : Int) + 1)))] [] w1)) := by
      intro z
      refine ⟨by omega, sp_numM hT hN he ?_⟩
      show V gm LM jMd_name (d + 1) K 19 _ [] w
      rw [toN, t10, wr_n1 (by omega)]
      exact ih (k + 1) _ (by omega) (Or.inr ⟨k, e, by omega, he, z, rfl⟩)
    have bad : ∀ q : Nat, ¬ nmB T L (w 2) t e.1.1 → V gm LM jMd_name (d + 1) K 54 [(0, vA 0), (1, vI x), (2, vI (k : Int)), (3, vI 0), (4, vI (q : Int))] [] w := fun q z => s_Md_name_54 ⟨fun _ => ⟨fun _ => no z, fun y => absurd rfl y⟩, fun _ => ⟨fun _ => ⟨fun _ => no z, fun y => absurd rfl y⟩, fun y => absurd rfl y⟩⟩
    have lp : tSz T L e.1.1 = t → ∀ (f q : Nat), q + f = t → (∀ i, i < q → T (tAt T L e.1.1 + i) = w 2 (0 + i)) → V gm LM jMd_name (d + 1) K 54 [(0, vA 0), (1, vI x), (2, vI (k : Int)), (3, vI 1), (4, vI (q : Int))] [] w := by
      intro hst f
      induction f with
      | zero =>
        intro q hq hs
        have : q = t := by omega
        subst this
        exact s_Md_name_54 ⟨fun _ => ⟨fun y => absurd y (by decide), fun _ => yes ⟨hst, fun i hi => hs i (by omega)⟩⟩, fun z => absurd (by rw [h3]; exact Int.le_refl _) z⟩
      | succ f ihf =>
        intro q hq hs
        refine s_Md_name_54 ⟨fun z => absurd z (by rw [h3]; omega), fun _ => ⟨fun y => absurd y (by decide), fun _ => ?_⟩⟩
        rw [toN k, t11, toN e.1.1, m5, wr_a (by omega), toN q, toN, wr_n1 (by omega), k5]
        refine ⟨by omega, by omega, by omega, by omega, fun z => bad (q + 1) (fun y => ?_), fun z => ihf (q + 1) (by omega) (fun i hi => ?_)⟩
        · have := y.2 q (by omega)
          rw [Nat.zero_add] at this
          exact z this.symm
        · by_cases y : i = q
          · subst y
            rw [Nat.zero_add]; exact z.symm
          · exact hs i (by omega)
    refine s_Md_name_19 ⟨fun z => absurd z (by rw [hT.1]; omega), fun _ => ⟨by omega, ?_⟩⟩
    rw [toN k, t11, toN e.1.1, m6, h3]
    refine ⟨by omega, fun z => bad 0 (fun y => z ?_), fun z => lp ?_ t 0 (by omega) (fun i hi => by omega)⟩
    · have := y.1
      omega
    · omega
theorem b_name (hd : 4 ≤ d) (hI : Inv wc wm) (h : ∀ x wc', Bo jMd_name [vA 0] wm wc' x → K (.inl (some (vI x))) wc') : Cal g LC jVL_name d [vA 0] wc K := by
  obtain ⟨d, rfl⟩ : ∃ d', d = d' + 1 := ⟨d - 1, by omega⟩
  obtain ⟨⟨⟨t, t1, t2, t3, t4⟩, -⟩, n, na, -, hP⟩ := id hI
  rcases hP with ⟨⟨b1, b2, b3⟩, -⟩ | ⟨T, L, m, D, a0, a1, s1, l1, hG, -⟩
  · refine Cal.ofV (by decide) rfl (Nat.le_of_ble_eq_true rfl) (s_VL_name ⟨fun z => absurd b1 z, fun _ => h _ _ (Bo.same hI (fun gm dM Kx hdM hK => ?_))⟩)
    obtain ⟨dM, rfl⟩ : ∃ d', dM = d' + 1 := ⟨dM - 1, by omega⟩
    exact Cal.ofV (by decide) rfl (Nat.le_of_ble_eq_true rfl) (s_Md_name ⟨fun z => absurd b2 z, fun _ => hK⟩)
  · obtain ⟨d1, d2, d3, d4, d5, d6, d7, d9, d10, d11, d12, d13, d14⟩ := hG
    have hlen : (enD D).length ≤ 28 := by rw [List.length_map]; exact d2.2.1.len
    have hA : ∀ e ∈ enD D, tAt T L e.1 + tSz T L e.1 ≤ 4000 := by
      intro e he
      obtain ⟨k, hk⟩ := List.getElem?_of_mem he
      obtain ⟨r1, -, -, -, r5, r6⟩ := d10.2 k e hk
      obtain ⟨s1, s2, -⟩ := d9.sz r5
      obtain ⟨f0, e0, y1, y2, y3, y4⟩ := d9.fe (Nat.le_of_lt r5)
      have := y2.symm.trans s2
      omega
    have hA' : ∀ e ∈ enD D, tAt T L e.1 ≤ 4000 := fun e he => by have := hA e he; omega
    have hD : ∀ (k : Nat) (e : En × Int), D[k]? = some e → (enD D)[k]? = some e.1 := fun k e he => by rw [List.getElem?_map, he]; rfl
    -- the model, whatever the class found
    have md : ∀ x, ((∀ (k : Nat) (e : En), (enD D)[k]? = some e → ¬ nmB T L (wc 1) t e.1) → x = -2) → (∀ (k : Nat) (e : En), (enD D)[k]? = some e → nmB T L (wc 1) t e.1 → x = wr (wr (100 * (e.2.1 : Int)) + (e.2.2.1 : Int))) → K (.inl (some (vI x))) (up wc 0 1 0) := by
      intro x hx1 hx2
      refine h x _ (fun gm dM Kx hdM hK => ?_)
      obtain ⟨dM, rfl⟩ : ∃ d', dM = d' + 1 := ⟨dM - 1, by omega⟩
      have cg : ∀ a, nmB T L (up wm 0 0 0 2) t a ↔ nmB T L (wc 1) t a := fun a => by rw [up_o (by decide)]; exact nmB_cg (fun i hi => (t4 i hi).symm)
      refine Cal.ofV (by decide) rfl (Nat.le_of_ble_eq_true rfl) (s_Md_name ⟨fun _ => name_loop (t := t) (w := up wm 0 0 0) (T := T) (L := L) (m := m) (D := D) (d2.1.cg (fun o p _ => up_o (by omega))) (d2.2.1.cg (up_k (by decide)) (fun o p _ => up_o (by omega))) d1.2.1.2.2 d14 (fun e he => hA e.1 (List.mem_map.mpr ⟨e, he, rfl⟩)) (by rw [up_k (by decide)]; exact t3) t1 (fun y hy => ?_) D.length 0 (-2) (by omega) (Or.inl ⟨rfl, fun i e hi => by omega⟩), fun z => absurd z (by rw [d4]; decide)⟩)
      have hxy : y = x := by
        rcases hy with ⟨y1, y2⟩ | ⟨i, e, i1, i2, i3, i4⟩
        · rw [y1, hx1 (fun k e he hn => ?_)]
          rw [List.getElem?_map] at he
          cases hd : D[k]? with
          | none => rw [hd] at he; cases he
          | some q =>
            rw [hd] at he
            have : q.1 = e := Option.some.inj he
            subst this
            exact y2 k q (List.getElem?_eq_some_iff.mp hd).1 hd ((cg _).mpr hn)
        · rw [i4, hx2 i e.1 (hD i e i2) ((cg _).mp i3)]
      subst hxy
      refine hK _ (inv_tape hI (fun o ho => up_o (by omega)) (fun o h0 h2 => by rw [up_o h0, up_o h0]) (fun b h0 h3 => by rw [up_k h3, up_k h0]) ⟨0, by decide, up_s _ _ _ _, up_s _ _ _ _, fun i hi => by omega⟩)
    have n8 : ¬ wc 8 2 = 0 := by rw [d3]; decide
    refine Cal.ofV (by decide) rfl (Nat.le_of_ble_eq_true rfl) (s_VL_name ⟨fun _ => ?_, fun z => absurd z n8⟩)
    rw [t2]
    refine sp_findBytes (T := T) (L := L) (E := enD D) (by omega) d9 d10 hlen t1 (fun hn => ⟨fun z => absurd z (by decide), fun _ => md _ (fun _ => rfl) (fun k e he hy => absurd hy (hn k e he))⟩) (fun k e he hy => ⟨fun _ => ?_, fun z => absurd (by omega) z⟩)
    have hkl : k < (enD D).length := (List.getElem?_eq_some_iff.mp he).1
    obtain ⟨r1, r2, r3, -⟩ := d10.2 k e he
    have e136 : up wc 0 1 0 13 6 = ((enD D).length : Int) := by rw [up_o (by decide)]; exact d10.1
    refine Cal.ofV (by decide) rfl (Nat.le_of_ble_eq_true rfl) (s_Lo_sortOf ⟨fun z => absurd z (by omega), fun _ => ⟨fun _ => ⟨by omega, ?_⟩, fun z => absurd (by rw [e136]; omega) z⟩⟩)
    refine Cal.ofV (by decide) rfl (Nat.le_of_ble_eq_true rfl) (s_Lo_numberOf ⟨fun z => absurd z (by omega), fun _ => ⟨fun _ => ⟨by omega, ?_⟩, fun z => absurd (by rw [e136]; omega) z⟩⟩)
    show K (.inl (some (vI (wr (wr (100 * up wc 0 1 0 15 (k : Int).toNat) + up wc 0 1 0 16 (k : Int).toNat))))) (up wc 0 1 0)
    rw [toN, up_o (by decide), up_o (by decide), r2, r3]
    refine md _ (fun hn => absurd hy (hn k e he)) (fun k' e' he' hy' => ?_)
    have : k' = k := by
      rcases Nat.lt_trichotomy k' k with z | z | z
      · exact (nm_one hA' d11 he' he hy' hy z).elim
      · exact z
      · exact (nm_one hA' d11 he he' hy hy' z).elim
    subst this
    rw [he] at he'
    have : e = e' := Option.some.inj he'
    subst this
    rfl
end Name
