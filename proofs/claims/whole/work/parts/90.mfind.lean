/-! ===== the model judges: NAMES, blame ===== -/
def kM (k : Nat) : Int := if k = 0 then 2 else (k : Int) - 1
/-- numbers count what is before of the same sort -/
def NUM (E : List En) : Prop := ∀ k e, E[k]? = some e → e.2.2.1 = cntE e.2.1 (E.take k)
/-- the NAMES that the model knows: told ones that are marked, then lets -/
def EnM (m : Nat) (w : Wd) (E1 E2 : List En) : Prop := NUM E1 ∧ (∀ k e, E1[k]? = some e → w 36 k ≠ 0 ∧ w 10 k = (e.2.1 : Int) ∧ w 11 k = (e.1 : Int) ∧ w 12 k = kM e.2.2.2 ∧ e.1 ≤ m) ∧ (∃ n : Nat, w 0 20 = (n : Int) ∧ n ≤ 28 ∧ E1.length ≤ n ∧ ∀ k, E1.length ≤ k → k < n → w 36 k = 0) ∧ w 0 50 = (E2.length : Int) ∧ E2.length ≤ 100 ∧ ∀ k e, E2[k]? = some e → e.2.1 = 4 ∧ e.2.2.1 = k ∧ w 34 k = (e.1 : Int) ∧ w 35 k = kM e.2.2.2 ∧ e.1 ≤ m
/-- what find leaves -/
def Fnd (w w' : Wd) (o : Option En) : Prop := (∀ c, c ≠ 0 → w' c = w c) ∧ (∀ b, b ≠ 51 → b ≠ 52 → b ≠ 53 → w' 0 b = w 0 b) ∧ ∀ e, o = some e → w' 0 51 = (e.2.1 : Int) ∧ w' 0 52 = (e.2.2.1 : Int) ∧ w' 0 53 = kM e.2.2.2
theorem fnd_app {T : Nat → Int} {L : Nat} {t : Nat} : ∀ (E F : List En), fnd T L (E ++ F) t = (match fnd T L E t with | some e => some e | none => fnd T L F t)
  | [], F => rfl
  | e :: E, F => by
    show (if sameT T L e.1 t = true then some e else fnd T L (E ++ F) t) = (match (if sameT T L e.1 t = true then some e else fnd T L E t) with | some e => some e | none => fnd T L F t)
    by_cases h : sameT T L e.1 t = true
    · rw [if_pos h, if_pos h]
    · rw [if_neg h, if_neg h]; exact fnd_app E F
theorem fnd_tk {T : Nat → Int} {L : Nat} {t k : Nat} {E : List En} {e : En} (he : E[k]? = some e) (hb : fnd T L (E.take k) t = none) : fnd T L (E.take (k + 1)) t = if sameT T L e.1 t = true then some e else none := by
  rw [List.take_succ, he, fnd_app, hb]
  show fnd T L [e] t = _
  rfl
theorem fnd_pre {T : Nat → Int} {L : Nat} {t k : Nat} {E : List En} {e : En} (h : fnd T L (E.take k) t = some e) : fnd T L E t = some e := by
  have : E = E.take k ++ E.drop k := (List.take_append_drop k E).symm
  rw [this, fnd_app, h]
theorem cnt_take {s k : Nat} {E : List En} {e : En} (h : E[k]? = some e) : cntE s (E.take (k + 1)) = cntE s (E.take k) + (if e.2.1 = s then 1 else 0) := by
  rw [List.take_succ, h]
  exact cnt_app s _ e
theorem cnt_len (s : Nat) : ∀ E : List En, cntE s E ≤ E.length
  | [] => Nat.le_refl _
  | e :: E => by
    have := cnt_len s E
    simp only [cntE, List.length_cons]
    split <;> omega
section ModelFind
variable {g : Mg} {d D : Nat} {K : Ou → Wd → Prop} {w w' : Wd} {T : Nat → Int} {L m : Nat}
theorem tk_bd {i : Nat} (hM : TxM T L m w) : tAt T L i + tSz T L i ≤ 4020 := by
  have hL4 := hM.2.2.2.2.2
  unfold tSz
  have := tAt_le T L i
  split
  · rename_i hlt
    have := tEn_gt (T := T) hlt
    omega
  · omega
theorem ar1 {j f sa A : Nat} (hj : j + (f + 1) = sa) (ba : A + sa ≤ 4020) : (0 : Int) ≤ ((A + j : Nat) : Int) ∧ ((A + j : Nat) : Int) < 4020 := by omega
theorem ar2 {j f sa A : Nat} (hj : j + (f + 1) = sa) (ba : A + sa ≤ 4020) : wr ((A : Int) + (j : Int)) = ((A + j : Nat) : Int) := wrN (by omega) (by omega)
theorem ar3 {j f sa A : Nat} (hj : j + (f + 1) = sa) (ba : A + sa ≤ 4020) : wr ((j : Int) + 1) = ((j + 1 : Nat) : Int) := wr_n1 (by omega)
theorem sp_sameName {a t : Nat} (hM : TxM T L m w) (ha : a ≤ m) (ht : t ≤ m) (h : K (.inl (some (vI (if sameT T L a t = true then 1 else 0)))) w) : Cal g LM jMd_sameName D [vA 0, vI (a : Int), vI (t : Int)] w K := by
  obtain ⟨a4, a5, a6, -⟩ := hM.1 a (by omega)
  obtain ⟨t4, t5, t6, -⟩ := hM.1 t (by omega)
  have hm := hM.2.1
  have h3 := hM.2.2.2.2.1
  have ba := tk_bd (i := a) hM
  have bt := tk_bd (i := t) hM
  have hy : sameB T (tAt T L a) (tSz T L a) T (tAt T L t) (tSz T L t) → K (.inl (some (vI 1))) w := fun z => by rw [if_pos (sameT_iff.mpr z)] at h; exact h
  have hn : ¬ sameB T (tAt T L a) (tSz T L a) T (tAt T L t) (tSz T L t) → K (.inl (some (vI 0))) w := fun z => by rw [if_neg (fun q => z (sameT_iff.mp q))] at h; exact h
  have hab : (0 : Int) ≤ (a : Int) ∧ (a : Int) < 4022 := by omega
  have htb : (0 : Int) ≤ (t : Int) ∧ (t : Int) < 4022 := by omega
  clear h hM a4 t4
  generalize tAt T L a = A at *
  generalize tSz T L a = sa at *
  generalize tAt T L t = B at *
  generalize tSz T L t = sb at *
  have h0 : ∀ j : Nat, ¬ sameB T (A) (sa) T (B) (sb) → V g LM jMd_sameName D K 24 [(0, vA 0), (1, vI (a : Int)), (2, vI (t : Int)), (3, vI 0), (4, vI (j : Int))] [] w := fun j z => s_Md_sameName_24 ⟨by omega, fun _ => ⟨Or.inl rfl, hn z⟩, fun _ => ⟨fun _ => ⟨Or.inl rfl, hn z⟩, fun q => absurd rfl q⟩⟩
  have lp : ∀ (f j : Nat), j + f = sa → sa = sb → (∀ q, q < j → T (A + q) = T (B + q)) → V g LM jMd_sameName D K 24 [(0, vA 0), (1, vI (a : Int)), (2, vI (t : Int)), (3, vI 1), (4, vI (j : Int))] [] w := by
    intro f
    induction f with
    | zero =>
      intro j hj hs hq
      refine s_Md_sameName_24 ⟨by omega, fun _ => ⟨Or.inr rfl, hy ⟨hs, fun q hq2 => hq q (by omega)⟩⟩, fun c => ?_⟩
      rw [toN, a6] at c
      exact absurd (by omega) c
    | succ f ih =>
      intro j hj hs hq
      refine s_Md_sameName_24 ⟨by omega, fun c => ?_, fun _ => ⟨fun c => absurd c (by decide), fun _ => ?_⟩⟩
      · rw [toN, a6] at c
        exact absurd c (by omega)
      · rw [toN, toN, a5, t5, ar2 hj ba, ar2 (hj.trans hs) bt, toN, toN, h3, ar3 hj ba]
        refine ⟨hab, ar1 hj ba, htb, ar1 (hj.trans hs) bt, fun c => h0 (j + 1) (fun z => c (z.2 j (by rw [← hj]; exact Nat.lt_add_of_pos_right (Nat.succ_pos f)))), fun c => ih (j + 1) (by rw [← hj, Nat.add_assoc, Nat.add_comm 1 f]) hs (fun q hq2 => ?_)⟩
        rcases Nat.lt_or_eq_of_le (Nat.le_of_lt_succ hq2) with z | z
        · exact hq q z
        · rw [z]; exact c
  refine Cal.ofV (by decide) rfl (Nat.le_of_ble_eq_true rfl) (s_Md_sameName ⟨by omega, by omega, ?_⟩)
  rw [toN, toN, a6, t6]
  exact ⟨fun z => h0 0 (fun q => z (by rw [q.1])), fun z => lp _ 0 (Nat.zero_add _) (by omega) (fun q hq => absurd hq (by omega))⟩
end ModelFind
