/-! ===== kinds and ranges of what the class holds of messages and globals ===== -/
def NK (E : List En) (ma : Nat) (wc : Wd) : Prop := (∀ i, i < 160 → inI (wc (ma + 3) i)) ∧ (∀ k, k < 4 → inI (wc (ma + 5) k)) ∧ ∀ e ∈ E, e.2.2.2 = 2 → (e.2.1 = 2 → ∀ v, v < 40 → b01 (wc (ma + 3) (4 * v + e.2.2.1))) ∧ (e.2.1 = 3 → b01 (wc (ma + 5) e.2.2.1))
section NKind
variable {n : Nat}
theorem enb_4 {E : List En} {e : En} (h : ENb E) (he : e ∈ E) (hs : e.2.1 = 2 ∨ e.2.1 = 3) : e.2.2.1 < 4 := by
  obtain ⟨-, h2⟩ := h e he
  rcases hs with z | z
  · rw [z] at h2
    have h2 : (e.2.2.1 : Int) < 4 := h2
    omega
  · rw [z] at h2
    have h2 : (e.2.2.1 : Int) < 4 := h2
    omega
theorem nk_0 {E : List En} {ma k : Nat} {v : Int} {en : En} {wc : Wd} (hm : isMo ma) (hN : NUM E) (hK : WyK E wc) (hv : inI v) (hen : en ∈ E) (h3 : en.2.1 = 3) (hk : en.2.2.1 = k) (hb : en.2.2.2 = 2 → b01 v) (h : NK E ma wc) : NK E ma (evW ma wc (0, k, v)) := by
  obtain ⟨h1, h2, h4⟩ := h
  have hr := mo_rng hm
  have eC : evW ma wc (0, k, v) = up (up wc (ma + 5) k (fldC (wc 11 k) (wc (ma + 5) k) (wc (ma + 6) k) v)) (ma + 6) k (wr (wc (ma + 6) k + 1)) := rfl
  rw [eC]
  refine ⟨fun i hi => ?_, fun i hi => ?_, fun e he hk2 => ⟨fun hs u hu => ?_, fun hs => ?_⟩⟩
  · rw [up_o (a := ma + 3) (by omega), up_o (a := ma + 3) (by omega)]; exact h1 i hi
  · rw [up_o (a := ma + 5) (by omega)]
    by_cases z : i = k
    · subst z; rw [up_s]; exact fldC_in hv (h2 i hi)
    · rw [up_k z]; exact h2 i hi
  · rw [up_o (a := ma + 3) (by omega), up_o (a := ma + 3) (by omega)]; exact (h4 e he hk2).1 hs u hu
  · rw [up_o (a := ma + 5) (by omega)]
    by_cases z : e.2.2.1 = k
    · have : e = en := num_inj hN he hen (by rw [hs, h3]) (by rw [z, hk])
      subst this
      have hb1 := (h4 e he hk2).2 hs
      have hw := (hK e he).2 hs hk2
      rw [z] at hb1 hw
      rw [z, up_s]
      exact fld_b (Or.inr hw) (hb hk2) hb1
    · rw [up_k z]; exact (h4 e he hk2).2 hs
theorem nk_1 {E : List En} {ma k to : Nat} {v : Int} {en : En} {wc : Wd} (hm : isMo ma) (hE : ENb E) (hN : NUM E) (hK : WyK E wc) (hv : inI v) (hen : en ∈ E) (h3 : en.2.1 = 2) (hk : en.2.2.1 = k) (hb : en.2.2.2 = 2 → b01 v) (h : NK E ma wc) : NK E ma (evW ma wc (to + 1, k, v)) := by
  obtain ⟨h1, h2, h4⟩ := h
  have hr := mo_rng hm
  have hk4 : k < 4 := by rw [← hk]; exact enb_4 hE hen (Or.inl h3)
  obtain ⟨jx, hj⟩ : ∃ jx, jx = 4 * to + k := ⟨_, rfl⟩
  have eC : evW ma wc (to + 1, k, v) = up (up (up wc (ma + 3) jx (fldC (wc 10 k) (wc (ma + 3) jx) (wc (ma + 4) jx) v)) (ma + 4) jx (wr (wc (ma + 4) jx + 1))) ma 1 (wr (wc ma 1 + 1)) := by
    rw [hj]
    unfold evW
    rw [if_neg (Nat.succ_ne_zero _)]
    rfl
  rw [eC]
  refine ⟨fun i hi => ?_, fun i hi => ?_, fun e he hk2 => ⟨fun hs u hu => ?_, fun hs => ?_⟩⟩
  · rw [up_o (a := ma + 3) (by omega), up_o (a := ma + 3) (by omega)]
    by_cases z : i = jx
    · subst z; rw [up_s]; exact fldC_in hv (h1 i hi)
    · rw [up_k z]; exact h1 i hi
  · rw [up_o (a := ma + 5) (by omega), up_o (a := ma + 5) (by omega), up_o (a := ma + 5) (by omega)]; exact h2 i hi
  · rw [up_o (a := ma + 3) (by omega), up_o (a := ma + 3) (by omega)]
    by_cases z : 4 * u + e.2.2.1 = jx
    · obtain ⟨e1, e2⟩ := ij_eq (enb_4 hE he (Or.inl hs)) hk4 (z.trans hj)
      have : e = en := num_inj hN he hen (by rw [hs, h3]) (by rw [e2, hk])
      subst this
      have hb1 := (h4 e he hk2).1 hs u hu
      have hw := (hK e he).1 hs hk2
      rw [e2] at hw
      rw [z] at hb1
      rw [z, up_s]
      exact fld_b (Or.inr hw) (hb hk2) hb1
    · rw [up_k z]; exact (h4 e he hk2).1 hs u hu
  · rw [up_o (a := ma + 5) (by omega), up_o (a := ma + 5) (by omega), up_o (a := ma + 5) (by omega)]; exact (h4 e he hk2).2 hs
theorem WyK.ev {E : List En} {ma : Nat} {e : Nat × Nat × Int} {wc : Wd} (hm : isMo ma) (h : WyK E wc) : WyK E (evW ma wc e) := by
  have hr := mo_rng hm
  unfold WyK at *
  rw [evW_o (o := 10) (by unfold isEv; omega), evW_o (o := 11) (by unfold isEv; omega)]
  exact h
theorem nk_all {E : List En} {ma : Nat} (hm : isMo ma) (hE : ENb E) (hN : NUM E) : ∀ (l : List (Nat × Nat × Int)) (wc : Wd), (∀ e ∈ l, WEv E n e ∧ inI e.2.2) → WyK E wc → NK E ma wc → NK E ma (l.foldl (evW ma) wc)
  | [], wc, _, _, h => h
  | e :: l, wc, he, hK, h => by
    obtain ⟨hw, hv⟩ := he e (List.mem_cons_self ..)
    have h1 : NK E ma (evW ma wc e) := by
      obtain ⟨w1, w2⟩ := hw
      obtain ⟨e1, e2, e3⟩ := e
      cases e1 with
      | zero =>
        obtain ⟨en, a1, a2, a3, a4⟩ := w1 rfl
        exact nk_0 hm hN hK hv a1 a2 a3 a4 h
      | succ to =>
        obtain ⟨a0, en, a1, a2, a3, a4⟩ := w2 (Nat.succ_ne_zero _)
        exact nk_1 hm hE hN hK hv a1 a2 a3 a4 h
    exact nk_all hm hE hN l (evW ma wc e) (fun x hx => he x (List.mem_cons_of_mem _ hx)) (hK.ev hm) h1
theorem nthC_in (way : Int) : inI (nthC way) := by
  unfold nthC
  split
  · decide
  split
  · decide
  split
  · decide
  · decide
theorem mod4_eq {v k : Nat} (hk : k < 4) : (4 * v + k) % 4 = k := by omega
theorem idx_160 {v k : Nat} (hv : v < 40) (hk : k < 4) : 4 * v + k < 160 := by omega
/-- as nothing has been sent -/
theorem nk_fo {E : List En} {q q1 : Nat} {w w' : Wd} (hE : ENb E) (hK : WyK E w) (h : FoK q q1 w w') : NK E q w' := by
  obtain ⟨-, -, -, -, -, g6, g7⟩ := h
  refine ⟨fun i hi => by rw [(g6 i hi).1]; exact nthC_in _, fun k hk => by rw [(g7 k hk).1]; exact nthC_in _, fun e he hk2 => ⟨fun hs u hu => ?_, fun hs => ?_⟩⟩
  · have h4 := enb_4 hE he (Or.inl hs)
    rw [(g6 _ (idx_160 hu h4)).1, mod4_eq h4]
    rcases (hK e he).1 hs hk2 with z | z
    · rw [z]; exact Or.inr rfl
    · rw [z]; exact Or.inl rfl
  · have h4 := enb_4 hE he (Or.inr hs)
    rw [(g7 _ h4).1]
    rcases (hK e he).2 hs hk2 with z | z
    · rw [z]; exact Or.inr rfl
    · rw [z]; exact Or.inl rfl
theorem smI_0 {C : Nat → Int} : ∀ m, (∀ i, i < m → C i = 0) → smI C m = 0
  | 0, _ => rfl
  | m + 1, h => by rw [smI, smI_0 m (fun i hi => h i (by omega)), h m (by omega)]; rfl
/-- as nothing has been sent: class against model -/
theorem nr_fo {D : DE} {E : List En} {q q1 : Nat} {w w' wm wm5 : Wd} (hn : n ≤ 40) (hc2 : cntE 2 E ≤ 4) (hc3 : cntE 3 E ≤ 4) (hW : WyR D E w) (h : FoK q q1 w w') (hb : BgM wm wm5) : NR D E q n 0 w' wm5 := by
  obtain ⟨-, -, g3, -, -, g6, g7⟩ := h
  obtain ⟨-, -, -, b4, b5, -⟩ := hb
  obtain ⟨y1, y2, -⟩ := hW
  refine ⟨fun i hi => ?_, fun k hk => ?_, fun v k hv hk => ?_, fun k hk => ?_, ?_⟩
  · rw [(g6 i hi).2, (b4 i hi).1]; exact ⟨rfl, Int.le_refl _, Int.le_refl _⟩
  · rw [(g7 k hk).2, (b5 k hk).1]; exact ⟨rfl, Int.le_refl _, Int.le_refl _⟩
  · have h4 : k < 4 := Nat.lt_of_lt_of_le hk hc2
    rw [(g6 _ (idx_160 hv h4)).1, (b4 _ (idx_160 hv h4)).1, if_pos (Int.le_refl _), mod4_eq h4, nth_eq, y1 k hk]
  · have h4 : k < 4 := Nat.lt_of_lt_of_le hk hc3
    rw [(g7 _ h4).1, (b5 _ h4).1, if_pos (Int.le_refl _), nth_eq, y2 k hk]
  · rw [g3, smI_0 (4 * n) (fun i hi => (b4 i (by omega)).1)]
end NKind
