/-! ===== the relation behind a TURN ===== -/
section MNext
variable {T : Nat → Int} {L : Nat} {D : DE} {E : List En} {n na mb ma j pc kq : Nat} {w w5 w' wm wm5 wm' wm'' : Wd} {a : Tr} {act : Nat → Bool}
/-- messages and globals behind a TURN -/
theorem nr_next (hL : L ≤ 4000) (hR : RgC w) (hE : EV E) (hc2 : cntE 2 E ≤ 4) (hc3 : cntE 3 E ≤ 4) (hma : isMo ma) (hmb : isMo mb) (hW : WyR D E w) (hWK : WyK E w) {S : Nat → Int} (hM : MR D E n mb w S) (hG : GrK w n na) (hB : BkC T L j a E w pc) (hFo : FoK ma mb w w5) (hT : TC ma (cntE 1 E) (FC T L w mb a E) act w5 w' n) (hb : BgM wm wm5) (hTm : TnM D (cntE 1 E) (FC T L w mb a E) act wm5 wm' n) : NR D E ma n 40000 w' wm' ∧ NK E ma w' ∧ w' ma 0 = wr (w mb 0 + 1) := by
  have ra := mo_rng hma
  obtain ⟨g1, g2, g3, g4, g5, g6, -⟩ := id hG
  obtain ⟨t1, t2, t3, t4, t5⟩ := hT
  obtain ⟨m1, m2, m3, m4, m5, m6⟩ := hTm
  obtain ⟨e1, e2⟩ := evT_ok (E := E) (n := n) (F := FC T L w mb a E) (act := act) (fun v hv ha => (t2 v hv ha).2.2) (fun v σ hv hs => by
    obtain ⟨a1, a2, -⟩ := fc_ok hL hR hE hmb hM hG hB hv hs
    exact ⟨a1, a2⟩) n (Nat.le_refl _)
  have hW5 : WyR D E w5 := by
    unfold WyR at *
    rw [hFo.1 10 (by decide) (by omega), hFo.1 11 (by decide) (by omega)]
    exact hW
  have hWK5 : WyK E w5 := by
    unfold WyK at *
    rw [hFo.1 10 (by decide) (by omega), hFo.1 11 (by decide) (by omega)]
    exact hWK
  have hlen : (evT (FC T L w mb a E) act n).length ≤ 40000 := by omega
  have hN := nr_all hma hE.2.2 hc2 hc3 g4 (evT (FC T L w mb a E) act n) 0 w5 wm5 e1 (by omega) hW5 (nr_fo g4 hc2 hc3 hW hFo hb)
  have hK := nk_all hma hE.1 hE.2.2 (evT (FC T L w mb a E) act n) w5 e1 hWK5 (nk_fo hE.1 hWK hFo)
  have c3 : w' (ma + 3) = _ := t4 (ma + 3) (by unfold isEv; omega)
  have c4 : w' (ma + 4) = _ := t4 (ma + 4) (by unfold isEv; omega)
  have c5 : w' (ma + 5) = _ := t4 (ma + 5) (by unfold isEv; omega)
  have c6 : w' (ma + 6) = _ := t4 (ma + 6) (by unfold isEv; omega)
  have c0 : w' ma = _ := t4 ma (by unfold isEv; omega)
  refine ⟨?_, ?_, ?_⟩
  · obtain ⟨n1, n2, n3, n4, n5⟩ := hN
    unfold NR
    rw [c3, c4, c5, c6, c0, m4 47 (by decide) (by decide), m4 48 (by decide) (by decide), m4 49 (by decide) (by decide), m4 50 (by decide) (by decide)]
    refine ⟨fun i hi => ?_, fun k hk => ?_, n3, n4, n5⟩
    · obtain ⟨x1, x2, x3⟩ := n1 i hi
      exact ⟨x1, x2, by omega⟩
    · obtain ⟨x1, x2, x3⟩ := n2 k hk
      exact ⟨x1, x2, by omega⟩
  · unfold NK
    rw [c3, c5]
    exact hK
  · rw [c0, ev_f0 hma]
    exact hFo.2.1
/-- the moment that a TURN makes -/
theorem mr_next (hL : L ≤ 4000) (hR : RgC w) (hE : EV E) (hc1 : cntE 1 E ≤ 8) (hc2 : cntE 2 E ≤ 4) (hc3 : cntE 3 E ≤ 4) (hma : isMo ma) (hmb : isMo mb) (hW : WyR D E w) (hWK : WyK E w) (hM : MR D E n mb w (svF wm)) (hG : GrK w n na) (hB : BkC T L j a E w pc) (hFo : FoK ma mb w w5) (hT : TC ma (cntE 1 E) (FC T L w mb a E) act w5 w' n) (hb : BgM wm wm5) (hTm : TnM D (cntE 1 E) (FC T L w mb a E) act wm5 wm' n) (hEd : EdM kq wm' wm'') : MR D E n ma w' (svF wm'') := by
  obtain ⟨hNR, hNK, -⟩ := nr_next hL hR hE hc2 hc3 hma hmb hW hWK hM hG hB hFo hT hb hTm
  have ra := mo_rng hma
  obtain ⟨g1, g2, g3, g4, g5, g6, -⟩ := id hG
  obtain ⟨t1, t2, t3, t4, t5⟩ := hT
  obtain ⟨m1, m2, m3, m4, m5, m6⟩ := hTm
  obtain ⟨d1, d2, d3, d4, d5, d6, d7, d8, d9⟩ := hEd
  obtain ⟨n1, n2, n3, n4, n5⟩ := hNR
  obtain ⟨a1, a2, a3, a4, a5, a6, a7, a8, a9⟩ := id hM
  have x41 : wm'' 41 = wm' 41 := d1 41 (by decide)
  have x42 : wm'' 42 = wm' 42 := d1 42 (by decide)
  have y41 : wm5 41 = wm 41 := hb.1 41 (by decide)
  have y42 : wm5 42 = wm 42 := hb.1 42 (by decide)
  have old : ∀ v, v < n → act v = false → (∀ k, k < 8 → w' (ma + 1) (8 * v + k) = w (mb + 1) (8 * v + k)) ∧ w' (ma + 2) v = w (mb + 2) v := by
    intro v hv ha
    obtain ⟨z1, z2⟩ := t3 v (Or.inr ha)
    refine ⟨fun k hk => ?_, ?_⟩
    · rw [z1 k hk, hFo.2.2.2.1 _ (by omega)]
    · rw [z2, hFo.2.2.2.2.1 _ (by omega)]
  refine ⟨fun v k hv hk => ?_, fun v hv => ?_, fun i hi => ?_, fun k hk => ?_, fun v k hv hk => ?_, fun k hk => ?_, ?_, hNK, fun e he hk2 hs v hv => ?_⟩
  · rw [svF_0 (by omega), x41]
    cases ha : act v with
    | true => rw [(t2 v hv ha).1 k hk, (m2 v hv ha).1 k hk]
    | false =>
      rw [(old v hv ha).1 k (by omega), (m3 v (Or.inr ha)).1 k (by omega), y41, a1 v k hv hk, svF_0 (by omega)]
  · rw [svF_1 (by omega), x42]
    cases ha : act v with
    | true =>
      rw [(t2 v hv ha).2.1, (m2 v hv ha).2.1]
      by_cases z : zb (gT (FC T L w mb a E) v) = true
      · rw [if_pos z]; exact ⟨rfl, Or.inr rfl⟩
      · rw [if_neg z]; exact ⟨rfl, Or.inl rfl⟩
    | false =>
      rw [(old v hv ha).2, (m3 v (Or.inr ha)).2, y42]
      have := a2 v hv
      rw [svF_1 (by omega)] at this
      exact this
  · rw [svF_2 hi, (d6 i hi).1]
    exact n1 i hi
  · rw [svF_4 hk, (d7 k hk).1]
    exact n2 k hk
  · have h4 : 4 * v + k < 160 := idx_160 hv (Nat.lt_of_lt_of_le hk hc2)
    rw [svF_2 h4, svF_3 h4, (d6 _ h4).1, (d6 _ h4).2]
    exact n3 v k hv hk
  · have h4 : k < 4 := Nat.lt_of_lt_of_le hk hc3
    rw [svF_4 h4, svF_5, (d7 _ h4).1, (d7 _ h4).2]
    exact n4 k hk
  · rw [n5]
    exact (smI_cg _ (fun i hi => by
      show svF wm'' (360 + i) = wm' 47 i
      rw [svF_2 (by omega), (d6 i (by omega)).1])).symm
  · have hl := num_lt hE.2.2 he
    rw [hs] at hl
    cases ha : act v with
    | true =>
      obtain ⟨σ, hσ⟩ := (t2 v hv ha).2.2
      rw [(t2 v hv ha).1 _ hl, gT_ok hσ]
      exact (fc_ok hL hR hE hmb hM hG hB hv hσ).2.2 e he hk2 hs
    | false =>
      rw [(old v hv ha).1 _ (by omega)]
      exact a9 e he hk2 hs v hv
/-- what a TURN that failed leaves in the model -/
theorem sv_back {w3 w4 : Wd} (hb : BgM wm wm5) (hf : FTn wm5 wm') (h4 : ∀ o, o ≠ 0 → w4 o = wm' o) (hB : BrI 52 0 w4 w3 320 40 160 4) : ∀ x, x < 688 → svF w3 x = svF wm x := by
  obtain ⟨-, s1, s2, s3, s4⟩ := hB
  have e52 : w4 52 = wm5 52 := by rw [h4 52 (by decide)]; exact hf.1 52 (by decide)
  have e : ∀ x, x < 688 → w4 52 (0 + x) = svF wm x := fun x hx => by rw [e52, Nat.zero_add]; exact hb.2.2.2.2.2 x hx
  intro x hx
  by_cases h0 : x < 320
  · rw [svF_0 h0, s1 x h0, e x hx]
  by_cases h1 : x < 360
  · obtain ⟨i, rfl⟩ : ∃ i, x = 320 + i := ⟨x - 320, by omega⟩
    rw [svF_1 (by omega), s2 i (by omega), e _ hx, svF_1 (by omega)]
    by_cases z : wm 42 i = 0
    · rw [if_pos z]; rfl
    · rw [if_neg z]; rfl
  by_cases h2 : x < 520
  · obtain ⟨i, rfl⟩ : ∃ i, x = 360 + i := ⟨x - 360, by omega⟩
    rw [svF_2 (by omega), (s3 i (by omega)).1, e _ hx]
  by_cases h3 : x < 680
  · obtain ⟨i, rfl⟩ : ∃ i, x = 520 + i := ⟨x - 520, by omega⟩
    rw [svF_3 (by omega), (s3 i (by omega)).2, e _ hx]
  by_cases h4 : x < 684
  · obtain ⟨i, rfl⟩ : ∃ i, x = 680 + i := ⟨x - 680, by omega⟩
    rw [svF_4 (by omega), (s4 i (by omega)).1, e _ hx]
  · obtain ⟨i, rfl⟩ : ∃ i, x = 684 + i := ⟨x - 684, by omega⟩
    rw [svF_5, (s4 i (by omega)).2, e _ hx]
end MNext
