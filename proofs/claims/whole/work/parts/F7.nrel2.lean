/-! ===== a message on its way ===== -/
section NRel2
variable {n : Nat}
theorem smI_up {C C' : Nat → Int} {j : Nat} (hj : C' j = C j + 1) (ho : ∀ x, x ≠ j → C' x = C x) : ∀ m, smI C' m = smI C m + (if j < m then 1 else 0)
  | 0 => by simp [smI]
  | m + 1 => by
    rw [smI, smI, smI_up hj ho m]
    by_cases z : m = j
    · subst z
      rw [hj, if_neg (by omega), if_pos (by omega)]
      omega
    · rw [ho m z]
      by_cases y : j < m
      · rw [if_pos y, if_pos (by omega)]; omega
      · rw [if_neg y, if_neg (by omega)]; omega
theorem ij_eq {u to i k : Nat} (hi : i < 4) (hk : k < 4) (h : 4 * u + i = 4 * to + k) : u = to ∧ i = k := by omega
theorem nr_1 {D : DE} {E : List En} {ma k to : Nat} {c v : Int} {en : En} {wc wm : Wd} (hm : isMo ma) (hN : NUM E) (hc4 : cntE 2 E ≤ 4) (hW : WyR D E wc) (hc : c ≤ 99999) (hn : n ≤ 40) (hv : inI v) (hto : to < n) (hen : en ∈ E) (h3 : en.2.1 = 2) (hk : en.2.2.1 = k) (hb : en.2.2.2 = 2 → b01 v) (h : NR D E ma n c wc wm) : NR D E ma n (c + 1) (evW ma wc (to + 1, k, v)) (evM D wm (to + 1, k, v)) := by
  obtain ⟨h1, h2, h4, h5, h6⟩ := h
  obtain ⟨y1, y2, y3⟩ := hW
  have hl := num_lt hN hen
  rw [h3, hk] at hl
  obtain ⟨yy, -⟩ := y3 en hen
  obtain ⟨z1, z2, z3⟩ := yy h3
  rw [hk] at z1 z2 z3
  have hr := mo_rng hm
  have hk4 : k < 4 := by omega
  obtain ⟨jx, hj⟩ : ∃ jx, jx = 4 * to + k := ⟨_, rfl⟩
  have eC : evW ma wc (to + 1, k, v) = up (up (up wc (ma + 3) jx (fldC (wc 10 k) (wc (ma + 3) jx) (wc (ma + 4) jx) v)) (ma + 4) jx (wr (wc (ma + 4) jx + 1))) ma 1 (wr (wc ma 1 + 1)) := by
    rw [hj]
    unfold evW
    rw [if_neg (Nat.succ_ne_zero _)]
    rfl
  have eM : evM D wm (to + 1, k, v) = up (up wm 48 jx (fldM (wyD D 2 k) (wm 47 jx) (wm 48 jx) v)) 47 jx (wr (wm 47 jx + 1)) := by
    rw [hj]
    unfold evM
    rw [if_neg (Nat.succ_ne_zero _)]
    rfl
  have hj160 : jx < 160 := by omega
  obtain ⟨c1, c2, c3⟩ := h1 jx hj160
  have hwr := nr_wr ⟨c2, c3⟩ (by omega)
  have hsb := smI_b (C := wm 47) (B := c) (by omega) (fun i hi => (h1 i hi).2) (4 * n) (by omega)
  have hs1 : wr (wc ma 1 + 1) = smI (wm 47) (4 * n) + 1 := by
    rw [h6]
    have hb2 : c * ((4 * n : Nat) : Int) ≤ 99999 * 160 := by
      refine Int.le_trans (Int.mul_le_mul_of_nonneg_right hc (by omega)) ?_
      omega
    exact wr_id (by unfold inI; omega)
  rw [eC, eM]
  refine ⟨fun i hi => ?_, fun i hi => ?_, fun u i hu hi => ?_, fun i hi => ?_, ?_⟩
  · rw [up_o (a := ma + 4) (by omega)]
    by_cases z : i = jx
    · subst z
      rw [up_s, up_s, c1, hwr]
      exact ⟨rfl, by omega, by omega⟩
    · rw [up_k z, up_o (a := ma + 4) (by omega), up_k z, up_o (a := 47) (by decide)]
      have := h1 i hi
      exact ⟨this.1, this.2.1, by omega⟩
  · rw [up_o (a := ma + 6) (by omega), up_o (a := ma + 6) (by omega), up_o (a := ma + 6) (by omega), up_o (a := 49) (by decide), up_o (a := 49) (by decide)]
    have := h2 i hi
    exact ⟨this.1, this.2.1, by omega⟩
  · rw [up_o (a := ma + 3) (by omega), up_o (a := ma + 3) (by omega), up_o (a := 48) (by decide)]
    by_cases z : 4 * u + i = jx
    · obtain ⟨e1, e2⟩ := ij_eq (by omega) hk4 (z.trans hj)
      subst e2
      rw [z, up_s, up_s, up_s, hwr, if_neg (by omega), c1, ← y1 i hl]
      refine fld_rel ⟨z1, z2⟩ c2 hv (fun q => hb (z3 q)) ?_
      rw [y1 i hl, ← z]
      exact h4 u i hu hi
    · rw [up_k z, up_k z, up_o (a := 47) (by decide), up_k z]
      exact h4 u i hu hi
  · rw [up_o (a := ma + 5) (by omega), up_o (a := ma + 5) (by omega), up_o (a := ma + 5) (by omega), up_o (a := 49) (by decide), up_o (a := 49) (by decide), up_o (a := 50) (by decide), up_o (a := 50) (by decide)]
    exact h5 i hi
  · have hsm := smI_up (C := wm 47) (C' := up (up wm 48 jx (fldM (wyD D 2 k) (wm 47 jx) (wm 48 jx) v)) 47 jx (wr (wm 47 jx + 1)) 47) (j := jx) (by rw [up_s, hwr]) (fun x hx => by rw [up_k hx, up_o (a := 47) (by decide)]) (4 * n)
    rw [if_pos (by omega)] at hsm
    rw [up_s, hs1]
    exact hsm.symm
end NRel2
