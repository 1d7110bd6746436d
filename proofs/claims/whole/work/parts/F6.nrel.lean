/-! ===== the model: hasEnded(); what is on its way, class against model ===== -/
section NRel
variable {g : Mg} {d n : Nat} {K : Ou → Wd → Prop} {w : Wd}
theorem sp_hasEndedM (hd : 1 ≤ d) (hn : n ≤ 40) (h59 : w 0 59 = (n : Int)) (hC : ∀ i, i < 160 → 0 ≤ w 43 i ∧ w 43 i ≤ 1000000) (h : K (.inl (some (vI (if smI (w 43) (4 * n) = 0 ∧ rsN (w 42) n = n then 1 else 0)))) w) : Cal g LM jMd_hasEnded d [vA 0] w K := by
  obtain ⟨d, rfl⟩ : ∃ d', d = d' + 1 := ⟨d - 1, by omega⟩
  refine Cal.ofV (by decide) rfl (Nat.le_of_ble_eq_true rfl) (s_Md_hasEnded (sp_underWayM hn h59 hC ⟨fun z => ?_, fun z => sp_haltedCountM hn h59 ⟨fun y => ?_, fun y => ?_⟩⟩))
  · rw [if_neg (fun q => z q.1)] at h; exact h
  · rw [if_neg (fun q => y (by rw [q.2, h59]))] at h; exact h
  · rw [if_pos ⟨z, by rw [h59] at y; omega⟩] at h; exact h
/-- messages and globals of the moment ma that the class makes, against those that the model makes -/
def NR (D : DE) (E : List En) (ma n : Nat) (c : Int) (wc wm : Wd) : Prop := (∀ i, i < 160 → wc (ma + 4) i = wm 47 i ∧ 0 ≤ wm 47 i ∧ wm 47 i ≤ c) ∧ (∀ k, k < 4 → wc (ma + 6) k = wm 49 k ∧ 0 ≤ wm 49 k ∧ wm 49 k ≤ c) ∧ (∀ v k, v < 40 → k < cntE 2 E → wc (ma + 3) (4 * v + k) = (if wm 47 (4 * v + k) ≤ 0 then nthM (wyD D 2 k) else wm 48 (4 * v + k))) ∧ (∀ k, k < cntE 3 E → wc (ma + 5) k = (if wm 49 k ≤ 0 then nthM (wyD D 3 k) else wm 50 k)) ∧ wc ma 1 = smI (wm 47) (4 * n)
/-- ways that the class and the model hold -/
def WyR (D : DE) (E : List En) (wc : Wd) : Prop := (∀ k, k < cntE 2 E → wc 10 k - 35 = wyD D 2 k) ∧ (∀ k, k < cntE 3 E → wc 11 k - 35 = wyD D 3 k) ∧ ∀ en ∈ E, (en.2.1 = 2 → 35 ≤ wc 10 en.2.2.1 ∧ wc 10 en.2.2.1 ≤ 40 ∧ (wc 10 en.2.2.1 = 39 ∨ wc 10 en.2.2.1 = 40 → en.2.2.2 = 2)) ∧ (en.2.1 = 3 → 35 ≤ wc 11 en.2.2.1 ∧ wc 11 en.2.2.1 ≤ 40 ∧ (wc 11 en.2.2.1 = 39 ∨ wc 11 en.2.2.1 = 40 → en.2.2.2 = 2))
theorem nr_wr {x c : Int} (h : 0 ≤ x ∧ x ≤ c) (hc : c ≤ 1000000) : wr (x + 1) = x + 1 := wr_id (by unfold inI; omega)
theorem nr_0 {D : DE} {E : List En} {ma k : Nat} {c v : Int} {en : En} {wc wm : Wd} (hm : isMo ma) (hN : NUM E) (hc4 : cntE 3 E ≤ 4) (hW : WyR D E wc) (hc : c ≤ 999999) (hv : inI v) (hen : en ∈ E) (h3 : en.2.1 = 3) (hk : en.2.2.1 = k) (hb : en.2.2.2 = 2 → b01 v) (h : NR D E ma n c wc wm) : NR D E ma n (c + 1) (evW ma wc (0, k, v)) (evM D wm (0, k, v)) := by
  obtain ⟨h1, h2, h4, h5, h6⟩ := h
  obtain ⟨y1, y2, y3⟩ := hW
  have hl := num_lt hN hen
  rw [h3, hk] at hl
  obtain ⟨-, yy⟩ := y3 en hen
  obtain ⟨z1, z2, z3⟩ := yy h3
  rw [hk] at z1 z2 z3
  have hr := mo_rng hm
  have eC : evW ma wc (0, k, v) = up (up wc (ma + 5) k (fldC (wc 11 k) (wc (ma + 5) k) (wc (ma + 6) k) v)) (ma + 6) k (wr (wc (ma + 6) k + 1)) := rfl
  have eM : evM D wm (0, k, v) = up (up wm 50 k (fldM (wyD D 3 k) (wm 49 k) (wm 50 k) v)) 49 k (wr (wm 49 k + 1)) := rfl
  obtain ⟨c1, c2, c3⟩ := h2 k (by omega)
  have hwr := nr_wr ⟨c2, c3⟩ (by omega)
  rw [eC, eM]
  refine ⟨fun i hi => ?_, fun i hi => ?_, fun u i hu hi => ?_, fun i hi => ?_, ?_⟩
  · rw [up_o (a := ma + 4) (by omega), up_o (a := ma + 4) (by omega), up_o (a := 47) (by decide), up_o (a := 47) (by decide)]
    have := h1 i hi
    exact ⟨this.1, this.2.1, by omega⟩
  · by_cases z : i = k
    · subst z
      rw [up_s, up_s, c1, hwr]
      exact ⟨rfl, by omega, by omega⟩
    · rw [up_k z, up_o (a := ma + 6) (by omega), up_k z, up_o (a := 49) (by decide)]
      have := h2 i hi
      exact ⟨this.1, this.2.1, by omega⟩
  · rw [up_o (a := ma + 3) (by omega), up_o (a := ma + 3) (by omega), up_o (a := 47) (by decide), up_o (a := 47) (by decide), up_o (a := 48) (by decide), up_o (a := 48) (by decide)]
    exact h4 u i hu hi
  · rw [up_o (a := ma + 5) (by omega), up_o (a := 50) (by decide)]
    by_cases z : i = k
    · subst z
      rw [up_s, up_s, up_s, hwr, if_neg (by omega), c1, ← y2 i hl]
      refine fld_rel ⟨z1, z2⟩ c2 hv (fun q => hb (z3 q)) ?_
      rw [y2 i hl]
      exact h5 i hl
    · rw [up_k z, up_k z, up_o (a := 49) (by decide), up_k z]
      exact h5 i hi
  · rw [up_o (a := ma) (by omega), up_o (a := ma) (by omega), up_o (a := 47) (by decide), up_o (a := 47) (by decide)]
    exact h6
end NRel
