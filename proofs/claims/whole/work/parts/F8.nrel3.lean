/-! ===== all that was sent and given ===== -/
section NRel3
variable {n : Nat}
theorem WyR.ev {D : DE} {E : List En} {ma : Nat} {e : Nat × Nat × Int} {wc : Wd} (hm : isMo ma) (h : WyR D E wc) : WyR D E (evW ma wc e) := by
  have hr := mo_rng hm
  unfold WyR at *
  rw [evW_o (o := 10) (by unfold isEv; omega), evW_o (o := 11) (by unfold isEv; omega)]
  exact h
theorem nr_all {D : DE} {E : List En} {ma : Nat} (hm : isMo ma) (hN : NUM E) (hc2 : cntE 2 E ≤ 4) (hc3 : cntE 3 E ≤ 4) (hn : n ≤ 40) : ∀ (l : List (Nat × Nat × Int)) (c : Int) (wc wm : Wd), (∀ e ∈ l, WEv E n e ∧ inI e.2.2) → c + l.length ≤ 99999 → WyR D E wc → NR D E ma n c wc wm → NR D E ma n (c + l.length) (l.foldl (evW ma) wc) (l.foldl (evM D) wm)
  | [], c, wc, wm, _, _, _, h => by
    show NR D E ma n (c + ((0 : Nat) : Int)) wc wm
    rw [Int.natCast_zero, Int.add_zero]
    exact h
  | e :: l, c, wc, wm, he, hb, hW, h => by
    obtain ⟨hw, hv⟩ := he e (List.mem_cons_self ..)
    have hlen : (((e :: l).length : Nat) : Int) = (l.length : Int) + 1 := by simp
    rw [hlen] at hb ⊢
    have h1 : NR D E ma n (c + 1) (evW ma wc e) (evM D wm e) := by
      obtain ⟨w1, w2⟩ := hw
      obtain ⟨e1, e2, e3⟩ := e
      cases e1 with
      | zero =>
        obtain ⟨en, a1, a2, a3, a4⟩ := w1 rfl
        exact nr_0 hm hN hc3 hW (by omega) hv a1 a2 a3 a4 h
      | succ to =>
        obtain ⟨a0, en, a1, a2, a3, a4⟩ := w2 (Nat.succ_ne_zero _)
        have a0 : to + 1 - 1 < n := a0
        exact nr_1 hm hN hc2 hW (by omega) hn hv (by omega) a1 a2 a3 a4 h
    have := nr_all hm hN hc2 hc3 hn l (c + 1) (evW ma wc e) (evM D wm e) (fun x hx => he x (List.mem_cons_of_mem _ hx)) (by omega) (hW.ev hm) h1
    rw [show c + ((l.length : Int) + 1) = c + 1 + (l.length : Int) by omega]
    exact this
end NRel3
