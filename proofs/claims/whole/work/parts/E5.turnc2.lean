/-! ===== the class: doTurn(), hasEnded() ===== -/
abbrev moA (k : Nat) : Nat := 45 + 7 * k
section TurnC2
variable {g : Mg} {d : Nat} {T : Nat → Int} {L : Nat} {n na j k : Nat} {K : Ou → Wd → Prop} {w : Wd} {a : Tr} {E : List En} {pc : Nat}
theorem sp_nowC (hk : k < 8) (h4 : w 43 4 = (k : Int)) (h : K (.inl (some (vA (moA k)))) w) : Cal g LC jMa_now d [vA 43] w K := by
  refine Cal.ofV (by decide) rfl (Nat.le_of_ble_eq_true rfl) (s_Ma_now ?_)
  rw [h4, toN]
  exact ⟨by omega, h⟩
theorem sp_doTurnC (hL : L ≤ 4000) (hd : 9 ≤ d) (hk : k < 8) (h4 : w 43 4 = (k : Int)) (hn : n ≤ 40) (h31 : w 31 0 = (n : Int)) (hG : ∀ v, v < n → GrC (XCw w (moA k) v) w na) (hB : BkC T L j a E w pc) (hpc : if w (moA k) 0 = 0 then w 8 4 = (pc : Int) else w 8 5 = (pc : Int)) (hE : ENb E) (hN : NUM E) (hc4 : cntE 4 E = 0) (hc1 : cntE 1 E ≤ 8)
    (hok : ∀ w5 w', FoK (moA ((k + 1) % 8)) (moA k) w w5 → TC (moA ((k + 1) % 8)) (cntE 1 E) (FC T L w (moA k) a E) (actC w (moA k)) w5 w' n → ∀ x, x = wr (w 43 12 + 1) → K (.inl (some (vI 1))) (up (up (up w' 43 6 ((sumT (FC T L w (moA k) a E) (actC w (moA k)) n : Nat) : Int)) 43 4 (((k + 1) % 8 : Nat) : Int)) 43 12 (if 6 < x then 6 else x)))
    (her : ∀ v e w5 w', v < n → actC w (moA k) v = true → FC T L w (moA k) a E v = .error e → (∀ u, u < v → actC w (moA k) u = true → ∃ σ, FC T L w (moA k) a E u = .ok σ) → FoK (moA ((k + 1) % 8)) (moA k) w w5 → FWk (moA ((k + 1) % 8)) w5 w' → K (.inl (some (vI 0))) (up (up (up (up w' 43 7 (e.1 : Int)) 43 8 (v : Int)) 43 9 (e.2 : Int)) 43 10 (w (moA k) 0))) : Cal g LC jMa_doTurn d [vA 43] w K := by
  obtain ⟨d, rfl⟩ : ∃ d', d = d' + 1 := ⟨d - 1, by omega⟩
  have hk1 : (k + 1) % 8 < 8 := Nat.mod_lt _ (by decide)
  have hma : isMo (moA ((k + 1) % 8)) := ⟨_, hk1, rfl⟩
  have hmb : isMo (moA k) := ⟨_, hk, rfl⟩
  have hne : moA ((k + 1) % 8) ≠ moA k := by
    show 45 + 7 * ((k + 1) % 8) ≠ 45 + 7 * k
    omega
  have ra := mo_rng hma
  have hr8 : iRem (wr (w 43 4 + 1)) 8 = (((k + 1) % 8 : Nat) : Int) := by rw [h4]; exact rem8a ⟨k, hk⟩
  refine Cal.ofV (by decide) rfl (Nat.le_of_ble_eq_true rfl) (s_Ma_doTurn (sp_nowC hk h4 ⟨hmb, ?_⟩))
  rw [hr8, toN]
  refine ⟨by omega, sp_follow hma hmb hne (by omega) (fun w4 hF => ?_)⟩
  have e43 : w4 43 = w 43 := hF.1 43 (by omega)
  refine Cal.ofV (by decide) rfl (Nat.le_of_ble_eq_true rfl) (s_Wo_setTurn hmb hma ?_)
  have hFo : FoK (moA ((k + 1) % 8)) (moA k) w (up (up (up w4 101 8 (w4 43 5)) 101 6 ((moA k : Nat) : Int)) 101 7 ((moA ((k + 1) % 8) : Nat) : Int)) := by
    obtain ⟨g1, g2, g3, g4, g5, g6, g7⟩ := hF
    have u : ∀ o, o ≠ 101 → up (up (up w4 101 8 (w4 43 5)) 101 6 ((moA k : Nat) : Int)) 101 7 ((moA ((k + 1) % 8) : Nat) : Int) o = w4 o := fun o ho => by rw [up_o ho, up_o ho, up_o ho]
    refine ⟨fun o p q => by rw [u o p]; exact g1 o q, by rw [u _ (by omega)]; exact g2, by rw [u _ (by omega)]; exact g3, by rw [u _ (by omega)]; exact g4, by rw [u _ (by omega)]; exact g5, by rw [u _ (by omega), u _ (by omega)]; exact g6, by rw [u _ (by omega), u _ (by omega)]; exact g7⟩
  refine turn_loop hL (by omega) hma hmb hne hn h31 hG hB hpc hE hN hc4 hc1 hFo ?_ (up_s _ _ _ _) ?_ (fun w' hT x hx => hok _ w' hFo hT x ?_) (fun v e w' h1 h2 h3 h4 h5 => her v e _ w' h1 h2 h3 h4 hFo h5) n 0 _ (by omega) ⟨⟨fun _ _ => rfl, fun _ _ _ _ => rfl, fun _ _ => rfl⟩, fun v hv => by omega, fun v _ => ⟨fun _ _ => rfl, rfl⟩, fun o _ => rfl, Nat.zero_le _⟩
  · rw [up_k (by decide), up_s]
  · rw [up_k (by decide), up_k (by decide), up_s, e43]
  · rw [hx, hT.1.1 43 (by decide), up_o (by decide), up_o (by decide), up_o (by decide), e43]
theorem sp_hasEndedC (hd : 1 ≤ d) (hk : k < 8) (h4 : w 43 4 = (k : Int)) (hn : n ≤ 40) (h31 : w 31 0 = (n : Int)) (h : K (.inl (some (vI (if w (moA k) 1 = 0 ∧ rsN (w (moA k + 2)) n = n then 1 else 0)))) w) : Cal g LC jMa_hasEnded d [vA 43] w K := by
  obtain ⟨d, rfl⟩ : ∃ d', d = d' + 1 := ⟨d - 1, by omega⟩
  have hmb : isMo (moA k) := ⟨_, hk, rfl⟩
  refine Cal.ofV (by decide) rfl (Nat.le_of_ble_eq_true rfl) (s_Ma_hasEnded (sp_nowC hk h4 ⟨hmb, fun z => ?_, fun z => sp_nowC hk h4 ⟨hmb, ?_⟩⟩))
  · rw [if_neg (fun q => z q.1)] at h; exact h
  · rw [h31]
    refine sp_restingOf hmb hn ⟨fun y => ?_, fun y => ?_⟩
    · rw [if_neg (fun q => y (by rw [q.2, h31]))] at h; exact h
    · rw [if_pos ⟨z, by rw [h31] at y; omega⟩] at h; exact h
end TurnC2
