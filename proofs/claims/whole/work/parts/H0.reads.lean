/-! ===== what a RUN shows: state, message, messages, global, halted, told ===== -/
section Reads
variable {g gm : Mg} {d n : Nat} {K : Ou → Wd → Prop} {w wc wm : Wd} {p p1 p2 : Int}
theorem inv_run (hI : Inv wc wm) : (wc 43 11 = 0 ∧ wm 0 64 = 0) ∨ (wc 43 11 = 1 ∧ wm 0 64 = 1 ∧ ∃ T L m D a0 a1 s1 l1 n na k kq, Gd T L m D a0 a1 s1 l1 wc wm ∧ GrR wc wm n na ∧ RuR D n k kq wc wm) := by
  obtain ⟨-, n, na, h2, h3⟩ := hI
  rcases h3 with ⟨-, b⟩ | ⟨T, L, m, D, a0, a1, s1, l1, a, b⟩
  · exact Or.inl b
  · rcases b with b | ⟨b1, b2, k, kq, b3⟩
    · exact Or.inl b
    · exact Or.inr ⟨b1, b2, T, L, m, D, a0, a1, s1, l1, n, na, k, kq, a, h2, b3⟩
theorem sp_runsOn (hd : 1 ≤ d) (h1 : ¬ w 43 11 = 0 → 0 ≤ p → p < w 31 0 → K (.inl (some (vI 1))) w) (h0 : (w 43 11 = 0 ∨ ¬ (0 ≤ p ∧ p < w 31 0)) → K (.inl (some (vI 0))) w) : Cal g LC jVL_runsOn d [vA 0, vI p] w K := by
  obtain ⟨d, rfl⟩ : ∃ d', d = d' + 1 := ⟨d - 1, by omega⟩
  refine Cal.ofV (by decide) rfl (Nat.le_of_ble_eq_true rfl) (s_VL_runsOn ⟨fun z => h0 (Or.inl z), fun z => Cal.ofV (by decide) rfl (Nat.le_of_ble_eq_true rfl) (s_Gr_hasNode ⟨fun y => ⟨fun _ => h0 (Or.inr (by omega)), fun q => absurd rfl q⟩, fun y => ⟨fun x => ⟨fun _ => h0 (Or.inr (by omega)), fun q => absurd rfl q⟩, fun x => ⟨fun q => absurd q (by decide), fun _ => h1 z (by omega) (by omega)⟩⟩⟩)⟩)
theorem sp_howManyC {s : Nat} (hd : 1 ≤ d) (hs : s < 5) (h8 : w 8 2 = 1) (h : K (.inl (some (vI (w 18 s)))) w) : Cal g LC jPr_howMany d [vA 8, vI (s : Int)] w K := by
  obtain ⟨d, rfl⟩ : ∃ d', d = d' + 1 := ⟨d - 1, by omega⟩
  refine Cal.ofV (by decide) rfl (Nat.le_of_ble_eq_true rfl) (s_Pr_howMany ⟨fun z => absurd z (by rw [h8]; decide), fun _ => Cal.ofV (by decide) rfl (Nat.le_of_ble_eq_true rfl) (s_Lo_howMany ⟨by omega, ?_⟩)⟩)
  rw [toN]
  exact h
theorem sp_in0 {b : Int} (hp : inI p) (hn : n ≤ 1000) (hb : b = wr ((n : Int) - 1)) (h1 : 0 ≤ p ∧ p < (n : Int) → K (.inl (some (vI 1))) w) (h0 : ¬ (0 ≤ p ∧ p < (n : Int)) → K (.inl (some (vI 0))) w) : Cal gm LM jMd_in d [vL p, vL 0, vL b] w K := by
  have hb : b = (n : Int) - 1 := by rw [hb]; exact wr_id (by unfold inI; omega)
  unfold inI at hp
  refine sp_in (by unfold inL; omega) (by decide) (by unfold inL; omega) ?_
  by_cases z : 0 ≤ p ∧ p < (n : Int)
  · rw [if_pos (by omega)]; exact h1 z
  · rw [if_neg (by omega)]; exact h0 z
theorem ix8_ {v k : Nat} (hv : v < 40) (hk : k < 8) : wr (wr ((v : Int) * 8) + (k : Int)) = ((8 * v + k : Nat) : Int) := by
  rw [wr_id (x := (v : Int) * 8) (by unfold inI; omega), wr_id (by unfold inI; omega)]; omega
theorem ix8m {v k : Nat} (hv : v < 40) (hk : k < 8) : wr (wr (8 * (v : Int)) + (k : Int)) = ((8 * v + k : Nat) : Int) := by
  rw [wr_id (x := 8 * (v : Int)) (by unfold inI; omega), wr_id (by unfold inI; omega)]; omega
theorem ix4_ {v k : Nat} (hv : v < 40) (hk : k < 4) : wr (wr ((v : Int) * 4) + (k : Int)) = ((4 * v + k : Nat) : Int) := by
  rw [wr_id (x := (v : Int) * 4) (by unfold inI; omega), wr_id (by unfold inI; omega)]; omega
theorem ix4m {v k : Nat} (hv : v < 40) (hk : k < 4) : wr (wr (4 * (v : Int)) + (k : Int)) = ((4 * v + k : Nat) : Int) := by
  rw [wr_id (x := 4 * (v : Int)) (by unfold inI; omega), wr_id (by unfold inI; omega)]; omega
theorem nat_of {x : Int} {n : Nat} (h : 0 ≤ x ∧ x < (n : Int)) : ∃ v : Nat, v < n ∧ x = (v : Int) := ⟨x.toNat, by omega, by omega⟩
theorem sp_nowB {k : Nat} (hk : k < 8) (h4 : w 43 4 = (k : Int)) (h : K (.inl (some (vA (moB k 0)))) w) : Cal g LC jMa_now d [vA 43] w K := by
  refine sp_nowC hk h4 ?_
  rw [moB_0 hk] at h
  exact h
theorem b_state (hp1 : inI p1) (hp2 : inI p2) (hd : 3 ≤ d) (hI : Inv wc wm) (h : ∀ x wc', Bo jMd_state [vA 0, vI p1, vI p2] wm wc' x → K (.inl (some (vI x))) wc') : Cal g LC jVL_state d [vA 0, vI p1, vI p2] wc K := by
  obtain ⟨d, rfl⟩ : ∃ d', d = d' + 1 := ⟨d - 1, by omega⟩
  have no : (∀ (gm : Mg) (dM : Nat) (Kx : Ou → Wd → Prop), 1111 ≤ dM → Kx (.inl (some (vI 0))) (up wm 0 0 0) → V gm LM jMd_state (dM + 1) Kx 0 [(0, vA 0), (1, vI p1), (2, vI p2)] [] wm) → K (.inl (some (vI 0))) wc := fun hq => h 0 wc (Bo.same hI (fun gm dM Kx hdM hK => by
    obtain ⟨dM, rfl⟩ : ∃ d', dM = d' + 1 := ⟨dM - 1, by omega⟩
    exact Cal.ofV (by decide) rfl (Nat.le_of_ble_eq_true rfl) (hq gm dM Kx (by omega) hK)))
  rcases inv_run hI with ⟨r1, r2⟩ | ⟨r1, r2, T, L, m, D, a0, a1, s1, l1, n, na, k, kq, hG, hGr, hR⟩
  · refine Cal.ofV (by decide) rfl (Nat.le_of_ble_eq_true rfl) (s_VL_state (sp_runsOn (by omega) (fun z => absurd r1 z) (fun _ => ⟨fun _ => no (fun gm dM Kx hdM hK => s_Md_state ⟨fun _ => hK, fun z => absurd r2 z⟩), fun z => absurd rfl z⟩)))
  · obtain ⟨d1, d2, d3, d4, d5, -⟩ := id hG
    obtain ⟨⟨c4, c1, c2, c3⟩, -⟩ := d1.2.2
    obtain ⟨⟨g1, g2, g3, g4, -⟩, q2, -⟩ := id hGr
    obtain ⟨x1, x2, x3, x4, x5, x6, x7, x8, x9, x10, -⟩ := id hR
    have t16 : wm 16 1 = ((cntE 1 (enD D) : Nat) : Int) := (d2.2.1.2.1 1 (by decide)).1
    have m59 : wr (up wm 0 0 0 0 59 - 1) = wr ((n : Int) - 1) := by rw [up_k (by decide), q2]
    have h59 : wr (wm 0 59 - 1) = wr ((n : Int) - 1) := by rw [q2]
    have h16 : wr (up wm 0 0 0 16 1 - 1) = wr (((cntE 1 (enD D) : Nat) : Int) - 1) := by rw [up_o (by decide), t16]
    have bad2 : ¬ (0 ≤ p2 ∧ p2 < ((cntE 1 (enD D) : Nat) : Int)) → K (.inl (some (vI 0))) wc := fun z => no (fun gm dM Kx hdM hK => s_Md_state ⟨fun y => absurd y (by rw [r2]; decide), fun _ => sp_in0 hp1 (by omega) h59 (fun _ => ⟨fun y => absurd y (by decide), fun _ => sp_in0 hp2 (by omega) h16 (fun y => absurd y z) (fun _ => ⟨fun y => absurd rfl y, fun _ => hK⟩)⟩) (fun _ => ⟨fun _ => hK, fun y => absurd rfl y⟩)⟩)
    refine Cal.ofV (by decide) rfl (Nat.le_of_ble_eq_true rfl) (s_VL_state (sp_runsOn (by omega) (fun _ y1 y2 => ⟨fun q => absurd q (by decide), fun _ => ⟨fun z => bad2 (by omega), fun z => sp_howManyC (s := 1) (by omega) (by decide) d3 ⟨fun z2 => sp_nowB x1 x3 ⟨moB_mo, ?_⟩, fun z2 => bad2 (by rw [d5 1 (by decide)] at z2; omega)⟩⟩⟩) (fun z => ⟨fun _ => no (fun gm dM Kx hdM hK => s_Md_state ⟨fun y => absurd y (by rw [r2]; decide), fun _ => sp_in0 hp1 (by omega) h59 (fun y => ?_) (fun _ => ⟨fun _ => hK, fun y => absurd rfl y⟩)⟩), fun q => absurd rfl q⟩)))
    · rw [g1] at y2
      rw [d5 1 (by decide)] at z2
      obtain ⟨v, hv, rfl⟩ := nat_of ⟨y1, y2⟩
      obtain ⟨i, hi, rfl⟩ := nat_of (x := p2) ⟨by omega, z2⟩
      rw [ix8_ (by omega) (by omega), toN]
      refine ⟨by omega, h _ wc (Bo.same hI (fun gm dM Kx hdM hK => ?_))⟩
      obtain ⟨dM, rfl⟩ : ∃ d', dM = d' + 1 := ⟨dM - 1, by omega⟩
      refine Cal.ofV (by decide) rfl (Nat.le_of_ble_eq_true rfl) (s_Md_state ⟨fun y => absurd y (by rw [r2]; decide), fun _ => sp_in0 hp1 (by omega) h59 (fun _ => ⟨fun y => absurd y (by decide), fun _ => sp_in0 hp2 (by omega) h16 (fun y => ⟨fun _ => ?_, fun q => absurd q (by decide)⟩) (fun y => absurd (by omega) y)⟩) (fun y => absurd (by omega) y)⟩)
      rw [ix8m (by omega) (by omega), toN, up_o (by decide), ← svF_0 (w := wm) (by omega), ← x10.1 v i hv hi]
      exact ⟨by omega, hK⟩
    · exfalso
      rcases z with z | z
      · rw [r1] at z; exact absurd z (by decide)
      · rw [g1] at z; exact z y
end Reads
