/-! ===== the class's exps: one and base, and so all of them ===== -/
section ExpAll2
variable {g : Mg} {d : Nat} {K : Ou → Wd → Prop} {w : Wd} {T : Nat → Int} {L : Nat} {E : List En} {b : Bool}
theorem SpE.mono {J : Jm} {D D' : Nat} {args : List AV} {X : Wd → Wd → Nat → Nat → Tr → Prop} {r : Nat → PE (Tr × Nat)} (h : SpE g J D args T L E b X r) (hd : D ≤ D') : SpE g J D' args T L E b X r := fun K w σ hP hk => (h K w σ hP hk).mono hd
section PureOne
variable {kd : Nat → Nat} {m i : Nat}
theorem pO_n (h : ¬ bgO (kd i)) (n : Nat) : pOne kd n i = .error (1, i) := by
  cases n with
  | zero => rw [pOne, if_neg h]
  | succ n => rw [pOne, if_neg h]
theorem pO_y (h : bgO (kd i)) : pOne kd (m + 1) i = if 1000 ≤ i then .error (2, i) else pB kd (pOne kd m) i := by rw [pOne, if_pos h]
theorem pO_leaf (h : bgO (kd i)) (h1 : kd i ≠ 16) (h2 : kd i ≠ 20) (h3 : kd i ≠ 7) (h4 : kd i ≠ 59) (h5 : kd i ≠ 48) (h6 : kd i ≠ 52) (h7 : kd i ≠ 53) : pOne kd (m + 1) i = if 1000 ≤ i then .error (2, i) else .ok (nd 0 i 0 nl nl, i + 1) := by
  rw [pO_y h]
  unfold pB
  rw [if_neg (show ¬ (kd i = 16 ∨ kd i = 20) from by omega), if_neg h3, if_neg h4, if_neg h5, if_neg h6, if_neg h7]
theorem pO_ex {c : Nat} {f : Nat → PE (Tr × Nat)} (h : bgO (kd i)) (hc : kd i = c) (hb : pB kd (pOne kd m) i = f (i + 1)) : pOne kd (m + 1) i = bnd (ex kd c i) f := by
  rw [pO_y h]
  unfold ex
  rw [if_pos hc]
  split
  · rfl
  · exact hb
end PureOne
theorem sp_base {within n : Nat} {σ : PE Nat} (hd : 3 ≤ d) (hw : within + n = 13) (he : ∀ m, n = m + 1 → SpE g jEx_exp d [vA 26, vI ((within + 1 : Nat) : Int)] T L E b (XS T L E b 1) (pE (kdT T L) m)) (hP : PX T L E b w σ) (hk : ∀ i, σ = .ok i → kdT T L i ≠ 16 ∧ kdT T L i ≠ 20 ∧ (n = 0 → ¬ bgO (kdT T L i))) (h : ∀ (w' : Wd) (x : Nat), Fx FEl w w' → IC T L w' → x ≤ nTk T L → RR T L (XP T L E b) w w' σ (pOne (kdT T L) n) x → K (.inl (some (vI (x : Int)))) w') : Cal g LC jEx_base (d + 2) [vA 26, vI (within : Int)] w K := by
  obtain ⟨hI, hC, hE, hb⟩ := id hP
  refine Cal.ofV (by decide) rfl (Nat.le_of_ble_eq_true rfl) (s_Ex_base (sp_kind hI hC ?_))
  cases σ with
  | error e =>
    have h0 : ((kS T L (.error e) : Nat) : Int) = 0 := rfl
    rw [h0]
    refine ⟨fun z => absurd z (by decide), fun _ => ⟨fun z => absurd z (by decide), fun _ => ⟨fun z => absurd z (by decide), fun _ => ⟨fun z => absurd z (by decide), fun _ => ⟨fun z => absurd z (by decide), fun _ => ⟨fun z => absurd z (by decide), fun _ => ⟨fun z => absurd z (by decide), fun _ => ⟨fun z => absurd z (by decide), fun _ => ⟨fun z => absurd z (by decide), fun _ => ?_⟩⟩⟩⟩⟩⟩⟩⟩⟩
    exact sp_fact (by omega) hP (fun i z => by cases z) h
  | ok i =>
    obtain ⟨k16, k20, kn0⟩ := hk i rfl
    have hks : ((kS T L (.ok i) : Nat) : Int) = ((kdT T L i : Nat) : Int) := rfl
    rw [hks]
    have hn1 : bgO (kdT T L i) → ∃ m, n = m + 1 := fun z => by
      cases n with
      | zero => exact absurd z (kn0 rfl)
      | succ m => exact ⟨m, rfl⟩
    refine ⟨fun z => ?_, fun z2 => ⟨fun z => ?_, fun z3 => ⟨fun z => ?_, fun z7 => ⟨fun z => ?_, fun z31 => ⟨fun z => ?_, fun z32 => ⟨fun z => ?_, fun z48 => ⟨fun z => ?_, fun z52 => ⟨fun z => ?_, fun z53 => ⟨fun z => ?_, fun z59 => ?_⟩⟩⟩⟩⟩⟩⟩⟩⟩
    · have hk2 : kdT T L i = 2 := by omega
      have hbg : bgO (kdT T L i) := by omega
      obtain ⟨m, rfl⟩ := hn1 hbg
      exact sp_named (by omega) hP hk2 (pO_leaf hbg (by omega) (by omega) (by omega) (by omega) (by omega) (by omega) (by omega)) h
    · have hbg : bgO (kdT T L i) := by omega
      obtain ⟨m, rfl⟩ := hn1 hbg
      exact sp_constant (by omega) hP (by omega) (pO_leaf hbg (by omega) (by omega) (by omega) (by omega) (by omega) (by omega) (by omega)) h
    · have hk7 : kdT T L i = 7 := by omega
      have hbg : bgO (kdT T L i) := by omega
      obtain ⟨m, rfl⟩ := hn1 hbg
      refine sp_group hd (by omega) (he m rfl) hP (pO_ex hbg hk7 ?_) h
      unfold pB
      rw [if_neg (by omega), if_pos hk7]
    · have hbg : bgO (kdT T L i) := by omega
      obtain ⟨m, rfl⟩ := hn1 hbg
      exact sp_constant (by omega) hP (by omega) (pO_leaf hbg (by omega) (by omega) (by omega) (by omega) (by omega) (by omega) (by omega)) h
    · have hbg : bgO (kdT T L i) := by omega
      obtain ⟨m, rfl⟩ := hn1 hbg
      exact sp_constant (by omega) hP (by omega) (pO_leaf hbg (by omega) (by omega) (by omega) (by omega) (by omega) (by omega) (by omega)) h
    · have hkk : kdT T L i = 48 := by omega
      have hbg : bgO (kdT T L i) := by omega
      obtain ⟨m, rfl⟩ := hn1 hbg
      refine sp_choice hd (by omega) (he m rfl) hP (pO_ex hbg hkk ?_) h
      unfold pB
      rw [if_neg (by omega), if_neg (by omega), if_neg (by omega), if_pos hkk]
    · have hkk : kdT T L i = 52 := by omega
      have hbg : bgO (kdT T L i) := by omega
      obtain ⟨m, rfl⟩ := hn1 hbg
      refine sp_column (by omega) hP (pO_ex hbg hkk ?_) h
      unfold pB
      rw [if_neg (by omega), if_neg (by omega), if_neg (by omega), if_neg (by omega), if_pos hkk]
    · have hkk : kdT T L i = 53 := by omega
      have hbg : bgO (kdT T L i) := by omega
      obtain ⟨m, rfl⟩ := hn1 hbg
      refine sp_has (by omega) hP (pO_ex hbg hkk ?_) h
      unfold pB
      rw [if_neg (by omega), if_neg (by omega), if_neg (by omega), if_neg (by omega), if_neg (by omega), if_pos hkk]
    · have hkk : kdT T L i = 59 := by omega
      have hbg : bgO (kdT T L i) := by omega
      obtain ⟨m, rfl⟩ := hn1 hbg
      refine sp_draw hd (by omega) (he m rfl) hP (pO_ex hbg hkk ?_) h
      unfold pB
      rw [if_neg (by omega), if_neg (by omega), if_pos hkk]
    · refine sp_fact (by omega) hP (fun i' z => ?_) h
      cases z
      by_cases h5 : 54 ≤ kdT T L i ∧ kdT T L i ≤ 58
      · left
        have hbg : bgO (kdT T L i) := by omega
        obtain ⟨m, rfl⟩ := hn1 hbg
        exact ⟨h5.1, h5.2, pO_leaf hbg (by omega) (by omega) (by omega) (by omega) (by omega) (by omega) (by omega)⟩
      · right
        have hnb : ¬ bgO (kdT T L i) := by clear hn1; omega
        exact ⟨h5, pO_n hnb n⟩
theorem sp_one27 {within n : Nat} {σ : PE Nat} (hd : 3 ≤ d) (hw : within + n = 13) (he : ∀ m, n = m + 1 → SpE g jEx_exp d [vA 26, vI ((within + 1 : Nat) : Int)] T L E b (XS T L E b 1) (pE (kdT T L) m)) (ho : ∀ m, n = m + 1 → SpE g jEx_one (d + 2) [vA 26, vI ((within + 1 : Nat) : Int)] T L E b (XP T L E b) (pOne (kdT T L) m)) (hP : PX T L E b w σ) (hk : ∀ i, σ = .ok i → n = 0 → ¬ bgO (kdT T L i)) (h : ∀ (w' : Wd) (x : Nat), Fx FEl w w' → IC T L w' → x ≤ nTk T L → RR T L (XP T L E b) w w' σ (pOne (kdT T L) n) x → K (.inl (some (vI (x : Int)))) w') : V g LC jEx_one (d + 3) K 27 [(0, vA 26), (1, vI (within : Int))] [] w := by
  obtain ⟨hI, hC, hE, hb⟩ := id hP
  refine s_Ex_one_27 (sp_kind hI hC ?_)
  cases σ with
  | error e =>
    have h0 : ((kS T L (.error e) : Nat) : Int) = 0 := rfl
    rw [h0]
    refine ⟨fun z => absurd z (by decide), fun _ => ⟨fun z => absurd z (by decide), fun _ => ?_⟩⟩
    exact sp_base hd hw he hP (fun i z => by cases z) h
  | ok i =>
    have hks : ((kS T L (.ok i) : Nat) : Int) = ((kdT T L i : Nat) : Int) := rfl
    rw [hks]
    have hun : ∀ sg : Nat, kdT T L i = sg → (sg = 16 ∨ sg = 20) → V g LC jEx_one (d + 3) K 53 [(0, vA 26), (1, vI (within : Int)), (2, vI ((kdT T L i : Nat) : Int))] [] w := by
      intro sg hsg h2
      have hbg : bgO (kdT T L i) := by omega
      have hn1 : ∃ m, n = m + 1 := by
        cases n with
        | zero => exact absurd hbg (hk i rfl rfl)
        | succ m => exact ⟨m, rfl⟩
      obtain ⟨m, rfl⟩ := hn1
      rw [hsg]
      refine sp_unary (by omega) (by omega) (ho m rfl) hP hsg h2 (pO_ex hbg hsg ?_) h
      unfold pB
      rw [if_pos (by omega)]
    refine ⟨fun z => hun 16 (by omega) (by decide), fun z => ⟨fun z2 => hun 20 (by omega) (by decide), fun z2 => ?_⟩⟩
    exact sp_base hd hw he hP (fun i' q => by cases q; exact ⟨by omega, by omega, hk i rfl⟩) h
theorem sp_oneN {within n : Nat} (hd : 3 ≤ d) (hw : within + n = 13) (he : ∀ m, n = m + 1 → SpE g jEx_exp d [vA 26, vI ((within + 1 : Nat) : Int)] T L E b (XS T L E b 1) (pE (kdT T L) m)) (ho : ∀ m, n = m + 1 → SpE g jEx_one (d + 2) [vA 26, vI ((within + 1 : Nat) : Int)] T L E b (XP T L E b) (pOne (kdT T L) m)) : SpE g jEx_one (d + 3) [vA 26, vI (within : Int)] T L E b (XP T L E b) (pOne (kdT T L) n) := by
  intro K w σ hP h
  obtain ⟨hI, hC, hE, hb⟩ := id hP
  refine Cal.ofV (by decide) rfl (Nat.le_of_ble_eq_true rfl) (s_Ex_one ⟨fun c => sp_one27 hd hw he ho hP (fun _ _ z => by omega) h, fun c => sp_kind hI hC (sp_beginsOne (by omega) ⟨fun c2 => ?_, fun c2 => ?_⟩)⟩)
  · refine sp_one27 hd hw he ho hP (fun i z _ hb2 => ?_) h
    subst z
    have hb3 : bgO (kS T L (.ok i)) := hb2
    rw [if_pos hb3] at c2
    exact absurd c2 (by decide)
  · have hb2 : bgO (kS T L σ) := by
      by_cases hb2 : bgO (kS T L σ)
      · exact hb2
      · rw [if_neg hb2] at c2; exact absurd rfl c2
    cases σ with
    | error e =>
      have : bgO 0 := hb2
      exact absurd this (by decide)
    | ok i =>
      have hb3 : bgO (kdT T L i) := hb2
      refine sp_stop (f := 2) (by decide) hI hC (fun w5 hC35 hC5 => ?_)
      have hC5' : CS T L w5 (.error (2, i)) := hC5
      refine sp_one27 hd hw he ho (hP.c3 (τ := .error (2, i)) hC35.1 hC5' (fun _ z => by cases z)) (fun _ z => by cases z) (fun w' x hF hI' hx hRR => h w' x ((m25 hC35.1).tr hF) hI' hx (RR.err (e := (2, i)) ?_ hRR))
      have hn0 : n = 0 := by omega
      subst hn0
      rw [pOne, if_pos hb3]
theorem sp_one : ∀ (n within : Nat), within + n = 13 → SpE g jEx_one (9 * n + 6) [vA 26, vI (within : Int)] T L E b (XP T L E b) (pOne (kdT T L) n) := by
  intro n
  induction n with
  | zero => intro within hw; exact sp_oneN (d := 3) (by decide) hw (fun m z => by omega) (fun m z => by omega)
  | succ n ih =>
    intro within hw
    have h1 := ih (within + 1) (by omega)
    refine sp_oneN (d := 9 * n + 12) (by omega) hw (fun m z => ?_) (fun m z => ?_)
    · have : m = n := by omega
      subst this
      exact sp_exp (d := 9 * m + 6) (by omega) (by omega) h1
    · have : m = n := by omega
      subst this
      exact h1.mono (by omega)
/-- exp(within) -/
theorem sp_expW {n within D : Nat} (hw : within + n = 13) (hD : 140 ≤ D) : SpE g jEx_exp D [vA 26, vI (within : Int)] T L E b (XS T L E b 1) (pE (kdT T L) n) := (sp_exp (d := 9 * n + 6) (by omega) (by omega) (sp_one n within hw)).mono (by omega)
end ExpAll2
