/-! ===== the model judges: signs, kinds ===== -/
/-- a kind of the program as the model's -/
def kI (x : Int) : Int := if x = 0 then 2 else x - 1
theorem kM_I (k : Nat) : kM k = kI (k : Int) := by
  unfold kM kI
  by_cases h : k = 0
  · subst h; rfl
  · rw [if_neg h, if_neg (by omega)]
theorem kI_2 {x : Int} (h : 0 ≤ x ∧ x ≤ 2) : kI x = 2 ↔ x = 0 := by
  unfold kI
  split <;> omega
theorem kI_inj {x y : Int} (hx : 0 ≤ x ∧ x ≤ 2) (hy : 0 ≤ y ∧ y ≤ 2) (h : kI x = kI y) : x = y := by
  unfold kI at h
  split at h <;> split at h <;> omega
def Blm (w w' : Wd) : Prop := (∀ c, c ≠ 0 → w' c = w c) ∧ ∀ b, b ≠ 46 → b ≠ 47 → w' 0 b = w 0 b
theorem Blm.rf (w : Wd) : Blm w w := ⟨fun _ _ => rfl, fun _ _ _ => rfl⟩
theorem KyM.big {w : Wd} {k : Nat} (h : KyM w k) : min k 100000 = k := by
  rcases h with ⟨rfl, -⟩ | ⟨p, f, rfl, -, h2, h3, -, -⟩
  · rfl
  · omega
section ModelJudge
variable {g : Mg} {d D : Nat} {K : Ou → Wd → Prop} {w w' : Wd} {T : Nat → Int} {L m : Nat}
theorem sp_isSignM {c o i : Nat} (hD : 5 ≤ D) (hM : TxM T L m w) (hi : i ≤ m) (h4 : 4 ≤ kdT T L i) (ho : 1001 ≤ o ∧ o < 1060) (hc : sB (o - 1001) = sgn c ∧ 4 ≤ c ∧ c < 60) (h : K (.inl (some (vI (if kdT T L i = c then 1 else 0)))) w) : Cal g LM jMd_isSign D [vA 0, vI (i : Int), vA o] w K := by
  obtain ⟨d, rfl⟩ : ∃ d, D = d + 1 := ⟨D - 1, by omega⟩
  have hbd := tk_bd (i := i) hM
  obtain ⟨hk, hm4, -, -, h3, hL4⟩ := hM
  obtain ⟨-, k5, k6, -⟩ := hk i (by omega)
  have h1 : kdT T L i = c → K (.inl (some (vI 1))) w := fun z => by rw [if_pos z] at h; exact h
  have h0 : ¬ kdT T L i = c → K (.inl (some (vI 0))) w := fun z => by rw [if_neg z] at h; exact h
  have hl : tAt T L i < L := by
    by_cases q : tAt T L i < L
    · exact q
    · unfold kdT at h4; rw [if_neg q] at h4; omega
  have e1 := kdT_at hl
  rw [e1] at h4
  obtain ⟨t1, t2, t3⟩ := tKd_text h4
  refine Cal.ofV (by decide) rfl (Nat.le_of_ble_eq_true rfl) (s_Md_isSign ⟨by omega, by omega, ?_⟩)
  rw [toN, k5, k6]
  refine sp_isText (by omega) ho hbd (fun q1 q2 => ⟨Or.inr rfl, h1 ?_⟩) (fun q => ⟨Or.inl rfl, h0 (fun z => q ?_)⟩)
  · rw [hc.1] at q1 q2
    rw [h3] at q2
    have hs := tSz_at hl
    have := mtb_eq t3 q2 (by rw [← t2, ← hs, q1])
    rw [e1]
    exact sgn_inj _ t1 _ hc.2.2 h4 hc.2.1 this
  · rw [hc.1, ← z, h3, e1]
    exact ⟨by rw [tSz_at hl, t2], t3⟩
theorem sp_mustBeM {e f k : Nat} {x y : Int} (hD : 2 ≤ D) (hM : TxM T L m w) (he : e < 2000) (hx : 0 ≤ x ∧ x ≤ 2) (hy : 0 ≤ y ∧ y ≤ 2) (hf : w 28 e = (f : Int)) (hfm : f ≤ m) (hK : KyM w k) (h : ∀ w', Blm w w' → KyM w' (min k (dm T L x y f)) → K (.inl none) w') : Cal g LM jMd_mustBe D [vA 0, vI (e : Int), vI (kI x), vI (kI y)] w K := by
  obtain ⟨d, rfl⟩ : ∃ d, D = d + 1 := ⟨D - 1, by omega⟩
  have hno : ¬ (y ≠ 0 ∧ x ≠ 0 ∧ x ≠ y) → K (.inl none) w := fun z => h w (Blm.rf w) (by unfold dm; rw [if_neg z, hK.big]; exact hK)
  refine Cal.ofV (by decide) rfl (Nat.le_of_ble_eq_true rfl) (s_Md_mustBe ⟨fun z => hno (fun q => q.2.1 ((kI_2 hx).mp z)), fun z1 => ⟨fun z => hno (fun q => q.1 ((kI_2 hy).mp z)), fun z2 => ⟨fun z => hno (fun q => q.2.2 (kI_inj hx hy z)), fun z3 => ⟨by omega, ?_⟩⟩⟩⟩)
  rw [toN, hf]
  have hyes : y ≠ 0 ∧ x ≠ 0 ∧ x ≠ y := ⟨fun q => z2 ((kI_2 hy).mpr q), fun q => z1 ((kI_2 hx).mpr q), fun q => z3 (by rw [q])⟩
  refine sp_blameM (f := 5) (by omega) hM hfm (by decide) hK (fun w' a b c => h w' ⟨a, b⟩ ?_)
  unfold dm
  rw [if_pos hyes]
  exact c
end ModelJudge
