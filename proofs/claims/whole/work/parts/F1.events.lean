/-! ===== what is sent and given: each costs a STEP, names a fold or global, keeps its KIND ===== -/
def WEv (E : List En) (n : Nat) (e : Nat × Nat × Int) : Prop := (e.1 = 0 → ∃ en ∈ E, en.2.1 = 3 ∧ en.2.2.1 = e.2.1 ∧ (en.2.2.2 = 2 → b01 e.2.2)) ∧ (e.1 ≠ 0 → e.1 - 1 < n ∧ ∃ en ∈ E, en.2.1 = 2 ∧ en.2.2.1 = e.2.1 ∧ (en.2.2.2 = 2 → b01 e.2.2))
def EvR (E : List En) (n : Nat) (σ σ' : SS) : Prop := ∃ l, ze σ' = ze σ ++ l ∧ zs σ + l.length ≤ zs σ' ∧ ∀ e ∈ l, WEv E n e
section Events
variable {T : Nat → Int} {L : Nat} {X : Xv} {j n : Nat} {vl : Nat → Int}
theorem EvR.rf {E : List En} {σ σ' : SS} (he : ze σ' = ze σ) (hs : zs σ ≤ zs σ') : EvR E n σ σ' := ⟨[], by rw [he, List.append_nil], hs, fun e h => by cases h⟩
theorem EvR.tr {E : List En} {a b c : SS} (h1 : EvR E n a b) (h2 : EvR E n b c) : EvR E n a c := by
  obtain ⟨l1, a1, a2, a3⟩ := h1
  obtain ⟨l2, b1, b2, b3⟩ := h2
  refine ⟨l1 ++ l2, by rw [b1, a1, List.append_assoc], by rw [List.length_append]; omega, fun e h => ?_⟩
  rcases List.mem_append.mp h with z | z
  · exact a3 e z
  · exact b3 e z
theorem wev_dn {E : List En} {a : Tr} {e : Nat × Nat × Int} (h : WEv (eSt T L E a) n e) : WEv E n e := by
  have key : ∀ en ∈ eSt T L E a, en.2.1 ≠ 4 → en ∈ E := by
    intro en hen h4
    cases a with
    | leaf => exact hen
    | inner c t q l r =>
      have hen : en ∈ (if c = 12 then E ++ [(t, 4, cntE 4 E, (knT T L E false l).toNat)] else E) := hen
      split at hen
      · rcases List.mem_append.mp hen with z | z
        · exact z
        · simp at z
          subst z
          exact absurd rfl h4
      · exact hen
  obtain ⟨h1, h2⟩ := h
  refine ⟨fun z => ?_, fun z => ?_⟩
  · obtain ⟨en, y1, y2, y3⟩ := h1 z
    exact ⟨en, key en y1 (by omega), y2, y3⟩
  · obtain ⟨y0, en, y1, y2, y3⟩ := h2 z
    exact ⟨y0, en, key en y1 (by omega), y2, y3⟩
theorem EvR.dn {E : List En} {a : Tr} {σ σ' : SS} (h : EvR (eSt T L E a) n σ σ') : EvR E n σ σ' := by
  obtain ⟨l, a1, a2, a3⟩ := h
  exact ⟨l, a1, a2, fun e he => wev_dn (a3 e he)⟩
theorem evx_st {E : List En} {own lets : Nat → Int} {h arc : Nat} : ∀ (a : Tr) (b : Bool) (s d : Nat) (q : Int × Nat × Nat), WE a → evx T L X h E own lets arc b a s d = .ok q → s < q.2.1
  | .leaf, _, _, _, _, hW, _ => hW.elim
  | .inner c t qq l r, b, s, d, q, hW, he => by
    have ihl := evx_st (E := E) (own := own) (lets := lets) (h := h) (arc := arc) l
    have ihr := evx_st (E := E) (own := own) (lets := lets) (h := h) (arc := arc) r
    simp only [WE] at hW
    have leafy : (c = 0 ∨ c = 1 ∨ c = 2) → s < q.2.1 := by
      intro hc
      have e : evx T L X h E own lets arc b (.inner c t qq l r) s d = _ := evx0 hc
      rw [e] at he
      obtain ⟨s1, h1, he⟩ := bnd_ok he
      obtain ⟨rfl, -⟩ := stq_ok h1
      cases he
      exact Nat.lt_succ_self _
    rcases hW with ⟨rfl, rfl, rfl⟩ | ⟨rfl, rfl, rfl⟩ | ⟨rfl, rfl, rfl⟩ | ⟨rfl, hl, rfl⟩ | ⟨rfl, hl, t9, q9, x, y, rfl, hxy⟩ | ⟨rfl, hl, hr⟩ | ⟨rfl, hl, rfl⟩ | ⟨rfl, hl, hr⟩ | ⟨rfl, hl, rfl⟩
    · exact leafy (Or.inl rfl)
    · exact leafy (Or.inr (Or.inl rfl))
    · exact leafy (Or.inr (Or.inr rfl))
    · have e : evx T L X h E own lets arc b (.inner 3 t qq l .leaf) s d = _ := evx3
      rw [e] at he
      obtain ⟨p, h1, he⟩ := bnd_ok he
      obtain ⟨s1, h2, he⟩ := bnd_ok he
      obtain ⟨rfl, -⟩ := stq_ok h2
      have := ihl _ _ _ _ hl h1
      split at he
      · cases he
      · cases he; show s < p.2.1 + 1; omega
    · have e : evx T L X h E own lets arc b (.inner 4 t qq l (nd 9 t9 q9 x y)) s d = _ := evx4
      rw [e] at he
      obtain ⟨p, h1, he⟩ := bnd_ok he
      obtain ⟨s1, h2, he⟩ := bnd_ok he
      obtain ⟨rfl, -⟩ := stq_ok h2
      have a1 := ihl _ _ _ _ hl h1
      have a2 := ihr _ _ _ _ hxy he
      omega
    · have e : evx T L X h E own lets arc b (.inner 9 t qq l r) s d = _ := evx9
      rw [e] at he
      split at he
      · exact ihl _ _ _ _ hl he
      · exact ihr _ _ _ _ hr he
    · have e : evx T L X h E own lets arc b (.inner 5 t qq l .leaf) s d = _ := evx5
      rw [e] at he
      obtain ⟨p, h1, he⟩ := bnd_ok he
      obtain ⟨s1, h2, he⟩ := bnd_ok he
      obtain ⟨rfl, -⟩ := stq_ok h2
      have := ihl _ _ _ _ hl h1
      cases he
      show s < p.2.1 + 1
      omega
    · have e : evx T L X h E own lets arc b (.inner 6 t qq l r) s d = _ := evx6
      rw [e] at he
      split at he
      · obtain ⟨p, h1, he⟩ := bnd_ok he
        obtain ⟨s1, h2, he⟩ := bnd_ok he
        obtain ⟨rfl, -⟩ := stq_ok h2
        have a1 := ihl _ _ _ _ hl h1
        by_cases hq : p.1 = (if lnO (kdT T L t) = 2 then 0 else 1)
        · rw [if_pos hq] at he; cases he; show s < p.2.1 + 1; omega
        · rw [if_neg hq] at he
          have a2 := ihr _ _ _ _ hr he
          omega
      · obtain ⟨p, h1, he⟩ := bnd_ok he
        obtain ⟨p2, h2, he⟩ := bnd_ok he
        obtain ⟨s1, h3, he⟩ := bnd_ok he
        obtain ⟨rfl, -⟩ := stq_ok h3
        have a1 := ihl _ _ _ _ hl h1
        have a2 := ihr _ _ _ _ hr h2
        split at he
        · cases he
        · cases he; show s < p2.2.1 + 1; omega
    · have e : evx T L X h E own lets arc b (.inner 7 t qq l .leaf) s d = _ := evx7
      rw [e] at he
      exact ihl _ _ _ _ hl he
theorem itr_inv2 {h : Nat} {f : SS → PE SS} {P : SS → Prop} (hP : ∀ σ σ', P σ → f (zs σ + 1, zd σ, zo σ, zl σ, ze σ, zb σ) = .ok σ' → P σ') : ∀ (n : Nat) (σ σ' : SS), P σ → itr h f n σ = .ok σ' → P σ'
  | 0, σ, σ', hp, e => by cases e; exact hp
  | n + 1, σ, σ', hp, e => by
    rw [itr] at e
    split at e
    · cases e; exact hp
    · obtain ⟨s1, h1, e⟩ := bnd_ok e
      obtain ⟨rfl, -⟩ := stq_ok h1
      obtain ⟨σ1, h2, e⟩ := bnd_ok e
      exact itr_inv2 hP n σ1 σ' (hP σ σ1 hp h2) e
theorem snd_ev {E : List En} {h k : Nat} {f : Nat → SS → PE (Int × Nat × Nat)} {to : Nat → Nat} {en : En} (hen : en ∈ E) (h2 : en.2.1 = 2) (hk : en.2.2.1 = k) (own lets : Nat → Int) (hf : ∀ i σ q, zo σ = own → zl σ = lets → f i σ = .ok q → zs σ ≤ q.2.1 ∧ (en.2.2.2 = 2 → b01 q.1)) : ∀ (l : List Nat) (σ σ' : SS), (∀ i ∈ l, to i < n) → zo σ = own → zl σ = lets → snd_ h f to k l σ = .ok σ' → EvR E n σ σ'
  | [], σ, σ', _, _, _, e => by cases e; exact EvR.rf rfl (Nat.le_refl _)
  | i :: t, σ, σ', hl, ho, hlt, e => by
    rw [snd_] at e
    obtain ⟨s1, h1, e2⟩ := bnd_ok e
    obtain ⟨q, hq, e3⟩ := bnd_ok e2
    obtain ⟨rfl, -⟩ := stq_ok h1
    obtain ⟨a1, a2⟩ := hf i (zs σ + 1, zd σ, zo σ, zl σ, ze σ, zb σ) q ho hlt hq
    have a1 : zs σ + 1 ≤ q.2.1 := a1
    have ih := snd_ev hen h2 hk own lets hf t (q.2.1, q.2.2, zo σ, zl σ, ze σ ++ [(to i + 1, k, q.1)], zb σ) σ' (fun x hx => hl x (List.mem_cons_of_mem _ hx)) ho hlt e3
    refine EvR.tr (b := (q.2.1, q.2.2, zo σ, zl σ, ze σ ++ [(to i + 1, k, q.1)], zb σ)) ⟨[(to i + 1, k, q.1)], rfl, a1, fun e he => ?_⟩ ih
    simp at he
    subst he
    refine ⟨fun z => absurd z (Nat.succ_ne_zero _), fun _ => ⟨?_, en, hen, h2, hk, a2⟩⟩
    show to i + 1 - 1 < n
    rw [Nat.add_sub_cancel]
    exact hl i (List.mem_cons_self ..)
end Events
