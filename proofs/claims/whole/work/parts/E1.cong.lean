/-! ===== what is not named is no matter ===== -/
def SQ (E : List En) (σ τ : SS) : Prop := zs σ = zs τ ∧ zd σ = zd τ ∧ (∀ k, k < cntE 1 E → zo σ k = zo τ k) ∧ (∀ k, k < cntE 4 E → zl σ k = zl τ k) ∧ ze σ = ze τ ∧ zb σ = zb τ
def RQ (E : List En) : PE SS → PE SS → Prop
  | .error e, .error e' => e = e'
  | .ok σ, .ok τ => SQ E σ τ
  | _, _ => False
section Cong
variable {T : Nat → Int} {L : Nat} {X : Xv}
theorem RQ.bd {α : Type} {E : List En} {x : PE α} {f g : α → PE SS} (h : ∀ a, x = .ok a → RQ E (f a) (g a)) : RQ E (bnd x f) (bnd x g) := by
  cases x with
  | error e => exact (rfl : e = e)
  | ok a => exact h a rfl
theorem RQ.b2 {E E' : List En} {x y : PE SS} {f g : SS → PE SS} (h : RQ E x y) (h2 : ∀ σ τ, SQ E σ τ → RQ E' (f σ) (g τ)) : RQ E' (bnd x f) (bnd y g) := by
  cases x with
  | error e =>
    cases y with
    | error e' => exact h
    | ok τ => exact h.elim
  | ok σ =>
    cases y with
    | error e' => exact h.elim
    | ok τ => exact h2 σ τ h
theorem RQ.mono {E E' : List En} {x y : PE SS} (h : RQ E' x y) (hc : ∀ s, cntE s E ≤ cntE s E') : RQ E x y := by
  cases x with
  | error e =>
    cases y with
    | error e' => exact h
    | ok τ => exact h.elim
  | ok σ =>
    cases y with
    | error e' => exact h.elim
    | ok τ =>
      obtain ⟨h1, h2, h3, h4, h5, h6⟩ := h
      have c1 := hc 1
      have c4 := hc 4
      exact ⟨h1, h2, fun k hk => h3 k (by omega), fun k hk => h4 k (by omega), h5, h6⟩
theorem eSt_mono {E : List En} {a : Tr} : ∀ s, cntE s E ≤ cntE s (eSt T L E a) := by
  intro s
  cases a with
  | leaf => exact Nat.le_refl _
  | inner c t q l r =>
    show cntE s E ≤ cntE s (if c = 12 then E ++ [(t, 4, cntE 4 E, (knT T L E false l).toNat)] else E)
    split
    · rw [cnt_app]; omega
    · exact Nat.le_refl _
theorem eSt_num {E : List En} {a : Tr} (h : NUM E) : NUM (eSt T L E a) := by
  cases a with
  | leaf => exact h
  | inner c t q l r =>
    show NUM (if c = 12 then E ++ [(t, 4, cntE 4 E, (knT T L E false l).toNat)] else E)
    split
    · exact num_add h rfl
    · exact h
theorem opv_cg {E : List En} {own lets own' lets' : Nat → Int} {arc c t : Nat} (hN : NUM E) (h1 : ∀ k, k < cntE 1 E → own k = own' k) (h4 : ∀ k, k < cntE 4 E → lets k = lets' k) : opv T L X E own lets arc c t = opv T L X E own' lets' arc c t := by
  unfold opv
  have key : (if eSo (fnd T L E t) = 1 then own (nmN T L E t) else if eSo (fnd T L E t) = 4 then lets (nmN T L E t) else if eSo (fnd T L E t) = 2 then X 1 (nmN T L E t) else X 3 (nmN T L E t)) = (if eSo (fnd T L E t) = 1 then own' (nmN T L E t) else if eSo (fnd T L E t) = 4 then lets' (nmN T L E t) else if eSo (fnd T L E t) = 2 then X 1 (nmN T L E t) else X 3 (nmN T L E t)) := by
    cases hf : fnd T L E t with
    | none => rfl
    | some e =>
      have hm := fnd_mem _ hf
      have hl := num_lt hN hm
      have hn : nmN T L E t = e.2.2.1 := by unfold nmN; rw [hf]; exact toN _
      rw [hn]
      show (if (e.2.1 : Int) = 1 then _ else if (e.2.1 : Int) = 4 then _ else _) = (if (e.2.1 : Int) = 1 then _ else if (e.2.1 : Int) = 4 then _ else _)
      by_cases z1 : (e.2.1 : Int) = 1
      · rw [if_pos z1, if_pos z1]
        exact h1 _ (by rw [show e.2.1 = 1 by omega] at hl; exact hl)
      · rw [if_neg z1, if_neg z1]
        by_cases z4 : (e.2.1 : Int) = 4
        · rw [if_pos z4, if_pos z4]
          exact h4 _ (by rw [show e.2.1 = 4 by omega] at hl; exact hl)
        · rw [if_neg z4, if_neg z4]
  rw [key]
theorem evx_cg {E : List En} {own lets own' lets' : Nat → Int} {h arc : Nat} (hN : NUM E) (h1 : ∀ k, k < cntE 1 E → own k = own' k) (h4 : ∀ k, k < cntE 4 E → lets k = lets' k) : ∀ (a : Tr) (b : Bool) (s d : Nat), evx T L X h E own lets arc b a s d = evx T L X h E own' lets' arc b a s d
  | .leaf, b, s, d => by cases b <;> rfl
  | .inner c t q l r, b, s, d => by
    have hl := evx_cg hN h1 h4 (h := h) (arc := arc) l
    have hr := evx_cg hN h1 h4 (h := h) (arc := arc) r
    have ho : opv T L X E own lets arc c t = opv T L X E own' lets' arc c t := opv_cg hN h1 h4
    rw [evx, evx]
    simp only [hl, hr, ho]
theorem evs_cg {E : List En} {σ τ : SS} {h arc : Nat} {l : Tr} (hN : NUM E) (hs : SQ E σ τ) : evs T L X h E arc l σ = evs T L X h E arc l τ := by
  unfold evs
  rw [evx_cg hN hs.2.2.1 hs.2.2.2.1, hs.1, hs.2.1]
theorem itr_cg {E : List En} {h : Nat} {f : SS → PE SS} (hf : ∀ σ τ, SQ E σ τ → RQ E (f σ) (f τ)) : ∀ (n : Nat) (σ τ : SS), SQ E σ τ → RQ E (itr h f n σ) (itr h f n τ)
  | 0, σ, τ, hs => hs
  | n + 1, σ, τ, hs => by
    rw [itr, itr]
    obtain ⟨h1, h2, h3, h4, h5, h6⟩ := id hs
    rw [← h6, ← h1]
    split
    · exact hs
    · exact RQ.bd (fun s1 _ => RQ.b2 (hf _ _ ⟨rfl, h2, h3, h4, h5, rfl⟩) (fun σ' τ' hs' => itr_cg hf n σ' τ' hs'))
theorem snd_cg {E : List En} {h k : Nat} {f : Nat → SS → PE (Int × Nat × Nat)} {to : Nat → Nat} (hf : ∀ i σ τ, SQ E σ τ → f i σ = f i τ) : ∀ (l : List Nat) (σ τ : SS), SQ E σ τ → RQ E (snd_ h f to k l σ) (snd_ h f to k l τ)
  | [], σ, τ, hs => hs
  | i :: t, σ, τ, hs => by
    rw [snd_, snd_]
    obtain ⟨h1, h2, h3, h4, h5, h6⟩ := id hs
    rw [← h1]
    refine RQ.bd (fun s1 _ => ?_)
    rw [hf i (s1, zd σ, zo σ, zl σ, ze σ, zb σ) (s1, zd τ, zo τ, zl τ, ze τ, zb τ) ⟨rfl, h2, h3, h4, h5, h6⟩]
    exact RQ.bd (fun q _ => snd_cg hf t _ _ ⟨rfl, rfl, h3, h4, by show ze σ ++ _ = ze τ ++ _; rw [h5], h6⟩)
theorem upf_cg {f g : Nat → Int} {c k : Nat} {x : Int} (h : ∀ i, i < c → f i = g i) : ∀ i, i < c → upf f k x i = upf g k x i := by
  intro i hi
  unfold upf
  split
  · rfl
  · exact h i hi
theorem rns_cg : ∀ (a : Tr) (b : Bool) (E : List En) (h : Nat) (σ τ : SS), NUM E → SQ E σ τ → RQ (eSt T L E a) (rns T L X b a E h σ) (rns T L X b a E h τ)
  | .leaf, b, E, h, σ, τ, _, hs => by
    have e : ∀ σ, rns T L X b .leaf E h σ = .ok σ := fun σ => by cases b <;> rfl
    rw [e, e]; exact hs
  | .inner c t q l r, b, E, h, σ, τ, hN, hs => by
    have ihl := rns_cg l
    have ihr := rns_cg r
    obtain ⟨h1, h2, h3, h4, h5, h6⟩ := id hs
    have hev : ∀ arc, evs T L X h E arc l σ = evs T L X h E arc l τ := fun arc => evs_cg hN hs
    rw [rns, rns]
    by_cases c20 : c = 20
    · subst c20
      rw [if_pos rfl, if_pos rfl, ← h6, ← h1]
      show RQ E _ _
      split
      · exact hs
      · refine RQ.bd (fun s1 _ => RQ.b2 (ihl true E _ _ _ hN ⟨rfl, h2, h3, h4, h5, rfl⟩) (fun σ' τ' hs' => ?_))
        exact ((ihr true (eSt T L E l) h σ' τ' (eSt_num hN) hs').mono eSt_mono).mono eSt_mono
    rw [if_neg c20, if_neg c20]
    by_cases c9 : c = 9
    · subst c9
      rw [if_pos rfl, if_pos rfl]
      show RQ E _ _
      split
      · exact (ihl true E h σ τ hN hs).mono eSt_mono
      · exact (ihr true E h σ τ hN hs).mono eSt_mono
    rw [if_neg c9, if_neg c9]
    by_cases c21 : c = 21
    · subst c21
      rw [if_pos rfl, if_pos rfl]
      exact (ihl true E h σ τ hN hs).mono eSt_mono
    rw [if_neg c21, if_neg c21]
    by_cases c15 : c = 15
    · subst c15
      rw [if_pos rfl, if_pos rfl, hev 0]
      exact RQ.bd (fun v _ => (ihr (decide (v.1 ≠ 0)) E h (v.2.1, v.2.2, zo σ, zl σ, ze σ, zb σ) (v.2.1, v.2.2, zo τ, zl τ, ze τ, zb τ) hN ⟨rfl, rfl, h3, h4, h5, h6⟩).mono eSt_mono)
    rw [if_neg c15, if_neg c15]
    by_cases c16 : c = 16
    · subst c16
      rw [if_pos rfl, if_pos rfl]
      exact itr_cg (E := E) (fun σ τ hs => (ihl true E h σ τ hN hs).mono eSt_mono) _ σ τ hs
    rw [if_neg c16, if_neg c16]
    by_cases c17 : c = 17
    · subst c17
      rw [if_pos rfl, if_pos rfl]
      exact ⟨h1, h2, h3, h4, h5, rfl⟩
    rw [if_neg c17, if_neg c17]
    by_cases c11 : c = 11
    · subst c11
      rw [if_pos rfl, if_pos rfl, hev 0]
      refine RQ.bd (fun v _ => ?_)
      show SQ E (if eSo (fnd T L E t) = 4 then _ else _) (if eSo (fnd T L E t) = 4 then _ else _)
      split
      · exact ⟨rfl, rfl, h3, upf_cg h4, h5, h6⟩
      · exact ⟨rfl, rfl, upf_cg h3, h4, h5, h6⟩
    rw [if_neg c11, if_neg c11]
    by_cases c12 : c = 12
    · subst c12
      rw [if_pos rfl, if_pos rfl, hev 0]
      refine RQ.bd (fun v _ => ?_)
      show SQ (E ++ [(t, 4, cntE 4 E, (knT T L E false l).toNat)]) _ _
      refine ⟨rfl, rfl, fun k hk => h3 k ?_, fun k hk => ?_, h5, h6⟩
      · rw [cnt_app] at hk; exact hk
      · rw [cnt_app] at hk
        have hk : k < cntE 4 E + 1 := hk
        show upf (zl σ) (cntE 4 E) v.1 k = upf (zl τ) (cntE 4 E) v.1 k
        unfold upf
        split
        · rfl
        · exact h4 k (by omega)
    rw [if_neg c12, if_neg c12]
    have e : eSt T L E (.inner c t q l r) = E := by
      show (if c = 12 then _ else E) = E
      exact if_neg c12
    rw [e]
    by_cases c14 : c = 14
    · subst c14
      rw [if_pos rfl, if_pos rfl, hev 0]
      exact RQ.bd (fun v _ => ⟨rfl, rfl, h3, h4, by show ze σ ++ _ = ze τ ++ _; rw [h5], h6⟩)
    rw [if_neg c14, if_neg c14]
    exact snd_cg (E := E) (f := fun i σ => evs T L X h E i l σ) (fun i σ τ hs => evs_cg hN hs) _ σ τ hs
end Cong
