/-! ===== the model: operands, values ===== -/
theorem flt_len_s {f : Nat → Int} {v : Int} {n : Nat} : (fltA f v (n + 1) 0).length = (fltA f v n 0).length + (if f n = v then 1 else 0) := by
  rw [← flt_range, ← flt_range, List.range'_1_concat, List.filter_append, List.length_append, Nat.zero_add]
  congr 1
  by_cases h : f n = v
  · rw [if_pos h, List.filter_cons_of_pos (by simp [h])]; rfl
  · rw [if_neg h, List.filter_cons_of_neg (by simp [h])]; rfl
theorem flt_len_le {f : Nat → Int} {v : Int} : ∀ n, (fltA f v n 0).length ≤ n
  | 0 => Nat.le_refl _
  | n + 1 => by
    have := flt_len_le (f := f) (v := v) n
    rw [flt_len_s]
    split <;> omega
def OwM (w : Wd) (v : Nat) (own lets : Nat → Int) : Prop := (∀ k, k < 8 → w 41 (8 * v + k) = own k) ∧ ∀ k, k < 8 → w 53 k = lets k
def NFs (D : DE) (E : List En) : Prop := ∀ e ∈ E, (e.2.1 = 2 → e.2.2.1 < cntE 2 (D.map (fun e => e.1))) ∧ (e.2.1 = 3 → e.2.2.1 < cntE 3 (D.map (fun e => e.1)))
def MVs (T : Nat → Int) (L m : Nat) (X : Xv) (D : DE) (own lets : Nat → Int) (v na arc : Nat) (bb : Bool) (h_ : Nat) (w : Wd) : Prop := XMd T L m X D w v na ∧ OwM w v own lets ∧ (bb = true → w 0 90 = (arc : Int) ∧ arc < na) ∧ ∃ sn tk : Nat, w 0 91 = (sn : Int) ∧ sn < 130 ∧ w 18 sn = (tk : Int) ∧ tk ≤ m ∧ h_ = tAt T L tk
theorem ix4' {v k : Nat} (hv : v < 40) (hk : k < 4) : wr (wr (4 * (v : Int)) + (k : Int)) = ((4 * v + k : Nat) : Int) := by rw [Int.mul_comm]; exact ix4 hv hk
theorem ix8' {v k : Nat} (hv : v < 40) (hk : k < 8) : wr (wr (8 * (v : Int)) + (k : Int)) = ((8 * v + k : Nat) : Int) := by rw [Int.mul_comm]; exact ix8 hv hk
theorem ixA' {v k : Nat} (hv : v < 120) (hk : k < 4) : wr (wr (4 * (v : Int)) + (k : Int)) = ((4 * v + k : Nat) : Int) := by rw [Int.mul_comm]; exact ixA hv hk
theorem wrc0 {c : Nat} (h : c ≤ 120) : wr ((c : Int) + 0) = (c : Int) := by
  rw [Int.add_zero]; exact wr_id (by unfold inI; omega)
theorem wrc1 {c : Nat} (h : c ≤ 120) : wr ((c : Int) + 1) = ((c + 1 : Nat) : Int) := wr_n1 (by omega)
section MVal2
variable {g : Mg} {d D_ m v na arc h_ : Nat} {K : Ou → Wd → Prop} {w w' : Wd} {T : Nat → Int} {L : Nat} {X : Xv} {D : DE} {E : List En} {own lets : Nat → Int} {bb : Bool}
theorem MVs.fv (h : MVs T L m X D own lets v na arc bb h_ w) (hf : FMv w w') : MVs T L m X D own lets v na arc bb h_ w' := by
  obtain ⟨h1, h2, h3, sn, tk, h4, h5, h6, h7, h8⟩ := h
  refine ⟨h1.fv hf, ⟨by rw [hf.cd 41 (by decide)]; exact h2.1, by rw [hf.cd 53 (by decide)]; exact h2.2⟩, fun z => by rw [hf.2 90 (by decide) (by decide)]; exact h3 z, sn, tk, by rw [hf.2 91 (by decide) (by decide)]; exact h4, h5, by rw [hf.cd 18 (by decide)]; exact h6, h7, h8⟩
theorem mv_step {s : Nat} (hD : 2 ≤ D_) (hV : MVs T L m X D own lets v na arc bb h_ w) (h87 : w 0 87 = (s : Int)) (hs : s ≤ 1000) (h : ∀ s1, stq h_ s = .ok s1 → ∀ w', FMv w w' → w' 0 87 = (s1 : Int) → w' 0 88 = w 0 88 → K (.inl none) w') (he : ∀ e, stq h_ s = .error e → ∀ w', FMv w w' → w' 1 0 = (e.1 : Int) → w' 1 1 = (e.2 : Int) → K (.inr 1) w') : Cal g LM jMd_step D_ [vA 0] w K := by
  obtain ⟨h1, h2, h3, sn, tk, h4, h5, h6, h7, rfl⟩ := hV
  exact sp_stepM hD h1.1 h87 hs h4 h5 h6 h7 h he
/-- degree, indegree, and the other words -/
theorem op_word {t : Nat} (hD : 6 ≤ d) (hX : XMd T L m X D w v na) (ht : t ≤ m) (hk : 54 ≤ kdT T L t ∧ kdT T L t ≤ 58) (h : K (.inl (some (vI (opv T L X E own lets arc 0 t)))) w) : ∀ (f i c : Nat) (o n : Int), i + f = na → (o = (if kdT T L t = 57 then 1 else 0)) → (n = (if kdT T L t = 58 then 1 else 0)) → c = (if kdT T L t = 57 then (fltA (X 5) (v : Int) i 0).length else if kdT T L t = 58 then (fltA (X 6) (v : Int) i 0).length else 0) → V g LM jMd_operand (d + 1) K 253 [(0, vA 0), (2, vI (t : Int)), (4, vI (c : Int)), (5, vI o), (6, vI n), (7, vI (i : Int))] [] w := by
  obtain ⟨h1, h2, h3, h4, h5, h6, h7, h8, h9, h10, h11, h12, h13, h14, h15, h16, h17, h18⟩ := hX
  have hop : opv T L X E own lets arc 0 t = (if kdT T L t = 54 then X 0 0 else if kdT T L t = 55 then X 0 1 else if kdT T L t = 56 then X 0 3 else if kdT T L t = 57 then X 0 4 else X 0 5) := by unfold opv; rw [if_neg (by decide), if_neg (by decide), if_neg (by omega), if_neg (by omega), if_neg (by omega)]
  rw [hop] at h
  intro f
  induction f with
  | zero =>
    intro i c o n hi ho hn hc
    have : i = na := by omega
    subst this
    refine s_Md_operand_253 ⟨fun _ => ?_, fun z => absurd (by rw [h10]; exact Int.le_refl _) z⟩
    refine sp_isSignM (c := 54) (by omega) h1 ht (by omega) (by decide) (by decide) ⟨fun z1 => sp_isSignM (c := 55) (by omega) h1 ht (by omega) (by decide) (by decide) ⟨fun z2 => sp_isSignM (c := 56) (by omega) h1 ht (by omega) (by decide) (by decide) ⟨fun z3 => ?_, fun z3 => ?_⟩, fun z2 => ?_⟩, fun z1 => ?_⟩
    · have n1 := is0 z1
      have n2 := is0 z2
      have n3 := is0 z3
      rw [if_neg n1, if_neg n2, if_neg n3] at h
      by_cases k57 : kdT T L t = 57
      · rw [if_pos k57, h14] at h
        rw [if_pos k57] at hc
        rw [hc]; exact h
      · rw [if_neg k57, h15] at h
        rw [if_neg k57, if_pos (by omega)] at hc
        rw [hc]; exact h
    · have n3 := is1 z3
      rw [if_neg (by omega), if_neg (by omega), if_pos n3, ← h9] at h
      exact h
    · have n3 := is1 z2
      rw [if_neg (by omega), if_pos n3, ← h7] at h
      exact h
    · have n3 := is1 z1
      rw [if_pos n3, h6, ← h4] at h
      exact h
  | succ f ih =>
    intro i c o n hi ho hn hc
    obtain ⟨y1, y2, -⟩ := h13 i (by omega)
    have hb : (0 : Int) ≤ (i : Int) ∧ (i : Int) < 120 := by omega
    have hle1 := flt_len_le (f := X 5) (v := (v : Int)) i
    have hle2 := flt_len_le (f := X 6) (v := (v : Int)) i
    have hc120 : c ≤ 120 := by
      rw [hc]
      split
      · omega
      · split <;> omega
    have s5 := flt_len_s (f := X 5) (v := (v : Int)) (n := i)
    have s6 := flt_len_s (f := X 6) (v := (v : Int)) (n := i)
    have go : ∀ c' : Nat, c' = (if kdT T L t = 57 then (fltA (X 5) (v : Int) (i + 1) 0).length else if kdT T L t = 58 then (fltA (X 6) (v : Int) (i + 1) 0).length else 0) → V g LM jMd_operand (d + 1) K 253 [(0, vA 0), (2, vI (t : Int)), (4, vI (c' : Int)), (5, vI o), (6, vI n), (7, vI (wr ((i : Int) + 1)))] [] w := by
      intro c' hc'
      rw [wr_n1 (by omega)]
      exact ih (i + 1) c' o n (by omega) ho hn hc'
    have w0 : wr ((c : Int) + 0) = (c : Int) := wrc0 hc120
    have w1 : wr ((c : Int) + 1) = ((c + 1 : Nat) : Int) := wrc1 hc120
    refine s_Md_operand_253 ⟨fun z => ?_, fun _ => ?_⟩
    · rw [h10] at z; omega
    rw [toN, y1, y2, h4, w0, w1]
    clear ih
    by_cases k57 : kdT T L t = 57
    · rw [if_pos k57] at ho hc go
      rw [if_neg (by omega)] at hn
      subst ho
      subst hn
      refine ⟨fun z => absurd z (by decide), fun _ => ⟨hb, fun z => go (c + 1) (by rw [s5, if_pos z, ← hc]), fun z => ⟨fun _ => go c (by rw [s5, if_neg z, ← hc]; rfl), fun q => absurd rfl q⟩⟩⟩
    · rw [if_neg k57] at ho hc go
      subst ho
      by_cases k58 : kdT T L t = 58
      · rw [if_pos k58] at hn hc go
        subst hn
        refine ⟨fun _ => ⟨fun z => absurd z (by decide), fun _ => ⟨hb, fun z => go c (by rw [s6, if_neg z, ← hc]; rfl), fun z => go (c + 1) (by rw [s6, if_pos z, ← hc])⟩⟩, fun z => absurd rfl z⟩
      · rw [if_neg k58] at hn hc go
        subst hn
        refine ⟨fun _ => ⟨fun _ => go c hc, fun z => absurd rfl z⟩, fun z => absurd rfl z⟩
theorem sp_operandM {c t n : Nat} (hL : L ≤ 4000) (hD : 7 ≤ D_) (hc : c = 0 ∨ c = 1 ∨ c = 2) (hk : c = 0 → kdT T L t = 2 ∨ kdT T L t = 3 ∨ kdT T L t = 31 ∨ kdT T L t = 32 ∨ (54 ≤ kdT T L t ∧ kdT T L t ≤ 58)) (hE : ENb E) (hF : NFs D E) (ht : t ≤ m) (hn : n < 2000) (hj : 100000 ≤ jkT T L E bb (nd c t 0 nl nl)) (hV : MVs T L m X D own lets v na arc bb h_ w) (h27 : w 27 n = (t : Int)) (h26 : w 26 n = (if c = 0 then kdM (kdT T L t) else if c = 1 then 4 else 5)) (hJ : (c = 0 → kdT T L t = 2 → ∀ e, fnd T L E t = some e → e.2.1 ≠ 0 → w 32 n = (e.2.1 : Int) ∧ w 33 n = (e.2.2.1 : Int)) ∧ (c = 1 → bb = true → ∀ e, fnd T L E t = some e → e.2.1 = 0 → w 33 n = (e.2.2.1 : Int)) ∧ (c = 2 → ∀ e, fnd T L E t = some e → e.2.1 = 2 → w 33 n = (e.2.2.1 : Int))) (h : K (.inl (some (vI (opv T L X E own lets arc c t)))) w) : Cal g LM jMd_operand D_ [vA 0, vI (n : Int)] w K := by
  obtain ⟨d, rfl⟩ : ∃ d, D_ = d + 1 := ⟨D_ - 1, by omega⟩
  obtain ⟨hX, hO, hA, -⟩ := hV
  obtain ⟨h1, h2, h3, h4, h5, h6, h7, h8, h9, h10, h11, h12, h13, h14, h15, h16, h17, h18⟩ := id hX
  have hm4 := h1.2.1
  have hb : (0 : Int) ≤ (n : Int) ∧ (n : Int) < 2000 := by omega
  refine Cal.ofV (by decide) rfl (Nat.le_of_ble_eq_true rfl) (s_Md_operand ⟨hb, hb, hb, ?_⟩)
  rw [toN, h26, h27]
  clear h7 h8 h9 h12 h14 h15
  rcases hc with rfl | rfl | rfl
  · rw [if_pos rfl]
    by_cases k3 : kdT T L t = 3
    · have e1 : kdM (kdT T L t) = 0 := by rw [k3]; rfl
      have e2 : opv T L X E own lets arc 0 t = tVl T L (tAt T L t) := by unfold opv; rw [if_neg (by decide), if_neg (by decide), if_pos (Or.inl k3)]
      rw [e2, ← (h1.1 t (by omega)).2.2.2 k3] at h
      rw [e1, toN]
      exact ⟨fun z => absurd z (by decide), fun _ => ⟨by omega, h⟩, fun z => absurd z (by decide), fun z => absurd z (by decide), fun z => absurd z (by decide), fun z => absurd z (by decide), fun z => absurd z (by decide)⟩
    by_cases k2 : kdT T L t = 2
    · have e1 : kdM (kdT T L t) = 3 := by rw [k2]; rfl
      obtain ⟨e, hf, hso⟩ := nm_ok hL hE k2 hj
      obtain ⟨n1, n2, n3, n4⟩ := fnd_nb hE hf
      have e2 : opv T L X E own lets arc 0 t = (if (e.2.1 : Int) = 1 then own e.2.2.1 else if (e.2.1 : Int) = 4 then lets e.2.2.1 else if (e.2.1 : Int) = 2 then X 1 e.2.2.1 else X 3 e.2.2.1) := by unfold opv; rw [if_neg (by decide), if_neg (by decide), if_neg (by omega), if_neg (by omega), if_pos k2, n3, n1]
      obtain ⟨j1, j2⟩ := hJ.1 rfl k2 e hf (by omega)
      obtain ⟨f2, f3⟩ := hF e (fnd_mem _ hf)
      rw [e2] at h
      rw [e1, j1, j2]
      refine ⟨fun z => absurd z (by decide), fun z => absurd z (by decide), fun z => absurd z (by decide), fun z => absurd z (by decide), fun _ => ⟨hb, ?_⟩, fun z => absurd z (by decide), fun z => absurd z (by decide)⟩
      rcases hso with z | z | z | z
      · have n8 := nb_8 (Or.inl z) n4
        rw [z] at h ⊢
        have h : K (.inl (some (vI (own e.2.2.1)))) w := h
        rw [h4, ix8' h5 n8, toN (8 * v + e.2.2.1), hO.1 _ n8]
        exact ⟨fun q => absurd rfl q, fun _ => ⟨ib8 h5 n8, h⟩⟩
      · have n8 := nb_4 (Or.inr (Or.inl z)) n4
        have hx := h17 e.2.2.1 (f2 z)
        rw [z] at h ⊢
        have h : K (.inl (some (vI (X 1 e.2.2.1)))) w := h
        rw [hx] at h
        rw [h4, ix4' h5 n8, toN (4 * v + e.2.2.1)]
        refine ⟨fun _ => ⟨hb, fun _ => ⟨hb, fun q => absurd rfl q, fun _ => ⟨ib4 h5 n8, fun q => ?_, fun q => ⟨ib4 h5 n8, ?_⟩⟩⟩, fun q => absurd q (by decide)⟩, fun q => absurd q (by decide)⟩
        · rw [if_pos q] at h
          exact sp_wayM (so := 2) (by omega) (by decide) h2 h3 (f2 z) (sp_nothM h)
        · rw [if_neg q] at h
          exact h
      · have n8 := nb_4 (Or.inr (Or.inr z)) n4
        have hx := h18 e.2.2.1 (f3 z)
        rw [z] at h ⊢
        have h : K (.inl (some (vI (X 3 e.2.2.1)))) w := h
        rw [hx] at h
        rw [toN e.2.2.1]
        refine ⟨fun _ => ⟨hb, fun _ => ⟨hb, fun _ => ⟨ibd n8, fun q => ?_, fun q => ⟨ibd n8, ?_⟩⟩, fun q => absurd q (by decide)⟩, fun q => absurd q (by decide)⟩, fun q => absurd q (by decide)⟩
        · rw [if_pos q] at h
          exact sp_wayM (so := 3) (by omega) (by decide) h2 h3 (f3 z) (sp_nothM h)
        · rw [if_neg q] at h
          exact h
      · have n8 := nb_8 (Or.inr z) n4
        rw [z] at h ⊢
        have h : K (.inl (some (vI (lets e.2.2.1)))) w := h
        rw [toN e.2.2.1, hO.2 _ n8]
        exact ⟨fun _ => ⟨hb, fun q => absurd rfl q, fun _ => ⟨by omega, h⟩⟩, fun q => absurd q (by decide)⟩
    by_cases k31 : kdT T L t = 31
    · have e1 : kdM (kdT T L t) = 1 := by rw [k31]; rfl
      have e2 : opv T L X E own lets arc 0 t = 1 := by unfold opv; rw [if_neg (by decide), if_neg (by decide), if_neg (by omega), if_pos k31]
      rw [e2] at h
      rw [e1]
      exact ⟨fun z => absurd z (by decide), fun z => absurd z (by decide), fun _ => h, fun z => absurd z (by decide), fun z => absurd z (by decide), fun z => absurd z (by decide), fun z => absurd z (by decide)⟩
    by_cases k32 : kdT T L t = 32
    · have e1 : kdM (kdT T L t) = 2 := by rw [k32]; rfl
      have e2 : opv T L X E own lets arc 0 t = 0 := by unfold opv; rw [if_neg (by decide), if_neg (by decide), if_pos (Or.inr k32), kd32_val k32]
      rw [e2] at h
      rw [e1]
      exact ⟨fun z => absurd z (by decide), fun z => absurd z (by decide), fun z => absurd z (by decide), fun _ => h, fun z => absurd z (by decide), fun z => absurd z (by decide), fun z => absurd z (by decide)⟩
    · have hkk := hk rfl
      have hk5 : 54 ≤ kdT T L t ∧ kdT T L t ≤ 58 := by omega
      have e1 : kdM (kdT T L t) = 6 := by unfold kdM; rw [if_neg k3, if_neg k2, if_neg k31, if_neg k32]
      rw [e1]
      refine ⟨fun _ => ?_, fun z => absurd z (by decide), fun z => absurd z (by decide), fun z => absurd z (by decide), fun z => absurd z (by decide), fun z => absurd z (by decide), fun z => absurd z (by decide)⟩
      refine sp_isSignM (c := 57) (by omega) h1 ht (by omega) (by decide) (by decide) (sp_isSignM (c := 58) (by omega) h1 ht (by omega) (by decide) (by decide) ?_)
      refine op_word (by omega) hX ht hk5 h na 0 0 _ _ (by omega) rfl rfl ?_
      split
      · rfl
      · split <;> rfl
  · obtain ⟨hbb, e, hf, hs0⟩ := arc_ok hL hj
    obtain ⟨a1, a2⟩ := hA hbb
    obtain ⟨n1, n2, n3, n4⟩ := fnd_nb hE hf
    have n8 := nb_4 (Or.inl hs0) n4
    have h : K (.inl (some (vI (X 4 (4 * arc + nmN T L E t))))) w := h
    rw [n1, ← (h13 arc a2).2.2 _ n8] at h
    rw [hJ.2.1 rfl hbb e hf hs0, a1, ixA' (by omega) n8, toN (4 * arc + e.2.2.1), show (if (1 : Nat) = 0 then kdM (kdT T L t) else if (1 : Nat) = 1 then (4 : Int) else 5) = 4 from rfl]
    exact ⟨fun z => absurd z (by decide), fun z => absurd z (by decide), fun z => absurd z (by decide), fun z => absurd z (by decide), fun z => absurd z (by decide), fun _ => ⟨ibA (by omega) n8, h⟩, fun z => absurd z (by decide)⟩
  · obtain ⟨e, hf, hs0⟩ := has_ok hL hj
    obtain ⟨n1, n2, n3, n4⟩ := fnd_nb hE hf
    have n8 := nb_4 (Or.inr (Or.inl hs0)) n4
    have h : K (.inl (some (vI (if X 2 (nmN T L E t) ≤ 0 then 0 else 1)))) w := h
    rw [n1, h16 _ n8] at h
    rw [hJ.2.2 rfl e hf hs0, h4, ix4' h5 n8, toN (4 * v + e.2.2.1), show (if (2 : Nat) = 0 then kdM (kdT T L t) else if (2 : Nat) = 1 then (4 : Int) else 5) = 5 from rfl]
    refine ⟨fun z => absurd z (by decide), fun z => absurd z (by decide), fun z => absurd z (by decide), fun z => absurd z (by decide), fun z => absurd z (by decide), fun z => absurd z (by decide), fun _ => ⟨ib4 h5 n8, fun z => ?_, fun z => ?_⟩⟩
    · rw [if_pos z] at h; exact h
    · rw [if_neg z] at h; exact h
end MVal2
