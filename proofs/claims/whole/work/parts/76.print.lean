/-! ===== worlds that agree where there is something; what the class prints ===== -/
theorem cel_cg {g : Mg} {y : Ly} {w w' : Wd} {o : Nat} {cl : List vw_C} {H : Heap} (h : ∀ k, k < (y.ly o).2 → w' o k = w o k) (hv : va_at g.D cl (g.ad o, cel g y w o) H) : va_at g.D cl (g.ad o, cel g y w' o) H := by
  unfold cel at hv ⊢
  by_cases h1 : (y.ly o).1 < 100
  · rw [if_pos h1] at hv ⊢
    have e : (List.range (y.ly o).2).map (fun k => cfv g (fty (y.ly o).1 k) (w' o k)) = (List.range (y.ly o).2).map (fun k => cfv g (fty (y.ly o).1 k) (w o k)) := by
      apply List.map_congr_left
      intro k hk
      rw [h k (List.mem_range.mp hk)]
    rw [e]; exact hv
  · rw [if_neg h1] at hv ⊢
    by_cases h2 : (y.ly o).1 < 103
    · rw [if_pos h2] at hv ⊢
      have hv' : H[g.ad o]? = some (arrV (g.dA (y.ly o).1) (y.ly o).2 (fun j => .int (Int32.ofInt (w o j)))) := hv
      show H[g.ad o]? = some (arrV (g.dA (y.ly o).1) (y.ly o).2 (fun j => .int (Int32.ofInt (w' o j))))
      have e : arrV (g.dA (y.ly o).1) (y.ly o).2 (fun j => .int (Int32.ofInt (w' o j))) = arrV (g.dA (y.ly o).1) (y.ly o).2 (fun j => .int (Int32.ofInt (w o j))) := by
        unfold arrV
        congr 2
        funext j
        show Value.int (Int32.ofInt (w' o j.val)) = Value.int (Int32.ofInt (w o j.val))
        rw [h j.val j.isLt]
      rw [e]; exact hv'
    · rw [if_neg h2] at hv ⊢
      have hv' : H[g.ad o]? = some (arrV (g.dA (y.ly o).1) (y.ly o).2 (fun j => va_rf (if w o j < 0 then none else some (g.ad (w o j).toNat)))) := hv
      show H[g.ad o]? = some (arrV (g.dA (y.ly o).1) (y.ly o).2 (fun j => va_rf (if w' o j < 0 then none else some (g.ad (w' o j).toNat))))
      have e : arrV (g.dA (y.ly o).1) (y.ly o).2 (fun j => va_rf (if w' o j < 0 then none else some (g.ad (w' o j).toNat))) = arrV (g.dA (y.ly o).1) (y.ly o).2 (fun j => va_rf (if w o j < 0 then none else some (g.ad (w o j).toNat))) := by
        unfold arrV
        congr 2
        funext j
        show va_rf (if w' o j.val < 0 then none else some (g.ad (w' o j.val).toNat)) = va_rf (if w o j.val < 0 then none else some (g.ad (w o j.val).toNat))
        rw [h j.val j.isLt]
      rw [e]; exact hv'
theorem Hol.cg {g : Mg} {y : Ly} {w w' : Wd} {H : Heap} (h : ∀ o, o < y.nn → ∀ k, k < (y.ly o).2 → w' o k = w o k) (hr : ∀ o k r, y.rf o k = some r → w' o k = w o k) (hH : Hol g y w H) : Hol g y w' H := by
  obtain ⟨h1, h2, h3⟩ := hH
  refine ⟨fun k q hq => ?_, fun o ho k hk => by rw [h o ho k hk]; exact h2 o ho k hk, fun o k r hrr => by rw [hr o k r hrr]; exact h3 o k r hrr⟩
  unfold wsl at hq
  rw [List.getElem?_map] at hq
  have hk : k < y.nn := by
    by_cases hk : k < y.nn
    · exact hk
    · rw [List.getElem?_eq_none (by rw [List.length_range]; omega)] at hq; cases hq
  rw [List.getElem?_range hk] at hq
  cases hq
  refine cel_cg (h k hk) (h1 k (g.ad k, cel g y w k) ?_)
  unfold wsl
  rw [List.getElem?_map, List.getElem?_range hk]; rfl
theorem Cal.cg {g : Mg} {y : Ly} {J : Jm} {d : Nat} {a : List AV} {w w' : Wd} {K : Ou → Wd → Prop} (h : ∀ o, o < y.nn → ∀ k, k < (y.ly o).2 → w' o k = w o k) (hr : ∀ o k r, y.rf o k = some r → w' o k = w o k) (hc : Cal g y J d a w' K) : Cal g y J d a w K := by
  intro p e ha hc' hcl s m args below hf happ hP hK
  obtain ⟨p1, p2, p3, p4, p5, p6⟩ := hP
  exact hc p e ha hc' hcl s m args below hf happ ⟨p1, p2, p3.cg h hr, p4, p5, p6⟩ hK
/-- what is printed so far -/
def PRc (w : Wd) (P : List Int) : Prop := w 8 10 = (P.length : Int) ∧ P.length ≤ 5000 ∧ ∀ k, k < P.length → w 12 k = P.getD k 0
def FW (w w' : Wd) : Prop := Fx [8, 12] w w' ∧ ∀ b, b ≠ 10 → w' 8 b = w 8 b
theorem FW.rf (w : Wd) : FW w w := ⟨Fx.rf _ w, fun _ _ => rfl⟩
theorem FW.tr {a b c : Wd} (h1 : FW a b) (h2 : FW b c) : FW a c := ⟨h1.1.tr h2.1, fun x hx => (h2.2 x hx).trans (h1.2 x hx)⟩
def sepP (P : List Int) : List Int := if P = [] then [] else [32]
def bytL (T : Nat → Int) (f n : Nat) : List Int := (List.range n).map (fun k => T (f + k))
theorem i2b_idb : ∀ b : Fin 256, i2bF ((b.val : Int) - 128) = (b.val : Int) - 128 := by decide +kernel
theorem i2b_by {x : Int} (h : -128 ≤ x ∧ x ≤ 127) : i2bF x = x := by
  have := i2b_idb ⟨(x + 128).toNat, by omega⟩
  have e : (((x + 128).toNat : Nat) : Int) - 128 = x := by omega
  simp only [e] at this
  exact this
section Printing
variable {g : Mg} {d D : Nat} {K : Ou → Wd → Prop} {w : Wd} {T : Nat → Int} {L : Nat}
theorem sp_writeByte {b : Int} {P : List Int} (hP : PRc w P) (hl : P.length < 5000) (hb : -128 ≤ b ∧ b ≤ 127) (h : ∀ w', FW w w' → PRc w' (P ++ [b]) → K (.inl none) w') : Cal g LC jPr_writeByte D [vA 8, vI b] w K := by
  obtain ⟨p1, p2, p3⟩ := hP
  refine Cal.ofV (by decide) rfl (Nat.le_of_ble_eq_true rfl) (s_Pr_writeByte ⟨fun c => by rw [p1] at c; omega, fun c => ⟨by rw [p1]; omega, ?_⟩⟩)
  rw [p1, toN, wr_n1 (by omega), i2b_by hb]
  refine h _ ⟨((Fx.rf _ w).up (by decide)).up (by decide), fun x hx => by rw [up_k hx, up_o (by decide)]⟩ ⟨by rw [up_s, List.length_append]; rfl, by rw [List.length_append]; simp; omega, fun k hk => ?_⟩
  rw [List.length_append] at hk
  simp at hk
  by_cases hkn : k = P.length
  · subst hkn
    rw [up_o (by decide), up_s]
    simp
  · rw [up_o (by decide), up_k hkn, p3 k (by omega)]
    rw [List.getD_eq_getElem?_getD, List.getD_eq_getElem?_getD, List.getElem?_append_left (by omega)]
theorem wr_loop {f e : Nat} {P : List Int} {w0 : Wd} (he : e ≤ 4000) (hfe : f ≤ e) (hB : ∀ i, f ≤ i → i < e → -128 ≤ w0 3 i ∧ w0 3 i ≤ 127) (hl : P.length + (e - f) ≤ 5000) (h : ∀ w', FW w0 w' → PRc w' (P ++ bytL (w0 3) f (e - f)) → K (.inl none) w') : ∀ (m j : Nat) (w : Wd), j + m = e - f → FW w0 w → PRc w (P ++ bytL (w0 3) f j) → V g LC jPr_write (d + 1) K 16 [(0, vA 8), (1, vA 3), (3, vI (e : Int)), (4, vI ((f + j : Nat) : Int))] [] w := by
  intro m
  induction m with
  | zero =>
    intro j w hj hF hP
    refine s_Pr_write_16 ⟨fun _ => h w hF ?_, fun c => absurd (by omega) c⟩
    rw [show e - f = j by omega]; exact hP
  | succ m ih =>
    intro j w hj hF hP
    refine s_Pr_write_16 ⟨fun c => absurd c (by omega), fun c => ⟨by omega, ?_⟩⟩
    rw [toN, hF.1 3 (by decide), wr_n1 (by omega)]
    refine sp_writeByte hP ?_ (hB _ (by omega) (by omega)) (fun w' hF' hP' => ih (j + 1) w' (by omega) (hF.tr hF') ?_)
    · rw [List.length_append]
      simp [bytL]
      omega
    · have e : P ++ bytL (w0 3) f (j + 1) = P ++ bytL (w0 3) f j ++ [w0 3 (f + j)] := by
        unfold bytL
        rw [List.range_succ, List.map_append, List.append_assoc]; rfl
      rw [e]; exact hP'
theorem sp_write {f e : Nat} {P : List Int} (hD : 1 ≤ D) (he : e ≤ 4000) (hfe : f ≤ e) (hB : ∀ i, f ≤ i → i < e → -128 ≤ w 3 i ∧ w 3 i ≤ 127) (hP : PRc w P) (hl : P.length + 1 + (e - f) ≤ 5000) (h : ∀ w', FW w w' → PRc w' (P ++ sepP P ++ bytL (w 3) f (e - f)) → K (.inl none) w') : Cal g LC jPr_write D [vA 8, vA 3, vI (f : Int), vI (e : Int)] w K := by
  obtain ⟨d, rfl⟩ : ∃ d, D = d + 1 := ⟨D - 1, by omega⟩
  refine Cal.ofV (by decide) rfl (Nat.le_of_ble_eq_true rfl) (s_Pr_write ⟨fun c => ?_, fun c => sp_writeByte hP (by omega) (by decide) (fun w1 hF1 hP1 => ?_)⟩)
  · have hP0 : P = [] := by
      have := hP.1
      rw [this] at c
      exact List.eq_nil_of_length_eq_zero (by omega)
    have es : sepP P = [] := by unfold sepP; rw [if_pos hP0]
    rw [es] at h
    refine wr_loop (f := f) (e := e) (P := P) (w0 := w) he hfe hB (by omega) (fun w' h1 h2 => h w' h1 (by rw [List.append_nil]; exact h2)) (e - f) 0 w (by omega) (FW.rf w) (by simp [bytL]; exact hP)
  · have hP0 : P ≠ [] := by
      intro z
      rw [hP.1, z] at c
      exact c (by simp)
    have es : sepP P = [32] := by unfold sepP; rw [if_neg hP0]
    rw [es] at h
    refine wr_loop (f := f) (e := e) (P := P ++ [32]) (w0 := w1) he hfe (fun i a b => by rw [hF1.1 3 (by decide)]; exact hB i a b) (by rw [List.length_append]; simp; omega) (fun w' h1 h2 => h w' (hF1.tr h1) (by rw [hF1.1 3 (by decide)] at h2; exact h2)) (e - f) 0 w1 (by omega) (FW.rf w1) (by simp [bytL]; exact hP1)
/-- a row of TOKENS, printed -/
def prB (T : Nat → Int) (L : Nat) : List Int → List Nat → List Int
  | P, [] => P
  | P, t :: O => prB T L (P ++ sepP P ++ bytL T (tAt T L t) (tSz T L t)) O
theorem prB_app (T : Nat → Int) (L : Nat) : ∀ (O O' : List Nat) (P : List Int), prB T L P (O ++ O') = prB T L (prB T L P O) O'
  | [], O', P => rfl
  | t :: O, O', P => by rw [List.cons_append, prB, prB, prB_app T L O O']
theorem dl_s (f : Nat → Int) (k : Nat) : dl f (k + 1) 0 = dl f k 0 ++ (if f k = 0 then [k] else []) := by
  rw [dl_app f k 1 0, Nat.zero_add]
  show _ ++ (if f k = 0 then k :: dl f 0 (k + 1) else dl f 0 (k + 1)) = _
  split <;> rfl
theorem prB_len (T : Nat → Int) (L : Nat) (f : Nat → Int) : ∀ k, (∀ j, j < k → tAt T L j < L) → (prB T L [] (dl f k 0)).length ≤ tAt T L k + k
  | 0, _ => by simp [dl, prB]
  | k + 1, h => by
    have h1 := prB_len T L f k (fun j hj => h j (by omega))
    have h2 := h k (by omega)
    have h3 := tEn_gt (T := T) h2
    have h4 : tEn T L (tAt T L k) ≤ tAt T L (k + 1) := by
      rw [tAt.eq_2, if_pos h2]
      exact sk_ge h3.2
    rw [dl_s, prB_app]
    split
    · show (prB T L [] (dl f k 0) ++ sepP (prB T L [] (dl f k 0)) ++ bytL T (tAt T L k) (tSz T L k)).length ≤ _
      rw [List.length_append, List.length_append, tSz_at h2]
      have h5 : (sepP (prB T L [] (dl f k 0))).length ≤ 1 := by unfold sepP; split <;> simp
      have h6 : (bytL T (tAt T L k) (tEn T L (tAt T L k) - tAt T L k)).length = tEn T L (tAt T L k) - tAt T L k := by simp [bytL]
      rw [h6]
      omega
    · show (prB T L [] (dl f k 0)).length ≤ _
      omega
theorem wo_loop {w0 : Wd} (hX : TxC T L w0) (hn10 : nTk T L ≤ 1000) (hB : ∀ i, i < L → -128 ≤ T i ∧ T i ≤ 127) (h : ∀ w', FW w0 w' → PRc w' (prB T L [] (dl (w0 30) (nTk T L) 0)) → K (.inl none) w') : ∀ (m k : Nat) (w : Wd), k + m = nTk T L → FW w0 w → PRc w (prB T L [] (dl (w0 30) k 0)) → V g LC jRe_writeOut (d + 2) K 2 [(0, vA 24), (1, vI (k : Int))] [] w := by
  obtain ⟨-, hL4, h26, h3, hT, -⟩ := id hX
  have hnT := nTk_le (T := T) (L := L)
  intro m
  induction m with
  | zero =>
    intro k w hk hF hP
    have e26 : w 2 6 = (nTk T L : Int) := by rw [hF.1 2 (by decide)]; exact h26
    refine s_Re_writeOut_2 ⟨fun _ => h w hF ?_, fun c => absurd (by rw [e26]; omega) c⟩
    rw [show nTk T L = k by omega]; exact hP
  | succ m ih =>
    intro k w hk hF hP
    have e26 : w 2 6 = (nTk T L : Int) := by rw [hF.1 2 (by decide)]; exact h26
    have e30 : w 30 = w0 30 := hF.1 30 (by decide)
    have hkn : k < nTk T L := by omega
    have htk := tok_lt hkn
    refine s_Re_writeOut_2 ⟨fun c => absurd c (by rw [e26]; omega), fun c => Cal.rng (fun hr _ _ => Cal.ofV (by decide) rfl (Nat.le_of_ble_eq_true rfl) (s_Ex_isDropped ⟨by omega, ?_⟩))⟩
    have hr30 := hr 30 (by decide) k (by show k < 1002; omega)
    have hr30' : 0 ≤ w 30 k ∧ w 30 k ≤ 1 := hr30
    rw [toN, wr_n1 (by omega)]
    refine ⟨by omega, fun c2 => ?_, fun c2 => ⟨by omega, by omega, ?_⟩⟩
    · refine ih (k + 1) w (by omega) hF ?_
      rw [dl_s, if_neg (by rw [← e30]; exact c2), List.append_nil]
      exact hP
    · obtain ⟨f1, f2, -⟩ := hX.sz hkn
      have g1 : w 5 k = ((tAt T L k : Nat) : Int) := by rw [hF.1 5 (by decide)]; exact f1
      have g2 : w 6 k = ((tAt T L k + tSz T L k : Nat) : Int) := by rw [hF.1 6 (by decide)]; exact f2
      have g3 : w 3 = T := by rw [hF.1 3 (by decide)]; exact h3
      have hsz := tSz_at htk
      have hen := tEn_gt (T := T) htk
      have hlen := prB_len T L (w0 30) k (fun j hj => tok_lt (by omega))
      rw [g1, g2]
      refine sp_write (by omega) (by omega) (by omega) (fun i a b => by rw [g3]; exact hB i (by omega)) hP (by omega) (fun w' hF' hP' => ih (k + 1) w' (by omega) (hF.tr hF') ?_)
      rw [dl_s, if_pos (by rw [← e30]; exact c2), prB_app]
      show PRc w' (prB T L [] (dl (w0 30) k 0) ++ sepP (prB T L [] (dl (w0 30) k 0)) ++ bytL T (tAt T L k) (tSz T L k))
      rw [g3, show tAt T L k + tSz T L k - tAt T L k = tSz T L k by omega] at hP'
      exact hP'
theorem sp_writeOut (hD : 2 ≤ D) (hX : TxC T L w) (hn10 : nTk T L ≤ 1000) (hB : ∀ i, i < L → -128 ≤ T i ∧ T i ≤ 127) (h0 : w 8 10 = 0) (h : ∀ w', FW w w' → PRc w' (prB T L [] (dl (w 30) (nTk T L) 0)) → K (.inl none) w') : Cal g LC jRe_writeOut D [vA 24] w K := by
  obtain ⟨d, rfl⟩ : ∃ d, D = d + 2 := ⟨D - 2, by omega⟩
  exact Cal.ofV (by decide) rfl (Nat.le_of_ble_eq_true rfl) (s_Re_writeOut (wo_loop hX hn10 hB h (nTk T L) 0 w (by omega) (FW.rf w) ⟨h0, by simp [dl, prB], fun k hk => by simp [dl, prB] at hk⟩))
end Printing
