/-! ===== arcs in their order ===== -/
def fltA (f : Nat → Int) (v : Int) : Nat → Nat → List Nat
  | 0, _ => []
  | n + 1, i => if f i = v then i :: fltA f v n (i + 1) else fltA f v n (i + 1)
def nxA (f : Nat → Int) (v : Int) : Nat → Nat → Int
  | 0, _ => -1
  | n + 1, i => if f i = v then (i : Int) else nxA f v n (i + 1)
theorem nxA_nil {f : Nat → Int} {v : Int} : ∀ (n i : Nat), fltA f v n i = [] → nxA f v n i = -1
  | 0, _, _ => rfl
  | n + 1, i, h => by
    rw [fltA] at h
    rw [nxA]
    split at h
    · cases h
    · rename_i z
      rw [if_neg z]; exact nxA_nil n (i + 1) h
theorem nxA_cons {f : Nat → Int} {v : Int} {j : Nat} {t : List Nat} : ∀ (n i : Nat), fltA f v n i = j :: t → nxA f v n i = (j : Int) ∧ f j = v ∧ i ≤ j ∧ j < i + n ∧ t = fltA f v (i + n - (j + 1)) (j + 1)
  | 0, _, h => by cases h
  | n + 1, i, h => by
    rw [fltA] at h
    rw [nxA]
    split at h
    · rename_i z
      cases h
      rw [if_pos z]
      exact ⟨rfl, z, Nat.le_refl _, by omega, by rw [show j + (n + 1) - (j + 1) = n by omega]⟩
    · rename_i z
      rw [if_neg z]
      obtain ⟨a1, a2, a3, a4, a5⟩ := nxA_cons n (i + 1) h
      exact ⟨a1, a2, by omega, by omega, by rw [a5, show i + 1 + n = i + (n + 1) by omega]⟩
theorem flt_range {f : Nat → Int} {v : Int} : ∀ (n i : Nat), (List.range' i n).filter (fun x => decide (f x = v)) = fltA f v n i
  | 0, _ => rfl
  | n + 1, i => by
    rw [List.range'_succ, List.filter_cons, fltA, flt_range n (i + 1)]
    by_cases h : f i = v
    · rw [if_pos h, if_pos (by simp [h])]
    · rw [if_neg h, if_neg (by simp [h])]
theorem alA_flt {X : Xv} {ag : Bool} : alA X ag = fltA (if ag = true then X 6 else X 5) (X 0 0) (X 0 6).toNat 0 := by
  unfold alA
  rw [List.range_eq_range', ← flt_range]
  cases ag <;> rfl
/-- the class's arcs -/
def GrC (X : Xv) (w : Wd) (a : Nat) : Prop := X 0 6 = (a : Int) ∧ a ≤ 120 ∧ (∀ i, i < a → w 32 i = X 5 i ∧ w 33 i = X 6 i ∧ (0 ≤ X 5 i ∧ X 5 i < 40) ∧ (0 ≤ X 6 i ∧ X 6 i < 40)) ∧ (∀ v : Nat, v < 40 → w 37 v = nxA (X 5) (v : Int) a 0 ∧ w 40 v = nxA (X 6) (v : Int) a 0) ∧ ∀ i, i < a → w 39 i = nxA (X 5) (X 5 i) (a - (i + 1)) (i + 1) ∧ w 42 i = nxA (X 6) (X 6 i) (a - (i + 1)) (i + 1)
theorem GrC.f2 {X : Xv} {w0 w : Wd} {ma a : Nat} (h : GrC X w0 a) (hf : FW2 ma w0 w) : GrC X w a := by
  unfold GrC at *
  rw [hf.1 32 (by decide), hf.1 33 (by decide), hf.1 37 (by decide), hf.1 40 (by decide), hf.1 39 (by decide), hf.1 42 (by decide)]
  exact h
/-! ===== worlds behind what was sent ===== -/
section EvWs
variable {ma v : Nat} {w w' w0 : Wd} {e : Nat × Nat × Int} {σ : SS}
def isEv (ma o : Nat) : Prop := o = ma ∨ o = ma + 3 ∨ o = ma + 4 ∨ o = ma + 5 ∨ o = ma + 6
theorem evW_o {o : Nat} (h : ¬ isEv ma o) : evW ma w e o = w o := by
  unfold isEv at h
  unfold evW
  split
  · rw [up_o (by omega), up_o (by omega)]
  · rw [up_o (by omega), up_o (by omega), up_o (by omega)]
theorem evW_cg (hm : isMo ma) (h10 : w' 10 = w 10) (h11 : w' 11 = w 11) (h : ∀ o, isEv ma o → w' o = w o) : ∀ o, isEv ma o → evW ma w' e o = evW ma w e o := by
  intro o ho
  have e0 := h ma (Or.inl rfl)
  have e3 := h (ma + 3) (Or.inr (Or.inl rfl))
  have e4 := h (ma + 4) (Or.inr (Or.inr (Or.inl rfl)))
  have e5 := h (ma + 5) (Or.inr (Or.inr (Or.inr (Or.inl rfl))))
  have e6 := h (ma + 6) (Or.inr (Or.inr (Or.inr (Or.inr rfl))))
  have ho' := h o ho
  unfold evW
  split
  · rw [h11, e5, e6]
    funext b
    simp only [up, ho']
  · rw [h10, e0, e3, e4]
    funext b
    simp only [up, ho']
theorem ev_fold_o {o : Nat} (hm : isMo ma) (h : ¬ isEv ma o) : ∀ (l : List (Nat × Nat × Int)) (w0 : Wd), (l.foldl (evW ma) w0) o = w0 o
  | [], _ => rfl
  | x :: l, w0 => by
    rw [List.foldl_cons, ev_fold_o hm h l, evW_o h]
theorem RS.ev (hm : isMo ma) (h : RS ma v w0 w σ) : RS ma v w0 (evW ma w e) (zs σ, zd σ, zo σ, zl σ, ze σ ++ [e], zb σ) := by
  have hr := mo_rng hm
  obtain ⟨⟨f1, f2, f3⟩, ⟨m1, m2, m3, m4⟩, m5⟩ := h
  have q : ∀ o, o < ma ∨ ma + 6 < o → evW ma w e o = w o := fun o ho => evW_o (by unfold isEv; omega)
  refine ⟨⟨fun o ho => by rw [q o (by omega)]; exact f1 o ho, fun o p1 p2 p3 => by rw [q o (by omega)]; exact f2 o p1 p2 p3, fun b hb => by rw [q 101 (by omega)]; exact f3 b hb⟩, ⟨?_, ?_, ?_, fun o ho => ?_⟩, ?_⟩
  · rw [evW_o (by unfold isEv; omega)]; exact m1
  · rw [evW_o (by unfold isEv; omega)]; exact m2
  · rw [q 103 (by omega)]; exact m3
  · show evW ma w e o = ((ze σ ++ [e]).foldl (evW ma) w0) o
    rw [List.foldl_append]
    show evW ma w e o = evW ma ((ze σ).foldl (evW ma) w0) e o
    refine (evW_cg hm ?_ ?_ (fun o ho => (m4 o ho).symm) o ho).symm
    · rw [ev_fold_o hm (by unfold isEv; omega), f1 10 (by decide)]
    · rw [ev_fold_o hm (by unfold isEv; omega), f1 11 (by decide)]
  · rw [evW_o (by unfold isEv; omega)]; exact m5
theorem RS.own {k : Nat} {x : Int} (hm : isMo ma) (hv : v < 40) (hk : k < 8) (h : RS ma v w0 w σ) : RS ma v w0 (up w (ma + 1) (8 * v + k) x) (zs σ, zd σ, upf (zo σ) k x, zl σ, ze σ, zb σ) := by
  have hr := mo_rng hm
  obtain ⟨⟨f1, f2, f3⟩, ⟨m1, m2, m3, m4⟩, m5⟩ := h
  refine ⟨⟨fun o ho => by rw [up_o (by omega)]; exact f1 o ho, fun o p1 p2 p3 => by rw [up_o (by omega)]; exact f2 o p1 p2 p3, fun b hb => by rw [up_o (by omega)]; exact f3 b hb⟩, ⟨fun j hj => ?_, fun y hy => ?_, ?_, fun o ho => ?_⟩, ?_⟩
  · show up w (ma + 1) (8 * v + k) x (ma + 1) (8 * v + j) = upf (zo σ) k x j
    unfold upf
    by_cases hjk : j = k
    · subst hjk; rw [up_s, if_pos rfl]
    · rw [up_k (by omega), if_neg hjk]; exact m1 j hj
  · rw [up_k (by omega)]; exact m2 y hy
  · rw [up_o (by omega)]; exact m3
  · rw [up_o (by omega)]; exact m4 o ho
  · rw [up_o (by omega)]; exact m5
theorem RS.let_ {k : Nat} {x : Int} (hm : isMo ma) (h : RS ma v w0 w σ) : RS ma v w0 (up w 103 k x) (zs σ, zd σ, zo σ, upf (zl σ) k x, ze σ, zb σ) := by
  have hr := mo_rng hm
  obtain ⟨⟨f1, f2, f3⟩, ⟨m1, m2, m3, m4⟩, m5⟩ := h
  refine ⟨⟨fun o ho => by rw [up_o (by omega)]; exact f1 o ho, fun o p1 p2 p3 => by rw [up_o (by omega)]; exact f2 o p1 p2 p3, fun b hb => by rw [up_o (by decide)]; exact f3 b hb⟩, ⟨?_, ?_, fun j hj => ?_, fun o ho => ?_⟩, ?_⟩
  · rw [up_o (by omega)]; exact m1
  · rw [up_o (by omega)]; exact m2
  · show up w 103 k x 103 j = upf (zl σ) k x j
    unfold upf
    by_cases hjk : j = k
    · subst hjk; rw [up_s, if_pos rfl]
    · rw [up_k (by omega), if_neg hjk]; exact m3 j hj
  · rw [up_o (by omega)]; exact m4 o ho
  · rw [up_o (by omega)]; exact m5
end EvWs
/-! ===== how many deeds ===== -/
section CmLen
variable {T : Nat → Int} {L : Nat}
theorem cmS_len : ∀ (a : Tr) (E : List En) (s lp : Nat) (h : Int), WS a → (cmS T L a E s lp h).length = nK a
  | .leaf, _, _, _, _, _ => rfl
  | .inner c t q l r, E, s, lp, h, hw => by
    have ihl := cmS_len l
    have ihr := cmS_len r
    simp only [WS] at hw
    rcases hw with ⟨rfl, hl, hr, -⟩ | ⟨rfl, hl, hr⟩ | ⟨rfl, hl⟩ | ⟨rfl, hl, hr⟩ | ⟨rfl, hl⟩ | rfl | ⟨hc, hl⟩
    · show ((19, 0, 0, _) :: (cmS T L l E (s + 1) lp _ ++ cmS T L r (eSt T L E l) (s + 1 + nK l) lp h)).length = 1 + nK l + nK r
      rw [List.length_cons, List.length_append, ihl _ _ _ _ hl, ihr _ _ _ _ hr]; omega
    · show (cmS T L l E s lp h ++ (if q = 0 then [] else _ :: cmS T L r E (s + nK l + 1) lp h)).length = nK l + (if q = 0 then 0 else 1 + nK r)
      rw [List.length_append, ihl _ _ _ _ hl]
      split
      · rfl
      · rw [List.length_cons, ihr _ _ _ _ hr]; omega
    · exact ihl E s lp h hl
    · show (hX T L E l s h ++ (_ :: cmS T L r E (s + nD l + 1) lp h)).length = nD l + 1 + nK r
      rw [List.length_append, hXl hl, List.length_cons, ihr _ _ _ _ hr]; omega
    · show (_ :: _ :: (cmS T L l E (s + 2) (lp + 1) h ++ [_])).length = nK l + 3
      rw [List.length_cons, List.length_cons, List.length_append, ihl _ _ _ _ hl]; rfl
    · rfl
    · rcases hc with rfl | rfl | rfl | rfl
      · show (hX T L E l s h ++ [_]).length = nD l + 1
        rw [List.length_append, hXl hl]; rfl
      · show (hX T L E l s h ++ [_]).length = nD l + 1
        rw [List.length_append, hXl hl]; rfl
      · show (_ :: (hX T L E l (s + 1) h ++ [_, _])).length = nD l + 3
        rw [List.length_cons, List.length_append, hXl hl]; rfl
      · show (hX T L E l s h ++ [_]).length = nD l + 1
        rw [List.length_append, hXl hl]; rfl
end CmLen
