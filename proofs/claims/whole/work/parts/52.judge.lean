/-! ===== what an exp means to the reading: line, kind, blame, deeds, what is printed ===== -/
def lnT (kd : Nat → Nat) : Tr → Nat
  | .leaf => 0
  | .inner c t _ l _ => if c = 5 then 6 else if c = 6 then lnO (kd t) else if c = 7 then lnT kd l else 7
section Meanings
variable (T : Nat → Int) (L : Nat) (E : List En) (b : Bool)
def nmK (e : Option En) : Int := if rdD (eSo e) < 0 then 0 else eKi e
def knT : Tr → Int
  | .leaf => 0
  | .inner c t _ l r =>
    if c = 0 then (if kdT T L t = 3 then 1 else if kdT T L t = 31 ∨ kdT T L t = 32 then 2 else if kdT T L t = 2 then nmK (fnd T L E t) else 1)
    else if c = 1 then (if b = true ∧ eSo (fnd T L E t) = 0 then 1 else 0)
    else if c = 2 then (if eSo (fnd T L E t) = 2 then 2 else 0)
    else if c = 3 then 1
    else if c = 4 then knT r
    else if c = 9 then (if knT l = 0 then knT r else knT l)
    else if c = 5 then (if kdT T L t = 16 then 1 else 2)
    else if c = 6 then (if lnO (kdT T L t) ≤ 3 then 2 else 1)
    else knT l
def jkT : Tr → Nat
  | .leaf => 100000
  | .inner c t _ l r =>
    if c = 0 then (if kdT T L t = 2 ∧ rdD (eSo (fnd T L E t)) < 0 then tAt T L t * 8 + 4 else 100000)
    else if c = 1 then (if b = true ∧ eSo (fnd T L E t) = 0 then 100000 else tAt T L t * 8 + 4)
    else if c = 2 then (if eSo (fnd T L E t) = 2 then 100000 else tAt T L t * 8 + 4)
    else if c = 3 then min (jkT l) (dm T L (knT T L E b l) 1 (fst_ l))
    else if c = 4 then min (min (jkT l) (dm T L (knT T L E b l) 2 (fst_ l))) (jkT r)
    else if c = 9 then min (min (jkT l) (jkT r)) (dm T L (knT T L E b r) (knT T L E b l) (fst_ r))
    else if c = 5 then min (jkT l) (dm T L (knT T L E b l) (if kdT T L t = 16 then 1 else 2) (fst_ l))
    else if c = 6 then (if kdT T L t = 21 ∨ kdT T L t = 22 then min (min (jkT l) (jkT r)) (dm T L (knT T L E b r) (knT T L E b l) (fst_ r))
      else min (min (jkT l) (jkT r)) (min (dm T L (knT T L E b l) (if lnO (kdT T L t) ≤ 2 then 2 else 1) (fst_ l)) (dm T L (knT T L E b r) (if lnO (kdT T L t) ≤ 2 then 2 else 1) (fst_ r))))
    else jkT l
def nDl : Tr → Nat
  | .leaf => 0
  | .inner _ _ _ l _ => nD l
abbrev Dd : Type := Int × Int × Int
/-- the deeds of an exp, the first at s -/
def cmT : Tr → Nat → List Dd
  | .leaf, _ => []
  | .inner c t _ l r, s =>
    if c = 0 then (if kdT T L t = 3 ∨ kdT T L t = 32 then [(0, tVl T L (tAt T L t), 0)] else if kdT T L t = 31 then [(0, 1, 0)] else if kdT T L t = 2 then [((if rdD (eSo (fnd T L E t)) < 0 then 0 else rdD (eSo (fnd T L E t))), eNu (fnd T L E t), 0)] else [(fcD (kdT T L t), 0, 0)])
    else if c = 1 then [(5, eNu (fnd T L E t), 0)]
    else if c = 2 then [(6, eNu (fnd T L E t), 0)]
    else if c = 3 then cmT l s ++ [(14, 0, ((tAt T L t : Nat) : Int))]
    else if c = 4 then cmT l s ++ ((18, ((s + nD l + 1 + nDl r + 1 : Nat) : Int), 0) :: cmT r (s + nD l + 1))
    else if c = 9 then cmT l s ++ ((21, ((s + nD l + 1 + nD r : Nat) : Int), 0) :: cmT r (s + nD l + 1))
    else if c = 5 then cmT l s ++ [((if kdT T L t = 16 then 12 else 13), 0, 0)]
    else if c = 6 then (if lnO (kdT T L t) ≤ 2 then cmT l s ++ (((if lnO (kdT T L t) = 2 then 16 else 17), ((s + nD l + 1 + nD r : Nat) : Int), 0) :: cmT r (s + nD l + 1))
      else cmT l s ++ (cmT r (s + nD l) ++ [(15, ((kdT T L t : Nat) : Int), ((tAt T L t : Nat) : Int))]))
    else cmT l s
end Meanings
/-- the TOKENS that are printed of an exp that stands where line r is asked for -/
def oS (kd : Nat → Nat) : Tr → Nat → List Nat
  | .leaf, _ => []
  | .inner c t q l rr, r =>
    if c = 7 then (if r ≤ lnT kd l then oS kd l 1 else t :: (oS kd l 1 ++ [q]))
    else if c = 0 then [t]
    else if c = 1 then [t - 2, t - 1, t]
    else if c = 2 then [t - 1, t]
    else if c = 3 then t :: (t + 1) :: (oS kd l 1 ++ [q])
    else if c = 4 then t :: (t + 1) :: (oS kd l 1 ++ (oS kd rr 1 ++ [q]))
    else if c = 9 then t :: (oS kd l 1 ++ (q :: oS kd rr 1))
    else if c = 5 then t :: oS kd l 6
    else oS kd l (if lnO (kd t) = 3 then 4 else lnO (kd t)) ++ (t :: oS kd rr (lnO (kd t) + 1))
/-- exps as they are read -/
def WE : Tr → Prop
  | .leaf => False
  | .inner c _ _ l r => (c = 0 ∧ l = nl ∧ r = nl) ∨ (c = 1 ∧ l = nl ∧ r = nl) ∨ (c = 2 ∧ l = nl ∧ r = nl) ∨ (c = 3 ∧ WE l ∧ r = nl) ∨ (c = 4 ∧ WE l ∧ ∃ t q b e, r = nd 9 t q b e ∧ WE r) ∨ (c = 9 ∧ WE l ∧ WE r) ∨ (c = 5 ∧ WE l ∧ r = nl) ∨ (c = 6 ∧ WE l ∧ WE r) ∨ (c = 7 ∧ WE l ∧ r = nl)
theorem cm_len {T : Nat → Int} {L : Nat} {E : List En} : ∀ (a : Tr) (s : Nat), WE a → (cmT T L E a s).length = nD a
  | .leaf, s, h => h.elim
  | .inner c t q l r, s, h => by
    have hl := cm_len (T := T) (L := L) (E := E) l
    have hr := cm_len (T := T) (L := L) (E := E) r
    simp only [WE] at h
    simp only [cmT, nD]
    rcases h with ⟨rfl, rfl, rfl⟩ | ⟨rfl, rfl, rfl⟩ | ⟨rfl, rfl, rfl⟩ | ⟨rfl, h1, rfl⟩ | ⟨rfl, h1, t', q', b', e', rfl, h2⟩ | ⟨rfl, h1, h2⟩ | ⟨rfl, h1, rfl⟩ | ⟨rfl, h1, h2⟩ | ⟨rfl, h1, rfl⟩
    · simp [nD]
      split <;> (try split) <;> (try split) <;> rfl
    · simp [nD]
    · simp [nD]
    · simp [nD, hl s h1]
    · simp [hl s h1, hr _ h2]; omega
    · simp [hl s h1, hr _ h2]; omega
    · simp [nD, hl s h1]
    · simp
      split
      · simp [hl s h1, hr _ h2]; omega
      · simp [hl s h1, hr _ h2]; omega
    · simp [nD, hl s h1]
/-- what is printed between TOKENS i and j -/
def dl (f : Nat → Int) : Nat → Nat → List Nat
  | 0, _ => []
  | n + 1, i => if f i = 0 then i :: dl f n (i + 1) else dl f n (i + 1)
def DL (w : Wd) (i j : Nat) (l : List Nat) : Prop := i ≤ j ∧ dl (w 30) (j - i) i = l
theorem dl_app (f : Nat → Int) : ∀ (n m i : Nat), dl f (n + m) i = dl f n i ++ dl f m (i + n)
  | 0, m, i => by simp [dl]
  | n + 1, m, i => by
    rw [show n + 1 + m = (n + m) + 1 by omega, dl, dl, dl_app f n m (i + 1), show i + 1 + n = i + (n + 1) by omega]
    split <;> simp
theorem DL.app {w : Wd} {i j k : Nat} {l m : List Nat} (h1 : DL w i j l) (h2 : DL w j k m) : DL w i k (l ++ m) := by
  obtain ⟨a1, a2⟩ := h1
  obtain ⟨b1, b2⟩ := h2
  refine ⟨by omega, ?_⟩
  rw [show k - i = (j - i) + (k - j) by omega, dl_app, a2, show i + (j - i) = j by omega, b2]
theorem DL.one {w : Wd} {i : Nat} (h : w 30 i = 0) : DL w i (i + 1) [i] := by
  refine ⟨by omega, ?_⟩
  rw [show i + 1 - i = 0 + 1 by omega, dl, if_pos h]; rfl
theorem DL.no {w : Wd} {i : Nat} (h : ¬ w 30 i = 0) : DL w i (i + 1) [] := by
  refine ⟨by omega, ?_⟩
  rw [show i + 1 - i = 0 + 1 by omega, dl, if_neg h]; rfl
theorem DL.nil (w : Wd) (i : Nat) : DL w i i [] := ⟨Nat.le_refl _, by rw [Nat.sub_self]; rfl⟩
theorem dl_congr {f f' : Nat → Int} : ∀ (n i : Nat), (∀ x, i ≤ x → x < i + n → f' x = f x) → dl f' n i = dl f n i
  | 0, i, h => rfl
  | n + 1, i, h => by
    rw [dl, dl, h i (Nat.le_refl _) (by omega), dl_congr n (i + 1) (fun x h1 h2 => h x (by omega) (by omega))]
theorem DL.congr {w w' : Wd} {i j : Nat} {l : List Nat} (h : DL w i j l) (hx : ∀ x, i ≤ x → x < j → w' 30 x = w 30 x) : DL w' i j l :=
  ⟨h.1, by rw [dl_congr (f := w 30) (j - i) i (fun x h1 h2 => hx x h1 (by have := h.1; omega))]; exact h.2⟩
/-- the same of an exp about which nothing is settled yet -/
def DX (kd : Nat → Nat) (w : Wd) (i j : Nat) : Tr → Prop
  | .leaf => False
  | .inner c t q l r => if c = 7 then i = t ∧ j = q + 1 ∧ w 30 t = 0 ∧ w 30 q = 0 ∧ DL w (t + 1) q (oS kd l 1) else DL w i j (oS kd (.inner c t q l r) 0)
def czT : Tr → Nat
  | .leaf => 0
  | .inner c _ q _ _ => if c = 7 then q else 0
theorem DX.congr {kd : Nat → Nat} {w w' : Wd} {i j : Nat} {a : Tr} (h : DX kd w i j a) (hx : ∀ x, i ≤ x → x < j → w' 30 x = w 30 x) : DX kd w' i j a := by
  cases a with
  | leaf => exact h.elim
  | inner c t q l r =>
    simp only [DX] at h ⊢
    split at h
    · rename_i hc
      rw [if_pos hc]
      obtain ⟨rfl, rfl, h1, h2, h3⟩ := h
      have h31 := h3.1
      exact ⟨rfl, rfl, by rw [hx _ (Nat.le_refl _) (by omega)]; exact h1, by rw [hx _ (by omega) (by omega)]; exact h2, h3.congr (fun x a b => hx x (by omega) (by omega))⟩
    · rename_i hc
      rw [if_neg hc]
      exact h.congr hx
/-- where the exp stands is known now -/
theorem DX.settle {kd : Nat → Nat} {w : Wd} {i j r : Nat} {a : Tr} (h : DX kd w i j a) (h29 : w 29 i = ((czT a : Nat) : Int)) (h28 : w 28 i = ((lnT kd a : Nat) : Int)) : DL (seW w i (r : Int)) i j (oS kd a r) ∧ ∀ x, (x < i ∨ j ≤ x) → seW w i (r : Int) 30 x = w 30 x := by
  cases a with
  | leaf => exact h.elim
  | inner c t q l rr =>
    simp only [DX] at h
    split at h
    · rename_i hc
      subst hc
      obtain ⟨rfl, rfl, h1, h2, h3⟩ := h
      have h31 := h3.1
      simp only [czT, if_true] at h29
      have hlt : lnT kd (.inner 7 i q l rr) = lnT kd l := by simp [lnT]
      rw [hlt] at h28
      unfold seW
      rw [h29, h28, toN]
      simp only [oS, if_true]
      by_cases hr : r ≤ lnT kd l
      · rw [if_pos (by omega), if_pos hr]
        have hu : ∀ x, x ≠ i → x ≠ q → up (up (up w 30 i 1) 30 q 1) 29 i 0 30 x = w 30 x := fun x a1 a2 => by rw [up_o (by decide), up_k a2, up_k a1]
        refine ⟨?_, fun x hx => hu x (by omega) (by omega)⟩
        have d1 : DL (up (up (up w 30 i 1) 30 q 1) 29 i 0) i (i + 1) [] := DL.no (by
          rw [up_o (by decide), up_k (by omega), up_s]; decide)
        have d3 : DL (up (up (up w 30 i 1) 30 q 1) 29 i 0) q (q + 1) [] := DL.no (by
          rw [up_o (by decide), up_s]; decide)
        have d2 := h3.congr (w' := up (up (up w 30 i 1) 30 q 1) 29 i 0) (fun x a1 a2 => hu x (by omega) (by omega))
        have := (d1.app d2).app d3
        simpa using this
      · rw [if_neg (by omega), if_neg hr]
        have hu : ∀ x, up w 29 i 0 30 x = w 30 x := fun x => by rw [up_o (by decide)]
        refine ⟨?_, fun x _ => hu x⟩
        have d1 : DL (up w 29 i 0) i (i + 1) [i] := DL.one (by rw [hu]; exact h1)
        have d3 : DL (up w 29 i 0) q (q + 1) [q] := DL.one (by rw [hu]; exact h2)
        have d2 := h3.congr (w' := up w 29 i 0) (fun x a1 a2 => hu x)
        have := (d1.app d2).app d3
        simpa using this
    · rename_i hc
      simp only [czT, if_neg hc] at h29
      unfold seW
      rw [h29, if_neg (by omega)]
      have hu : ∀ x, up w 29 i 0 30 x = w 30 x := fun x => by rw [up_o (by decide)]
      refine ⟨?_, fun x _ => hu x⟩
      have e : oS kd (.inner c t q l rr) r = oS kd (.inner c t q l rr) 0 := by simp only [oS, if_neg hc]
      rw [e]
      exact h.congr (fun x _ _ => hu x)
/-! what was added to the code -/
def XC (w w' : Wd) (s : Nat) (l : List Dd) : Prop := w' 19 4 = ((s + l.length : Nat) : Int) ∧ w' 19 5 = w 19 5 ∧ (∀ q, q < s → w' 20 q = w 20 q ∧ w' 21 q = w 21 q ∧ w' 22 q = w 22 q ∧ w' 23 q = w 23 q) ∧ ∀ q e, l[q]? = some e → w' 20 (s + q) = e.1 ∧ w' 21 (s + q) = e.2.1 ∧ w' 22 (s + q) = e.2.2 ∧ w' 23 (s + q) = w 19 5
theorem XC.nil {w : Wd} {s : Nat} (h : w 19 4 = (s : Int)) : XC w w s [] := ⟨h, rfl, fun _ _ => ⟨rfl, rfl, rfl, rfl⟩, fun q e z => by simp at z⟩
theorem XC.app {w w1 w2 : Wd} {s : Nat} {l m : List Dd} (h1 : XC w w1 s l) (h2 : XC w1 w2 (s + l.length) m) : XC w w2 s (l ++ m) := by
  obtain ⟨a1, a2, a3, a4⟩ := h1
  obtain ⟨b1, b2, b3, b4⟩ := h2
  refine ⟨?_, b2.trans a2, fun q hq => ?_, fun q e he => ?_⟩
  · rw [b1, List.length_append]; congr 1; omega
  · obtain ⟨c1, c2, c3, c4⟩ := b3 q (by omega)
    obtain ⟨d1, d2, d3, d4⟩ := a3 q hq
    exact ⟨c1.trans d1, c2.trans d2, c3.trans d3, c4.trans d4⟩
  · by_cases hq : q < l.length
    · rw [List.getElem?_append_left hq] at he
      obtain ⟨c1, c2, c3, c4⟩ := b3 (s + q) (by omega)
      obtain ⟨d1, d2, d3, d4⟩ := a4 q e he
      exact ⟨c1.trans d1, c2.trans d2, c3.trans d3, c4.trans d4⟩
    · rw [List.getElem?_append_right (by omega)] at he
      obtain ⟨d1, d2, d3, d4⟩ := b4 (q - l.length) e he
      rw [show s + l.length + (q - l.length) = s + q by omega] at d1 d2 d3 d4
      exact ⟨d1, d2, d3, d4.trans a2⟩
theorem XC.one {w : Wd} {s : Nat} (d a m : Int) : XC w (addW w s d a m) s [(d, a, m)] := by
  refine ⟨by unfold addW; rw [up_s]; rfl, ?_, fun q hq => ?_, fun q e he => ?_⟩
  · unfold addW; rw [up_k (by decide), up_o (by decide), up_o (by decide), up_o (by decide), up_o (by decide)]
  · have hne : q ≠ s := by omega
    refine ⟨?_, ?_, ?_, ?_⟩ <;> simp [addW, up, hne]
  · cases q with
    | zero =>
      simp only [List.length_cons, List.length_nil, List.getElem?_cons_zero, Option.some.injEq] at he
      subst he
      refine ⟨?_, ?_, ?_, ?_⟩ <;> simp [addW, up]
    | succ q => simp at he
theorem XC.fx {w w' w'' : Wd} {s : Nat} {l : List Dd} {M : List Nat} (h : XC w w' s l) (hf : Fx M w' w'') (h19 : 19 ∉ M) (h20 : 20 ∉ M) (h21 : 21 ∉ M) (h22 : 22 ∉ M) (h23 : 23 ∉ M) : XC w w'' s l := by
  unfold XC at *
  rw [hf 19 h19, hf 20 h20, hf 21 h21, hf 22 h22, hf 23 h23]
  exact h
theorem XC.fx0 {w w' w'' : Wd} {s : Nat} {l : List Dd} {M : List Nat} (h : XC w' w'' s l) (hf : Fx M w w') (h19 : 19 ∉ M) (h20 : 20 ∉ M) (h21 : 21 ∉ M) (h22 : 22 ∉ M) (h23 : 23 ∉ M) : XC w w'' s l := by
  unfold XC at *
  rw [← hf 19 h19, ← hf 20 h20, ← hf 21 h21, ← hf 22 h22, ← hf 23 h23]
  exact h
theorem XC.aim {w w' : Wd} {s : Nat} {l m : List Dd} {d a k v : Int} (h : XC w w' s (l ++ (d, a, k) :: m)) : XC w (up w' 21 (s + l.length) v) s (l ++ (d, v, k) :: m) := by
  obtain ⟨a1, a2, a3, a4⟩ := h
  refine ⟨?_, ?_, fun q hq => ?_, fun q e he => ?_⟩
  · rw [up_o (by decide), a1]; simp
  · rw [up_o (by decide), a2]
  · obtain ⟨c1, c2, c3, c4⟩ := a3 q hq
    refine ⟨by rw [up_o (by decide)]; exact c1, by rw [up_k (by omega)]; exact c2, by rw [up_o (by decide)]; exact c3, by rw [up_o (by decide)]; exact c4⟩
  · by_cases hq : q = l.length
    · subst hq
      rw [List.getElem?_append_right (Nat.le_refl _), Nat.sub_self] at he
      simp only [List.getElem?_cons_zero, Option.some.injEq] at he
      subst he
      obtain ⟨c1, c2, c3, c4⟩ := a4 l.length (d, a, k) (by rw [List.getElem?_append_right (Nat.le_refl _), Nat.sub_self]; rfl)
      exact ⟨by rw [up_o (by decide)]; exact c1, up_s _ _ _ _, by rw [up_o (by decide)]; exact c3, by rw [up_o (by decide)]; exact c4⟩
    · have he' : (l ++ (d, a, k) :: m)[q]? = some e := by
        rw [← he]
        by_cases hql : q < l.length
        · rw [List.getElem?_append_left hql, List.getElem?_append_left hql]
        · rw [List.getElem?_append_right (by omega), List.getElem?_append_right (by omega)]
          obtain ⟨p, hp⟩ : ∃ p, q - l.length = p + 1 := ⟨q - l.length - 1, by omega⟩
          rw [hp]; rfl
      obtain ⟨c1, c2, c3, c4⟩ := a4 q e he'
      exact ⟨by rw [up_o (by decide)]; exact c1, by rw [up_k (by omega)]; exact c2, by rw [up_o (by decide)]; exact c3, by rw [up_o (by decide)]; exact c4⟩
