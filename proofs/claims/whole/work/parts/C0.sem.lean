/-! ===== what a program does, purely ===== -/
/-- the world of a node in a TURN: X 0 0 the node, 1 the TURN, 2 the seed, 3 nodes, 4 degree, 5 indegree, 6 arcs; X 1 folds, X 2 how many came, X 3 globals, X 4 weights, X 5 from, X 6 to -/
abbrev Xv : Type := Wd
def stq (h s : Nat) : PE Nat := if 1000 ≤ s then .error (3, h) else .ok (s + 1)
def mxd (h x : Int) : Int := iXor (wr ((iXor h x) * (-1640531535))) (iUshr (wr ((iXor h x) * (-1640531535))) 15)
def drw (X : Xv) (d : Nat) (n : Int) : Int := l2iF (lRem (lAnd (mxd (mxd (mxd (X 0 2) (X 0 0)) (X 0 1)) (d : Int)) 4294967295) n)
def bnv (k : Nat) (a b : Int) : Int := if k = 15 then wr (a + b) else if k = 16 then wr (a - b) else if k = 17 then wr (a * b) else if k = 18 then iDiv a b else if k = 19 then iRem a b else if k = 21 then (if a = b then 1 else 0) else if k = 22 then (if a = b then 0 else 1) else if k = 13 then (if a < b then 1 else 0) else if k = 23 then (if a ≤ b then 1 else 0) else if k = 14 then (if b < a then 1 else 0) else (if b ≤ a then 1 else 0)
section Sem
variable (T : Nat → Int) (L : Nat) (X : Xv) (h : Nat)
def nmN (E : List En) (t : Nat) : Nat := (eNu (fnd T L E t)).toNat
/-- an operand -/
def opv (E : List En) (own lets : Nat → Int) (arc : Nat) (c t : Nat) : Int :=
  if c = 1 then X 4 (4 * arc + nmN T L E t)
  else if c = 2 then (if X 2 (nmN T L E t) ≤ 0 then 0 else 1)
  else if kdT T L t = 3 ∨ kdT T L t = 32 then tVl T L (tAt T L t)
  else if kdT T L t = 31 then 1
  else if kdT T L t = 2 then (if eSo (fnd T L E t) = 1 then own (nmN T L E t) else if eSo (fnd T L E t) = 4 then lets (nmN T L E t) else if eSo (fnd T L E t) = 2 then X 1 (nmN T L E t) else X 3 (nmN T L E t))
  else if kdT T L t = 54 then X 0 0 else if kdT T L t = 55 then X 0 1 else if kdT T L t = 56 then X 0 3 else if kdT T L t = 57 then X 0 4 else X 0 5
/-- an exp: value, STEPS, draws -/
def evx (E : List En) (own lets : Nat → Int) (arc : Nat) : Bool → Tr → Nat → Nat → PE (Int × Nat × Nat)
  | _, .leaf, s, d => .ok (0, s, d)
  | b, .inner c t _ l r, s, d =>
    if c = 0 ∨ c = 1 ∨ c = 2 then bnd (stq h s) (fun s1 => .ok (opv T L X E own lets arc c t, s1, d))
    else if c = 3 then bnd (evx E own lets arc true l s d) (fun q => bnd (stq h q.2.1) (fun s1 => if q.1 < 1 then .error (2, tAt T L t) else .ok (drw X q.2.2 q.1, s1, q.2.2 + 1)))
    else if c = 4 then bnd (evx E own lets arc true l s d) (fun q => bnd (stq h q.2.1) (fun s1 => evx E own lets arc (decide (q.1 ≠ 0)) r s1 q.2.2))
    else if c = 9 then (if b = true then evx E own lets arc true l s d else evx E own lets arc true r s d)
    else if c = 5 then bnd (evx E own lets arc true l s d) (fun q => bnd (stq h q.2.1) (fun s1 => .ok ((if kdT T L t = 16 then wr (-q.1) else wr (1 - q.1)), s1, q.2.2)))
    else if c = 6 then (if lnO (kdT T L t) ≤ 2 then bnd (evx E own lets arc true l s d) (fun q => bnd (stq h q.2.1) (fun s1 => if q.1 = (if lnO (kdT T L t) = 2 then 0 else 1) then .ok (q.1, s1, q.2.2) else evx E own lets arc true r s1 q.2.2))
      else bnd (evx E own lets arc true l s d) (fun q => bnd (evx E own lets arc true r q.2.1 q.2.2) (fun p => bnd (stq h p.2.1) (fun s1 => if (kdT T L t = 18 ∨ kdT T L t = 19) ∧ p.1 = 0 then .error (1, tAt T L t) else .ok (bnv (kdT T L t) q.1 p.1, s1, p.2.2)))))
    else evx E own lets arc true l s d
end Sem
/-- STEPS, draws, own states, lets, what was sent and given (0, global, v or node + 1, fold, v), whether it stops -/
abbrev SS : Type := Nat × Nat × (Nat → Int) × (Nat → Int) × List (Nat × Nat × Int) × Bool
abbrev zs (σ : SS) : Nat := σ.1
abbrev zd (σ : SS) : Nat := σ.2.1
abbrev zo (σ : SS) : Nat → Int := σ.2.2.1
abbrev zl (σ : SS) : Nat → Int := σ.2.2.2.1
abbrev ze (σ : SS) : List (Nat × Nat × Int) := σ.2.2.2.2.1
abbrev zb (σ : SS) : Bool := σ.2.2.2.2.2
def upf (f : Nat → Int) (k : Nat) (v : Int) : Nat → Int := fun x => if x = k then v else f x
/-- a loop -/
def itr (h : Nat) (f : SS → PE SS) : Nat → SS → PE SS
  | 0, σ => .ok σ
  | n + 1, σ => if zb σ = true then .ok σ else bnd (stq h (zs σ)) (fun s1 => bnd (f (s1, zd σ, zo σ, zl σ, ze σ, zb σ)) (fun σ' => itr h f n σ'))
/-- sending along some arcs -/
def snd_ (h : Nat) (f : Nat → SS → PE (Int × Nat × Nat)) (to : Nat → Nat) (k : Nat) : List Nat → SS → PE SS
  | [], σ => .ok σ
  | i :: t, σ => bnd (stq h (zs σ)) (fun s1 => bnd (f i (s1, zd σ, zo σ, zl σ, ze σ, zb σ)) (fun q => snd_ h f to k t (q.2.1, q.2.2, zo σ, zl σ, ze σ ++ [(to i + 1, k, q.1)], zb σ)))
/-- the arcs along which a node sends -/
def alA (X : Xv) (ag : Bool) : List Nat := (List.range (X 0 6).toNat).filter (fun i => decide ((if ag = true then X 6 i else X 5 i) = X 0 0))
section SemS
variable (T : Nat → Int) (L : Nat) (X : Xv)
def evs (h : Nat) (E : List En) (arc : Nat) (l : Tr) (σ : SS) : PE (Int × Nat × Nat) := evx T L X h E (zo σ) (zl σ) arc true l (zs σ) (zd σ)
/-- statements: h the place of the one that stands around, b which part of an if -/
def rns : Bool → Tr → List En → Nat → SS → PE SS
  | _, .leaf, _, _, σ => .ok σ
  | b, .inner c t q l r, E, h, σ =>
    if c = 20 then (if zb σ = true then .ok σ else bnd (stq (tAt T L (fsS l)) (zs σ)) (fun s1 => bnd (rns true l E (tAt T L (fsS l)) (s1, zd σ, zo σ, zl σ, ze σ, zb σ)) (fun σ' => rns true r (eSt T L E l) h σ')))
    else if c = 9 then (if b = true then rns true l E h σ else rns true r E h σ)
    else if c = 21 then rns true l E h σ
    else if c = 15 then bnd (evs T L X h E 0 l σ) (fun v => rns (decide (v.1 ≠ 0)) r E h (v.2.1, v.2.2, zo σ, zl σ, ze σ, zb σ))
    else if c = 16 then itr h (rns true l E h) (tVl T L (tAt T L t)).toNat σ
    else if c = 17 then .ok (zs σ, zd σ, zo σ, zl σ, ze σ, true)
    else if c = 11 then bnd (evs T L X h E 0 l σ) (fun v => .ok (if eSo (fnd T L E t) = 4 then (v.2.1, v.2.2, zo σ, upf (zl σ) (nmN T L E t) v.1, ze σ, zb σ) else (v.2.1, v.2.2, upf (zo σ) (nmN T L E t) v.1, zl σ, ze σ, zb σ)))
    else if c = 12 then bnd (evs T L X h E 0 l σ) (fun v => .ok (v.2.1, v.2.2, zo σ, upf (zl σ) (cntE 4 E) v.1, ze σ, zb σ))
    else if c = 14 then bnd (evs T L X h E 0 l σ) (fun v => .ok (v.2.1, v.2.2, zo σ, zl σ, ze σ ++ [(0, nmN T L E t, v.1)], zb σ))
    else snd_ h (fun i σ => evs T L X h E i l σ) (fun i => ((if kdT T L (q - 1) = 46 then X 5 i else X 6 i)).toNat) (nmN T L E t) (alA X (decide (kdT T L (q - 1) = 46))) σ
end SemS
theorem stq_ok {h s s1 : Nat} (e : stq h s = .ok s1) : s1 = s + 1 ∧ s < 1000 := by
  unfold stq at e
  split at e
  · cases e
  · cases e; exact ⟨rfl, by omega⟩
theorem stq_er {h s : Nat} {x : Nat × Nat} (e : stq h s = .error x) : x = (3, h) ∧ 1000 ≤ s := by
  unfold stq at e
  split at e
  · cases e; exact ⟨rfl, by assumption⟩
  · cases e
section SemRows
variable {T : Nat → Int} {L : Nat} {X : Xv} {h : Nat} {E : List En} {own lets : Nat → Int} {arc : Nat} {b : Bool} {t q s d : Nat} {l r : Tr}
theorem evx0 {c : Nat} (hc : c = 0 ∨ c = 1 ∨ c = 2) : evx T L X h E own lets arc b (nd c t q l r) s d = bnd (stq h s) (fun s1 => .ok (opv T L X E own lets arc c t, s1, d)) := by
  rw [evx, if_pos hc]
theorem evx3 : evx T L X h E own lets arc b (nd 3 t q l r) s d = bnd (evx T L X h E own lets arc true l s d) (fun q => bnd (stq h q.2.1) (fun s1 => if q.1 < 1 then .error (2, tAt T L t) else .ok (drw X q.2.2 q.1, s1, q.2.2 + 1))) := rfl
theorem evx4 : evx T L X h E own lets arc b (nd 4 t q l r) s d = bnd (evx T L X h E own lets arc true l s d) (fun q => bnd (stq h q.2.1) (fun s1 => evx T L X h E own lets arc (decide (q.1 ≠ 0)) r s1 q.2.2)) := rfl
theorem evx9 : evx T L X h E own lets arc b (nd 9 t q l r) s d = (if b = true then evx T L X h E own lets arc true l s d else evx T L X h E own lets arc true r s d) := rfl
theorem evx5 : evx T L X h E own lets arc b (nd 5 t q l r) s d = bnd (evx T L X h E own lets arc true l s d) (fun q => bnd (stq h q.2.1) (fun s1 => .ok ((if kdT T L t = 16 then wr (-q.1) else wr (1 - q.1)), s1, q.2.2))) := rfl
theorem evx6 : evx T L X h E own lets arc b (nd 6 t q l r) s d = (if lnO (kdT T L t) ≤ 2 then bnd (evx T L X h E own lets arc true l s d) (fun q => bnd (stq h q.2.1) (fun s1 => if q.1 = (if lnO (kdT T L t) = 2 then 0 else 1) then .ok (q.1, s1, q.2.2) else evx T L X h E own lets arc true r s1 q.2.2))
      else bnd (evx T L X h E own lets arc true l s d) (fun q => bnd (evx T L X h E own lets arc true r q.2.1 q.2.2) (fun p => bnd (stq h p.2.1) (fun s1 => if (kdT T L t = 18 ∨ kdT T L t = 19) ∧ p.1 = 0 then .error (1, tAt T L t) else .ok (bnv (kdT T L t) q.1 p.1, s1, p.2.2))))) := rfl
theorem evx7 : evx T L X h E own lets arc b (nd 7 t q l r) s d = evx T L X h E own lets arc true l s d := rfl
end SemRows
