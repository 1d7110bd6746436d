/-! ===== the keys of told NAMES; the class's reading against the model's, purely ===== -/
def kyT (T : Nat → Int) (L : Nat) (E : List En) : Nat → Nat
  | 0 => 100000
  | n + 1 => min (kyT T L E n) (match E[n]? with | some e => (if fnd T L (E.take n) e.1 = none then 100000 else tAt T L e.1 * 8 + 3) | none => 100000)
section PureTwo
variable {T : Nat → Int} {L : Nat}
theorem kyT_app {E : List En} {e : En} : ∀ n, n ≤ E.length → kyT T L (E ++ [e]) n = kyT T L E n
  | 0, _ => rfl
  | n + 1, h => by
    rw [kyT, kyT, kyT_app n (by omega), List.getElem?_append_left (by omega), List.take_append_of_le_length (by omega)]
theorem kyT_add {E : List En} {e : En} : kyT T L (E ++ [e]) (E ++ [e]).length = min (kyT T L E E.length) (if fnd T L E e.1 = none then 100000 else tAt T L e.1 * 8 + 3) := by
  rw [show (E ++ [e]).length = E.length + 1 by simp, kyT, kyT_app _ (Nat.le_refl _), List.getElem?_append_right (Nat.le_refl _), Nat.sub_self, List.take_append_of_le_length (Nat.le_refl _), List.take_of_length_le (Nat.le_refl _)]
  rfl
theorem fTs_pt : ∀ (f : Nat) (p p' : ST × DE), PT p → sK p.1 = kyT T L (sE p.1) (sE p.1).length → fTs T L f p = .ok p' → PT p' ∧ sK p'.1 = kyT T L (sE p'.1) (sE p'.1).length
  | 0, p, p', h, hk, e => by cases e; exact ⟨h, hk⟩
  | f + 1, p, p', h, hk, e => by
    rw [fTs] at e
    split at e
    · obtain ⟨p1, h1, h2⟩ := bnd_ok e
      unfold fTo2 at h1
      obtain ⟨q, hq, h3⟩ := bnd_ok h1
      cases h3
      refine fTs_pt f _ p' (PT.st (q := q) h) ?_ h2
      show min (sK p.1) _ = kyT T L (sE p.1 ++ [_]) (sE p.1 ++ [_]).length
      rw [kyT_add, hk]
    · cases e; exact ⟨h, hk⟩
theorem fTs_pt0 {p : ST × DE} (h : fTs T L 1000 (st0, []) = .ok p) : PT p ∧ sK p.1 = kyT T L (sE p.1) (sE p.1).length := fTs_pt 1000 (st0, []) p ⟨rfl, rfl, rfl, rfl, rfl, rfl, rfl, rfl⟩ rfl h
theorem prg_er {e : Nat × Nat} (h : pMo T L = .error e) : pPrg T L = .error e := by
  unfold pMo at h
  unfold pPrg
  cases hp : fTs T L 1000 (st0, []) with
  | error e' => rw [hp] at h; cases h; rfl
  | ok p =>
    rw [hp, bnd_ok'] at h
    rw [bnd_ok']
    obtain ⟨⟨h1, h2, h3, h4, h5, h6, h7, h8⟩, -⟩ := fTs_pt0 hp
    suffices hs : fPr T L p.1 = .error e by rw [hs]; rfl
    unfold fPr fTk
    cases e1 : ex (kdT T L) 41 (sI p.1) with
    | error e' => rw [e1] at h; cases h; rfl
    | ok i1 =>
      rw [e1, bnd_ok'] at h
      rw [bnd_ok', bnd_ok']
      cases e2 : pBk (kdT T L) (vlT T L) 13 0 0 i1 with
      | error e' =>
        rw [e2] at h; cases h
        rw [fB_er (by show pBk (kdT T L) (vlT T L) 13 (sc p.1) (cntE 4 (sE p.1)) i1 = _; rw [h5, h8]; exact e2)]
        rfl
      | ok a =>
        rw [e2, bnd_ok'] at h
        rw [fB_eq (b := a) (by show sc p.1 ≤ 120; omega) (by show pBk (kdT T L) (vlT T L) 13 (sc p.1) (cntE 4 (sE p.1)) i1 = _; rw [h5, h8]; exact e2), bnd_ok']
        unfold fAd
        rw [bnd_ok']
        have g5 := (pBk_gb _ _ _ _ _ (Nat.zero_le _) e2).2.2.2.2.2
        cases e3 : ex (kdT T L) 42 a.2.1 with
        | error e' =>
          rw [e3] at h; cases h
          rfl
        | ok i2 =>
          rw [e3, bnd_ok'] at h
          rw [bnd_ok', bnd_ok']
          cases e4 : pBk (kdT T L) (vlT T L) 13 a.2.2 0 i2 with
          | error e' =>
            rw [e4] at h; cases h
            rw [fB_er (by show pBk (kdT T L) (vlT T L) 13 a.2.2 (cntE 4 (sE p.1)) i2 = _; rw [h8]; exact e4)]
            rfl
          | ok b =>
            rw [e4, bnd_ok'] at h
            rw [fB_eq (b := b) (by show a.2.2 ≤ 120; exact g5) (by show pBk (kdT T L) (vlT T L) 13 a.2.2 (cntE 4 (sE p.1)) i2 = _; rw [h8]; exact e4), bnd_ok', bnd_ok']
            split at h
            · cases h
            · rename_i hk
              show (if kdT T L b.2.1 = 0 then _ else _) = _
              rw [if_neg hk]
              cases h
              rfl
/-- what the class has read where the model has -/
def Two (T : Nat → Int) (L : Nat) (r : (ST × DE) × (Tr × Nat × Nat) × (Tr × Nat × Nat)) (s : ST) : Prop :=
  sE s = sE r.1.1 ∧ sK s = min (min (sK r.1.1) (jS T L r.2.1.1 (sE r.1.1))) (jS T L r.2.2.1 (sE r.1.1)) ∧ sc s = r.2.2.2.2 ∧ sC s = cmS T L r.2.1.1 (sE r.1.1) 0 0 0 ++ [(31, 0, 0, 0)] ++ cmS T L r.2.2.1 (sE r.1.1) (nK r.2.1.1 + 1) 0 0 ++ [(31, 0, 0, 0)] ∧ sO s = List.range (sI r.1.1) ++ [sI r.1.1] ++ oP (kdT T L) r.2.1.1 ++ [r.2.1.2.1] ++ oP (kdT T L) r.2.2.1
/-- a text that is read -/
def Rd (T : Nat → Int) (L : Nat) (r : (ST × DE) × (Tr × Nat × Nat) × (Tr × Nat × Nat)) : Prop := fTs T L 1000 (st0, []) = .ok r.1 ∧ PT r.1 ∧ sK r.1.1 = kyT T L (sE r.1.1) (sE r.1.1).length ∧ EOK (sE r.1.1) (sI r.1.1) ∧ pBk (kdT T L) (vlT T L) 13 0 0 (sI r.1.1 + 1) = .ok r.2.1 ∧ pBk (kdT T L) (vlT T L) 13 r.2.1.2.2 0 (r.2.1.2.1 + 1) = .ok r.2.2 ∧ GB 0 (sI r.1.1 + 1) r.2.1 ∧ GB r.2.1.2.2 (r.2.1.2.1 + 1) r.2.2 ∧ kdT T L (sI r.1.1) = 41 ∧ kdT T L r.2.1.2.1 = 42 ∧ kdT T L r.2.2.2.1 = 0
theorem mo_rd {r : (ST × DE) × (Tr × Nat × Nat) × (Tr × Nat × Nat)} (h0 : pMo T L = .ok r) : Rd T L r := by
  unfold pMo at h0
  obtain ⟨p, hp, h1⟩ := bnd_ok h0
  obtain ⟨i1, e1, h2⟩ := bnd_ok h1
  obtain ⟨a, e2, h3⟩ := bnd_ok h2
  obtain ⟨i2, e3, h4⟩ := bnd_ok h3
  obtain ⟨b, e4, h5⟩ := bnd_ok h4
  clear h0 h1 h2 h3 h4
  obtain ⟨k1, j1, -⟩ := ex_ok e1
  obtain ⟨k2, j2, -⟩ := ex_ok e3
  rw [j1] at e2
  rw [j2] at e4
  split at h5
  · rename_i hk
    cases h5
    have g1 := pBk_gb _ _ _ _ _ (Nat.zero_le _) e2
    obtain ⟨f1, f2⟩ := fTs_pt0 hp
    exact ⟨hp, f1, f2, fTs_eok0 hp, e2, e4, g1, pBk_gb _ _ _ _ _ g1.2.2.2.2.2 e4, k1, k2, hk⟩
  · cases h5
theorem prg_ok {r : (ST × DE) × (Tr × Nat × Nat) × (Tr × Nat × Nat)} (h0 : pMo T L = .ok r) : ∃ s, pPrg T L = .ok (s, r.1.2) ∧ Two T L r s := by
  unfold pMo at h0
  obtain ⟨p, hp, h1⟩ := bnd_ok h0
  obtain ⟨i1, e1, h2⟩ := bnd_ok h1
  obtain ⟨a, e2, h3⟩ := bnd_ok h2
  obtain ⟨i2, e3, h4⟩ := bnd_ok h3
  obtain ⟨b, e4, h5⟩ := bnd_ok h4
  clear h0 h1 h2 h3 h4
  split at h5
  · rename_i hk
    cases h5
    obtain ⟨⟨h1, h2, h3, h4, h5, h6, h7, h8⟩, -⟩ := fTs_pt0 hp
    have g5 := (pBk_gb _ _ _ _ _ (Nat.zero_le _) e2).2.2.2.2.2
    have l1 := pBk_len _ _ _ _ _ e2
    have q1 : fTk (kdT T L) 41 p.1 = .ok (i1, sE p.1, sc p.1, sl p.1, sb p.1, sK p.1, sC p.1, sO p.1 ++ [sI p.1], sh p.1) := by unfold fTk; rw [e1]; rfl
    have q2 := fB_eq (T := T) (L := L) (n := 13) (s := (i1, sE p.1, sc p.1, sl p.1, sb p.1, sK p.1, sC p.1, sO p.1 ++ [sI p.1], sh p.1)) (b := a) (by show sc p.1 ≤ 120; omega) (by show pBk (kdT T L) (vlT T L) 13 (sc p.1) (cntE 4 (sE p.1)) i1 = _; rw [h5, h8]; exact e2)
    have q2' : fB T L (pBk (kdT T L) (vlT T L) 13) (i1, sE p.1, sc p.1, sl p.1, sb p.1, sK p.1, sC p.1, sO p.1 ++ [sI p.1], sh p.1) = .ok (a.2.1, sE p.1, a.2.2, 0, sb p.1, min (sK p.1) (jS T L a.1 (sE p.1)), cmS T L a.1 (sE p.1) 0 0 0, List.range (sI p.1) ++ [sI p.1] ++ oP (kdT T L) a.1, 0) := by
      rw [q2]
      show Except.ok (a.2.1, sE p.1, a.2.2, sl p.1, sb p.1, min (sK p.1) (jS T L a.1 (sE p.1)), sC p.1 ++ cmS T L a.1 (sE p.1) (sC p.1).length (sl p.1) (sh p.1), sO p.1 ++ [sI p.1] ++ oP (kdT T L) a.1, sh p.1) = _
      rw [h3, h6, h7, h2]
      rfl
    have q4 : fTk (kdT T L) 42 (a.2.1, sE p.1, a.2.2, 0, sb p.1, min (sK p.1) (jS T L a.1 (sE p.1)), cmS T L a.1 (sE p.1) 0 0 0 ++ [((31 : Int), (0 : Int), (0 : Int), (0 : Int))], List.range (sI p.1) ++ [sI p.1] ++ oP (kdT T L) a.1, 0) = .ok (i2, sE p.1, a.2.2, 0, sb p.1, min (sK p.1) (jS T L a.1 (sE p.1)), cmS T L a.1 (sE p.1) 0 0 0 ++ [((31 : Int), (0 : Int), (0 : Int), (0 : Int))], List.range (sI p.1) ++ [sI p.1] ++ oP (kdT T L) a.1 ++ [a.2.1], 0) := by
      show bnd (ex (kdT T L) 42 a.2.1) _ = _
      rw [e3]; rfl
    have q5 := fB_eq (T := T) (L := L) (n := 13) (s := (i2, sE p.1, a.2.2, 0, sb p.1, min (sK p.1) (jS T L a.1 (sE p.1)), cmS T L a.1 (sE p.1) 0 0 0 ++ [((31 : Int), (0 : Int), (0 : Int), (0 : Int))], List.range (sI p.1) ++ [sI p.1] ++ oP (kdT T L) a.1 ++ [a.2.1], 0)) (b := b) (by show a.2.2 ≤ 120; exact g5) (by show pBk (kdT T L) (vlT T L) 13 a.2.2 (cntE 4 (sE p.1)) i2 = _; rw [h8]; exact e4)
    refine ⟨(b.2.1, sE p.1, b.2.2, 0, sb p.1, min (min (sK p.1) (jS T L a.1 (sE p.1))) (jS T L b.1 (sE p.1)), cmS T L a.1 (sE p.1) 0 0 0 ++ [((31 : Int), (0 : Int), (0 : Int), (0 : Int))] ++ cmS T L b.1 (sE p.1) (cmS T L a.1 (sE p.1) 0 0 0 ++ [((31 : Int), (0 : Int), (0 : Int), (0 : Int))]).length 0 0 ++ [((31 : Int), (0 : Int), (0 : Int), (0 : Int))], List.range (sI p.1) ++ [sI p.1] ++ oP (kdT T L) a.1 ++ [a.2.1] ++ oP (kdT T L) b.1, 0), ?_, rfl, rfl, rfl, ?_, rfl⟩
    · unfold pPrg
      rw [hp, bnd_ok']
      unfold fPr
      rw [q1, bnd_ok', q2', bnd_ok']
      have a1 : ∀ s : ST, fAd 31 0 0 s = .ok (sI s, sE s, sc s, sl s, sb s, sK s, sC s ++ [((31 : Int), (0 : Int), (0 : Int), sh s)], sO s, sh s) := fun _ => rfl
      rw [a1, bnd_ok']
      show bnd (bnd (fTk (kdT T L) 42 (a.2.1, sE p.1, a.2.2, 0, sb p.1, min (sK p.1) (jS T L a.1 (sE p.1)), cmS T L a.1 (sE p.1) 0 0 0 ++ [((31 : Int), (0 : Int), (0 : Int), (0 : Int))], List.range (sI p.1) ++ [sI p.1] ++ oP (kdT T L) a.1, 0)) _) _ = _
      rw [q4, bnd_ok', q5, bnd_ok', a1, bnd_ok']
      show bnd (if kdT T L b.2.1 = 0 then _ else _) _ = _
      rw [if_pos hk, bnd_ok']
    · show cmS T L a.1 (sE p.1) 0 0 0 ++ [((31 : Int), (0 : Int), (0 : Int), (0 : Int))] ++ cmS T L b.1 (sE p.1) (cmS T L a.1 (sE p.1) 0 0 0 ++ [((31 : Int), (0 : Int), (0 : Int), (0 : Int))]).length 0 0 ++ [((31 : Int), (0 : Int), (0 : Int), (0 : Int))] = _
      rw [List.length_append, l1]
      rfl
  · cases h5
end PureTwo
