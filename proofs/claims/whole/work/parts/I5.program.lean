/-! ===== program ===== -/
section Program2
variable {g gm : Mg} {d : Nat} {K : Ou → Wd → Prop} {w wc wm : Wd} {T : Nat → Int} {L : Nat}
theorem two_key {r : RT} {s : ST} (h0 : pMo T L = .ok r) (hT : Two T L r s) : sK s = keyM T L r := by
  obtain ⟨-, -, rd3, -⟩ := mo_rd h0
  obtain ⟨-, t2, -⟩ := hT
  rw [t2, rd3]
  rfl
theorem key_div {k p f : Nat} (h : k = p * 8 + f) (hf : f ≤ 5) : k / 8 = p ∧ k % 8 = f := by omega
theorem b_program (hd : 230 ≤ d) (hI : Inv wc wm) (h : ∀ x wc', Bo jMd_program [vA 0] wm wc' x → K (.inl (some (vI x))) wc') : Cal g LC jVL_program d [vA 0] wc K := by
  obtain ⟨d, rfl⟩ : ∃ d', d = d' + 1 := ⟨d - 1, by omega⟩
  refine Cal.rng (fun hRg _ _ => ?_)
  obtain ⟨⟨⟨t, t1, t2, t3, t4⟩, hx3, hCl, -⟩, n, na, hGr, -⟩ := id hI
  obtain ⟨T, hT⟩ : ∃ T : Nat → Int, T = fun b => if b < t then wc 1 b else wc 3 b := ⟨_, rfl⟩
  have hTm : T = fun b => if b < t then wm 2 b else wm 3 b := by
    rw [hT]
    funext b
    by_cases z : b < t
    · rw [if_pos z, if_pos z]; exact t4 b z
    · rw [if_neg z, if_neg z, hx3]
  have hby : ∀ i, i < t → -128 ≤ wc 1 i ∧ wc 1 i ≤ 127 := fun i hi => hRg 1 (by decide) i (Nat.lt_of_lt_of_le hi t1)
  refine Cal.ofV (by decide) rfl (Nat.le_of_ble_eq_true rfl) (s_VL_program ?_)
  rw [t2]
  refine sp_load (T := T) (by omega) t1 (by rw [up_o (by decide), up_o (by decide)]; exact hT) (by rw [up_o (by decide)]; exact hby) (fun w1 f1 c3 c21 c26 cT cE => ?_)
  have hX1 : TxC T t w1 := ⟨c21, t1, c26, c3, cT, cE⟩
  refine sp_read (T := T) (L := t) (by omega) (hX1.f (fun o p q => up_o (by omega))) (fun i hi => ?_) ?_ (fun w2 v f2 hRC => ?_)
  · rw [hT]
    show -128 ≤ (if i < t then wc 1 i else wc 3 i) ∧ (if i < t then wc 1 i else wc 3 i) ≤ 127
    rw [if_pos hi]
    exact hby i hi
  · unfold ClB at *
    rw [up_o (by decide), f1 29 (by decide), up_o (by decide)]
    exact hCl
  -- frames of the class
  have o2 : ∀ o, (o < 8 ∨ 30 < o) → o ≠ 0 → w2 o = w1 o := fun o h1 h0 => by rw [f2 o (by simp; omega), up_o h0]
  have o1 : ∀ o, 30 < o → o ≠ 43 → w2 o = wc o := fun o h1 h0 => by rw [o2 o (Or.inr h1) (by omega), f1 o (by simp; omega), up_o h0]
  have r43 : w2 43 11 = 0 := by rw [o2 43 (by decide) (by decide), f1 43 (by decide), up_s]
  have r3 : w2 3 = T := by rw [o2 3 (by decide) (by decide)]; exact c3
  have r21 : w2 2 1 = (t : Int) := by rw [o2 2 (by decide) (by decide)]; exact c21
  have r01 : w2 0 1 = 0 := by rw [f2 0 (by decide), up_s]
  have hG2 : GrK w2 n na := hGr.1.fr (fun o p q => o1 o (by omega) (by omega))
  have rCl : ClB w2 := hRC.1.2.2.2
  -- the invariant, but for the program
  have mk : ∀ wm', FMg wm wm' → wm' 3 = T → wm' 0 3 = 0 → wm' 0 64 = 0 → FlI w2 wm' → (BdI w2 wm' ∨ ∃ T L m D a0 a1 s1 l1, Gd T L m D a0 a1 s1 l1 w2 wm') → Inv w2 wm' := by
    intro wm' fm e3 e03 e64 hF hP
    obtain ⟨u1, u2, u3, u4, u5⟩ := hGr
    refine ⟨⟨⟨0, by decide, r01, e03, fun i hi => by omega⟩, by rw [r3, e3], rCl, hF⟩, n, na, ⟨hG2, by rw [fm.2 59 (by decide) (by decide)]; exact u2, by rw [fm.2 60 (by decide) (by decide)]; exact u3, ?_, by rw [o1 34 (by decide) (by decide)]; exact u5⟩, ?_⟩
    · rw [fm.1 38 (by decide), fm.1 39 (by decide), fm.1 40 (by decide), o1 32 (by decide) (by decide), o1 33 (by decide) (by decide), o1 34 (by decide) (by decide)]
      exact u4
    · rcases hP with hP | ⟨T, L, m, D, a0, a1, s1, l1, hP⟩
      · exact Or.inl ⟨hP, r43, e64⟩
      · exact Or.inr ⟨T, L, m, D, a0, a1, s1, l1, hP, Or.inl ⟨r43, e64⟩⟩
  have bd : ∀ wm' p, p ≤ t → wm' 3 = T → BadM wm' T p → w2 8 2 = 0 → ((w2 25 2 ≠ 0 ∧ w2 25 3 = (p : Int)) ∨ (w2 25 2 = 0 ∧ w2 25 4 ≠ 0 ∧ w2 25 5 = (p : Int))) → FlI w2 wm' ∧ BdI w2 wm' := by
    intro wm' p hp e3 hB h8 hf
    obtain ⟨b1, b2, b3, b4, b5, b6⟩ := hB
    exact ⟨⟨t, t1, r21, Or.inr ⟨p, hp, hf, b5, by rw [r3]; exact b6⟩⟩, ⟨h8, b1, b2, b3, b4⟩⟩
  obtain ⟨hIC, hRd⟩ := hRC
  -- the model's text
  have hky : ∀ r, pMo T t = .ok r → keyM T t r ≠ 100000 → keyM T t r / 8 ≤ 4000 := fun r _ hk => Nat.le_trans (keyM_lk hk) t1
  have hlen : ∀ r s, pMo T t = .ok r → keyM T t r = 100000 → pPrg T t = .ok (s, r.1.2) → (prB T t [] (sO s)).length ≤ 5000 := by
    intro r s h0 hk hp
    obtain ⟨s', hp', hTw⟩ := prg_ok h0
    rw [hp] at hp'
    have es : s = s' := congrArg Prod.fst (Except.ok.inj hp')
    subst es
    rw [hp] at hRd
    obtain ⟨-, -, hR⟩ := hRd
    have hks : sK s = 100000 := by rw [two_key h0 hTw]; exact hk
    rcases hR with ⟨-, -, -, hPg⟩ | ⟨hne, -⟩
    · exact hPg.2.2.2.2.2.2.1
    · exact absurd hks hne
  have run : ∀ x, (∀ wm' y, FMg wm wm' → wm' 3 = T → wm' 0 3 = 0 → wm' 0 64 = 0 → ResM T t wm' y → y = x ∧ Inv w2 wm') → K (.inl (some (vI x))) w2 := by
    intro x hx
    refine h x w2 (fun gm dM Kx hdM hK => sp_programM (T := T) (L := t) (by omega) t3 t1 hTm hky hlen (fun wm' y fm e3 e03 e64 _ hRes => ?_))
    obtain ⟨hy, hInv⟩ := hx wm' y fm e3 e03 e64 hRes
    rw [hy]
    exact hK wm' hInv
  cases hm : pMo T t with
  | error e =>
    have hp := prg_er hm
    rw [hp] at hRd
    obtain ⟨a1, a2, a3, a4, a5⟩ := hRd
    have hv : ¬ v = 0 := by rw [a5]; omega
    refine ⟨fun _ => run _ (fun wm' y fm e3 e03 e64 hRes => ?_), fun z => absurd z hv⟩
    unfold ResM at hRes
    rw [hm] at hRes
    obtain ⟨y1, y2⟩ := hRes
    obtain ⟨i1, i2⟩ := bd wm' _ (tAt_le T t e.2) e3 y2 a4 (Or.inl ⟨by rw [a1]; omega, a3⟩)
    exact ⟨by rw [y1, a5], mk wm' fm e3 e03 e64 i1 (Or.inl i2)⟩
  | ok r =>
    obtain ⟨s, hp, hTw⟩ := prg_ok hm
    rw [hp] at hRd
    obtain ⟨a1, a2, a3⟩ := hRd
    have hks := two_key hm hTw
    have hks' : sK s = keyM T t r := hks
    rcases a3 with ⟨b1, b2, b3, b4⟩ | ⟨b1, b2, b3, b4⟩
    · have b1 : sK s = 100000 := b1
      have hk : keyM T t r = 100000 := by rw [← hks']; exact b1
      refine ⟨fun z => absurd b2 z, fun _ => run _ (fun wm' y fm e3 e03 e64 hRes => ?_)⟩
      unfold ResM at hRes
      rw [hm] at hRes
      rcases hRes with ⟨-, y1, y2⟩ | ⟨y0, -⟩
      · obtain ⟨m, hGd⟩ := gd_of hIC b4 hm hp hTw hk b3 y2
        have a2 : KY w2 (sK s) := a2
        rw [b1] at a2
        have h254 : w2 25 4 = 0 := by
          rcases a2 with ⟨-, z⟩ | ⟨p, f, z1, z2, z3, z4, -⟩
          · exact z
          · omega
        refine ⟨by rw [y1, hGd.2.2.2.2.2.1]; exact y2.2.1.symm, mk wm' fm e3 e03 e64 ⟨t, t1, r21, Or.inl ⟨a1, h254, y2.2.2.2.2.2.1, y2.2.2.2.2.2.2.1⟩⟩ (Or.inr ⟨_, _, _, _, _, _, _, _, hGd⟩)⟩
      · exact absurd hk y0
    · have b1 : sK s ≠ 100000 := b1
      have hk : keyM T t r ≠ 100000 := by rw [← hks']; exact b1
      refine ⟨fun _ => run _ (fun wm' y fm e3 e03 e64 hRes => ?_), fun z => absurd z b3⟩
      unfold ResM at hRes
      rw [hm] at hRes
      rcases hRes with ⟨y0, -⟩ | ⟨-, y1, y2⟩
      · exact absurd y0 hk
      · have a2 : KY w2 (sK s) := a2
        rcases a2 with ⟨z, -⟩ | ⟨p, f, z1, z2, z3, z4, z5, z6⟩
        · exact absurd z b1
        · rw [hks'] at z1
          obtain ⟨e1, e2⟩ := key_div z1 z3
          rw [e1] at y2
          have hpt : p ≤ t := by rw [← e1]; exact keyM_lk hk
          obtain ⟨i1, i2⟩ := bd wm' p hpt e3 y2 b4 (Or.inr ⟨a1, by rw [z5]; omega, z6⟩)
          have b2 : v = ((sK s % 8 : Nat) : Int) := b2
          exact ⟨by rw [y1, b2, hks'], mk wm' fm e3 e03 e64 i1 (Or.inl i2)⟩
end Program2
