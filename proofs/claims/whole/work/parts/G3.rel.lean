/-! ===== the class against the model: program, graph, RUN ===== -/
abbrev enD (D : DE) : List En := D.map (fun e => e.1)
/-- a program as both hold it -/
def PgR (T : Nat → Int) (L m j : Nat) (D : DE) (a0 a1 : Tr) (s1 l1 : Nat) (wc wm : Wd) : Prop := L ≤ 4000 ∧ TxM T L m wm ∧ TD (kdT T L) wm D ∧ EV (enD D) ∧ (cntE 4 (enD D) = 0 ∧ cntE 1 (enD D) ≤ 8 ∧ cntE 2 (enD D) ≤ 4 ∧ cntE 3 (enD D) ≤ 4) ∧ WyR D (enD D) wc ∧ WyK (enD D) wc ∧ BkC T L j a0 (enD D) wc 0 ∧ BkC T L j a1 (enD D) wc (nK a0 + 1) ∧ wc 8 4 = 0 ∧ wc 8 5 = ((nK a0 + 1 : Nat) : Int) ∧ BkM T L m a0 (enD D) wm 0 0 ∧ BkM T L m a1 (enD D) wm s1 l1 ∧ wm 0 41 = bf_ a0 0 ∧ wm 0 42 = bf_ a1 s1 ∧ nE a0 ≤ 1000 ∧ nE a1 ≤ 1000
/-- the graph as both hold it -/
def GrR (wc wm : Wd) (n na : Nat) : Prop := GrK wc n na ∧ wm 0 59 = (n : Int) ∧ wm 0 60 = (na : Int) ∧ (∀ i, i < na → wm 38 i = wc 32 i ∧ wm 39 i = wc 33 i ∧ ∀ c, c < 4 → wm 40 (4 * i + c) = wc 34 (4 * i + c)) ∧ ∀ x, 4 * na ≤ x → x < 480 → wc 34 x = 0
/-- the moment j TURNS ago -/
abbrev moB (k j : Nat) : Nat := moA ((k + 8 - j) % 8)
/-- a RUN as both hold it -/
def RuR (D : DE) (n k kq : Nat) (wc wm : Wd) : Prop := k < 8 ∧ kq ≤ 6 ∧ wc 43 4 = (k : Int) ∧ wc 43 12 = (kq : Int) ∧ wm 0 78 = (kq : Int) ∧ wc 43 5 = wm 0 65 ∧ wc 43 6 = wm 0 85 ∧ (wc 43 7 = wm 0 80 ∧ wc 43 8 = wm 0 81 ∧ wc 43 9 = wm 0 82 ∧ wc 43 10 = wm 0 83) ∧ wm 0 66 = wc (moB k 0) 0 ∧ MR D (enD D) n (moB k 0) wc (svF wm) ∧ (∀ j, 1 ≤ j → j ≤ kq → MR D (enD D) n (moB k j) wc (fun x => wm 51 (700 * (kq - j) + x))) ∧ ∀ j, j < kq → wc (moB k j) 0 = wr (wc (moB k (j + 1)) 0 + 1)
section Rel
variable {T : Nat → Int} {L m j : Nat} {D : DE} {a0 a1 : Tr} {s1 l1 n na k kq : Nat} {wc wc' wm wm' : Wd}
theorem moB_mo {i : Nat} : isMo (moB k i) := ⟨_, Nat.mod_lt _ (by decide), rfl⟩
theorem moB_0 (hk : k < 8) : moB k 0 = moA k := by
  show 45 + 7 * ((k + 8 - 0) % 8) = 45 + 7 * k
  omega
theorem moB_s {i : Nat} (hk : k < 8) (hi : i ≤ 7) : moB ((k + 1) % 8) (i + 1) = moB k i := by
  show 45 + 7 * (((k + 1) % 8 + 8 - (i + 1)) % 8) = 45 + 7 * ((k + 8 - i) % 8)
  omega
theorem moB_ne {i : Nat} (hk : k < 8) (hi : i ≤ 6) : moB k i + 7 ≤ moA ((k + 1) % 8) ∨ moA ((k + 1) % 8) + 7 ≤ moB k i := by
  show 45 + 7 * ((k + 8 - i) % 8) + 7 ≤ 45 + 7 * ((k + 1) % 8) ∨ 45 + 7 * ((k + 1) % 8) + 7 ≤ 45 + 7 * ((k + 8 - i) % 8)
  omega
theorem moB_s0 (hk : k < 8) : moB ((k + 1) % 8) 0 = moA ((k + 1) % 8) := moB_0 (Nat.mod_lt _ (by decide))
theorem nfs_of (h : NUM (enD D)) : NFs D (enD D) := fun e he => ⟨fun z => by have := num_lt h he; rw [z] at this; exact this, fun z => by have := num_lt h he; rw [z] at this; exact this⟩
/-- what a node sees, in the model -/
theorem xmd_of {v : Nat} (hP : PgR T L m j D a0 a1 s1 l1 wc wm) (hG : GrR wc wm n na) (hR : RuR D n k kq wc wm) (hv : v < n) : XMd T L m (XCw wc (moB k 0) v) D (up wm 0 86 (v : Int)) v na := by
  obtain ⟨-, p2, p3, p4, -⟩ := hP
  obtain ⟨⟨g1, g2, g3, g4, g5, g6, g7, g8, g9⟩, q2, q3, q4, -⟩ := hG
  obtain ⟨r1, r2, r3, r4, r5, r6, r7, r8, r9, r10, -⟩ := hR
  obtain ⟨m1, m2, m3, m4, m5, m6, m7, m8, m9⟩ := r10
  have h4 : ∀ k, k < 4 → 4 * v + k < 160 := fun k hk => by omega
  have u : ∀ o, o ≠ 0 → up wm 0 86 (v : Int) o = wm o := fun o ho => up_o ho
  have u0 : ∀ b, b ≠ 86 → up wm 0 86 (v : Int) 0 b = wm 0 b := fun b hb => up_k hb
  refine ⟨p2.cg (fun o p r => u o (by omega)), p3.cg (u0 20 (by decide)) (fun o p r => u o (by omega)), p4.2.2, up_s _ _ _ _, by omega, rfl, ?_, ?_, ?_, ?_, g5, g2, ?_, ?_, ?_, ?_, ?_, ?_⟩
  · rw [u0 66 (by decide)]; exact r9
  · rw [u0 65 (by decide)]; exact r6.symm
  · rw [u0 59 (by decide), q2]; exact g1.symm
  · rw [u0 60 (by decide)]; exact q3
  · intro i hi
    rw [u 38 (by decide), u 39 (by decide), u 40 (by decide)]
    exact q4 i hi
  · exact (g7 v (by omega)).1
  · exact (g7 v (by omega)).2
  · intro i hi
    rw [u 43 (by decide)]
    show wc (moB k 0 + 4) (4 * v + i) = wm 43 (4 * v + i)
    rw [(m3 _ (h4 i hi)).1, svF_2 (h4 i hi)]
  · intro i hi
    have hi4 : i < 4 := Nat.lt_of_lt_of_le hi (by
      obtain ⟨-, t2, -⟩ := p3
      have := (t2 2 (by decide)).2
      have this : ((cntE 2 (D.map (fun e => e.1)) : Nat) : Int) ≤ 4 := this
      omega)
    rw [u 43 (by decide), u 44 (by decide)]
    show wc (moB k 0 + 3) (4 * v + i) = _
    rw [m5 v i (by omega) hi, svF_2 (h4 i hi4), svF_3 (h4 i hi4)]
  · intro i hi
    have hi4 : i < 4 := Nat.lt_of_lt_of_le hi (by
      obtain ⟨-, t2, -⟩ := p3
      have := (t2 3 (by decide)).2
      have this : ((cntE 3 (D.map (fun e => e.1)) : Nat) : Int) ≤ 4 := this
      omega)
    rw [u 45 (by decide), u 46 (by decide)]
    show wc (moB k 0 + 5) i = _
    rw [m6 i hi, svF_4 hi4, svF_5]
/-- who works, and from what -/
theorem act_of (hk : n ≤ 40) (hM : MR D (enD D) n (moB k 0) wc (svF wm)) : ∀ v, v < n → actC wc (moB k 0) v = decide (wm 42 v = 0 ∨ wkB (wm 43) v) := by
  obtain ⟨m1, m2, m3, -⟩ := hM
  intro v hv
  have e4 : ∀ i, i < 4 → wc (moB k 0 + 4) (4 * v + i) = wm 43 (4 * v + i) := fun i hi => by rw [(m3 _ (by omega)).1, svF_2 (by omega)]
  have e2 := (m2 v hv).1
  rw [svF_1 (by omega)] at e2
  unfold actC
  refine decide_eq_decide.mpr ?_
  have a0 : wc (moB k 0 + 4) (4 * v) = wm 43 (4 * v) := e4 0 (by decide)
  have a1 := e4 1 (by decide)
  have a2 := e4 2 (by decide)
  have a3 := e4 3 (by decide)
  unfold wkB
  rw [a0, a1, a2, a3, e2]
  by_cases z : wm 42 v = 0
  · rw [if_pos z]; exact ⟨fun _ => Or.inl z, fun _ => Or.inl rfl⟩
  · rw [if_neg z]
    exact ⟨fun q => q.elim (fun y => absurd y (by decide)) Or.inr, fun q => q.elim (fun y => absurd y z) Or.inr⟩
theorem fv_of {a : Tr} (hE : NUM (enD D)) (hc4 : cntE 4 (enD D) = 0) (hc1 : cntE 1 (enD D) ≤ 8) (hn : n ≤ 40) (ha : tg a = 21) (hM : MR D (enD D) n (moB k 0) wc (svF wm)) : ∀ v, v < n → ∀ lets, RQ (enD D) (rns T L (XCw wc (moB k 0) v) true a (enD D) 0 (0, 0, (fun k => wm 41 (8 * v + k)), lets, [], false)) (FC T L wc (moB k 0) a (enD D) v) := by
  intro v hv lets
  have hSQ : SQ (enD D) (0, 0, (fun k => wm 41 (8 * v + k)), lets, [], false) (0, 0, (fun i => wc (moB k 0 + 1) (8 * v + i)), (fun _ => 0), [], false) := by
    refine ⟨rfl, rfl, fun i hi => ?_, fun i hi => by omega, rfl, rfl⟩
    show wm 41 (8 * v + i) = wc (moB k 0 + 1) (8 * v + i)
    rw [hM.1 v i hv hi, svF_0 (by omega)]
  have := rns_cg (T := T) (L := L) (X := XCw wc (moB k 0) v) a true (enD D) 0 _ _ hE hSQ
  rw [eSt_n12 (by rw [ha]; decide)] at this
  exact this
end Rel
