/-! ===== the law: rows ===== -/
def AtL (g : Mg) (bs L : Nat) (xs : Nat → Int32) (p : Program) (s : State) (m : MethodId) (meth : Method) (c : Code) : Prop := p.tables.exec = Jvm.exec ∧ c.code = code ∧ lw_At p s m meth c bs L xs ∧ va_K g.D cls_ (tysl g) s ∧ Old g (fun q => s.heap.size ≤ q) s s.heap ∧ (∀ o, o < 159 → g.ad o = s.heap.size + o) ∧ g.ad 900 = bs
def LV (g : Mg) (bs L : Nat) (xs : Nat → Int32) (ce sl pc : Nat) (ls : List (Nat × AV)) (st : List AV) (wc wm : Wd) : Prop :=
  ∀ (p : Program) (e : Env) (s : State) (m : MethodId) (below : List Frame) (meth : Method) (c : Code), AtL g bs L xs p s m meth c → ∀ (H : Heap) (locs : List Loc) (lsA : Array Slot), Hol g LC wc H ∧ Hol (gM g) LM wm H → va_S (fun q => s.heap.size ≤ q) s.heap H locs → lv_has lsA 4 (ls.map (fun q => (q.1, cv g q.2))) → (∀ q ∈ ls, okv q.2) → (∀ v ∈ st, okv v) →
    W p g.l e room_1 s m #[Value.ref bs] below meth c H locs ce sl (lw_Z below #[Value.ref bs] s) (F0 m pc lsA (st.map (cv g)))
section LawRows
variable {g : Mg} {bs L : Nat} {xs : Nat → Int32} {ce sl pc : Nat} {ls : List (Nat × AV)} {st : List AV} {wc wm : Wd}
theorem l_step {pc' : Nat} {st' : List AV} (k : LV g bs L xs ce sl pc' ls st' wc wm) (ho : (∀ v ∈ st, okv v) → (∀ q ∈ ls, okv q.2) → ∀ v ∈ st', okv v)
    (hw : ∀ (p : Program) (e : Env) (s : State) (m : MethodId) (below : List Frame) (meth : Method) (c : Code) (H : Heap) (locs : List Loc) (lsA : Array Slot) (Q : State → Prop), AtL g bs L xs p s m meth c → (∀ v ∈ st, okv v) → lv_has lsA 4 (ls.map (fun q => (q.1, cv g q.2))) →
      W p g.l e room_1 s m #[Value.ref bs] below meth c H locs ce sl Q (F0 m pc' lsA (st'.map (cv g))) → W p g.l e room_1 s m #[Value.ref bs] below meth c H locs ce sl Q (F0 m pc lsA (st.map (cv g))))
 : LV g bs L xs ce sl pc ls st wc wm := by
  intro p e s m below meth c A0 H locs lsA hH hS hl hlo hst
  exact hw p e s m below meth c H locs lsA _ A0 hst hl (k p e s m below meth c A0 H locs lsA hH hS hl hlo (ho hst hlo))
theorem l_iconst {n : Int} (hd : decode code pc = .ok (.iconst n, 1)) (hn : inI n) (k : LV g bs L xs ce sl (pc + 1) ls (vI n :: st) wc wm) : LV g bs L xs ce sl pc ls st wc wm :=
  l_step k (fun h _ => ok_cons hn h) (fun p e s m below meth c H locs lsA Q A hst hl kk => lv_iconst A.1 A.2.1 hd rfl kk)
theorem l_bipush {n : Int} (hd : decode code pc = .ok (.bipush n, 2)) (hn : inI n) (hv : (Int8.ofInt n).toInt32 = Int32.ofInt n) (k : LV g bs L xs ce sl (pc + 2) ls (vI n :: st) wc wm) : LV g bs L xs ce sl pc ls st wc wm :=
  l_step k (fun h _ => ok_cons hn h) (fun p e s m below meth c H locs lsA Q A hst hl kk => lv_bipush A.1 A.2.1 hd hv kk)
theorem l_iload_n {q : Fin 4} {i : Nat} {x : Int} (hd : decode code pc = .ok (.iload_n q, 1)) (hi : (q : Nat) = i) (hm : (i, vI x) ∈ ls) (k : LV g bs L xs ce sl (pc + 1) ls (vI x :: st) wc wm) : LV g bs L xs ce sl pc ls st wc wm :=
  l_step k (fun h h2 => ok_cons (h2 _ hm) h) (fun p e s m below meth c H locs lsA Q A hst hl kk => lv_iload_n A.1 A.2.1 hd hi (mem_cv hl hm) kk)
theorem l_aload_n {q : Fin 4} {i : Nat} {x : Nat} (hd : decode code pc = .ok (.aload_n q, 1)) (hi : (q : Nat) = i) (hm : (i, vA x) ∈ ls) (k : LV g bs L xs ce sl (pc + 1) ls (vA x :: st) wc wm) : LV g bs L xs ce sl pc ls st wc wm :=
  l_step k (fun h h2 => ok_cons (h2 _ hm) h) (fun p e s m below meth c H locs lsA Q A hst hl kk => lv_aload_n A.1 A.2.1 hd hi (mem_cv hl hm) kk)
theorem l_istore_n {q : Fin 4} {i : Nat} {x : Int} {ls' : List (Nat × AV)} (hd : decode code pc = .ok (.istore_n q, 1)) (hi : (q : Nat) = i) (hn : i < 4) (hl' : aS1 i (vI x) ls = ls') (k : LV g bs L xs ce sl (pc + 1) ls' st wc wm) : LV g bs L xs ce sl pc ls (vI x :: st) wc wm := by
  subst hl'
  intro p e s m below meth c A0 H locs lsA hH hS hl hlo hst
  refine lv_istore_n A0.1 A0.2.1 hd hi hl hn (aS1_map i (vI x) ls) (fun ls2 h2 => ?_)
  exact k p e s m below meth c A0 H locs ls2 hH hS h2 (ok_filter (ok_hd hst) hlo) (ok_tl hst)
theorem l_iinc {i : Nat} {n x : Int} {ls' : List (Nat × AV)} (hd : decode code pc = .ok (.iinc i n, 3)) (hm : (i, vI x) ∈ ls) (hn : i < 4) (hl' : aS1 i (vI (wr (x + n))) ls = ls') (k : LV g bs L xs ce sl (pc + 3) ls' st wc wm) : LV g bs L xs ce sl pc ls st wc wm := by
  subst hl'
  intro p e s m below meth c A0 H locs lsA hH hS hl hlo hst
  obtain ⟨kk, hkk⟩ := List.getElem?_of_mem (List.mem_map.mpr ⟨(i, vI x), hm, rfl⟩ : (i, cv g (vI x)) ∈ ls.map (fun q => (q.1, cv g q.2)))
  refine lv_iinc (v := Int32.ofInt (wr (x + n))) A0.1 A0.2.1 hd hl (k := kk) hkk (i_add x n) hn (aS1_map i (vI (wr (x + n))) ls) (fun ls2 h2 => ?_)
  exact k p e s m below meth c A0 H locs ls2 hH hS h2 (ok_filter (wr_in _) hlo) hst
theorem l_iadd {a b : Int} (hd : decode code pc = .ok (.iadd, 1)) (k : LV g bs L xs ce sl (pc + 1) ls (vI (wr (a + b)) :: st) wc wm) : LV g bs L xs ce sl pc ls (vI b :: vI a :: st) wc wm :=
  l_step k (fun h _ => ok_cons (wr_in _) (ok_tl (ok_tl h))) (fun p e s m below meth c H locs lsA Q A hst hl kk => lv_iadd A.1 A.2.1 hd (by rw [i_add]; exact kk))
theorem l_isub {a b : Int} (hd : decode code pc = .ok (.isub, 1)) (k : LV g bs L xs ce sl (pc + 1) ls (vI (wr (a - b)) :: st) wc wm) : LV g bs L xs ce sl pc ls (vI b :: vI a :: st) wc wm :=
  l_step k (fun h _ => ok_cons (wr_in _) (ok_tl (ok_tl h))) (fun p e s m below meth c H locs lsA Q A hst hl kk => lv_isub A.1 A.2.1 hd (by rw [i_sub]; exact kk))
theorem l_iand {a b : Int} (hd : decode code pc = .ok (.iand, 1)) (k : LV g bs L xs ce sl (pc + 1) ls (vI (iAnd a b) :: st) wc wm) : LV g bs L xs ce sl pc ls (vI b :: vI a :: st) wc wm :=
  l_step k (fun h _ => ok_cons (i_in _) (ok_tl (ok_tl h))) (fun p e s m below meth c H locs lsA Q A hst hl kk => lv_iand A.1 A.2.1 hd (by rw [← i_of (Int32.ofInt a &&& Int32.ofInt b)]; exact kk))
theorem l_goto {off : Int} {tgt : Nat} (hd : decode code pc = .ok (.goto off, 3)) (ht : (pc : Int) + off = (tgt : Int)) (k : LV g bs L xs ce sl tgt ls st wc wm) : LV g bs L xs ce sl pc ls st wc wm :=
  l_step k (fun h _ => h) (fun p e s m below meth c H locs lsA Q A hst hl kk => lv_goto A.1 A.2.1 hd ht kk)
theorem l_icmpeq {off a b : Int} {tgt : Nat} (hd : decode code pc = .ok (.if_icmp .eq off, 3)) (ht : (pc : Int) + off = (tgt : Int)) (kt : a = b → LV g bs L xs ce sl tgt ls st wc wm) (kf : ¬ a = b → LV g bs L xs ce sl (pc + 3) ls st wc wm) : LV g bs L xs ce sl pc ls (vI b :: vI a :: st) wc wm := by
  intro p e s m below meth c A0 H locs lsA hH hS hl hlo hst
  have q := i_eq (ok_hd (ok_tl hst)) (ok_hd hst)
  exact lv_icmp_eq A0.1 A0.2.1 hd ht (fun h => kt (q.mp h) p e s m below meth c A0 H locs lsA hH hS hl hlo (ok_tl (ok_tl hst))) (fun h => kf (fun z => h (q.mpr z)) p e s m below meth c A0 H locs lsA hH hS hl hlo (ok_tl (ok_tl hst)))
theorem l_icmpgt {off a b : Int} {tgt : Nat} (hd : decode code pc = .ok (.if_icmp .gt off, 3)) (ht : (pc : Int) + off = (tgt : Int)) (kt : b < a → LV g bs L xs ce sl tgt ls st wc wm) (kf : ¬ b < a → LV g bs L xs ce sl (pc + 3) ls st wc wm) : LV g bs L xs ce sl pc ls (vI b :: vI a :: st) wc wm := by
  intro p e s m below meth c A0 H locs lsA hH hS hl hlo hst
  have q := i_lt (ok_hd hst) (ok_hd (ok_tl hst))
  exact lv_icmp_gt A0.1 A0.2.1 hd ht (fun h => kt (q.mp h) p e s m below meth c A0 H locs lsA hH hS hl hlo (ok_tl (ok_tl hst))) (fun h => kf (fun z => h (q.mpr z)) p e s m below meth c A0 H locs lsA hH hS hl hlo (ok_tl (ok_tl hst)))
theorem l_table {dflt lo hi x : Int} {offs : Array Int} {len tgd : Nat} {tgs : List Nat} (hd : decode code pc = .ok (.tableswitch dflt lo hi offs, len)) (ht : (pc : Int) + dflt = (tgd : Int)) (hof : offs.toList.map (fun o => (pc : Int) + o) = tgs.map (fun t : Nat => (t : Int))) (hlen : hi - lo + 1 = (tgs.length : Int))
    (kd : (x < lo ∨ hi < x) → LV g bs L xs ce sl tgd ls st wc wm) (kc : swP lo tgs x (fun t => LV g bs L xs ce sl t ls st wc wm)) : LV g bs L xs ce sl pc ls (vI x :: st) wc wm := by
  intro p e s m below meth c A0 H locs lsA hH hS hl hlo hst
  have hx : (Int32.ofInt x).toInt = x := by rw [i_to, wr_id (ok_hd hst)]
  by_cases h : x < lo ∨ hi < x
  · exact lv_tableOut A0.1 A0.2.1 hd (by rw [hx]; exact h) ht (kd h p e s m below meth c A0 H locs lsA hH hS hl hlo (ok_tl hst))
  · have h1 : ¬ x < lo := fun z => h (Or.inl z)
    have h2 : ¬ hi < x := fun z => h (Or.inr z)
    have hlt : (x - lo).toNat < tgs.length := by omega
    obtain ⟨t, htt⟩ : ∃ t, tgs[(x - lo).toNat]? = some t := ⟨_, List.getElem?_eq_getElem hlt⟩
    have hm : (offs.toList.map (fun o => (pc : Int) + o))[(x - lo).toNat]? = some (t : Int) := by rw [hof]; simp [htt]
    rw [List.getElem?_map] at hm
    cases ho : offs.toList[(x - lo).toNat]? with
    | none => rw [ho] at hm; cases hm
    | some off =>
      rw [ho] at hm
      have hq : (pc : Int) + off = (t : Int) := Option.some.inj hm
      refine lv_tableIn (off := off) A0.1 A0.2.1 hd (by rw [hx]; exact h1) (by rw [hx]; exact h2) (by rw [hx]; simpa using ho) hq ?_
      exact swP_at tgs lo _ t kc htt (by omega) p e s m below meth c A0 H locs lsA hH hS hl hlo (ok_tl hst)
theorem l_sld {i x : Int} (hd : decode code pc = .ok (.iaload, 1)) (hb : 0 ≤ i ∧ i < (L : Int)) (hx : x = (xs i.toNat).toInt) (k : LV g bs L xs ce sl (pc + 1) ls (vI x :: st) wc wm) : LV g bs L xs ce sl pc ls (vI i :: vA 900 :: st) wc wm := by
  subst hx
  intro p e s m below meth c A0 H locs lsA hH hS hl hlo hst
  obtain ⟨a1, a2, a3, a4, a5, a6, a7⟩ := id A0
  have hX := a3.2.2.2.2.2.2.1
  have hbl := a3.2.2.2.2.2.2.2.1
  have hi := ok_hd hst
  show W p g.l e room_1 s m #[Value.ref bs] below meth c H locs ce sl _ (F0 m pc lsA (.int (Int32.ofInt i) :: .ref (g.ad 900) :: st.map (cv g)))
  rw [a7]
  refine va_sld a1 a2 hX hbl (fun z => absurd hbl (Nat.not_lt.mpr z)) hS (in_of hi hb) hd ?_
  have hi2 : (Int32.ofInt i).toNatClampNeg = i.toNat := by
    show (Int32.ofInt i).toInt.toNat = i.toNat
    rw [i_to, wr_id hi]
  rw [hi2, ← i_of (xs i.toNat)]
  exact k p e s m below meth c A0 H locs lsA hH hS hl hlo (ok_cons (i_in _) (ok_tl (ok_tl hst)))
theorem l_slen (hL : L ≤ 384) (hd : decode code pc = .ok (.arraylength, 1)) (k : LV g bs L xs ce sl (pc + 1) ls (vI (L : Int) :: st) wc wm) : LV g bs L xs ce sl pc ls (vA 900 :: st) wc wm := by
  intro p e s m below meth c A0 H locs lsA hH hS hl hlo hst
  obtain ⟨a1, a2, a3, a4, a5, a6, a7⟩ := id A0
  have hX := a3.2.2.2.2.2.2.1
  have hbl := a3.2.2.2.2.2.2.2.1
  show W p g.l e room_1 s m #[Value.ref bs] below meth c H locs ce sl _ (F0 m pc lsA (.ref (g.ad 900) :: st.map (cv g)))
  rw [a7]
  refine va_slen a1 a2 hX hbl (fun z => absurd hbl (Nat.not_lt.mpr z)) hS hd ?_
  have e0 : Int32.ofNat L = Int32.ofInt (L : Int) := rfl
  rw [e0]
  exact k p e s m below meth c A0 H locs lsA hH hS hl hlo (ok_cons (by show inI (L : Int); unfold inI; omega) (ok_tl hst))
end LawRows
