/-! ===== rows: a String constant's own cells; System.arraycopy; a nest mate's fields ===== -/
section RowsF
variable {g : Mg} {y : Ly} {J : Jm} {d : Nat} {K : Ou → Wd → Prop} {pc : Nat} {ls : List (Nat × AV)} {st : List AV} {w : Wd}
theorem v_sval {i o : Nat} (hd : decode J.cc pc = .ok (.getfield i, 3)) (hl : Cond.fieldLink J.own i "java/lang/String" "value" "[B" ∈ lw_g) (ho : 1001 ≤ o ∧ o < 1060) (k : V g y J d K (pc + 3) ls (vA (o + 1000) :: st) w) : V g y J d K pc ls (vA o :: st) w := by
  intro p e s m args below meth c A0 H locs lsA hH hS hl2 hlo hst
  obtain ⟨h1, h2, h3, h4, h5, h6, h7, h8, h9, h10, h11⟩ := id A0
  have q := (h9.2.2.2.1 (o - 1001) (by omega)).2.2.1
  rw [show 1001 + (o - 1001) = o by omega, show 2001 + (o - 1001) = o + 1000 by omega] at q
  exact vk_getf h1 h2 q hS h6 (h7 _ hl) (fun _ h => h) hd (k p e s m args below meth c A0 H locs lsA hH hS hl2 hlo (ok_cons trivial (ok_tl hst)))
theorem v_scod {i o : Nat} (hd : decode J.cc pc = .ok (.getfield i, 3)) (hl : Cond.fieldLink J.own i "java/lang/String" "coder" "B" ∈ lw_g) (ho : 1001 ≤ o ∧ o < 1060) (k : V g y J d K (pc + 3) ls (vI 0 :: st) w) : V g y J d K pc ls (vA o :: st) w := by
  intro p e s m args below meth c A0 H locs lsA hH hS hl2 hlo hst
  obtain ⟨h1, h2, h3, h4, h5, h6, h7, h8, h9, h10, h11⟩ := id A0
  have q := (h9.2.2.2.1 (o - 1001) (by omega)).2.1
  rw [show 1001 + (o - 1001) = o by omega] at q
  exact vk_getf h1 h2 q hS h6 (h7 _ hl) (fun _ h => h) hd (k p e s m args below meth c A0 H locs lsA hH hS hl2 hlo (ok_cons in0 (ok_tl hst)))
theorem v_scmp {i : Nat} (hd : decode J.cc pc = .ok (.getstatic i, 3)) (hl : Cond.fieldLink J.own i "java/lang/String" "COMPACT_STRINGS" "Z" ∈ lw_g) (k : V g y J d K (pc + 3) ls (vI 1 :: st) w) : V g y J d K pc ls st w := by
  intro p e s m args below meth c A0 H locs lsA hH hS hl2 hlo hst
  obtain ⟨h1, h2, h3, h4, h5, h6, h7, h8, h9, h10, h11⟩ := id A0
  exact va_gets h1 h2 h9.2.2.1 hS h6 (h7 _ hl) (fun _ h => h) hd (k p e s m args below meth c A0 H locs lsA hH hS hl2 hlo (ok_cons (by decide : inI 1) hst))
theorem sB_in : ∀ i, i < 59 → (sB i).length < 1000 ∧ ∀ b ∈ sB i, 0 ≤ b ∧ b < 128 := by decide +kernel
theorem v_slen {o : Nat} (hd : decode J.cc pc = .ok (.arraylength, 1)) (ho : 2001 ≤ o ∧ o < 2060) (k : V g y J d K (pc + 1) ls (vI ((sB (o - 2001)).length : Int) :: st) w) : V g y J d K pc ls (vA o :: st) w := by
  intro p e s m args below meth c A0 H locs lsA hH hS hl2 hlo hst
  obtain ⟨h1, h2, h3, h4, h5, h6, h7, h8, h9, h10, h11⟩ := id A0
  have q := (h9.2.2.2.1 (o - 2001) (by omega)).2.2.2
  rw [show 2001 + (o - 2001) = o by omega] at q
  obtain ⟨cell, c1, c2, c3, c4, c5, c6, c7⟩ := q
  have hlen := (sB_in (o - 2001) (by omega)).1
  exact W.alen h1 h2 (by rw [hS.2.1 _ (Array.getElem?_eq_some_iff.mp c1).1 c7]; exact c1) c2 (n := Int32.ofInt ((sB (o - 2001)).length : Int)) c5 rfl rfl hd (k p e s m args below meth c A0 H locs lsA hH hS hl2 hlo (ok_cons (by constructor <;> omega) (ok_tl hst)))
theorem sB_get {i j : Nat} (hi : i < 59) : 0 ≤ (sB i).getD j 0 ∧ (sB i).getD j 0 < 128 := by
  by_cases hj : j < (sB i).length
  · have : (sB i).getD j 0 ∈ sB i := by simp [hj]
    exact (sB_in i hi).2 _ this
  · rw [List.getD_eq_getElem?_getD]
    simp [hj]
theorem v_sald {o : Nat} {i : Int} (hd : decode J.cc pc = .ok (.baload, 1)) (ho : 2001 ≤ o ∧ o < 2060) (hb : 0 ≤ i ∧ i < ((sB (o - 2001)).length : Int)) (k : V g y J d K (pc + 1) ls (vI ((sB (o - 2001)).getD i.toNat 0) :: st) w) : V g y J d K pc ls (vI i :: vA o :: st) w := by
  intro p e s m args below meth c A0 H locs lsA hH hS hl2 hlo hst
  obtain ⟨h1, h2, h3, h4, h5, h6, h7, h8, h9, h10, h11⟩ := id A0
  have q := (h9.2.2.2.1 (o - 2001) (by omega)).2.2.2
  rw [show 2001 + (o - 2001) = o by omega] at q
  have hg := sB_get (i := o - 2001) (j := i.toNat) (by omega)
  exact va_tb h1 h2 q hS (in_of (ok_hd hst) hb) (v := .int (Int32.ofInt ((sB (o - 2001)).getD i.toNat 0))) (by rw [i_nat (ok_hd hst)]) hd (k p e s m args below meth c A0 H locs lsA hH hS hl2 hlo (ok_cons (by constructor <;> omega) (ok_tl (ok_tl hst))))
theorem v_ishr {a b : Int} (hd : decode J.cc pc = .ok (.ishr, 1)) (k : V g y J d K (pc + 1) ls (vI (iShr a b) :: st) w) : V g y J d K pc ls (vI b :: vI a :: st) w :=
  v_step k (fun h _ => ok_cons (i_in _) (ok_tl (ok_tl h))) (fun p e s m args below meth c H locs lsA Q A hst hl kk => lv_ishr A.1 A.2.1 hd (by rw [← i_of (Int32.ofInt a >>> (Int32.ofInt b &&& 31))]; exact kk))
/-- entry i of the model's class names field k of the Stop -/
def FN (own : String) (i k : Nat) : Prop := own = "VertexLanguageModel" ∧ k < 2 ∧ (cT12 k).1 = "VertexLanguageModel$Stop" ∧ (cT12 k).2.2.1 = "I" ∧ (cT12 k).2.2.2 = false ∧ fty 12 k = .int ∧ (i, (cT12 k).2.1) ∈ nstT
theorem v_getN {o i k : Nat} {x : Int} (hf : FN J.own i k) (hd : decode J.cc pc = .ok (.getfield i, 3)) (ho : o < y.nn) (hly : y.ly o = (12, 2)) (hx : w o k = x) (kk : V g y J d K (pc + 3) ls (vI x :: st) w) : V g y J d K pc ls (vA o :: st) w := by
  subst hx
  obtain ⟨hJo, hk, t1, t2, hfin, hty, hlk⟩ := hf
  have hci : 12 < 100 := by decide
  have hc : cls_[12]? = some (cR12, cT12, 2) := rfl
  intro p e s m args below meth c A0 H locs lsA hH hS hl hlo hst
  obtain ⟨h1, h2, h3, h4, h5, h6, h7, h8, h9, h10, h11⟩ := id A0
  have hat := ws_at (g := g) (w := w) ho
  rw [cel_o hly hci] at hat
  have hnl : (Cond.fieldLinkNest J.own i (cT12 k).1 (cT12 k).2.1 (cT12 k).2.2.1 "VertexLanguageModel").before args s = true := by
    rw [hJo, t1, t2]
    exact (h9.2.2.2.2.2.2 _ hlk).use rfl
  refine va_getN (D := g.D) (cl := cls_) (C := cR12) (T := cT12) (N := 2) (ci := 12) (index := i) (own := J.own) (ref := (cT12 k).1) (host := "VertexLanguageModel") h1 h2 h7 (cls_in 12 _ hc) h6 h8 hH.1 o hat hc k hk hnl (fun _ h => h) (v := cv g (vI (w o k))) (by simp [hk, hty, cfv, cv]) hd ?_
  exact kk p e s m args below meth c A0 H locs lsA hH hS hl hlo (ok_cons (hH.2.1 o ho k (by rw [hly]; exact hk)).I (ok_tl hst))
theorem v_putN {o i k : Nat} {x : Int} (hf : FN J.own i k) (hd : decode J.cc pc = .ok (.putfield i, 3)) (ho : o < y.nn) (hly : y.ly o = (12, 2)) (hrf : y.rf o k = none) (kk : V g y J d K (pc + 3) ls st (up w o k x)) : V g y J d K pc ls (vI x :: vA o :: st) w := by
  obtain ⟨hJo, hk, t1, t2, hfin, hty, hlk⟩ := hf
  have hci : 12 < 100 := by decide
  have hc : cls_[12]? = some (cR12, cT12, 2) := rfl
  intro p e s m args below meth c A0 H locs lsA hH hS hl hlo hst
  obtain ⟨h1, h2, h3, h4, h5, h6, h7, h8, h9, h10, h11⟩ := id A0
  have hat := ws_at (g := g) (w := w) ho
  rw [cel_o hly hci] at hat
  have hset : ((List.range 2).map (fun k => cfv g (fty 12 k) (w o k))).set k (cv g (vI x)) = (List.range 2).map (fun j => cfv g (fty 12 j) (up w o k x o j)) := by
    apply List.ext_getElem?
    intro j
    rw [List.getElem?_set]
    by_cases hj : j < 2
    · by_cases hjk : k = j
      · subst hjk
        rw [if_pos rfl]
        simp [hj, up_same, hty, cfv, cv]
      · rw [if_neg hjk]
        have e : up w o k x o j = w o j := up_ne w x (fun z => hjk z.2.symm)
        simp [hj, e]
    · by_cases hjk : k = j
      · omega
      · rw [if_neg hjk]; simp [hj]
  have hnl : (Cond.fieldLinkNest J.own i (cT12 k).1 (cT12 k).2.1 (cT12 k).2.2.1 "VertexLanguageModel").before args s = true := by
    rw [hJo, t1, t2]
    exact (h9.2.2.2.2.2.2 _ hlk).use rfl
  refine va_putN (D := g.D) (cl := cls_) (C := cR12) (T := cT12) (N := 2) (ci := 12) (index := i) (own := J.own) (ref := (cT12 k).1) (host := "VertexLanguageModel") h1 h2 h7 (cls_in 12 _ hc) (fty 12) (cls_ty 12 _ hc) (cls_nm 12 _ hc) h6 h8 hH.1 (wsD h10) hS o hat hc k hk hnl (fun _ h => h) hfin (v := cv g (vI x)) (cls_ty 12 _ hc k hk) (by rw [hty]; rfl) (by rw [hty]; rfl) (by simpa using hk) hd (fun H1 locs1 hP1 hD1 hS1 => ?_)
  rw [hset, ← cel_o (w := up w o k x) hly hci] at hP1
  refine kk p e s m args below meth c A0 H1 locs1 lsA (hol_up hH ?_ hrf hP1) hS1 hl hlo (ok_tl (ok_tl hst))
  unfold rng
  rw [hly]
  simp only [hty]
  rw [if_neg (by omega), if_neg (by simp)]
  exact ok_hd hst
/-- the world behind System.arraycopy -/
def cpw (w : Wd) (o1 sp o2 dp n : Nat) : Wd := fun a b => if a = o2 ∧ dp ≤ b ∧ b < dp + n then w o1 (sp + (b - dp)) else w a b
def CPY (own : String) (i : Nat) : Prop := Cond.methodLink own i arraycopyName ∈ lw_g ∧ Cond.native arraycopyName ∈ lw_g ∧ Cond.static arraycopyName ∈ lw_g ∧ Cond.initialized "java/lang/System" ∈ lw_g
theorem ws_cp {o1 sp o2 dp n : Nat} : wsl g y (cpw w o1 sp o2 dp n) = (wsl g y w).set o2 (g.ad o2, cel g y (cpw w o1 sp o2 dp n) o2) := by
  apply List.ext_getElem?
  intro i
  rw [List.getElem?_set]
  by_cases hi : i < y.nn
  · rw [ws_at hi]
    by_cases hio : o2 = i
    · subst hio
      rw [if_pos rfl, if_pos (by simp [wsl, hi])]
    · rw [if_neg hio, ws_at hi]
      congr 2
      have e : ∀ b, cpw w o1 sp o2 dp n i b = w i b := fun b => if_neg (fun z => hio z.1.symm)
      unfold cel
      simp only [e]
  · have h1 : (wsl g y (cpw w o1 sp o2 dp n))[i]? = none := by simp [wsl]; omega
    have h2 : (wsl g y w)[i]? = none := by simp [wsl]; omega
    rw [h1]
    by_cases hio : o2 = i
    · subst hio
      rw [if_pos rfl, if_neg (by simp [wsl]; omega)]
    · rw [if_neg hio, h2]
theorem cpy_cp {o1 sp o2 dp n : Nat} : va_cpy (fun j => Int32.ofInt (w o1 j)) (fun j => Int32.ofInt (w o2 j)) sp dp n = fun j => Int32.ofInt (cpw w o1 sp o2 dp n o2 j) := by
  funext j
  by_cases hj : dp ≤ j ∧ j < dp + n
  · simp [va_cpy, cpw, hj]
  · have h1 : va_cpy (fun j => Int32.ofInt (w o1 j)) (fun j => Int32.ofInt (w o2 j)) sp dp n j = Int32.ofInt (w o2 j) := if_neg hj
    have h2 : cpw w o1 sp o2 dp n o2 j = w o2 j := if_neg (fun z => hj z.2)
    rw [h1, h2]
theorem rng_kd {o1 o2 k1 k2 kd n1 n2 : Nat} {x : Int} (h1 : y.ly o1 = (kd, n1)) (h2 : y.ly o2 = (kd, n2)) (hk : ¬ kd < 100) (h : rng y o1 k1 x) : rng y o2 k2 x := by
  unfold rng at h ⊢
  rw [h1] at h
  rw [h2]
  simp only [hk, false_and, or_false] at h ⊢
  exact h
theorem v_copy {i o1 o2 kd n1 n2 : Nat} {sp dp n : Int} (hd : decode J.cc pc = .ok (.invokestatic i, 3)) (hl : CPY J.own i) (ho1 : o1 < y.nn) (hly1 : y.ly o1 = (kd, n1)) (ho2 : o2 < y.nn) (hly2 : y.ly o2 = (kd, n2)) (hkd : kd = 100 ∨ kd = 101 ∨ kd = 102) (hsum : (st.map aw).sum ≤ 8) (hrf : ∀ k, y.rf o2 k = none) (hdd : 2 ≤ d)
    (hb : 0 ≤ sp ∧ 0 ≤ dp ∧ 0 ≤ n ∧ sp + n ≤ (n1 : Int) ∧ dp + n ≤ (n2 : Int)) (kk : V g y J d K (pc + 3) ls st (cpw w o1 sp.toNat o2 dp.toNat n.toNat)) : V g y J d K pc ls (vI n :: vI dp :: vA o2 :: vI sp :: vA o1 :: st) w := by
  intro p e s m args below meth c A0 H locs lsA hH hS hl2 hlo hst
  obtain ⟨h1, h2, h3, h4, h5, h6, h7, h8, h9, h10, h11⟩ := id A0
  have okn : inI n := ok_hd hst
  have okd : inI dp := ok_hd (ok_tl hst)
  have oks : inI sp := ok_hd (ok_tl (ok_tl (ok_tl hst)))
  have hkn : ¬ kd < 100 := by omega
  have hkn3 : kd < 103 := by omega
  have hat1 := ws_at (g := g) (w := w) ho1
  rw [cel_a hly1 hkn hkn3] at hat1
  have hat2 := ws_at (g := g) (w := w) ho2
  rw [cel_a hly2 hkn hkn3] at hat2
  have hin : ∀ i, i < n.toNat → sp.toNat + i < n1 := fun i hi => by omega
  have key : ∀ (t0 : Nat) (ty : FieldType), (tysl g)[t0]? = some (g.dA kd, ty) → refKind ty = false → (∀ x, rng y o1 0 x → fits ty (.int (Int32.ofInt x)) = true) → W p g.l e (rmd d) s m args below meth c H locs 0 0 (Zq g y K below s) (F0 m pc lsA ((vI n :: vI dp :: vA o2 :: vI sp :: vA o1 :: st).map (cv g))) := by
    intro t0 ty ht hprim hfit
    refine va_copyi (D := g.D) (cl := cls_) (tys := tysl g) h1 h2 (by rw [h4]; exact hl2.1.symm) (own := J.own) (index := i) h6 (h7 _ hl.1) (h7 _ hl.2.1) (h7 _ hl.2.2.1) (h7 _ hl.2.2.2) h8 hH.1 (wsD h10) hS o1 o2 t0 t0 hat1 hat2 ht ht hprim
      (sp := Int32.ofInt sp) (dp := Int32.ofInt dp) (n := Int32.ofInt n) (fun z => by have := (i_lt oks in0).mp z; omega) (fun z => by have := (i_lt okd in0).mp z; omega) (fun z => by have := (i_lt okn in0).mp z; omega)
      (by rw [i_nat oks, i_nat okn]; omega) (by rw [i_nat okd, i_nat okn]; omega) (fun j hj => ?_) (by show 1 ≤ d; omega) ?_ hd (fun H1 locs1 hP1 hD1 hS1 => ?_)
    · rw [i_nat okn] at hj
      rw [i_nat oks]
      exact hfit _ (rng_kd hly1 hly1 hkn (hH.2.1 o1 ho1 (sp.toNat + j) (by rw [hly1]; exact hin j hj)))
    · rw [cat_sum]
      show (st.map aw).sum + (nativeFrameWords "java/lang/System" "arraycopy" 5 + 11) ≤ 64 * d
      have : nativeFrameWords "java/lang/System" "arraycopy" 5 ≤ 100 := by decide
      omega
    · rw [i_nat oks, i_nat okd, i_nat okn, cpy_cp, ← cel_a (w := cpw w o1 sp.toNat o2 dp.toNat n.toNat) hly2 hkn hkn3, ← ws_cp] at hP1
      refine kk p e s m args below meth c A0 H1 locs1 lsA ⟨hP1, fun a ha b hb2 => ?_, fun a b r hab => ?_⟩ hS1 hl2 hlo (ok_tl (ok_tl (ok_tl (ok_tl (ok_tl hst)))))
      · by_cases ez : a = o2 ∧ dp.toNat ≤ b ∧ b < dp.toNat + n.toNat
        · have e1 : cpw w o1 sp.toNat o2 dp.toNat n.toNat a b = w o1 (sp.toNat + (b - dp.toNat)) := if_pos ez
          rw [e1, ez.1]
          exact rng_kd hly1 hly2 hkn (hH.2.1 o1 ho1 _ (by rw [hly1]; exact hin _ (by omega)))
        · have e1 : cpw w o1 sp.toNat o2 dp.toNat n.toNat a b = w a b := if_neg ez
          rw [e1]; exact hH.2.1 a ha b hb2
      · have e1 : cpw w o1 sp.toNat o2 dp.toNat n.toNat a b = w a b := if_neg (fun z => by rw [z.1, hrf b] at hab; cases hab)
        rw [e1]; exact hH.2.2 a b r hab
  rcases hkd with rfl | rfl | rfl
  · exact key 0 .int rfl rfl (fun x _ => rfl)
  · refine key 1 .byte rfl rfl (fun x hx => ?_)
    unfold rng at hx
    rw [hly1] at hx
    simp only [if_true] at hx
    have hi : inI x := by constructor <;> omega
    have q1 := (i_le (by decide : inI (-128)) hi).mpr hx.1
    have q2 := (i_le hi (by decide : inI 127)).mpr hx.2
    simp only [fits, Bool.and_eq_true, decide_eq_true_eq]
    exact ⟨q1, q2⟩
  · refine key 2 .boolean rfl rfl (fun x hx => ?_)
    unfold rng at hx
    rw [hly1] at hx
    simp at hx
    rcases (by omega : x = 0 ∨ x = 1) with rfl | rfl <;> rfl
end RowsF
