/-! ===== rows of the abstract machine: branches, cells, ends ===== -/
section RowsB
variable {g : Mg} {y : Ly} {J : Jm} {d : Nat} {K : Ou → Wd → Prop} {pc : Nat} {ls : List (Nat × AV)} {st : List AV} {w : Wd}
theorem in0 : inI 0 := by decide
theorem v_goto {off : Int} {tgt : Nat} (hd : decode J.cc pc = .ok (.goto off, 3)) (ht : (pc : Int) + off = (tgt : Int)) (k : V g y J d K tgt ls st w) : V g y J d K pc ls st w :=
  v_step k (fun h _ => h) (fun p e s m args below meth c H locs lsA Q A hst hl kk => lv_goto A.1 A.2.1 hd ht kk)
theorem v_ifeq {off x : Int} {tgt : Nat} (hd : decode J.cc pc = .ok (.ifCond .eq off, 3)) (ht : (pc : Int) + off = (tgt : Int)) (kt : x = 0 → V g y J d K tgt ls st w) (kf : ¬ x = 0 → V g y J d K (pc + 3) ls st w) : V g y J d K pc ls (vI x :: st) w := by
  intro p e s m args below meth c A0 H locs lsA hH hS hl hlo hst
  have q := i_eq (ok_hd hst) in0
  exact lv_if_eq A0.1 A0.2.1 hd ht (fun h => kt (q.mp h) p e s m args below meth c A0 H locs lsA hH hS hl hlo (ok_tl hst)) (fun h => kf (fun z => h (q.mpr z)) p e s m args below meth c A0 H locs lsA hH hS hl hlo (ok_tl hst))
theorem v_ifne {off x : Int} {tgt : Nat} (hd : decode J.cc pc = .ok (.ifCond .ne off, 3)) (ht : (pc : Int) + off = (tgt : Int)) (kt : ¬ x = 0 → V g y J d K tgt ls st w) (kf : x = 0 → V g y J d K (pc + 3) ls st w) : V g y J d K pc ls (vI x :: st) w := by
  intro p e s m args below meth c A0 H locs lsA hH hS hl hlo hst
  have q := i_eq (ok_hd hst) in0
  exact lv_if_ne A0.1 A0.2.1 hd ht (fun h => kt (fun z => h (q.mpr z)) p e s m args below meth c A0 H locs lsA hH hS hl hlo (ok_tl hst)) (fun h => kf (q.mp h) p e s m args below meth c A0 H locs lsA hH hS hl hlo (ok_tl hst))
theorem v_iflt {off x : Int} {tgt : Nat} (hd : decode J.cc pc = .ok (.ifCond .lt off, 3)) (ht : (pc : Int) + off = (tgt : Int)) (kt : x < 0 → V g y J d K tgt ls st w) (kf : ¬ x < 0 → V g y J d K (pc + 3) ls st w) : V g y J d K pc ls (vI x :: st) w := by
  intro p e s m args below meth c A0 H locs lsA hH hS hl hlo hst
  have q := i_lt (ok_hd hst) in0
  exact lv_if_lt A0.1 A0.2.1 hd ht (fun h => kt (q.mp h) p e s m args below meth c A0 H locs lsA hH hS hl hlo (ok_tl hst)) (fun h => kf (fun z => h (q.mpr z)) p e s m args below meth c A0 H locs lsA hH hS hl hlo (ok_tl hst))
theorem v_ifge {off x : Int} {tgt : Nat} (hd : decode J.cc pc = .ok (.ifCond .ge off, 3)) (ht : (pc : Int) + off = (tgt : Int)) (kt : 0 ≤ x → V g y J d K tgt ls st w) (kf : ¬ 0 ≤ x → V g y J d K (pc + 3) ls st w) : V g y J d K pc ls (vI x :: st) w := by
  intro p e s m args below meth c A0 H locs lsA hH hS hl hlo hst
  have q := i_le in0 (ok_hd hst)
  exact lv_if_ge A0.1 A0.2.1 hd ht (fun h => kt (q.mp h) p e s m args below meth c A0 H locs lsA hH hS hl hlo (ok_tl hst)) (fun h => kf (fun z => h (q.mpr z)) p e s m args below meth c A0 H locs lsA hH hS hl hlo (ok_tl hst))
theorem v_ifgt {off x : Int} {tgt : Nat} (hd : decode J.cc pc = .ok (.ifCond .gt off, 3)) (ht : (pc : Int) + off = (tgt : Int)) (kt : 0 < x → V g y J d K tgt ls st w) (kf : ¬ 0 < x → V g y J d K (pc + 3) ls st w) : V g y J d K pc ls (vI x :: st) w := by
  intro p e s m args below meth c A0 H locs lsA hH hS hl hlo hst
  have q := i_lt in0 (ok_hd hst)
  exact lv_if_gt A0.1 A0.2.1 hd ht (fun h => kt (q.mp h) p e s m args below meth c A0 H locs lsA hH hS hl hlo (ok_tl hst)) (fun h => kf (fun z => h (q.mpr z)) p e s m args below meth c A0 H locs lsA hH hS hl hlo (ok_tl hst))
theorem v_ifle {off x : Int} {tgt : Nat} (hd : decode J.cc pc = .ok (.ifCond .le off, 3)) (ht : (pc : Int) + off = (tgt : Int)) (kt : x ≤ 0 → V g y J d K tgt ls st w) (kf : ¬ x ≤ 0 → V g y J d K (pc + 3) ls st w) : V g y J d K pc ls (vI x :: st) w := by
  intro p e s m args below meth c A0 H locs lsA hH hS hl hlo hst
  have q := i_le (ok_hd hst) in0
  exact lv_if_le A0.1 A0.2.1 hd ht (fun h => kt (q.mp h) p e s m args below meth c A0 H locs lsA hH hS hl hlo (ok_tl hst)) (fun h => kf (fun z => h (q.mpr z)) p e s m args below meth c A0 H locs lsA hH hS hl hlo (ok_tl hst))
theorem v_icmpeq {off a b : Int} {tgt : Nat} (hd : decode J.cc pc = .ok (.if_icmp .eq off, 3)) (ht : (pc : Int) + off = (tgt : Int)) (kt : a = b → V g y J d K tgt ls st w) (kf : ¬ a = b → V g y J d K (pc + 3) ls st w) : V g y J d K pc ls (vI b :: vI a :: st) w := by
  intro p e s m args below meth c A0 H locs lsA hH hS hl hlo hst
  have q := i_eq (ok_hd (ok_tl hst)) (ok_hd hst)
  exact lv_icmp_eq A0.1 A0.2.1 hd ht (fun h => kt (q.mp h) p e s m args below meth c A0 H locs lsA hH hS hl hlo (ok_tl (ok_tl hst))) (fun h => kf (fun z => h (q.mpr z)) p e s m args below meth c A0 H locs lsA hH hS hl hlo (ok_tl (ok_tl hst)))
theorem v_icmpne {off a b : Int} {tgt : Nat} (hd : decode J.cc pc = .ok (.if_icmp .ne off, 3)) (ht : (pc : Int) + off = (tgt : Int)) (kt : ¬ a = b → V g y J d K tgt ls st w) (kf : a = b → V g y J d K (pc + 3) ls st w) : V g y J d K pc ls (vI b :: vI a :: st) w := by
  intro p e s m args below meth c A0 H locs lsA hH hS hl hlo hst
  have q := i_eq (ok_hd (ok_tl hst)) (ok_hd hst)
  exact lv_icmp_ne A0.1 A0.2.1 hd ht (fun h => kt (fun z => h (q.mpr z)) p e s m args below meth c A0 H locs lsA hH hS hl hlo (ok_tl (ok_tl hst))) (fun h => kf (q.mp h) p e s m args below meth c A0 H locs lsA hH hS hl hlo (ok_tl (ok_tl hst)))
theorem v_icmplt {off a b : Int} {tgt : Nat} (hd : decode J.cc pc = .ok (.if_icmp .lt off, 3)) (ht : (pc : Int) + off = (tgt : Int)) (kt : a < b → V g y J d K tgt ls st w) (kf : ¬ a < b → V g y J d K (pc + 3) ls st w) : V g y J d K pc ls (vI b :: vI a :: st) w := by
  intro p e s m args below meth c A0 H locs lsA hH hS hl hlo hst
  have q := i_lt (ok_hd (ok_tl hst)) (ok_hd hst)
  exact lv_icmp_lt A0.1 A0.2.1 hd ht (fun h => kt (q.mp h) p e s m args below meth c A0 H locs lsA hH hS hl hlo (ok_tl (ok_tl hst))) (fun h => kf (fun z => h (q.mpr z)) p e s m args below meth c A0 H locs lsA hH hS hl hlo (ok_tl (ok_tl hst)))
theorem v_icmpge {off a b : Int} {tgt : Nat} (hd : decode J.cc pc = .ok (.if_icmp .ge off, 3)) (ht : (pc : Int) + off = (tgt : Int)) (kt : b ≤ a → V g y J d K tgt ls st w) (kf : ¬ b ≤ a → V g y J d K (pc + 3) ls st w) : V g y J d K pc ls (vI b :: vI a :: st) w := by
  intro p e s m args below meth c A0 H locs lsA hH hS hl hlo hst
  have q := i_le (ok_hd hst) (ok_hd (ok_tl hst))
  exact lv_icmp_ge A0.1 A0.2.1 hd ht (fun h => kt (q.mp h) p e s m args below meth c A0 H locs lsA hH hS hl hlo (ok_tl (ok_tl hst))) (fun h => kf (fun z => h (q.mpr z)) p e s m args below meth c A0 H locs lsA hH hS hl hlo (ok_tl (ok_tl hst)))
theorem v_icmpgt {off a b : Int} {tgt : Nat} (hd : decode J.cc pc = .ok (.if_icmp .gt off, 3)) (ht : (pc : Int) + off = (tgt : Int)) (kt : b < a → V g y J d K tgt ls st w) (kf : ¬ b < a → V g y J d K (pc + 3) ls st w) : V g y J d K pc ls (vI b :: vI a :: st) w := by
  intro p e s m args below meth c A0 H locs lsA hH hS hl hlo hst
  have q := i_lt (ok_hd hst) (ok_hd (ok_tl hst))
  exact lv_icmp_gt A0.1 A0.2.1 hd ht (fun h => kt (q.mp h) p e s m args below meth c A0 H locs lsA hH hS hl hlo (ok_tl (ok_tl hst))) (fun h => kf (fun z => h (q.mpr z)) p e s m args below meth c A0 H locs lsA hH hS hl hlo (ok_tl (ok_tl hst)))
theorem v_icmple {off a b : Int} {tgt : Nat} (hd : decode J.cc pc = .ok (.if_icmp .le off, 3)) (ht : (pc : Int) + off = (tgt : Int)) (kt : a ≤ b → V g y J d K tgt ls st w) (kf : ¬ a ≤ b → V g y J d K (pc + 3) ls st w) : V g y J d K pc ls (vI b :: vI a :: st) w := by
  intro p e s m args below meth c A0 H locs lsA hH hS hl hlo hst
  have q := i_le (ok_hd (ok_tl hst)) (ok_hd hst)
  exact lv_icmp_le A0.1 A0.2.1 hd ht (fun h => kt (q.mp h) p e s m args below meth c A0 H locs lsA hH hS hl hlo (ok_tl (ok_tl hst))) (fun h => kf (fun z => h (q.mpr z)) p e s m args below meth c A0 H locs lsA hH hS hl hlo (ok_tl (ok_tl hst)))
/-- the cases of a switch -/
def swP : Int → List Nat → Int → (Nat → Prop) → Prop
  | _, [], _, _ => True
  | k, t :: r, x, P => (x = k → P t) ∧ swP (k + 1) r x P
theorem swP_at {P : Nat → Prop} {x : Int} : ∀ (ts : List Nat) (k : Int) (j : Nat) (t : Nat), swP k ts x P → ts[j]? = some t → x = k + j → P t
  | [], _, _, _, _, h, _ => by simp at h
  | t :: r, k, 0, u, h, hj, hx => by
    simp at hj
    subst hj
    exact h.1 (by simpa using hx)
  | t :: r, k, j + 1, u, h, hj, hx => swP_at r (k + 1) j u h.2 (by simpa using hj) (by omega)
theorem v_table {dflt lo hi x : Int} {offs : Array Int} {len tgd : Nat} {tgs : List Nat} (hd : decode J.cc pc = .ok (.tableswitch dflt lo hi offs, len)) (ht : (pc : Int) + dflt = (tgd : Int)) (hof : offs.toList.map (fun o => (pc : Int) + o) = tgs.map (fun t : Nat => (t : Int))) (hlen : hi - lo + 1 = (tgs.length : Int))
    (kd : (x < lo ∨ hi < x) → V g y J d K tgd ls st w) (kc : swP lo tgs x (fun t => V g y J d K t ls st w)) : V g y J d K pc ls (vI x :: st) w := by
  intro p e s m args below meth c A0 H locs lsA hH hS hl hlo hst
  have hx : (Int32.ofInt x).toInt = x := by rw [i_to, wr_id (ok_hd hst)]
  by_cases h : x < lo ∨ hi < x
  · exact lv_tableOut A0.1 A0.2.1 hd (by rw [hx]; exact h) ht (kd h p e s m args below meth c A0 H locs lsA hH hS hl hlo (ok_tl hst))
  · have h1 : ¬ x < lo := fun z => h (Or.inl z)
    have h2 : ¬ hi < x := fun z => h (Or.inr z)
    have hlt : (x - lo).toNat < tgs.length := by omega
    obtain ⟨t, htt⟩ : ∃ t, tgs[(x - lo).toNat]? = some t := ⟨_, List.getElem?_eq_getElem hlt⟩
    have hm : (offs.toList.map (fun o => (pc : Int) + o))[(x - lo).toNat]? = some (t : Int) := by rw [hof]; simp [htt]
    rw [List.getElem?_map] at hm
    cases ho : offs.toList[(x - lo).toNat]? with
    | none => rw [ho] at hm; cases hm
    | some off =>
      rw [ho] at hm
      have hq : (pc : Int) + off = (t : Int) := Option.some.inj hm
      refine lv_tableIn (off := off) A0.1 A0.2.1 hd (by rw [hx]; exact h1) (by rw [hx]; exact h2) (by rw [hx]; simpa using ho) hq ?_
      exact swP_at tgs lo _ t kc htt (by omega) p e s m args below meth c A0 H locs lsA hH hS hl hlo (ok_tl hst)
def lkP : List (Int × Nat) → Int → (Nat → Prop) → Prop → Prop
  | [], _, _, D => D
  | (k, t) :: r, x, P, D => (x = k → P t) ∧ (¬ x = k → lkP r x P D)
theorem lk_off (pc : Nat) (dflt : Int) (tgd : Nat) (hdf : (pc : Int) + dflt = (tgd : Int)) (x : Int) (P : Nat → Prop) : ∀ (prs : List (Int × Nat)) (ps : List (Int × Int)), ps.map (fun q => (q.1, (pc : Int) + q.2)) = prs.map (fun q : Int × Nat => (q.1, (q.2 : Int))) → lkP prs x P (P tgd) → ∃ t : Nat, (pc : Int) + Op.lookupswitch.offset ps dflt x = (t : Int) ∧ P t
  | [], [], _, h => ⟨tgd, hdf, h⟩
  | [], _ :: _, e, _ => by simp at e
  | _ :: _, [], e, _ => by simp at e
  | (k, t) :: r, (a, o) :: q, e, h => by
    simp only [List.map_cons, List.cons.injEq, Prod.mk.injEq] at e
    obtain ⟨⟨e1, e2⟩, e3⟩ := e
    rw [Op.lookupswitch.offset_cons]
    by_cases hk : x = k
    · exact ⟨t, by rw [if_pos (by rw [e1, hk])]; exact e2, h.1 hk⟩
    · rw [if_neg (by rw [e1]; exact fun z => hk z.symm)]
      exact lk_off pc dflt tgd hdf x P r q e3 (h.2 hk)
theorem v_lookup {dflt x : Int} {ps : Array (Int × Int)} {len tgd : Nat} {prs : List (Int × Nat)} (hd : decode J.cc pc = .ok (.lookupswitch dflt ps, len)) (hp : (ps.toList.zip (ps.toList.drop 1)).all (fun (a, next) => a.1 < next.1) = true) (ht : (pc : Int) + dflt = (tgd : Int)) (hof : ps.toList.map (fun q => (q.1, (pc : Int) + q.2)) = prs.map (fun q : Int × Nat => (q.1, (q.2 : Int))))
    (kc : lkP prs x (fun t => V g y J d K t ls st w) (V g y J d K tgd ls st w)) : V g y J d K pc ls (vI x :: st) w := by
  intro p e s m args below meth c A0 H locs lsA hH hS hl hlo hst
  have hx : (Int32.ofInt x).toInt = x := by rw [i_to, wr_id (ok_hd hst)]
  obtain ⟨t, h1, h2⟩ := lk_off pc dflt tgd ht x (fun t => V g y J d K t ls st w) prs ps.toList hof kc
  exact lv_lookup A0.1 A0.2.1 hd hp (by rw [hx]) h1 (h2 p e s m args below meth c A0 H locs lsA hH hS hl hlo (ok_tl hst))
/-! cells -/
theorem ws_at {o : Nat} (ho : o < y.nn) : (wsl g y w)[o]? = some (g.ad o, cel g y w o) := by simp [wsl, ho]
theorem ws_get {o : Nat} {q : Nat × va_E} (h : (wsl g y w)[o]? = some q) : o < y.nn ∧ q = (g.ad o, cel g y w o) := by
  unfold wsl at h
  rw [List.getElem?_map] at h
  by_cases ho : o < y.nn
  · refine ⟨ho, ?_⟩
    simp [ho] at h
    exact h.symm
  · simp [ho] at h
theorem cel_o {o ci N : Nat} (h : y.ly o = (ci, N)) (hc : ci < 100) : cel g y w o = .inr (ci, (List.range N).map (fun k => cfv g (fty ci k) (w o k))) := by
  unfold cel; rw [h]; simp [hc]
theorem cel_a {o kd n : Nat} (h : y.ly o = (kd, n)) (h1 : ¬ kd < 100) (h2 : kd < 103) : cel g y w o = .inl (g.dA kd, n, .inl (fun j => Int32.ofInt (w o j))) := by
  unfold cel; rw [h]; simp [h1, h2]
theorem cel_q {o kd n : Nat} (h : y.ly o = (kd, n)) (h2 : ¬ kd < 103) : cel g y w o = .inl (g.dA kd, n, .inr (.inr (.inr (.inr (fun j => if w o j < 0 then none else some (g.ad (w o j).toNat)))))) := by
  have h1 : ¬ kd < 100 := by omega
  unfold cel; rw [h]; simp [h1, h2]
theorem ws_up {o k : Nat} {x : Int} : wsl g y (up w o k x) = (wsl g y w).set o (g.ad o, cel g y (up w o k x) o) := by
  apply List.ext_getElem?
  intro i
  rw [List.getElem?_set]
  by_cases hi : i < y.nn
  · rw [ws_at hi]
    by_cases hio : o = i
    · subst hio
      rw [if_pos rfl, if_pos (by simp [wsl, hi])]
    · rw [if_neg hio, ws_at hi]
      congr 2
      have e : ∀ b, up w o k x i b = w i b := fun b => up_ne w x (fun z => hio z.1.symm)
      unfold cel
      simp only [e]
  · have h1 : (wsl g y (up w o k x))[i]? = none := by simp [wsl]; omega
    have h2 : (wsl g y w)[i]? = none := by simp [wsl]; omega
    rw [h1]
    by_cases hio : o = i
    · subst hio
      rw [if_pos rfl, if_neg (by simp [wsl]; omega)]
    · rw [if_neg hio, h2]
theorem wsD (hI : Inj g y) : va_D (AA g y) (wsl g y w) := by
  refine ⟨fun i j p q hp hq e => ?_, fun k q hq => ?_⟩
  · obtain ⟨h1, rfl⟩ := ws_get hp
    obtain ⟨h2, rfl⟩ := ws_get hq
    exact hI i j h1 h2 e
  · obtain ⟨h1, rfl⟩ := ws_get hq
    exact ⟨k, h1, rfl⟩
/-- the new world is held too -/
theorem hol_up {H H1 : Heap} {o k : Nat} {x : Int} (h : Hol g y w H) (hr : rng y o k x) (hf : y.rf o k = none) (hP : va_P g.D cls_ ((wsl g y w).set o (g.ad o, cel g y (up w o k x) o)) H1) : Hol g y (up w o k x) H1 := by
  refine ⟨by rw [ws_up]; exact hP, fun a ha b hb => ?_, fun a b r hab => ?_⟩
  · by_cases e : a = o ∧ b = k
    · obtain ⟨rfl, rfl⟩ := e
      rw [up_same]; exact hr
    · rw [up_ne w x e]; exact h.2.1 a ha b hb
  · by_cases e : a = o ∧ b = k
    · obtain ⟨rfl, rfl⟩ := e
      rw [hf] at hab; cases hab
    · rw [up_ne w x e]; exact h.2.2 a b r hab
theorem cls_in : ∀ (ci : Nat) (q : vw_C), cls_[ci]? = some q → ∀ w ∈ u_ws q.1 q.2.1 q.2.2, w ∈ lw_g := by
  intro ci q h
  match ci, h with
  | 0, h => cases h; exact lays_g cI0
  | 1, h => cases h; exact lays_g cI1
  | 2, h => cases h; exact lays_g cI2
  | 3, h => cases h; exact lays_g cI3
  | 4, h => cases h; exact lays_g cI4
  | 5, h => cases h; exact lays_g cI5
  | 6, h => cases h; exact lays_g cI6
  | 7, h => cases h; exact lays_g cI7
  | 8, h => cases h; exact lays_g cI8
  | 9, h => cases h; exact lays_g cI9
  | 10, h => cases h; exact lays_g cI10
  | 11, h => cases h; exact lays_g cI11
  | 12, h => cases h; exact lays_g cI12
  | 13, h => cases h; exact lays_g cI13
  | n + 14, h => simp [cls_] at h
theorem cls_ty : ∀ (ci : Nat) (q : vw_C), cls_[ci]? = some q → ∀ k, k < q.2.2 → parseFieldDescriptor (q.2.1 k).2.2.1 = some (fty ci k) := by
  intro ci q h
  match ci, h with
  | 0, h => cases h; exact cO0
  | 1, h => cases h; exact cO1
  | 2, h => cases h; exact cO2
  | 3, h => cases h; exact cO3
  | 4, h => cases h; exact cO4
  | 5, h => cases h; exact cO5
  | 6, h => cases h; exact cO6
  | 7, h => cases h; exact cO7
  | 8, h => cases h; exact cO8
  | 9, h => cases h; exact cO9
  | 10, h => cases h; exact cO10
  | 11, h => cases h; exact cO11
  | 12, h => cases h; exact cO12
  | 13, h => cases h; exact cO13
  | n + 14, h => simp [cls_] at h
theorem cls_nm : ∀ (ci : Nat) (q : vw_C), cls_[ci]? = some q → ∀ a, a < q.2.2 → ∀ b, b < q.2.2 → a ≠ b → (q.2.1 a).2.1 ≠ (q.2.1 b).2.1 := by
  intro ci q h
  match ci, h with
  | 0, h => cases h; exact cN0
  | 1, h => cases h; exact cN1
  | 2, h => cases h; exact cN2
  | 3, h => cases h; exact cN3
  | 4, h => cases h; exact cN4
  | 5, h => cases h; exact cN5
  | 6, h => cases h; exact cN6
  | 7, h => cases h; exact cN7
  | 8, h => cases h; exact cN8
  | 9, h => cases h; exact cN9
  | 10, h => cases h; exact cN10
  | 11, h => cases h; exact cN11
  | 12, h => cases h; exact cN12
  | 13, h => cases h; exact cN13
  | n + 14, h => simp [cls_] at h
/-- entry i of class own names field k of class number ci, which has N -/
def FL (own : String) (i ci k N : Nat) : Prop := ∃ (C : String) (T : u_T), cls_[ci]? = some (C, T, N) ∧ k < N ∧ ci < 100 ∧ ((T k).2.2.2 = false ∨ True) ∧ (Cond.fieldLink own i (T k).1 (T k).2.1 (T k).2.2.1 ∈ lw_g)
/-- the same, the field not final -/
def FP (own : String) (i ci k N : Nat) : Prop := ∃ (C : String) (T : u_T), cls_[ci]? = some (C, T, N) ∧ k < N ∧ ci < 100 ∧ (T k).2.2.2 = false ∧ (Cond.fieldLink own i (T k).1 (T k).2.1 (T k).2.2.1 ∈ lw_g)
theorem v_getf {o i ci k N : Nat} {v : AV} (hd : decode J.cc pc = .ok (.getfield i, 3)) (hf : FL J.own i ci k N) (ho : o < y.nn) (hly : y.ly o = (ci, N)) (hv : cfv g (fty ci k) (w o k) = cv g v) (hok : rng y o k (w o k) → okv v) (kk : V g y J d K (pc + 3) ls (v :: st) w) : V g y J d K pc ls (vA o :: st) w := by
  obtain ⟨C, T, hc, hk, hci, -, hlk⟩ := hf
  intro p e s m args below meth c A0 H locs lsA hH hS hl hlo hst
  obtain ⟨h1, h2, h3, h4, h5, h6, h7, h8, h9, h10, h11⟩ := A0
  have hat := ws_at (g := g) (w := w) ho
  rw [cel_o hly hci] at hat
  refine va_get (D := g.D) (cl := cls_) (C := C) (T := T) (N := N) (ci := ci) (index := i) (own := J.own) (ref := (T k).1) h1 h2 h7 (cls_in ci _ hc) h6 h8 hH.1 o hat hc k hk (h7 _ hlk) (fun _ h => h) (v := cv g v) (by simp [hk, hv]) hd ?_
  exact kk p e s m args below meth c ⟨h1, h2, h3, h4, h5, h6, h7, h8, h9, h10, h11⟩ H locs lsA hH hS hl hlo (ok_cons (hok (hH.2.1 o ho k (by rw [hly]; exact hk))) (ok_tl hst))
theorem v_geti {o i ci k N : Nat} {x : Int} (hd : decode J.cc pc = .ok (.getfield i, 3)) (hf : FL J.own i ci k N) (ho : o < y.nn) (hly : y.ly o = (ci, N)) (ht : fty ci k = .int ∨ fty ci k = .boolean) (hx : w o k = x) (kk : V g y J d K (pc + 3) ls (vI x :: st) w) : V g y J d K pc ls (vA o :: st) w := by
  subst hx
  refine v_getf (v := vI (w o k)) hd hf ho hly ?_ (fun h => h.I) kk
  rcases ht with h | h <;> rw [h] <;> rfl
theorem v_getr {o i ci k N r : Nat} {C : String} (hd : decode J.cc pc = .ok (.getfield i, 3)) (hf : FL J.own i ci k N) (ho : o < y.nn) (hly : y.ly o = (ci, N)) (ht : (∃ C, fty ci k = .object C) ∨ ∃ t, fty ci k = .array t) (hr : y.rf o k = some r) (kk : V g y J d K (pc + 3) ls (vA r :: st) w) : V g y J d K pc ls (vA o :: st) w := by
  intro p e s m args below meth c A0 H locs lsA hH hS hl hlo hst
  have hw := hH.2.2 o k r hr
  refine v_getf (v := vA r) hd hf ho hly ?_ (fun _ => trivial) kk p e s m args below meth c A0 H locs lsA hH hS hl hlo hst
  rw [hw]
  have hn : ¬ ((r : Int) < 0) := by omega
  rcases ht with ⟨C, h⟩ | ⟨t, h⟩ <;> rw [h] <;> simp [cfv, cv, hn]
theorem v_getd {o i ci k N r : Nat} (hd : decode J.cc pc = .ok (.getfield i, 3)) (hf : FL J.own i ci k N) (ho : o < y.nn) (hly : y.ly o = (ci, N)) (ht : (∃ C, fty ci k = .object C) ∨ ∃ t, fty ci k = .array t) (hr : w o k = (r : Int)) (kk : V g y J d K (pc + 3) ls (vA r :: st) w) : V g y J d K pc ls (vA o :: st) w := by
  refine v_getf (v := vA r) hd hf ho hly ?_ (fun _ => trivial) kk
  rw [hr]
  have hn : ¬ ((r : Int) < 0) := by omega
  rcases ht with ⟨C, h⟩ | ⟨t, h⟩ <;> rw [h] <;> simp [cfv, cv, hn]
theorem v_putf {o i ci k N : Nat} {v : AV} {x : Int} (hd : decode J.cc pc = .ok (.putfield i, 3)) (hf : FP J.own i ci k N) (ho : o < y.nn) (hly : y.ly o = (ci, N)) (hrf : y.rf o k = none) (hv : cfv g (fty ci k) x = cv g v) (hn : narrow (fty ci k) (cv g v) = cv g v) (hfit : fits (fty ci k) (cv g v) = true) (hok : okv v → rng y o k x) (kk : V g y J d K (pc + 3) ls st (up w o k x)) : V g y J d K pc ls (v :: vA o :: st) w := by
  obtain ⟨C, T, hc, hk, hci, hfin, hlk⟩ := hf
  intro p e s m args below meth c A0 H locs lsA hH hS hl hlo hst
  obtain ⟨h1, h2, h3, h4, h5, h6, h7, h8, h9, h10, h11⟩ := id A0
  have hat := ws_at (g := g) (w := w) ho
  rw [cel_o hly hci] at hat
  have hset : ((List.range N).map (fun k => cfv g (fty ci k) (w o k))).set k (cv g v) = (List.range N).map (fun j => cfv g (fty ci j) (up w o k x o j)) := by
    apply List.ext_getElem?
    intro j
    rw [List.getElem?_set]
    by_cases hj : j < N
    · by_cases hjk : k = j
      · subst hjk
        rw [if_pos rfl]
        simp [hj, up_same, hv]
      · rw [if_neg hjk]
        have e : up w o k x o j = w o j := up_ne w x (fun z => hjk z.2.symm)
        simp [hj, e]
    · by_cases hjk : k = j
      · omega
      · rw [if_neg hjk]; simp [hj]
  refine va_put (D := g.D) (cl := cls_) (C := C) (T := T) (N := N) (ci := ci) (index := i) (own := J.own) (ref := (T k).1) h1 h2 h7 (cls_in ci _ hc) (fty ci) (cls_ty ci _ hc) (cls_nm ci _ hc) h6 h8 hH.1 (wsD h10) hS o hat hc k hk (h7 _ hlk) (fun _ h => h) hfin (v := cv g v) (cls_ty ci _ hc k hk) hn hfit (by simpa using hk) hd (fun H1 locs1 hP1 hD1 hS1 => ?_)
  rw [hset, ← cel_o (w := up w o k x) hly hci] at hP1
  exact kk p e s m args below meth c A0 H1 locs1 lsA (hol_up hH (hok (ok_hd hst)) hrf hP1) hS1 hl hlo (ok_tl (ok_tl hst))
theorem v_puti {o i ci k N : Nat} {x : Int} (hd : decode J.cc pc = .ok (.putfield i, 3)) (hf : FP J.own i ci k N) (ho : o < y.nn) (hly : y.ly o = (ci, N)) (hrf : y.rf o k = none) (ht : fty ci k = .int) (kk : V g y J d K (pc + 3) ls st (up w o k x)) : V g y J d K pc ls (vI x :: vA o :: st) w := by
  have hci : ci < 100 := hf.choose_spec.choose_spec.2.2.1
  refine v_putf hd hf ho hly hrf (by rw [ht]; rfl) (by rw [ht]; rfl) (by rw [ht]; rfl) (fun h => ?_) kk
  unfold rng
  rw [hly]
  simp only [ht]
  rw [if_neg (by omega), if_neg (by simp; omega)]
  exact h
theorem v_putz {o i ci k N : Nat} {x : Int} (hd : decode J.cc pc = .ok (.putfield i, 3)) (hf : FP J.own i ci k N) (ho : o < y.nn) (hly : y.ly o = (ci, N)) (hrf : y.rf o k = none) (ht : fty ci k = .boolean) (hx : x = 0 ∨ x = 1) (kk : V g y J d K (pc + 3) ls st (up w o k x)) : V g y J d K pc ls (vI x :: vA o :: st) w := by
  have hci : ci < 100 := hf.choose_spec.choose_spec.2.2.1
  refine v_putf hd hf ho hly hrf (by rw [ht]; rfl) (by rw [ht]; rcases hx with rfl | rfl <;> rfl) (by rw [ht]; rcases hx with rfl | rfl <;> rfl) (fun h => ?_) kk
  unfold rng
  rw [hly]
  simp only [ht]
  rw [if_neg (by omega), if_pos (by simp; omega)]
  omega
theorem v_putr {o i ci k N r : Nat} {C : String} (hd : decode J.cc pc = .ok (.putfield i, 3)) (hf : FP J.own i ci k N) (ho : o < y.nn) (hly : y.ly o = (ci, N)) (hrf : y.rf o k = none) (ht : fty ci k = .object C) (hr : r < 1000) (kk : V g y J d K (pc + 3) ls st (up w o k (r : Int))) : V g y J d K pc ls (vA r :: vA o :: st) w := by
  have hci : ci < 100 := hf.choose_spec.choose_spec.2.2.1
  have hn : ¬ ((r : Int) < 0) := by omega
  refine v_putf (x := (r : Int)) hd hf ho hly hrf (by rw [ht]; simp [cfv, cv, hn]) (by rw [ht]; rfl) (by rw [ht]; rfl) (fun h => ?_) kk
  unfold rng
  rw [hly]
  simp only [ht]
  rw [if_neg (by omega), if_neg (by simp; omega)]
  constructor <;> omega
theorem in_of {i : Int} {n : Nat} (hi : inI i) (h : 0 ≤ i ∧ i < (n : Int)) : vp_in (Int32.ofInt i) n := by
  rw [vp_in_iff, i_to, wr_id hi]; exact h
theorem v_iald {o n : Nat} {i x : Int} (hd : decode J.cc pc = .ok (.iaload, 1)) (ho : o < y.nn) (hly : y.ly o = (100, n)) (hx : w o i.toNat = x) (hb : 0 ≤ i ∧ i < (n : Int)) (kk : V g y J d K (pc + 1) ls (vI x :: st) w) : V g y J d K pc ls (vI i :: vA o :: st) w := by
  subst hx
  intro p e s m args below meth c A0 H locs lsA hH hS hl hlo hst
  have hat := ws_at (g := g) (w := w) ho
  rw [cel_a hly (by decide) (by decide)] at hat
  refine va_iald (D := g.D) (cl := cls_) A0.1 A0.2.1 A0.2.2.2.2.2.2.2.1 hH.1 o 0 hat rfl (in_of (ok_hd hst) hb) hd ?_
  rw [i_nat (ok_hd hst)]
  exact kk p e s m args below meth c A0 H locs lsA hH hS hl hlo (ok_cons (hH.2.1 o ho i.toNat (by rw [hly]; simp; omega)).I (ok_tl (ok_tl hst)))
theorem v_bald {o n : Nat} {i x : Int} (hd : decode J.cc pc = .ok (.baload, 1)) (ho : o < y.nn) (hly : y.ly o = (101, n)) (hx : w o i.toNat = x) (hb : 0 ≤ i ∧ i < (n : Int)) (kk : V g y J d K (pc + 1) ls (vI x :: st) w) : V g y J d K pc ls (vI i :: vA o :: st) w := by
  subst hx
  intro p e s m args below meth c A0 H locs lsA hH hS hl hlo hst
  have hat := ws_at (g := g) (w := w) ho
  rw [cel_a hly (by decide) (by decide)] at hat
  refine va_bald (D := g.D) (cl := cls_) A0.1 A0.2.1 A0.2.2.2.2.2.2.2.1 hH.1 o 1 hat rfl (in_of (ok_hd hst) hb) hd ?_
  rw [i_nat (ok_hd hst)]
  exact kk p e s m args below meth c A0 H locs lsA hH hS hl hlo (ok_cons (hH.2.1 o ho i.toNat (by rw [hly]; simp; omega)).I (ok_tl (ok_tl hst)))
theorem v_zald {o n : Nat} {i x : Int} (hd : decode J.cc pc = .ok (.baload, 1)) (ho : o < y.nn) (hly : y.ly o = (102, n)) (hx : w o i.toNat = x) (hb : 0 ≤ i ∧ i < (n : Int)) (kk : V g y J d K (pc + 1) ls (vI x :: st) w) : V g y J d K pc ls (vI i :: vA o :: st) w := by
  subst hx
  intro p e s m args below meth c A0 H locs lsA hH hS hl hlo hst
  have hat := ws_at (g := g) (w := w) ho
  rw [cel_a hly (by decide) (by decide)] at hat
  refine va_zald (D := g.D) (cl := cls_) A0.1 A0.2.1 A0.2.2.2.2.2.2.2.1 hH.1 o 2 hat rfl (in_of (ok_hd hst) hb) hd ?_
  rw [i_nat (ok_hd hst)]
  exact kk p e s m args below meth c A0 H locs lsA hH hS hl hlo (ok_cons (hH.2.1 o ho i.toNat (by rw [hly]; simp; omega)).I (ok_tl (ok_tl hst)))
theorem upd_up {o k : Nat} {x : Int} : upd (fun j => Int32.ofInt (w o j)) k (Int32.ofInt x) = fun j => Int32.ofInt (up w o k x o j) := by
  funext j
  by_cases hj : j = k
  · subst hj; simp [upd, up]
  · simp [upd, up, hj]
theorem v_iast {o n : Nat} {i x : Int} (hd : decode J.cc pc = .ok (.iastore, 1)) (ho : o < y.nn) (hly : y.ly o = (100, n)) (hrf : y.rf o i.toNat = none) (hb : 0 ≤ i ∧ i < (n : Int)) (kk : V g y J d K (pc + 1) ls st (up w o i.toNat x)) : V g y J d K pc ls (vI x :: vI i :: vA o :: st) w := by
  intro p e s m args below meth c A0 H locs lsA hH hS hl hlo hst
  have hat := ws_at (g := g) (w := w) ho
  rw [cel_a hly (by decide) (by decide)] at hat
  refine va_iast (D := g.D) (cl := cls_) A0.1 A0.2.1 A0.2.2.2.2.2.2.2.1 hH.1 (wsD A0.2.2.2.2.2.2.2.2.2.1) hS o 0 hat rfl (in_of (ok_hd (ok_tl hst)) hb) hd (fun H1 locs1 hP1 hD1 hS1 => ?_)
  rw [i_nat (ok_hd (ok_tl hst)), upd_up, ← cel_a (w := up w o i.toNat x) hly (by decide) (by decide)] at hP1
  refine kk p e s m args below meth c A0 H1 locs1 lsA (hol_up hH ?_ hrf hP1) hS1 hl hlo (ok_tl (ok_tl (ok_tl hst)))
  unfold rng; rw [hly]; simp; exact ok_hd hst
theorem nar_b (x : Int) : vp_nar .byte (Int32.ofInt x) = Int32.ofInt (i2bF x) := by rw [vp_nar_byte, i2bF, i_of]
theorem i2b_in (x : Int) : -128 ≤ i2bF x ∧ i2bF x ≤ 127 := by
  unfold i2bF
  rw [Int8.toInt_toInt32]
  have h1 := Int8.minValue_le_toInt (Int32.ofInt x).toInt8
  have h2 := Int8.toInt_le (Int32.ofInt x).toInt8
  exact ⟨h1, h2⟩
theorem v_bast {o n : Nat} {i x : Int} (hd : decode J.cc pc = .ok (.bastore, 1)) (ho : o < y.nn) (hly : y.ly o = (101, n)) (hrf : y.rf o i.toNat = none) (hb : 0 ≤ i ∧ i < (n : Int)) (kk : V g y J d K (pc + 1) ls st (up w o i.toNat (i2bF x))) : V g y J d K pc ls (vI x :: vI i :: vA o :: st) w := by
  intro p e s m args below meth c A0 H locs lsA hH hS hl hlo hst
  have hat := ws_at (g := g) (w := w) ho
  rw [cel_a hly (by decide) (by decide)] at hat
  refine va_bast (D := g.D) (cl := cls_) A0.1 A0.2.1 A0.2.2.2.2.2.2.2.1 hH.1 (wsD A0.2.2.2.2.2.2.2.2.2.1) hS o 1 hat rfl (in_of (ok_hd (ok_tl hst)) hb) hd (fun H1 locs1 hP1 hD1 hS1 => ?_)
  rw [i_nat (ok_hd (ok_tl hst)), nar_b, upd_up, ← cel_a (w := up w o i.toNat (i2bF x)) hly (by decide) (by decide)] at hP1
  refine kk p e s m args below meth c A0 H1 locs1 lsA (hol_up hH ?_ hrf hP1) hS1 hl hlo (ok_tl (ok_tl (ok_tl hst)))
  unfold rng; rw [hly]; simp; exact i2b_in x
theorem v_zast {o n : Nat} {i x : Int} (hd : decode J.cc pc = .ok (.bastore, 1)) (ho : o < y.nn) (hly : y.ly o = (102, n)) (hrf : y.rf o i.toNat = none) (hx : x = 0 ∨ x = 1) (hb : 0 ≤ i ∧ i < (n : Int)) (kk : V g y J d K (pc + 1) ls st (up w o i.toNat x)) : V g y J d K pc ls (vI x :: vI i :: vA o :: st) w := by
  intro p e s m args below meth c A0 H locs lsA hH hS hl hlo hst
  have hat := ws_at (g := g) (w := w) ho
  rw [cel_a hly (by decide) (by decide)] at hat
  have hnz : vp_nar .boolean (Int32.ofInt x) = Int32.ofInt x := by rcases hx with rfl | rfl <;> rfl
  refine va_zast (D := g.D) (cl := cls_) A0.1 A0.2.1 A0.2.2.2.2.2.2.2.1 hH.1 (wsD A0.2.2.2.2.2.2.2.2.2.1) hS o 2 hat rfl (in_of (ok_hd (ok_tl hst)) hb) hd (fun H1 locs1 hP1 hD1 hS1 => ?_)
  rw [i_nat (ok_hd (ok_tl hst)), hnz, upd_up, ← cel_a (w := up w o i.toNat x) hly (by decide) (by decide)] at hP1
  refine kk p e s m args below meth c A0 H1 locs1 lsA (hol_up hH ?_ hrf hP1) hS1 hl hlo (ok_tl (ok_tl (ok_tl hst)))
  unfold rng; rw [hly]; simp; omega
theorem v_aald {o kd n r : Nat} {i : Int} (hd : decode J.cc pc = .ok (.aaload, 1)) (ho : o < y.nn) (hly : y.ly o = (kd, n)) (hkd : kd = 103 ∨ kd = 104) (hb : 0 ≤ i ∧ i < (n : Int)) (hr : y.rf o i.toNat = some r) (kk : V g y J d K (pc + 1) ls (vA r :: st) w) : V g y J d K pc ls (vI i :: vA o :: st) w := by
  intro p e s m args below meth c A0 H locs lsA hH hS hl hlo hst
  have hat := ws_at (g := g) (w := w) ho
  rw [cel_q hly (by omega)] at hat
  have hw := hH.2.2 o _ r hr
  have hn : ¬ ((r : Int) < 0) := by omega
  have kk' := kk p e s m args below meth c A0 H locs lsA hH hS hl hlo (ok_cons trivial (ok_tl (ok_tl hst)))
  rcases hkd with rfl | rfl
  · refine va_aldq (D := g.D) (cl := cls_) A0.1 A0.2.1 A0.2.2.2.2.2.2.2.1 hH.1 o 3 hat rfl (in_of (ok_hd hst) hb) hd ?_
    rw [i_nat (ok_hd hst), hw, if_neg hn]
    exact kk'
  · refine va_aldq (D := g.D) (cl := cls_) A0.1 A0.2.1 A0.2.2.2.2.2.2.2.1 hH.1 o 4 hat rfl (in_of (ok_hd hst) hb) hd ?_
    rw [i_nat (ok_hd hst), hw, if_neg hn]
    exact kk'
theorem v_alen {o kd n : Nat} (hd : decode J.cc pc = .ok (.arraylength, 1)) (ho : o < y.nn) (hly : y.ly o = (kd, n)) (hkd : kd = 100 ∨ kd = 101 ∨ kd = 102 ∨ kd = 103 ∨ kd = 104) (hn : n < 1000000) (kk : V g y J d K (pc + 1) ls (vI (n : Int) :: st) w) : V g y J d K pc ls (vA o :: st) w := by
  intro p e s m args below meth c A0 H locs lsA hH hS hl hlo hst
  have hat := ws_at (g := g) (w := w) ho
  have kk' := kk p e s m args below meth c A0 H locs lsA hH hS hl hlo (ok_cons (by constructor <;> omega) (ok_tl hst))
  have hv : Int32.ofNat n = Int32.ofInt (n : Int) := rfl
  rcases hkd with rfl | rfl | rfl | rfl | rfl
  · rw [cel_a hly (by decide) (by decide)] at hat
    exact va_alen (D := g.D) (cl := cls_) A0.1 A0.2.1 A0.2.2.2.2.2.2.2.1 hH.1 o 0 hat rfl hv hd kk'
  · rw [cel_a hly (by decide) (by decide)] at hat
    exact va_alen (D := g.D) (cl := cls_) A0.1 A0.2.1 A0.2.2.2.2.2.2.2.1 hH.1 o 1 hat rfl hv hd kk'
  · rw [cel_a hly (by decide) (by decide)] at hat
    exact va_alen (D := g.D) (cl := cls_) A0.1 A0.2.1 A0.2.2.2.2.2.2.2.1 hH.1 o 2 hat rfl hv hd kk'
  · rw [cel_q hly (by decide)] at hat
    exact va_alen (D := g.D) (cl := cls_) A0.1 A0.2.1 A0.2.2.2.2.2.2.2.1 hH.1 o 3 hat rfl hv hd kk'
  · rw [cel_q hly (by decide)] at hat
    exact va_alen (D := g.D) (cl := cls_) A0.1 A0.2.1 A0.2.2.2.2.2.2.2.1 hH.1 o 4 hat rfl hv hd kk'
end RowsB
