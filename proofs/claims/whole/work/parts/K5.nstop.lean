/-! ===== the model's Stop is made ===== -/
section NStop
variable {g : Mg} {ly : Nat → Nat × Nat} {sz : Nat → Nat} {lo n : Nat} {J : Jm} {d k0 k1 : Nat} {K : Wd → Prop} {pc : Nat} {ls : List (Nat × AV)} {st : List AV} {k : Nat} {w : Wd}
theorem slot_one {s : State} {C f t : String} {i j : Nat} (h1 : SlotIs s C f t i) (h2 : SlotIs s C f t j) : i = j := by
  obtain ⟨cf, kf, fi, fd, a1, rfl⟩ := h1
  obtain ⟨cf2, kf2, fi2, fd2, b1, rfl⟩ := h2
  cases a1.symm.trans b1
  rfl
theorem n_stop {i idx : Nat} (hd : decode J.cc pc = .ok (.new i, 3)) (hd2 : decode J.cc (pc + 3) = .ok (.dup, 1)) (hd3 : decode J.cc (pc + 4) = .ok (.invokespecial idx, 3)) (hcl : Cond.classLink J.own i cR12 ∈ lw_g) (hins : Cond.instantiable cR12 8 ∈ lw_g) (hini : Cond.initialized cR12 ∈ lw_g) (hlk : Cond.methodLink J.own idx jSt_init.y ∈ lw_g) (hly : ly k = (12, 2)) (hkn : k < n) (hk1 : k + 1 ≤ k1) (hsz : sz (k + 1) = sz k + 8) (hs1 : sz (k + 1) ≤ sz k1) (hdd : 6 ≤ d) (hr : (st.map aw).sum ≤ 4)
    (kk : NV g ly sz lo n J d k0 k1 K (pc + 7) ls (vA k :: st) (k + 1) w) : NV g ly sz lo n J d k0 k1 K pc ls st k w := by
  intro p e s m args below meth c A0 H locs lsA ce sl hce hsl hH hS hl hlo hst
  obtain ⟨⟨h1, h2, h3, h4, h5, h6, h7, h8⟩, hK, hO, hX, had, hs0⟩ := id A0
  have hadk := had k hkn
  have hKn := hK.1 12 _ rfl
  obtain ⟨cC, iS, hKn8⟩ := u_known (C := cR12) (T := cTS) (N := 8) (n := 8) h7 cIS (h7 _ hins)
  obtain ⟨D8, hD8⟩ : ∃ D8 : va_G, D8 = ((fun _ => cC), (fun _ => iS)) := ⟨_, rfl⟩
  have hK8 : va_K D8 cl8 [] s := by
    subst hD8
    refine ⟨fun c q hq => ?_, fun j q hq => by simp at hq⟩
    match c, hq with
    | 0, hq => cases hq; exact hKn8
    | c + 1, hq => simp [cl8] at hq
  have hcc : cC = g.D.1 12 := Option.some.inj (hKn8.2.1.symm.trans hKn.2.1)
  refine W.newcK h1 h2 h6 (h7 _ hcl) (h7 _ hins) (h7 _ hini) rfl hd (by show ce + 1 ≤ k1 - k0; omega) (by show sl + 8 ≤ sz k1 - sz k0; omega) hKn8.2.1 hH.2.1 fun H1 kC hkC e1 z1 o1 => ?_
  have hP8 : va_P D8 cl8 [(lo + k, .inr (0, (List.range 8).map (fun j => defaultValue (ty8 j))))] H1 := by
    intro j x hx
    have hz : j < 1 := (List.getElem?_eq_some_iff.mp hx).1
    rw [show j = 0 by omega] at hx
    cases hx
    refine ⟨_, rfl, ?_⟩
    rw [hD8]
    refine (u_born ty8 h7 cIS hKn8 hkC e1 ty8_ok).to (fun j hj => ?_)
    have hj : j < 8 := hj
    simp [vp_V, hj]
  refine lv_dup h1 h2 hd2 rfl ?_
  refine g_call (A := fun q => q = lo + k) (Pre := TPre D8 (lo + k) (.int 0) (.int 0)) (Post := TPost D8 (lo + k) (.int 0) (.int 0)) (R := rmG d (k1 - k0) (sz k1 - sz k0)) (J' := jSt_init) (d' := 5) (mc := 0) (ms := 0) (a := lo + k) (argsL := []) (rest := .ref (lo + k) :: st.map (cv g)) h1 h2 (hl.1.trans h4.symm) h6 h7 hd3 (Or.inl (h7 _ hlk)) iok_St_init rfl ?_ (by show 5 + 1 ≤ d; omega) (by show 64 * (5 + 1) ≤ 64 * d; omega) (by show ce + 1 + 0 ≤ k1 - k0; omega) (by show sl + 8 + 0 ≤ sz k1 - sz k0; omega) (t_St_init (D := D8) (v6 := .int 0) (v7 := .int 0) (by decide)) (fun U hU hW => ?_) (fun H2 L hP hz1 hz2 hkk hL => ?_)
  · rw [List.map_cons, List.sum_cons, cat_sum]
    show 1 + _ ≤ 8
    omega
  · have hS1 := s_new hS hH.2.1 z1 o1
    have hX1 := hX.go (U := U) (H := H1) hS1.2.1 hW
    refine ⟨⟨_, by rw [hU]; exact hP8, by simp, rfl, rfl⟩, va_K.moved hW.alike hK8, ?_, ?_⟩
    · rw [hU]
      rcases hX1.2.2.2.1 with h | ⟨t, h⟩
      · exact Or.inl (h.narrow (fun q hq => by have hq : q = lo + k := hq; show lo ≤ q; omega))
      · exact Or.inr ⟨t, h.narrow (fun q hq => by have hq : q = lo + k := hq; show lo ≤ q; omega)⟩
    · rw [hU]
      rcases hX1.2.2.2.2 with h | ⟨t, h⟩
      · exact Or.inl (h.narrow (fun q hq => by have hq : q = lo + k := hq; show lo ≤ q; omega))
      · exact Or.inr ⟨t, h.narrow (fun q hq => by have hq : q = lo + k := hq; show lo ≤ q; omega)⟩
  · obtain ⟨fs, hPf, hfl, hf6, hf7⟩ := hP
    have hz : H2.size = lo + k + 1 := by omega
    have o2 : ∀ q : Nat, q < lo + k → H2[q]? = H[q]? := fun q hq => (hkk q (by omega) (by omega)).trans (o1 q hq)
    have hat : va_at g.D cls_ (g.ad k, cel g (Lk ly (k + 1)) w k) H2 := by
      rw [cel_o (y := Lk ly (k + 1)) hly (by decide)]
      refine ⟨(cR12, cT12, 2), rfl, ?_⟩
      show t_OB (g.ad k) _ _ _ H2 _
      rw [hadk]
      obtain ⟨r, hr1, cell, q1, q2, q3, q4⟩ := hPf 0 _ rfl
      cases hr1
      rw [hD8] at q2 q4
      refine ⟨cell, q1, q2.trans hcc, q3, fun j hj => ?_⟩
      have hj : j < 2 := hj
      have hw : ∀ j, w k j = dfl ly k j := hH.2.2.2 k (Nat.le_refl _)
      rcases (by omega : j = 0 ∨ j = 1) with rfl | rfl
      · have e6 : g.D.2 12 0 = iS 6 := slot_one (hKn.1 0 (by decide)) (hKn8.1 6 (by decide))
        show cell.slots[g.D.2 12 0]? = _
        rw [e6]
        have q5 := q4 6 (by decide)
        have e7 : vp_V fs 6 = .int 0 := by simp [vp_V, hf6]
        have q5 : cell.slots[iS 6]? = some (vp_V fs 6) := q5
        rw [q5, e7]
        have hw0 := hw 0
        unfold dfl at hw0
        rw [hly] at hw0
        have hw0 : w k 0 = 0 := hw0
        show _ = some (cfv g .int (w k 0))
        rw [hw0]; rfl
      · have e6 : g.D.2 12 1 = iS 7 := slot_one (hKn.1 1 (by decide)) (hKn8.1 7 (by decide))
        show cell.slots[g.D.2 12 1]? = _
        rw [e6]
        have e7 : vp_V fs 7 = .int 0 := by simp [vp_V, hf7]
        have q5 : cell.slots[iS 7]? = some (vp_V fs 7) := q4 7 (by decide)
        rw [q5, e7]
        have hw0 := hw 1
        unfold dfl at hw0
        rw [hly] at hw0
        have hw0 : w k 1 = 0 := hw0
        show _ = some (cfv g .int (w k 1))
        rw [hw0]; rfl
    have hS2 : va_S (up_A lo) s.heap H2 (locs ++ L) := by
      have hS3 := s_new hS hH.2.1 hz o2
      refine ⟨hS3.1, hS3.2.1, fun q hq => ?_⟩
      rcases List.mem_append.mp hq with h | h
      · exact hS.2.2 q h
      · have := hL q h
        show lo ≤ q.base
        omega
    have hk := kk p e s m args below meth c A0 H2 (locs ++ L) lsA (ce + 1 + 0) (sl + 8 + 0) (by omega) (by omega) (hok_new hH hkn hadk hz o2 hat) hS2 hl hlo (ok_cons trivial hst)
    rw [List.map_cons] at hk
    have e9 : cv g (vA k) = .ref (lo + k) := by show Value.ref (g.ad k) = _; rw [hadk]
    rw [e9] at hk
    exact hk
end NStop
