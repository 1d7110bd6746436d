/-! ===== the law: its frame, calls out of it ===== -/
theorem Old.mono {g : Mg} {A A' : Nat → Prop} {U : State} {H : Heap} (h : Old g A U H) (hA : ∀ q, A' q → A q) : Old g A' U H := by
  have z : ∀ {C n d : String} {v : Value}, va_Z C n d v A U H → va_Z C n d v A' U H := by
    rintro C n d v ⟨cf, kf, fi, f, a, cell, h1, h2, h3, h4, h5, h6, h7, h8⟩
    exact ⟨cf, kf, fi, f, a, cell, h1, h2, h3, h4, h5, h6, h7, fun q => h8 (hA _ q)⟩
  have t : ∀ {ty : FieldType} {t N : Nat} {f : Nat → Value}, va_T ty t N f A U H → va_T ty t N f A' U H := by
    rintro ty t N f ⟨cell, h1, h2, h3, h4, h5, h6, h7⟩
    exact ⟨cell, h1, h2, h3, h4, h5, h6, fun q => h7 (hA _ q)⟩
  obtain ⟨h1, h2, h3, h4, h5, h7, h6⟩ := h
  refine ⟨z h1, t h2, z h3, fun i hi => ?_, h5, ?_, h6⟩
  · obtain ⟨⟨cell, a1, a2, a3, a4⟩, ⟨cf, k, j, f, cell2, b1, b2, b3, b4, b5, b6⟩, ⟨cf3, k3, j3, f3, cell3, c1, c2, c3, c4, c5, c6⟩, q4⟩ := h4 i hi
    exact ⟨⟨cell, a1, a2, a3, fun q => a4 (hA _ q)⟩, ⟨cf, k, j, f, cell2, b1, b2, b3, b4, b5, fun q => b6 (hA _ q)⟩, ⟨cf3, k3, j3, f3, cell3, c1, c2, c3, c4, c5, fun q => c6 (hA _ q)⟩, t q4⟩
  · rcases h7 with h7 | ⟨t', h7⟩
    · exact Or.inl (z h7)
    · exact Or.inr ⟨t', z h7⟩
theorem Hol.kept {g : Mg} {y : Ly} {w : Wd} {H H1 : Heap} (h : Hol g y w H) (hk : ∀ o, o < y.nn → H1[g.ad o]? = H[g.ad o]?) : Hol g y w H1 := by
  refine ⟨h.1.kept (fun k x hx => ?_), h.2⟩
  unfold wsl at hx
  rw [List.getElem?_map] at hx
  cases hr : (List.range y.nn)[k]? with
  | none => rw [hr] at hx; cases hx
  | some o =>
    rw [hr] at hx
    have hx := Option.some.inj hx
    have ho := List.mem_range.mp (List.mem_of_getElem? hr)
    rw [← hx]
    exact hk o ho
/-- the model's cells, counted from its own -/
def gM (g : Mg) : Mg := (g.1, (fun o => if o < 54 then g.ad (105 + o) else g.ad o), g.2.2.1, g.2.2.2)
theorem gM_hi {g : Mg} {o : Nat} (h : ¬ o < 54) : (gM g).ad o = g.ad o := if_neg h
theorem gM_lo {g : Mg} {o : Nat} (h : o < 54) : (gM g).ad o = g.ad (105 + o) := if_pos h
theorem Old.gm {g : Mg} {A : Nat → Prop} {U : State} {H : Heap} (h : Old g A U H) : Old (gM g) A U H := by
  obtain ⟨h1, h2, h3, h4, h5, h7, h6⟩ := h
  refine ⟨?_, ?_, h3, fun i hi => ?_, fun q hq => ?_, h7, h6⟩
  · rw [gM_hi (by decide)]; exact h1
  · rw [gM_hi (by decide)]; exact h2
  · rw [gM_hi (by omega), gM_hi (by omega)]; exact h4 i hi
  · rw [gM_hi (by omega)]; exact h5 q hq
section LawCall
variable {p : Program} {e : Env} {s : State} {m : MethodId} {below : List Frame} {meth : Method} {c : Code} {b L : Nat} {xs : Nat → Int32} {H : Heap} {locs : List Loc} {lsA : Array Slot} {ce sl pc : Nat} {Q : State → Prop} {A : Nat → Prop}
theorem law_call {g : Mg} {y : Ly} {w : Wd} {J' : Jm} {d' idx o ci N n : Nat} {T : u_T} {I : List Int} {K' : Ou → Wd → Prop} {rest : List Value} (C0 : lw_At p s m meth c b L xs) (hK : va_K g.D cls_ (tysl g) s) (hO : Old g (AA g y) s s.heap) (hI : Inj g y) (hH : Hol g y w H) (hS : va_S A s.heap H locs) (hAA : ∀ q, AA g y q → A q) (hA0 : ∀ q : Nat, q < s.heap.size → ¬ A q) (hls : lsA.size = 4) (hd' : d' ≤ 1311) (hce : ce ≤ 600128) (hsl : sl ≤ 7301098)
    (hd : decode code pc = .ok (.invokevirtual idx, 3)) (hM : MLV R_law idx J' n) (ho : o < y.nn) (hly : y.ly o = (ci, N)) (hci : ci < 100) (hc : cls_[ci]? = some (J'.y.cls, T, N)) (hn : I.length = n) (hr : (rest.map fun v => v.category).sum ≤ 8) (hok : ∀ x ∈ I, inI x)
    (hC : Cal g y J' d' (vA o :: I.map vI) w K')
    (hk : ∀ (o' : Ou) (w' : Wd) (H1 : Heap) (locs1 : List Loc), K' o' w' → oko o' → Hol g y w' H1 → H.size ≤ H1.size → (∀ q : Nat, q < H.size → ¬ AA g y q → H1[q]? = H[q]?) → va_S A s.heap H1 locs1 → ∃ x : Int, o' = .inl (some (vI x)) ∧ W p g.l e room_1 s m #[Value.ref b] below meth c H1 locs1 ce sl Q (F0 m (pc + 3) lsA (.int (Int32.ofInt x) :: rest))) :
    W p g.l e room_1 s m #[Value.ref b] below meth c H locs ce sl Q (F0 m pc lsA (((I.map vI).map (cv g)).reverse ++ .ref (g.ad o) :: rest)) := by
  obtain ⟨hlk, hins, hsel, hmok⟩ := hM
  obtain ⟨h1, h2, h3, h4, h6, h7t, hX, hbl, h5, hgv⟩ := id C0
  have h7 : ∀ u ∈ lw_g, u.before #[Value.ref b] s = true := fun u hu => h7t u (List.mem_filter.mp hu).1
  intro Tm hT X
  have hstA : ∀ v ∈ vA o :: I.map vI, okv v := ok_cons trivial (fun v hv => by
    obtain ⟨x, hx, rfl⟩ := List.mem_map.mp hv
    exact hok x hx)
  have hat := ws_at (g := g) (w := w) ho
  rw [cel_o hly hci] at hat
  obtain ⟨r, hr1, cellB, hcB, hclB, hvmB, -⟩ := hH.1 o _ hat
  have hrr : r = (J'.y.cls, T, N) := Option.some.inj (hr1.symm.trans hc)
  subst hrr
  obtain ⟨-, hfc, -⟩ := hK.1 ci _ hc
  obtain ⟨mk, methM, hnamed, hmethM, hstM, habM⟩ := Cond.instanceMethod_spec (h7 _ hins)
  obtain ⟨c2, r2, m2, q1, q2, q3, q4, kP, hkP, hkPi⟩ := Cond.selects_spec (h7 _ hsel)
  cases hfc.symm.trans q1
  cases (State.methodFound?_of_named hnamed hmok.2.2.1).symm.trans q2
  cases hnamed.symm.trans q3
  rw [← hclB] at q4
  have hselP : selectMethod e.platform s.vm cellB.cls mk = .method mk := by rw [Launch.admits_selectMethod X.admits]; exact q4
  obtain ⟨methM', hm', hnn⟩ := mok_sig hnamed hmok h7
  cases hmethM.symm.trans hm'
  obtain ⟨vm₁, X₁, hstep₁⟩ := X.invokevirtual h1 h6 (h7 _ hlk) hnamed hmethM hstM hkP hkPi hmok.2.2.1 (a := g.ad o) (cell := cellB) (by rw [hT]; exact hcB)
    (fun z h => by rw [hvmB] at h; cases h) hselP hmethM habM hkP hkPi (g := F0 m pc lsA (((I.map vI).map (cv g)).reverse ++ .ref (g.ad o) :: rest)) rfl (argsL := (I.map vI).map (cv g)) (rest := rest) (by rw [List.length_map, List.length_map, hn, hnn]) rfl (by rw [h2]; exact hd)
  have hW1 : s.WarmedH vm₁ := X₁.warmed
  obtain ⟨o', w', T', Lc, X', hL, hoo, hH', hK', hz, hkk, hsteps⟩ := cal_gen (U := Tm.setVm vm₁) hC X₁ (f := F0 m pc lsA rest) rfl (hls.trans h4.symm) (by rw [h2]; exact hd) (by show 2 * 0 + (rest.map fun v => v.category).sum ≤ 8; omega) (X₁.named hnamed) (by show d' + 1 ≤ 2048; omega) (by show 64 * (d' + 1) ≤ 84000; omega) hce hsl hmok.2.2.2.2
    (fun u hu => lw_at h7 hW1 u (mok_ws hmok u hu)) (lw_at h7 hW1 _ hmok.2.1) hstA (by show Hol g y w Tm.heap; rw [hT]; exact hH) (va_K.moved hW1.alike hK) (by
      have := hO.go (U := Tm.setVm vm₁) (H := H) (fun q hq _ => hS.2.1 q hq (hA0 q hq)) hW1
      show Old g (AA g y) (Tm.setVm vm₁) Tm.heap
      rw [hT]; exact this) hI
  have hheap : (Tm.setVm vm₁).heap = H := hT
  rw [hheap] at hz hkk
  obtain ⟨x, rfl, kW⟩ := hk o' w' T'.heap (locs ++ Lc) hK' hoo hH' hz hkk ⟨Nat.le_trans hS.1 hz, fun q hq hA => (hkk q (Nat.lt_of_lt_of_le hq hS.1) (fun z => hA (hAA q z))).trans (hS.2.1 q hq hA), fun l hl => by
    rcases List.mem_append.mp hl with z | z
    · exact hS.2.2 l z
    · exact hAA _ (hL l z)⟩
  obtain ⟨t, ht1, ht2⟩ := kW T' rfl X'
  refine ⟨t, hstep₁ t fun acts => ?_, ht2⟩
  rw [doInvoke_state]
  exact hsteps.trans ht1
end LawCall
