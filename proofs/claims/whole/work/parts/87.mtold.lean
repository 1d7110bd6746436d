/-! ===== the model reads what is told ===== -/
abbrev FMTl : List Nat := [0, 1, 10, 11, 12, 13, 14, 15, 16]
def FMt (w w' : Wd) : Prop := Fx FMTl w w' ∧ ∀ b, b ≠ 11 → b ≠ 20 → w' 0 b = w 0 b
theorem FMt.rf (w : Wd) : FMt w w := ⟨Fx.rf _ w, fun _ _ _ => rfl⟩
theorem FMt.tr {a b c : Wd} (h1 : FMt a b) (h2 : FMt b c) : FMt a c := ⟨h1.1.tr h2.1, fun x p q => (h2.2 x p q).trans (h1.2 x p q)⟩
/-- a row of a told thing -/
def trw (kd : Nat → Nat) (f : Nat → Int) (e : En × Int) : Prop := f 10 = (e.1.2.1 : Int) ∧ f 11 = (e.1.1 : Int) ∧ f 12 = (e.1.2.2.2 : Int) - 1 ∧ (e.1.2.1 = 1 → f 13 = e.2) ∧ (2 ≤ e.1.2.1 → f 13 = e.2 - 35) ∧ (e.1.2.1 = 0 → f 14 = -2 ∧ f 15 = -2) ∧ (e.1.2.1 = 1 → (kd (e.1.1 + 4) = 16 → f 15 = ((e.1.1 + 4 : Nat) : Int) ∧ f 14 = ((e.1.1 + 5 : Nat) : Int)) ∧ (kd (e.1.1 + 4) ≠ 16 → f 15 = -2 ∧ f 14 = ((e.1.1 + 4 : Nat) : Int))) ∧ (2 ≤ e.1.2.1 → f 15 = -2 ∧ f 14 = ((e.1.1 + 2 : Nat) : Int))
def TD (kd : Nat → Nat) (w : Wd) (D : DE) : Prop := w 0 20 = (D.length : Int) ∧ (∀ so, so < 5 → w 16 so = ((cntE so (D.map (fun e => e.1)) : Nat) : Int) ∧ ((cntE so (D.map (fun e => e.1)) : Nat) : Int) ≤ mostL.getD so 0) ∧ (∀ e ∈ D, e.1.2.1 ≤ 3) ∧ ∀ k e, D[k]? = some e → trw kd (fun o => w o k) e
theorem TD.len {kd : Nat → Nat} {w : Wd} {D : DE} (h : TD kd w D) : D.length ≤ 28 := by
  have h1 := SZ.len (w := fun _ s => w 16 s) (E := D.map (fun e => e.1)) ⟨h.2.1, fun e he => by
    obtain ⟨x, hx, rfl⟩ := List.mem_map.mp he
    have := h.2.2.1 x hx
    omega⟩
  rw [List.length_map] at h1
  exact h1.1
/-- while a told thing is read: what has changed, what its row holds -/
def Bt (T : Nat → Int) (L m : Nat) (w w' : Wd) (c : Nat) (f : Nat → Int) : Prop := FMt w w' ∧ (∀ x, x < c → ∀ o, 10 ≤ o → o ≤ 15 → w' o x = w o x) ∧ w' 16 = w 16 ∧ w' 0 20 = w 0 20 ∧ TxM T L m w' ∧ ∀ o, 10 ≤ o → o ≤ 15 → w' o c = f o
section ModelTold
variable {g : Mg} {d D : Nat} {K : Ou → Wd → Prop} {w w' : Wd} {T : Nat → Int} {L m c so : Nat} {f : Nat → Int}
theorem TxM.ft (h : TxM T L m w) (hf : FMt w w') : TxM T L m w' := by
  obtain ⟨h1, h2, h3, h4, h5, h6⟩ := h
  refine ⟨?_, h2, h3, h4, by rw [hf.1 3 (by decide)]; exact h5, h6⟩
  unfold MTk at *
  rw [hf.1 4 (by decide), hf.1 5 (by decide), hf.1 6 (by decide), hf.1 7 (by decide)]
  exact h1
theorem Bt.ro {o : Nat} {v : Int} (h : Bt T L m w w' c f) (ho : 10 ≤ o ∧ o ≤ 15) : Bt T L m w (up w' o c v) c (upv f o v) := by
  obtain ⟨h1, h2, h3, h4, h5, h6⟩ := h
  have hf : FMt w' (up w' o c v) := ⟨(Fx.rf _ w').up (by simp; omega), fun b _ _ => by rw [up_o (by omega)]⟩
  refine ⟨h1.tr hf, fun x hx p q r => ?_, by rw [up_o (by omega)]; exact h3, by rw [up_o (by omega)]; exact h4, h5.ft hf, fun p q r => ?_⟩
  · by_cases hp : p = o
    · subst hp; rw [up_k (by omega)]; exact h2 x hx p q r
    · rw [up_o hp]; exact h2 x hx p q r
  · unfold upv
    by_cases hp : p = o
    · subst hp; rw [up_s, if_pos rfl]
    · rw [up_o hp, if_neg hp]; exact h6 p q r
theorem Bt.at_ {v : Int} (h : Bt T L m w w' c f) : Bt T L m w (up w' 0 11 v) c f := by
  obtain ⟨h1, h2, h3, h4, h5, h6⟩ := h
  have hf : FMt w' (up w' 0 11 v) := ⟨(Fx.rf _ w').up (by decide), fun b p _ => up_k p⟩
  exact ⟨h1.tr hf, fun x hx p q r => by rw [up_o (by omega)]; exact h2 x hx p q r, by rw [up_o (by decide)]; exact h3, by rw [up_k (by decide)]; exact h4, h5.ft hf, fun p q r => by rw [up_o (by omega)]; exact h6 p q r⟩
theorem FMt.th {e : Nat × Nat} : FMt w (thW T L w e) := ⟨(thW_fx T L w e).mono (by decide), fun b _ _ => by rw [thW_fx T L w e 0 (by decide)]⟩
theorem Bt.th {e : Nat × Nat} (h : Bt T L m w w' c f) : FMt w (thW T L w' e) := h.1.tr FMt.th
theorem ro_at {i o : Nat} {v : Int} (h : w' 0 11 = (i : Int)) (ho : 10 ≤ o) {x : Nat} : up w' o x v 0 11 = (i : Int) := by rw [up_o (by omega)]; exact h
/-- the ; and the counts -/
theorem tl_end {j0 : Nat} {D0 : DE} {e : En × Int} (hd : 6 ≤ d) (hB : Bt T L m w w' D0.length f) (hT : TD (kdT T L) w D0) (hso : e.1.2.1 = so) (hso3 : so ≤ 3) (hroom : ((cntE so (D0.map (fun e => e.1)) : Nat) : Int) < mostL.getD so 0) (hrow : trw (kdT T L) f e) (hat : w' 0 11 = (j0 : Int)) (hjm : j0 ≤ m) (hj10 : j0 ≤ 1000) (h : ∀ w2 j, ex (kdT T L) 4 j0 = .ok j → FMt w w2 → w2 0 11 = (j : Int) → j ≤ m → TD (kdT T L) w2 (D0 ++ [e]) → K (.inl none) w2) (he : ∀ w2 e, ex (kdT T L) 4 j0 = .error e → FMt w w2 → ErM T L w2 e → K (.inr 1) w2) : V g LM jMd_readTold (d + 1) K 526 [(0, vA 0), (1, vI (so : Int))] [] w' := by
  refine s_Md_readTold_526 (sp_mustM (c := 4) hd hB.2.2.2.2.1 hat hjm hj10 (by decide) (by decide) (fun j hj => ⟨by omega, by omega, ?_⟩) (fun e hj => he _ e hj hB.th (thW_er T L _ e)))
  obtain ⟨rfl, h9, hk⟩ := ex_i hj
  have hB1 := hB.at_ (v := ((j0 + 1 : Nat) : Int))
  generalize hw1 : up w' 0 11 ((j0 + 1 : Nat) : Int) = w1 at *
  obtain ⟨k1, k2, k3, k4, k5, k6⟩ := hB1
  obtain ⟨t1, t2, t3, t4⟩ := hT
  rw [toN, k3, (t2 so (by omega)).1, k4, t1]
  have hlen := TD.len ⟨t1, t2, t3, t4⟩
  have hc8 : ((cntE so (D0.map (fun e => e.1)) : Nat) : Int) < 8 := by
    rcases (by omega : so = 0 ∨ so = 1 ∨ so = 2 ∨ so = 3) with rfl | rfl | rfl | rfl <;> simp [mostL] at hroom <;> omega
  rw [wr_id (by unfold inI; omega), wr_id (by unfold inI; omega)]
  refine h _ (j0 + 1) hj (k1.tr ⟨((Fx.rf _ w1).up (by decide)).up (by decide), fun b _ p => by rw [up_k p, up_o (by decide)]⟩) (by rw [up_k (by decide), up_o (by decide), ← hw1, up_s]) (hB.2.2.2.2.1.lt hjm (by omega)) ⟨?_, fun s hs => ?_, fun x hx => ?_, fun k x hx => ?_⟩
  · rw [up_s, List.length_append]; simp
  · rw [List.map_append]
    show up _ 0 20 _ 16 s = ((cntE s (List.map (fun e => e.1) D0 ++ [e.1]) : Nat) : Int) ∧ ((cntE s (List.map (fun e => e.1) D0 ++ [e.1]) : Nat) : Int) ≤ _
    rw [cnt_app, up_o (by decide), hso]
    by_cases z : s = so
    · subst z; rw [up_s, if_pos rfl]; exact ⟨by omega, by omega⟩
    · rw [up_k z, if_neg (fun q => z q.symm), k3]; exact t2 s hs
  · rcases List.mem_append.mp hx with q | q
    · exact t3 x q
    · simp at q; subst q; omega
  · have hsame : ∀ o, 10 ≤ o → o ≤ 15 → up (up w1 16 so (((cntE so (D0.map (fun e => e.1)) : Nat) : Int) + 1)) 0 20 ((D0.length : Int) + 1) o k = w1 o k := fun o p q => by rw [up_o (by omega), up_o (by omega)]
    by_cases z : k < D0.length
    · rw [List.getElem?_append_left z] at hx
      have := t4 k x hx
      unfold trw at *
      simp only [hsame 10 (by decide) (by decide), hsame 11 (by decide) (by decide), hsame 12 (by decide) (by decide), hsame 13 (by decide) (by decide), hsame 14 (by decide) (by decide), hsame 15 (by decide) (by decide), k2 k z 10 (by decide) (by decide), k2 k z 11 (by decide) (by decide), k2 k z 12 (by decide) (by decide), k2 k z 13 (by decide) (by decide), k2 k z 14 (by decide) (by decide), k2 k z 15 (by decide) (by decide)]
      exact this
    · have hk : k = D0.length := by
        have := (List.getElem?_eq_some_iff.mp hx).1
        rw [List.length_append] at this
        simp at this
        omega
      subst hk
      rw [List.getElem?_append_right (Nat.le_refl _)] at hx
      simp at hx
      subst hx
      unfold trw at *
      simp only [hsame 10 (by decide) (by decide), hsame 11 (by decide) (by decide), hsame 12 (by decide) (by decide), hsame 13 (by decide) (by decide), hsame 14 (by decide) (by decide), hsame 15 (by decide) (by decide), k6 10 (by decide) (by decide), k6 11 (by decide) (by decide), k6 12 (by decide) (by decide), k6 13 (by decide) (by decide), k6 14 (by decide) (by decide), k6 15 (by decide) (by decide)]
      exact hrow
theorem tl_365 {i cc : Nat} {v : Int} (hd : 6 ≤ d) (hc : c < 30) (hk : kdT T L i = cc) (hB : Bt T L m w w' c f) (hat : w' 0 11 = (i : Int)) (him : i ≤ m) (hi10 : i ≤ 1000) (h : ∀ w2, ex (kdT T L) cc i = .ok (i + 1) → Bt T L m w w2 c (upv f 13 v) → w2 0 11 = ((i + 1 : Nat) : Int) → V g LM jMd_readTold (d + 1) K 526 [(0, vA 0), (1, vI (so : Int))] [] w2) (he : ∀ w2 e, ex (kdT T L) cc i = .error e → FMt w w2 → ErM T L w2 e → K (.inr 1) w2) : V g LM jMd_readTold (d + 1) K 365 [(0, vA 0), (1, vI (so : Int))] [vI v, vI (c : Int), vA 13] w' := by
  refine s_Md_readTold_365 ⟨by omega, ?_⟩
  rw [toN]
  have hB1 := hB.ro (o := 13) (v := v) (by decide)
  refine sp_passM (by omega) hB1.2.2.2.2.1 (ro_at hat (by decide)) him hi10 (fun j hj => ?_) (fun e hj => he _ e (by rw [← psM_ex hk, hj]) hB1.th (thW_er T L _ e))
  rw [psM_ex hk] at hj
  obtain ⟨rfl, h9, -⟩ := ex_i hj
  exact h _ hj hB1.at_ (up_s _ _ _ _)
/-- behind = : an int -/
theorem tl_int {i : Nat} (hd : 6 ≤ d) (hc : c < 30) (hf : f 12 = 0 ∧ f 15 = -2) (hB : Bt T L m w w' c f) (hat : w' 0 11 = (i : Int)) (him : i ≤ m) (hi10 : i ≤ 1000) (h : ∀ w2 q f', pInt (kdT T L) (vlT T L) i = .ok q → Bt T L m w w2 c f' → w2 0 11 = (q.2 : Int) → q.2 ≤ m → (f' 10 = f 10 ∧ f' 11 = f 11 ∧ f' 12 = 0 ∧ f' 13 = q.1 ∧ (kdT T L i = 16 → f' 15 = (i : Int) ∧ f' 14 = ((i + 1 : Nat) : Int)) ∧ (kdT T L i ≠ 16 → f' 15 = -2 ∧ f' 14 = (i : Int))) → V g LM jMd_readTold (d + 1) K 526 [(0, vA 0), (1, vI (so : Int))] [] w2) (he : ∀ w2 e, pInt (kdT T L) (vlT T L) i = .error e → FMt w w2 → ErM T L w2 e → K (.inr 1) w2) : Cal g LM jMd_is d [vA 0, vA 1055] w' (fun o w5 => rIt o (fun b => K (.inr b) w5) (fun x6 => (x6 = 0 → (V g LM jMd_readTold (d + 1) K 219 [(0, vA 0), (1, vI (so : Int)), (3, vI (c : Int))] [] w5)) ∧ (¬ x6 = 0 → ((0 ≤ (c : Int) ∧ (c : Int) < 30) ∧ ((¬ (w5 12 (c : Int).toNat) = 0 → (V g LM jMd_readTold (d + 1) K 219 [(0, vA 0), (1, vI (so : Int)), (3, vI (c : Int))] [] w5)) ∧ ((w5 12 (c : Int).toNat) = 0 → (V g LM jMd_readTold (d + 1) K 220 [(0, vA 0), (1, vI (so : Int)), (3, vI (c : Int))] [vI 1] w5))))))) := by
  have hcb : (0 : Int) ≤ (c : Int) ∧ (c : Int) < 30 := by omega
  -- from 237 on
  have go : ∀ (w5 : Wd) (f5 : Nat → Int) (j : Nat) (x4 : Int), Bt T L m w w5 c f5 → f5 12 = 0 → w5 0 11 = (j : Int) → j ≤ m → j ≤ 1000 → (∀ w2 j2, ex (kdT T L) 3 j = .ok j2 → Bt T L m w w2 c (upv (upv f5 14 (j : Int)) 13 (if x4 = 0 then vlT T L j else wr (-(vlT T L j)))) → w2 0 11 = (j2 : Int) → j2 ≤ m → V g LM jMd_readTold (d + 1) K 526 [(0, vA 0), (1, vI (so : Int))] [] w2) → (∀ w2 e, ex (kdT T L) 3 j = .error e → FMt w w2 → ErM T L w2 e → K (.inr 1) w2) → V g LM jMd_readTold (d + 1) K 237 [(0, vA 0), (1, vI (so : Int)), (3, vI (c : Int)), (4, vI x4)] [] w5 := by
    intro w5 f5 j x4 hB5 h12 hat5 hjm hj10 hok hno
    have hm4 := hB5.2.2.2.2.1.2.1
    have hjb : (0 : Int) ≤ (j : Int) ∧ (j : Int) < 4022 := by omega
    have hr12 := hB5.2.2.2.2.2 12 (by decide) (by decide)
    have hnum := (mk_name hB5.2.2.2.2.1 hjm).2
    refine s_Md_readTold_237 ⟨hcb, ?_⟩
    rw [toN, hr12, h12, hat5, toN]
    refine ⟨fun z => absurd rfl z, fun _ => ⟨hjb, fun hn => s_Md_readTold_293 ⟨hcb, ?_⟩, fun hn => s_Md_readTold_280 ?_⟩⟩
    · have hk3 := hnum.mp hn
      have h7 := (hB5.2.2.2.2.1.1 j (by omega)).2.2.2 hk3
      rw [hat5, toN, toN, h7]
      have hB6 := hB5.ro (o := 14) (v := (j : Int)) (by decide)
      have fin : ∀ v : Int, v = (if x4 = 0 then vlT T L j else wr (-(vlT T L j))) → V g LM jMd_readTold (d + 1) K 365 [(0, vA 0), (1, vI (so : Int))] [vI v, vI (c : Int), vA 13] (up w5 14 c (j : Int)) := by
        intro v hv
        subst hv
        refine tl_365 (cc := 3) hd hc hk3 hB6 (ro_at hat5 (by decide)) hjm hj10 (fun w2 hx hB7 h11 => hok w2 (j + 1) hx hB7 h11 (hB5.2.2.2.2.1.lt hjm (by omega))) hno
      exact ⟨hjb, fun z => absurd hn z, fun _ => ⟨fun z => ⟨hjb, fin _ (by rw [if_pos z])⟩, fun z => ⟨hjb, fin _ (by rw [if_neg z])⟩⟩⟩
    · have hk3 : ¬ kdT T L j = 3 := fun z => hn (hnum.mpr z)
      rw [hat5]
      refine sp_placeM hB5.2.2.2.2.1 hjm (sp_fail (f := 1) (hno _ (1, j) ?_ (hB5.th (e := (1, j))) (thW_er T L w5 (1, j))))
      unfold ex; rw [if_neg hk3]
  refine sp_isM (c := 16) (by omega) hB.2.2.2.2.1 hat him (by decide) (by decide) ⟨fun z => ?_, fun z => ⟨hcb, fun z2 => ?_, fun _ => ?_⟩⟩
  · have hk : ¬ kdT T L i = 16 := fun q => by rw [if_pos q] at z; cases z
    unfold pInt at h he
    rw [if_neg hk] at h he
    refine s_Md_readTold_219 (s_Md_readTold_220 ⟨fun _ => go w' f i 0 hB hf.1 hat him hi10 (fun w2 j2 hj2 hB2 h11 hjm => ?_) (fun w2 e hee => he w2 e (by rw [hee]; rfl)), fun q => absurd rfl q⟩)
    refine h w2 (vlT T L i, j2) _ (by rw [hj2]; rfl) hB2 h11 hjm ⟨rfl, rfl, hf.1, rfl, fun q => absurd q hk, fun _ => ⟨hf.2, rfl⟩⟩
  · rw [toN, hB.2.2.2.2.2 12 (by decide) (by decide)] at z2
    exact absurd hf.1 z2
  · have hk : kdT T L i = 16 := by
      by_cases q : kdT T L i = 16
      · exact q
      · rw [if_neg q] at z; exact absurd rfl z
    unfold pInt at h he
    rw [if_pos hk] at h he
    refine s_Md_readTold_220 ⟨fun q => absurd q (by decide), fun _ => sp_passM (by omega) hB.2.2.2.2.1 hat him hi10 (fun j hj => ⟨hcb, ?_⟩) (fun e hj => he _ e (by rw [← psM_ex hk, hj]; rfl) hB.th (thW_er T L _ e))⟩
    rw [psM_ex hk] at hj
    obtain ⟨rfl, h9, -⟩ := ex_i hj
    rw [toN]
    refine go _ (upv f 15 (i : Int)) (i + 1) 1 (hB.at_.ro (by decide)) hf.1 (ro_at (up_s _ _ _ _) (by decide)) (hB.2.2.2.2.1.lt him (by omega)) (by omega) (fun w2 j2 hj2 hB2 h11 hjm => ?_) (fun w2 e hee => he w2 e (by rw [hj, bnd_ok', hee]; rfl))
    refine h w2 (wr (-(vlT T L (i + 1))), j2) _ (by rw [hj, bnd_ok', hj2]; rfl) hB2 h11 hjm ⟨rfl, rfl, hf.1, rfl, fun _ => ⟨rfl, rfl⟩, fun q => absurd hk q⟩
/-- behind = : a bool -/
theorem tl_bool {i : Nat} (hd : 6 ≤ d) (hc : c < 30) (hf : f 12 = 1 ∧ f 15 = -2) (hB : Bt T L m w w' c f) (hat : w' 0 11 = (i : Int)) (him : i ≤ m) (hi10 : i ≤ 1000) (h : ∀ w2 q f', pBool (kdT T L) i = .ok q → Bt T L m w w2 c f' → w2 0 11 = (q.2 : Int) → q.2 ≤ m → (f' 10 = f 10 ∧ f' 11 = f 11 ∧ f' 12 = 1 ∧ f' 13 = q.1 ∧ kdT T L i ≠ 16 ∧ f' 15 = -2 ∧ f' 14 = (i : Int)) → V g LM jMd_readTold (d + 1) K 526 [(0, vA 0), (1, vI (so : Int))] [] w2) (he : ∀ w2 e, pBool (kdT T L) i = .error e → FMt w w2 → ErM T L w2 e → K (.inr 1) w2) : Cal g LM jMd_is d [vA 0, vA 1055] w' (fun o w5 => rIt o (fun b => K (.inr b) w5) (fun x6 => (x6 = 0 → (V g LM jMd_readTold (d + 1) K 219 [(0, vA 0), (1, vI (so : Int)), (3, vI (c : Int))] [] w5)) ∧ (¬ x6 = 0 → ((0 ≤ (c : Int) ∧ (c : Int) < 30) ∧ ((¬ (w5 12 (c : Int).toNat) = 0 → (V g LM jMd_readTold (d + 1) K 219 [(0, vA 0), (1, vI (so : Int)), (3, vI (c : Int))] [] w5)) ∧ ((w5 12 (c : Int).toNat) = 0 → (V g LM jMd_readTold (d + 1) K 220 [(0, vA 0), (1, vI (so : Int)), (3, vI (c : Int))] [vI 1] w5))))))) := by
  have hcb : (0 : Int) ≤ (c : Int) ∧ (c : Int) < 30 := by omega
  have hm4 := hB.2.2.2.2.1.2.1
  have hib : (0 : Int) ≤ (i : Int) ∧ (i : Int) < 4022 := by omega
  have hr12 := hB.2.2.2.2.2 12 (by decide) (by decide)
  have hB6 := hB.ro (o := 14) (v := (i : Int)) (by decide)
  have hM := hB.2.2.2.2.1
  have lst : (kdT T L i = 31 ∨ kdT T L i = 32) → V g LM jMd_readTold (d + 1) K 293 [(0, vA 0), (1, vI (so : Int)), (3, vI (c : Int)), (4, vI 0)] [] w' := by
    intro hkk
    have hn : ¬ w' 4 i = 1 := fun z => by have := (mk_name hM him).2.mp z; omega
    refine s_Md_readTold_293 ⟨hcb, ?_⟩
    rw [hat, toN, toN]
    refine ⟨hib, fun _ => sp_isM (c := 31) (by omega) hB6.2.2.2.2.1 (ro_at hat (by decide)) him (by decide) (by decide) ⟨fun z => ?_, fun z => ?_⟩, fun z => absurd z hn⟩
    · have hk : ¬ kdT T L i = 31 := fun q => by rw [if_pos q] at z; cases z
      unfold pBool at h he
      rw [if_neg hk] at h he
      refine tl_365 (cc := 32) hd hc (by omega) hB6 (ro_at hat (by decide)) him hi10 (fun w2 hx hB7 h11 => h w2 (0, i + 1) _ (by rw [hx]; rfl) hB7 h11 (hM.lt him (by omega)) ⟨rfl, rfl, hf.1, rfl, by omega, hf.2, rfl⟩) (fun w2 e hee => he w2 e (by rw [hee]; rfl))
    · have hk : kdT T L i = 31 := by
        by_cases q : kdT T L i = 31
        · exact q
        · rw [if_neg q] at z; exact absurd rfl z
      unfold pBool at h he
      rw [if_pos hk] at h he
      refine tl_365 (cc := 31) hd hc (by omega) hB6 (ro_at hat (by decide)) him hi10 (fun w2 hx hB7 h11 => h w2 (1, i + 1) _ (by rw [hx]; rfl) hB7 h11 (hM.lt him (by omega)) ⟨rfl, rfl, hf.1, rfl, by omega, hf.2, rfl⟩) (fun w2 e hee => he w2 e (by rw [hee]; rfl))
  have go : V g LM jMd_readTold (d + 1) K 219 [(0, vA 0), (1, vI (so : Int)), (3, vI (c : Int))] [] w' := by
    refine s_Md_readTold_219 (s_Md_readTold_220 ⟨fun _ => s_Md_readTold_237 ⟨hcb, ?_⟩, fun q => absurd rfl q⟩)
    rw [toN, hr12, hf.1]
    refine ⟨fun _ => sp_isM (c := 31) (by omega) hM hat him (by decide) (by decide) ⟨fun z => ?_, fun z => ?_⟩, fun z => absurd z (by decide)⟩
    · have hk : kdT T L i = 31 := by
        by_cases q : kdT T L i = 31
        · exact q
        · rw [if_neg q] at z; exact absurd rfl z
      exact lst (Or.inl hk)
    · have hk : ¬ kdT T L i = 31 := fun q => by rw [if_pos q] at z; cases z
      refine sp_isM (c := 32) (by omega) hM hat him (by decide) (by decide) ⟨fun z => ?_, fun z => s_Md_readTold_280 ?_⟩
      · have hk : kdT T L i = 32 := by
          by_cases q : kdT T L i = 32
          · exact q
          · rw [if_neg q] at z; exact absurd rfl z
        exact lst (Or.inr hk)
      · have hk2 : ¬ kdT T L i = 32 := fun q => by rw [if_pos q] at z; cases z
        rw [hat]
        refine sp_placeM hM him (sp_fail (f := 1) (he _ (1, i) ?_ (hB.th (e := (1, i))) (thW_er T L w' (1, i))))
        unfold pBool ex; rw [if_neg hk, if_neg hk2]; rfl
  refine sp_isM (c := 16) (by omega) hM hat him (by decide) (by decide) ⟨fun _ => go, fun _ => ⟨hcb, fun _ => go, fun z2 => ?_⟩⟩
  rw [toN, hr12, hf.1] at z2
  cases z2
end ModelTold
