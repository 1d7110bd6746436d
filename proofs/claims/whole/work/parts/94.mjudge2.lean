/-! ===== the model judges exps ===== -/
/-- the rows of NAMES hold what they name -/
def JR (T : Nat → Int) (L : Nat) (E : List En) (b : Bool) (w : Wd) : Tr → Nat → Prop
  | .leaf, _ => True
  | .inner c t _ l r, lo => JR T L E b w l lo ∧ JR T L E b w r (lo + nX l) ∧ (c = 0 → kdT T L t = 2 → ∀ e, fnd T L E t = some e → e.2.1 ≠ 0 → w 32 (lo + nX l + nX r) = (e.2.1 : Int) ∧ w 33 (lo + nX l + nX r) = (e.2.2.1 : Int)) ∧ (c = 1 → b = true → ∀ e, fnd T L E t = some e → e.2.1 = 0 → w 33 (lo + nX l + nX r) = (e.2.2.1 : Int)) ∧ (c = 2 → ∀ e, fnd T L E t = some e → e.2.1 = 2 → w 33 (lo + nX l + nX r) = (e.2.2.1 : Int))
theorem JR.congr {T : Nat → Int} {L : Nat} {E : List En} {b : Bool} {w w' : Wd} : ∀ (a : Tr) (lo : Nat), JR T L E b w a lo → (∀ x, lo ≤ x → x < lo + nX a → w' 32 x = w 32 x ∧ w' 33 x = w 33 x) → JR T L E b w' a lo
  | .leaf, lo, h, hx => trivial
  | .inner c t q l r, lo, h, hx => by
    obtain ⟨h1, h2, h3, h4, h5⟩ := h
    have hn : nX (.inner c t q l r) = nX l + nX r + (if c = 7 ∨ c = 9 then 0 else 1) := rfl
    rw [hn] at hx
    have hle : nX l + nX r ≤ nX l + nX r + (if c = 7 ∨ c = 9 then 0 else 1) := Nat.le_add_right _ _
    have he : c ≠ 7 → c ≠ 9 → (if c = 7 ∨ c = 9 then 0 else 1) = 1 := fun z1 z2 => by simp [z1, z2]
    refine ⟨JR.congr l lo h1 (fun x p q => hx x p (by omega)), JR.congr r _ h2 (fun x p q => hx x (by omega) (by omega)), fun z => ?_, fun z => ?_, fun z => ?_⟩
    · have := he (by omega) (by omega)
      obtain ⟨e1, e2⟩ := hx (lo + nX l + nX r) (by omega) (by omega)
      rw [e1, e2]; exact h3 z
    · have := he (by omega) (by omega)
      rw [(hx (lo + nX l + nX r) (by omega) (by omega)).2]; exact h4 z
    · have := he (by omega) (by omega)
      rw [(hx (lo + nX l + nX r) (by omega) (by omega)).2]; exact h5 z
def FMj (w w' : Wd) (lo hi : Nat) : Prop := Fx [0, 32, 33] w w' ∧ (∀ b, b ≠ 46 → b ≠ 47 → b ≠ 51 → b ≠ 52 → b ≠ 53 → w' 0 b = w 0 b) ∧ ∀ x, (x < lo ∨ hi ≤ x) → w' 32 x = w 32 x ∧ w' 33 x = w 33 x
theorem FMj.rf (w : Wd) {lo hi : Nat} : FMj w w lo hi := ⟨Fx.rf _ w, fun _ _ _ _ _ _ => rfl, fun _ _ => ⟨rfl, rfl⟩⟩
theorem FMj.tr {a b c : Wd} {lo hi : Nat} (h1 : FMj a b lo hi) (h2 : FMj b c lo hi) : FMj a c lo hi := ⟨h1.1.tr h2.1, fun x p q r s t => (h2.2.1 x p q r s t).trans (h1.2.1 x p q r s t), fun x hx => ⟨(h2.2.2 x hx).1.trans (h1.2.2 x hx).1, (h2.2.2 x hx).2.trans (h1.2.2 x hx).2⟩⟩
theorem FMj.le {a b : Wd} {lo hi lo' hi' : Nat} (h : FMj a b lo hi) (h1 : lo' ≤ lo) (h2 : hi ≤ hi') : FMj a b lo' hi' := ⟨h.1, h.2.1, fun x hx => h.2.2 x (by omega)⟩
theorem FMj.bl {a b : Wd} {lo hi : Nat} (h : Blm a b) : FMj a b lo hi := ⟨fun q hq => h.1 q (fun z => hq (by rw [z]; decide)), fun x p q _ _ _ => h.2 x p q, fun x _ => ⟨by rw [h.1 32 (by decide)], by rw [h.1 33 (by decide)]⟩⟩
theorem FMj.fn {a b : Wd} {o : Option En} {lo hi : Nat} (h : Fnd a b o) : FMj a b lo hi := ⟨fun q hq => h.1 q (fun z => hq (by rw [z]; decide)), fun x _ _ p q r => h.2.1 x p q r, fun x _ => ⟨by rw [h.1 32 (by decide)], by rw [h.1 33 (by decide)]⟩⟩
theorem FMj.u {w : Wd} {o n lo hi : Nat} {v : Int} (ho : o = 32 ∨ o = 33) (hn : lo ≤ n ∧ n < hi) : FMj w (up w o n v) lo hi := by
  refine ⟨(Fx.rf _ w).up (by rcases ho with rfl | rfl <;> decide), fun x _ _ _ _ _ => by rw [up_o (by omega)], fun x hx => ?_⟩
  rcases ho with rfl | rfl
  · exact ⟨up_k (by omega), by rw [up_o (by decide)]⟩
  · exact ⟨by rw [up_o (by decide)], up_k (by omega)⟩
theorem EnM.fj {m : Nat} {w w' : Wd} {E1 E2 : List En} {lo hi : Nat} (h : EnM m w E1 E2) (hf : FMj w w' lo hi) : EnM m w' E1 E2 := by
  obtain ⟨n1, n2, ⟨n, n3, n4, n5, n6⟩, n7, n8, n9⟩ := h
  refine ⟨n1, ?_, ⟨n, by rw [hf.2.1 20 (by decide) (by decide) (by decide) (by decide) (by decide)]; exact n3, n4, n5, by rw [hf.1 36 (by decide)]; exact n6⟩, by rw [hf.2.1 50 (by decide) (by decide) (by decide) (by decide) (by decide)]; exact n7, n8, by rw [hf.1 34 (by decide), hf.1 35 (by decide)]; exact n9⟩
  rw [hf.1 36 (by decide), hf.1 10 (by decide), hf.1 11 (by decide), hf.1 12 (by decide)]
  exact n2
theorem AR.fj {kd : Nat → Nat} {w w' : Wd} {a : Tr} {lo l h : Nat} (ha : AR kd w a lo) (hf : FMj w w' l h) : AR kd w' a lo := AR.congr a lo ha (fun x _ _ o p q _ => by rw [hf.1 o (by simp; omega)])
theorem fnd_mem {T : Nat → Int} {L t : Nat} {e : En} : ∀ (E : List En), fnd T L E t = some e → e ∈ E
  | [], h => by cases h
  | a :: E, h => by
    rw [fnd] at h
    split at h
    · cases h; exact List.mem_cons_self
    · exact List.mem_cons_of_mem _ (fnd_mem E h)
section ModelJudge2
variable {g : Mg} {d D : Nat} {K : Ou → Wd → Prop} {w w' : Wd} {T : Nat → Int} {L m : Nat} {E1 E2 : List En} {b : Bool}
theorem TxM.fj {lo hi : Nat} (h : TxM T L m w) (hf : FMj w w' lo hi) : TxM T L m w' := by
  obtain ⟨h1, h2, h3, h4, h5, h6⟩ := h
  refine ⟨?_, h2, h3, h4, by rw [hf.1 3 (by decide)]; exact h5, h6⟩
  unfold MTk at *
  rw [hf.1 4 (by decide), hf.1 5 (by decide), hf.1 6 (by decide), hf.1 7 (by decide)]
  exact h1
theorem kn_rng {E : List En} (hk : ∀ e ∈ E, e.2.2.2 ≤ 2) : ∀ (a : Tr), 0 ≤ knT T L E b a ∧ knT T L E b a ≤ 2
  | .leaf => by show (0 : Int) ≤ 0 ∧ (0 : Int) ≤ 2; decide
  | .inner c t q l r => by
    have h1 := kn_rng hk l
    have h2 := kn_rng hk r
    have h3 : 0 ≤ nmK (fnd T L E t) ∧ nmK (fnd T L E t) ≤ 2 := by
      unfold nmK
      split
      · decide
      · cases hf : fnd T L E t with
        | none => decide
        | some e =>
          have := hk e (fnd_mem E hf)
          show (0 : Int) ≤ (e.2.2.2 : Int) ∧ (e.2.2.2 : Int) ≤ 2
          omega
    rw [knT]
    repeat' split
    all_goals first | exact h3 | exact h1 | exact h2 | decide
theorem rd_neg {e : En} (h4 : e.2.1 ≤ 4) : rdD (eSo (some e)) < 0 ↔ e.2.1 = 0 := by
  show rdD (e.2.1 : Int) < 0 ↔ _
  rcases (by omega : e.2.1 = 0 ∨ e.2.1 = 1 ∨ e.2.1 = 2 ∨ e.2.1 = 3 ∨ e.2.1 = 4) with z | z | z | z | z <;> rw [z] <;> decide
theorem nn_some {o : Option En} (z : ¬ (if o = none then (0 : Int) else 1) = 0) : ∃ e, o = some e := by
  cases o with
  | none => exact absurd rfl z
  | some e => exact ⟨e, rfl⟩
theorem nn_none {o : Option En} (z : (if o = none then (0 : Int) else 1) = 0) : o = none := by
  cases o with
  | none => rfl
  | some e => exact absurd z (by rw [if_neg (fun q => by cases q)]; decide)
theorem KyM.fn {o : Option En} {k : Nat} (h : KyM w k) (hF : Fnd w w' o) : KyM w' k := by
  unfold KyM at *
  rw [hF.2.1 46 (by decide) (by decide) (by decide), hF.2.1 47 (by decide) (by decide) (by decide)]
  exact h
/-- what judge does at row n -/
def SpJ (g : Mg) (D : Nat) (T : Nat → Int) (L m : Nat) (E1 E2 : List En) (b : Bool) (a : Tr) (lo : Nat) : Prop := ∀ (K : Ou → Wd → Prop) (w : Wd) (k : Nat), TxM T L m w → EnM m w E1 E2 → AR (kdT T L) w a lo → KyM w k → (∀ w', FMj w w' lo (lo + nX a) → KyM w' (min k (jkT T L (E1 ++ E2) b a)) → JR T L (E1 ++ E2) b w' a lo → K (.inl (some (vI (kI (knT T L (E1 ++ E2) b a))))) w') → Cal g LM jMd_judge D [vA 0, vI ((lo + nX a - 1 : Nat) : Int), vI (bI b)] w K
theorem jd_0 {t q lo : Nat} (hN : ∀ e ∈ E1 ++ E2, e.2.1 ≤ 4 ∧ e.2.2.2 ≤ 2) (hD : 5 ≤ D) (ht : t ≤ m) (hlo : lo < 2000) : SpJ g D T L m E1 E2 b (nd 0 t q nl nl) lo := by
  intro K w k hM hE hA hK h
  obtain ⟨d, rfl⟩ : ∃ d, D = d + 1 := ⟨D - 1, by omega⟩
  have hn : lo + nX (nd 0 t q nl nl) = lo + 1 := rfl
  rw [hn] at h ⊢
  rw [Nat.add_sub_cancel]
  obtain ⟨-, -, -, -, h5, -⟩ := hA
  obtain ⟨h27, h26⟩ := h5 (by decide) (by decide)
  have h27 : w 27 lo = (t : Int) := h27
  have h26 : w 26 lo = kdM (kdT T L t) := h26
  have hb : (0 : Int) ≤ (lo : Int) ∧ (lo : Int) < 2000 := by omega
  have hj : jkT T L (E1 ++ E2) b (nd 0 t q nl nl) = (if kdT T L t = 2 ∧ rdD (eSo (fnd T L (E1 ++ E2) t)) < 0 then tAt T L t * 8 + 4 else 100000) := rfl
  have hkn : knT T L (E1 ++ E2) b (nd 0 t q nl nl) = (if kdT T L t = 3 then 1 else if kdT T L t = 31 ∨ kdT T L t = 32 then 2 else if kdT T L t = 2 then nmK (fnd T L (E1 ++ E2) t) else 1) := rfl
  have hsame : kdT T L t ≠ 2 → ∀ v : Int, kI (knT T L (E1 ++ E2) b (nd 0 t q nl nl)) = v → K (.inl (some (vI v))) w := by
    intro h2 v hv
    rw [hj, if_neg (fun z => h2 z.1)] at h
    have := h w (FMj.rf w) (by rw [hK.big]; exact hK) ⟨trivial, trivial, fun _ z => absurd z h2, fun z => absurd z (by decide), fun z => absurd z (by decide)⟩
    rw [hv] at this
    exact this
  refine Cal.ofV (by decide) rfl (Nat.le_of_ble_eq_true rfl) (s_Md_judge ⟨hb, hb, hb, ?_⟩)
  rw [toN, h26, h27]
  unfold kdM
  by_cases k3 : kdT T L t = 3
  · rw [if_pos k3]
    exact ⟨fun _ => hsame (by omega) 0 (by rw [hkn, if_pos k3]; rfl), fun z => absurd z (by decide), fun z => absurd z (by decide), fun z => absurd z (by decide), fun z => absurd z (by decide), fun z => absurd z (by decide), fun z => absurd z (by decide), fun z => absurd z (by decide), fun z => absurd z (by decide), fun z => absurd z (by decide), fun z => absurd z (by decide), fun z => absurd z (by decide)⟩
  rw [if_neg k3]
  by_cases k2 : kdT T L t = 2
  · rw [if_pos k2]
    refine ⟨fun z => absurd z (by decide), fun z => absurd z (by decide), fun z => absurd z (by decide), fun _ => ⟨hb, ?_⟩, fun z => absurd z (by decide), fun z => absurd z (by decide), fun z => absurd z (by decide), fun z => absurd z (by decide), fun z => absurd z (by decide), fun z => absurd z (by decide), fun z => absurd z (by decide), fun z => absurd z (by decide)⟩
    rw [if_neg k3, if_neg (by omega), if_pos k2] at hkn
    have hfl : ∀ w1, Fnd w w1 (fnd T L (E1 ++ E2) t) → rdD (eSo (fnd T L (E1 ++ E2) t)) < 0 → Cal g LM jMd_blame d [vA 0, vI 4, vI (w1 27 lo)] w1 (fun o w3 => rVt o (fun b => K (.inr b) w3) (K (.inl (some (vI 2))) w3)) := by
      intro w1 hF1 hneg
      have hf1 : FMj w w1 lo (lo + 1) := FMj.fn hF1
      rw [hF1.1 27 (by decide), h27]
      refine sp_blameM (f := 4) (by omega) (hM.fj hf1) ht (by decide) (hK.fn hF1) (fun w3 p q r => ?_)
      have := h w3 (hf1.tr (FMj.bl ⟨p, q⟩)) (by rw [hj, if_pos ⟨k2, hneg⟩]; exact r) ⟨trivial, trivial, fun _ _ e he h0 => ?_, fun z => absurd z (by decide), fun z => absurd z (by decide)⟩
      · rw [hkn] at this
        unfold nmK at this
        rw [if_pos hneg] at this
        exact this
      · rw [he] at hneg
        exact absurd ((rd_neg (hN e (fnd_mem _ he)).1).mp hneg) h0
    refine sp_findM (by omega) hM hE ht (fun w1 hF1 => ⟨fun z => ⟨hb, hfl w1 hF1 ?_⟩, fun z => ⟨fun z2 => ⟨hb, hb, ?_⟩, fun z2 => ⟨hb, hfl w1 hF1 ?_⟩⟩⟩)
    · rw [nn_none z]; decide
    · obtain ⟨e, he⟩ := nn_some z
      obtain ⟨f1, f2, f3⟩ := hF1.2.2 e he
      have hse := hN e (fnd_mem _ he)
      rw [f1] at z2
      have hpos : ¬ rdD (eSo (fnd T L (E1 ++ E2) t)) < 0 := fun q => z2 (by rw [he] at q; rw [(rd_neg hse.1).mp q]; rfl)
      have hf1 : FMj w w1 lo (lo + 1) := FMj.fn hF1
      have hf2 : FMj w1 (up (up w1 32 lo (e.2.1 : Int)) 33 lo (e.2.2.1 : Int)) lo (lo + 1) := (FMj.u (Or.inl rfl) ⟨Nat.le_refl _, Nat.lt_succ_self _⟩).tr (FMj.u (Or.inr rfl) ⟨Nat.le_refl _, Nat.lt_succ_self _⟩)
      rw [f1, f2, f3]
      have := h _ (hf1.tr hf2) (by
        rw [hj, if_neg (fun q => hpos q.2), hK.big]
        have := hK.fn hF1
        unfold KyM at *
        rw [up_o (show (0 : Nat) ≠ 33 by decide), up_o (show (0 : Nat) ≠ 32 by decide)]
        exact this) ⟨trivial, trivial, fun _ _ e' he' _ => ?_, fun z => absurd z (by decide), fun z => absurd z (by decide)⟩
      · rw [hkn] at this
        unfold nmK at this
        rw [if_neg hpos, he] at this
        rw [kM_I]
        exact this
      · rw [he] at he'
        cases he'
        exact ⟨by show up _ 33 _ _ 32 lo = _; rw [up_o (by decide), up_s], up_s _ _ _ _⟩
    · obtain ⟨e, he⟩ := nn_some z
      obtain ⟨f1, f2, f3⟩ := hF1.2.2 e he
      rw [f1] at z2
      rw [he]
      exact (rd_neg (hN e (fnd_mem _ he)).1).mpr (by omega)
  rw [if_neg k2]
  by_cases k31 : kdT T L t = 31
  · rw [if_pos k31]
    exact ⟨fun z => absurd z (by decide), fun _ => hsame k2 1 (by rw [hkn, if_neg k3, if_pos (Or.inl k31)]; rfl), fun z => absurd z (by decide), fun z => absurd z (by decide), fun z => absurd z (by decide), fun z => absurd z (by decide), fun z => absurd z (by decide), fun z => absurd z (by decide), fun z => absurd z (by decide), fun z => absurd z (by decide), fun z => absurd z (by decide), fun z => absurd z (by decide)⟩
  rw [if_neg k31]
  by_cases k32 : kdT T L t = 32
  · rw [if_pos k32]
    exact ⟨fun z => absurd z (by decide), fun z => absurd z (by decide), fun _ => hsame k2 1 (by rw [hkn, if_neg k3, if_pos (Or.inr k32)]; rfl), fun z => absurd z (by decide), fun z => absurd z (by decide), fun z => absurd z (by decide), fun z => absurd z (by decide), fun z => absurd z (by decide), fun z => absurd z (by decide), fun z => absurd z (by decide), fun z => absurd z (by decide), fun z => absurd z (by decide)⟩
  · rw [if_neg k32]
    exact ⟨fun z => absurd z (by decide), fun z => absurd z (by decide), fun z => absurd z (by decide), fun z => absurd z (by decide), fun z => absurd z (by decide), fun z => absurd z (by decide), fun _ => hsame k2 0 (by rw [hkn, if_neg k3, if_neg (by omega), if_neg k2]; rfl), fun z => absurd z (by decide), fun z => absurd z (by decide), fun z => absurd z (by decide), fun z => absurd z (by decide), fun z => absurd z (by decide)⟩
end ModelJudge2
