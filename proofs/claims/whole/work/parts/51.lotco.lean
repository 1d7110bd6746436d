/-! ===== lot, code, and the small steps of exps ===== -/
def lkE (E : List En) (x : Int) : Option En := if x < 0 then none else E[x.toNat]?
theorem lk_fnd {T : Nat → Int} {L t : Nat} (E : List En) : lkE E (fIx T L E t 0) = fnd T L E t := by
  rcases fIx_fnd (T := T) (L := L) (t := t) E 0 with ⟨h1, h2⟩ | ⟨q, e, h1, h2, h3⟩
  · rw [h1, h2]; rfl
  · rw [h1, h3]
    unfold lkE
    rw [if_neg (by omega)]
    have : (((0 + q : Nat) : Int)).toNat = q := by omega
    rw [this, h2]
def eSo : Option En → Int
  | none => -1
  | some e => (e.2.1 : Int)
def eNu : Option En → Int
  | none => 0
  | some e => (e.2.2.1 : Int)
def eKi : Option En → Int
  | none => 0
  | some e => (e.2.2.2 : Int)
section LotSpecs
variable {g : Mg} {D : Nat} {K : Ou → Wd → Prop} {w : Wd} {T : Nat → Int} {L : Nat}
theorem fi_loop {t s : Nat} (hI : IC T L w) (ht : t ≤ nTk T L) (hs : w 13 6 = (s : Int)) (hs28 : s ≤ 28) (h : ∀ x : Int, -1 ≤ x → x < w 13 6 → (∀ E, EC T L w E → t < nTk T L → x = fIx T L E t 0) → K (.inl (some (vI x))) w) :
    ∀ (m k : Nat), k + m = s → (∀ E, EC T L w E → t < nTk T L → fIx T L E t 0 = fIx T L (E.drop k) t k) → V g LC jLo_find (D + 1) K 2 [(0, vA 13), (1, vI (t : Int)), (2, vI (k : Int))] [] w := by
  have hn := nTk_le (T := T) (L := L)
  intro m
  induction m with
  | zero =>
    intro k hk hE
    refine s_Lo_find_2 ⟨fun _ => h (-1) (by omega) (by omega) (fun E hE1 ht1 => ?_), fun c => absurd (by omega) c⟩
    rw [hE E hE1 ht1]
    have hl : E.length = s := by have := hE1.1; omega
    rw [List.drop_eq_nil_of_le (by omega)]
    rfl
  | succ m ih =>
    intro k hk hE
    refine s_Lo_find_2 ⟨fun c => absurd c (by omega), fun _ => ⟨by omega, by omega, by omega, ?_⟩⟩
    rw [toN, toN]
    obtain ⟨s', hs', hs2', hlo⟩ := hI.2.1
    have hss : s' = s := by omega
    subst hss
    obtain ⟨⟨tk, htk, htn⟩, -, -⟩ := hlo k (by omega)
    obtain ⟨f, e, hf, he, hfe, he4⟩ := hI.1.fe htn
    obtain ⟨a, b, ha, hb, hab, hb4⟩ := hI.1.fe ht
    have h3 := hI.1.2.2.2.1
    rw [htk, ha, hb, wr_n1 (by omega)]
    have hsame : ∀ E, EC T L w E → t < nTk T L → ∃ e0, E[k]? = some e0 ∧ (sameB (w 3) f (e - f) (w 3) a (b - a) ↔ sameT T L e0.1 t = true) ∧ E.drop k = e0 :: E.drop (k + 1) := by
      intro E hE1 ht1
      have hl : E.length = s' := by have := hE1.1; omega
      have hkl : k < E.length := by omega
      have hg : E[k]? = some E[k] := List.getElem?_eq_getElem hkl
      obtain ⟨q1, -, -, -, q5, -⟩ := hE1.2 k _ hg
      have htke : tk = (E[k]).1 := by omega
      obtain ⟨z1, z2, -⟩ := hI.1.sz (by rw [htke]; exact q5 : tk < nTk T L)
      obtain ⟨y1, y2, -⟩ := hI.1.sz ht1
      refine ⟨E[k], hg, ?_, List.drop_eq_getElem_cons hkl⟩
      rw [sameT_iff, h3, ← htke]
      have ef : f = tAt T L tk := by rw [hf] at z1; omega
      have ee : e - f = tSz T L tk := by rw [he] at z2; omega
      have ea : a = tAt T L t := by rw [ha] at y1; omega
      have eb : b - a = tSz T L t := by rw [hb] at y2; omega
      rw [ee, eb, ef, ea]
    refine sp_reads (by omega) hf he hfe he4 hab hb4 (fun hy => ⟨fun z => absurd z (by decide), fun _ => ?_⟩) (fun hy => ⟨fun _ => ?_, fun z => absurd rfl z⟩)
    · refine h (k : Int) (by omega) (by omega) (fun E hE1 ht1 => ?_)
      obtain ⟨e0, q1, q2, q3⟩ := hsame E hE1 ht1
      rw [hE E hE1 ht1, q3, fIx, if_pos (q2.mp hy)]
    · refine ih (k + 1) (by omega) (fun E hE1 ht1 => ?_)
      obtain ⟨e0, q1, q2, q3⟩ := hsame E hE1 ht1
      rw [hE E hE1 ht1, q3, fIx, if_neg (fun z => hy (q2.mpr z))]
theorem sp_find {t : Nat} (hD : 1 ≤ D) (hI : IC T L w) (ht : t ≤ nTk T L) (h : ∀ x : Int, -1 ≤ x → x < w 13 6 → (∀ E, EC T L w E → t < nTk T L → x = fIx T L E t 0) → K (.inl (some (vI x))) w) : Cal g LC jLo_find D [vA 13, vI (t : Int)] w K := by
  obtain ⟨d, rfl⟩ : ∃ d, D = d + 1 := ⟨D - 1, by omega⟩
  obtain ⟨s, hs, hs2, -⟩ := hI.2.1
  exact Cal.ofV (by decide) rfl (Nat.le_of_ble_eq_true rfl) (s_Lo_find (fi_loop hI ht hs hs2 h s 0 (by omega) (fun E _ _ => by rw [List.drop_zero])))
theorem EC.lk {E : List En} {x : Int} (hE : EC T L w E) (hx : -1 ≤ x) (hx2 : x < w 13 6) : (x < 0 ∧ lkE E x = none) ∨ ∃ e, lkE E x = some e ∧ 0 ≤ x ∧ w 15 x.toNat = (e.2.1 : Int) ∧ w 16 x.toNat = (e.2.2.1 : Int) ∧ w 17 x.toNat = (e.2.2.2 : Int) := by
  unfold lkE
  by_cases h0 : x < 0
  · exact Or.inl ⟨h0, if_pos h0⟩
  · right
    rw [if_neg h0]
    have hl := hE.1
    have hk : x.toNat < E.length := by omega
    have hg : E[x.toNat]? = some E[x.toNat] := List.getElem?_eq_getElem hk
    obtain ⟨-, q2, q3, q4, -⟩ := hE.2 _ _ hg
    exact ⟨_, hg, by omega, q2, q3, q4⟩
theorem sp_sortOf {x : Int} (hI : IC T L w) (hx : -1 ≤ x) (hx2 : x < w 13 6) (h : ∀ y : Int, -1 ≤ y → y < 5 → (∀ E, EC T L w E → y = eSo (lkE E x)) → K (.inl (some (vI y))) w) : Cal g LC jLo_sortOf D [vA 13, vI x] w K := by
  obtain ⟨s, hs, hs2, hlo⟩ := hI.2.1
  refine Cal.ofV (by decide) rfl (Nat.le_of_ble_eq_true rfl) (s_Lo_sortOf ⟨fun c => h (-1) (by omega) (by omega) (fun E hE => ?_), fun c => ⟨fun c2 => ⟨by omega, ?_⟩, fun c2 => absurd hx2 c2⟩⟩)
  · unfold lkE; rw [if_pos c]; rfl
  · obtain ⟨-, q1, q2⟩ := hlo x.toNat (by omega)
    refine h _ (by omega) q2 (fun E hE => ?_)
    rcases hE.lk hx hx2 with ⟨a, b⟩ | ⟨e, a, b, c, -⟩
    · omega
    · rw [a]; exact c
theorem sp_numberOf {x : Int} (hI : IC T L w) (hx : -1 ≤ x) (hx2 : x < w 13 6) (h : ∀ y : Int, (∀ E, EC T L w E → y = eNu (lkE E x)) → K (.inl (some (vI y))) w) : Cal g LC jLo_numberOf D [vA 13, vI x] w K := by
  obtain ⟨s, hs, hs2, hlo⟩ := hI.2.1
  refine Cal.ofV (by decide) rfl (Nat.le_of_ble_eq_true rfl) (s_Lo_numberOf ⟨fun c => h 0 (fun E hE => ?_), fun c => ⟨fun c2 => ⟨by omega, ?_⟩, fun c2 => absurd hx2 c2⟩⟩)
  · unfold lkE; rw [if_pos c]; rfl
  · refine h _ (fun E hE => ?_)
    rcases hE.lk hx hx2 with ⟨a, b⟩ | ⟨e, a, b, -, c, -⟩
    · omega
    · rw [a]; exact c
theorem sp_kindOf {x : Int} (hI : IC T L w) (hx : -1 ≤ x) (hx2 : x < w 13 6) (h : ∀ y : Int, (∀ E, EC T L w E → y = eKi (lkE E x)) → K (.inl (some (vI y))) w) : Cal g LC jLo_kindOf D [vA 13, vI x] w K := by
  obtain ⟨s, hs, hs2, hlo⟩ := hI.2.1
  refine Cal.ofV (by decide) rfl (Nat.le_of_ble_eq_true rfl) (s_Lo_kindOf ⟨fun c => h 0 (fun E hE => ?_), fun c => ⟨fun c2 => ⟨by omega, ?_⟩, fun c2 => absurd hx2 c2⟩⟩)
  · unfold lkE; rw [if_pos c]; rfl
  · refine h _ (fun E hE => ?_)
    rcases hE.lk hx hx2 with ⟨a, b⟩ | ⟨e, a, b, -, -, c⟩
    · omega
    · rw [a]; exact c
/-- code: one deed more -/
def addW (w : Wd) (s : Nat) (d a m : Int) : Wd := up (up (up (up (up w 20 s d) 21 s a) 22 s m) 23 s (w 19 5)) 19 4 ((s + 1 : Nat) : Int)
theorem addW_fx (w : Wd) (s : Nat) (d a m : Int) : Fx [19, 20, 21, 22, 23] w (addW w s d a m) := by
  unfold addW
  exact (((((Fx.rf _ w).up (by decide)).up (by decide)).up (by decide)).up (by decide)).up (by decide)
theorem sp_codeAdd {d a m : Int} (hI : IC T L w) (h : ∀ (w' : Wd) (x : Nat), Fx [19, 20, 21, 22, 23] w w' → CodB w' → x ≤ 1024 → w 19 4 = (x : Int) → (x < 1024 → w' = addW w x d a m) → K (.inl (some (vI (x : Int)))) w') : Cal g LC jCo_add D [vA 19, vI d, vI a, vI m] w K := by
  obtain ⟨s, hs, hs2⟩ := id hI.2.2.1
  refine Cal.ofV (by decide) rfl (Nat.le_of_ble_eq_true rfl) (s_Co_add ⟨fun c => ?_, fun c => ?_⟩)
  · rw [hs] at c ⊢
    exact h w s (Fx.rf _ w) hI.2.2.1 hs2 hs (fun z => by omega)
  · rw [hs] at c ⊢
    rw [toN, wr_n1 (by omega)]
    refine ⟨by omega, by omega, by omega, by omega, h _ s (addW_fx w s d a m) ⟨s + 1, ?_, by omega⟩ hs2 hs (fun _ => rfl)⟩
    exact up_s _ _ _ _
theorem sp_aimHere {p : Nat} (hp : p ≤ 1024) (h : ∀ w', Fx [21] w w' → (p < 1024 → w' = up w 21 p (w 19 4)) → K (.inl none) w') : Cal g LC jCo_aimHere D [vA 19, vI (p : Int)] w K := by
  refine Cal.ofV (by decide) rfl (Nat.le_of_ble_eq_true rfl) (s_Co_aimHere ⟨fun c => absurd c (by omega), fun _ => ⟨fun c => h w (Fx.rf _ w) (fun z => by omega), fun c => ⟨by omega, ?_⟩⟩⟩)
  rw [toN]
  exact h _ ((Fx.rf _ w).up (by decide)) (fun _ => rfl)
theorem sp_mark {p : Nat} {v : Int} (hp : p ≤ 1024) (h : ∀ w', Fx [22] w w' → (p < 1024 → w' = up w 22 p v) → K (.inl none) w') : Cal g LC jCo_mark D [vA 19, vI (p : Int), vI v] w K := by
  refine Cal.ofV (by decide) rfl (Nat.le_of_ble_eq_true rfl) (s_Co_mark ⟨fun c => absurd c (by omega), fun _ => ⟨fun c => h w (Fx.rf _ w) (fun z => by omega), fun c => ⟨by omega, ?_⟩⟩⟩)
  rw [toN]
  exact h _ ((Fx.rf _ w).up (by decide)) (fun _ => rfl)
/-- exps: what is known of an exp -/
def knW (w : Wd) (x : Nat) (k l : Int) : Wd := up (up (up w 27 x k) 28 x l) 29 x 0
theorem sp_know {x : Nat} {k l : Int} (hx : x ≤ 1001) (h : K (.inl none) (knW w x k l)) : Cal g LC jEx_know D [vA 26, vI (x : Int), vI k, vI l] w K := by
  refine Cal.ofV (by decide) rfl (Nat.le_of_ble_eq_true rfl) (s_Ex_know ?_)
  rw [toN]
  exact ⟨by omega, by omega, by omega, h⟩
def seW (w : Wd) (x : Nat) (r : Int) : Wd := if 0 < w 29 x ∧ r ≤ w 28 x then up (up (up w 30 x 1) 30 (w 29 x).toNat 1) 29 x 0 else up w 29 x 0
theorem seW_fx (w : Wd) (x : Nat) (r : Int) : Fx [29, 30] w (seW w x r) := by
  unfold seW
  split
  · exact (((Fx.rf _ w).up (by decide)).up (by decide)).up (by decide)
  · exact (Fx.rf _ w).up (by decide)
theorem sp_settle {x : Nat} {r : Int} (hx : x ≤ 1001) (hI : IC T L w) (h : K (.inl none) (seW w x r)) : Cal g LC jEx_settle D [vA 26, vI (x : Int), vI r] w K := by
  have hb : (0 : Int) ≤ (x : Int) ∧ (x : Int) < 1002 := by omega
  have hcl := hI.2.2.2 x (by omega)
  unfold seW at h
  refine Cal.ofV (by decide) rfl (Nat.le_of_ble_eq_true rfl) (s_Ex_settle ?_)
  rw [toN]
  refine ⟨hb, fun c => ⟨hb, ?_⟩, fun c => ⟨hb, fun c2 => ⟨hb, ?_⟩, fun c2 => ⟨hb, by omega, hb, ?_⟩⟩⟩
  · rw [if_neg (by omega)] at h; exact h
  · rw [if_neg (by omega)] at h; exact h
  · rw [if_pos (by omega)] at h; exact h
/-- what a demand blames -/
def dm (T : Nat → Int) (L : Nat) (have_ want : Int) (f : Nat) : Nat := if want ≠ 0 ∧ have_ ≠ 0 ∧ have_ ≠ want then tAt T L f * 8 + 5 else 100000
theorem KY.big {k : Nat} (h : KY w k) : min k 100000 = k := by
  rcases h with ⟨rfl, -⟩ | ⟨p, f, rfl, -, h2, h3, -, -⟩
  · rfl
  · omega
theorem sp_demand {x : Nat} {k : Int} (hD : 1 ≤ D) (hI : IC T L w) (hx : x ≤ nTk T L) (h : ∀ w', B2 w w' → (x ≤ 1000 → ∀ q, KY w q → KY w' (min q (dm T L (w 27 x) k x))) → K (.inl none) w') : Cal g LC jEx_demand D [vA 26, vI (x : Int), vI k] w K := by
  obtain ⟨d, rfl⟩ : ∃ d, D = d + 1 := ⟨D - 1, by omega⟩
  have hn := nTk_le (T := T) (L := L)
  have hb : (0 : Int) ≤ (x : Int) ∧ (x : Int) < 1002 := by omega
  have hno : ¬ (k ≠ 0 ∧ w 27 x ≠ 0 ∧ w 27 x ≠ k) → K (.inl none) w := fun z => h w (B2.rf w) (fun _ q hq => by unfold dm; rw [if_neg z, hq.big]; exact hq)
  refine Cal.ofV (by decide) rfl (Nat.le_of_ble_eq_true rfl) (s_Ex_demand ?_)
  rw [toN]
  refine ⟨fun c => hno (fun z => z.1 c), fun c => ⟨hb, fun c2 => hno (fun z => z.2.1 c2), fun c2 => ⟨hb, fun c3 => hno (fun z => z.2.2 c3), fun c3 => ?_⟩⟩⟩
  refine sp_blame (f := 5) hI (by decide) hx (fun w' hB hk => h w' hB (fun z q hq => ?_))
  unfold dm
  rw [if_pos ⟨c, c2, c3⟩]
  exact hk z q hq
theorem sp_lineOfX {c : Nat} (h : K (.inl (some (vI ((lnO c : Nat) : Int)))) w) : Cal g LC jEx_lineOf D [vI (c : Int)] w K := by
  have key : ∀ c : Nat, K (.inl (some (vI ((lnO c : Nat) : Int)))) w → ∀ v : Int, lnO c = v.toNat → 0 ≤ v → K (.inl (some (vI v))) w := by
    intro c h v hv h0
    rw [hv] at h
    have : ((v.toNat : Nat) : Int) = v := by omega
    rwa [this] at h
  refine Cal.ofV (by decide) rfl (Nat.le_of_ble_eq_true rfl) (s_Ex_lineOf ⟨fun q => key c h 0 ?_ (by decide), fun q => key c h 3 ?_ (by decide), fun q => key c h 3 ?_ (by decide), fun q => key c h 4 ?_ (by decide), fun q => key c h 4 ?_ (by decide), fun q => key c h 5 ?_ (by decide), fun q => key c h 5 ?_ (by decide), fun q => key c h 5 ?_ (by decide), fun q => key c h 0 ?_ (by decide), fun q => key c h 3 ?_ (by decide), fun q => key c h 3 ?_ (by decide), fun q => key c h 3 ?_ (by decide), fun q => key c h 3 ?_ (by decide), fun q => key c h 2 ?_ (by decide), fun q => key c h 1 ?_ (by decide)⟩)
  · unfold lnO
    rw [if_neg (by omega), if_neg (by omega), if_neg (by omega), if_neg (by omega), if_neg (by omega)]; rfl
  all_goals
    obtain rfl : c = _ := by have := q; exact Int.ofNat.inj this
    rfl
def fcD (c : Nat) : Int := if 54 ≤ c ∧ c ≤ 58 then (c : Int) - 47 else -1
theorem sp_factDeed {c : Nat} (h : K (.inl (some (vI (fcD c)))) w) : Cal g LC jEx_factDeed D [vI (c : Int)] w K := by
  refine Cal.ofV (by decide) rfl (Nat.le_of_ble_eq_true rfl) (s_Ex_factDeed ⟨fun q => ?_, fun q => ?_, fun q => ?_, fun q => ?_, fun q => ?_, fun q => ?_⟩)
  · unfold fcD at h; rw [if_neg (by omega)] at h; exact h
  all_goals
    obtain rfl : c = _ := by have := q; exact Int.ofNat.inj this
    exact h
def rdD (s : Int) : Int := if s = 1 then 1 else if s = 2 then 3 else if s = 3 then 4 else if s = 4 then 2 else -1
theorem sp_readingDeed {s : Int} (h : K (.inl (some (vI (rdD s)))) w) : Cal g LC jEx_readingDeed D [vI s] w K := by
  refine Cal.ofV (by decide) rfl (Nat.le_of_ble_eq_true rfl) (s_Ex_readingDeed ⟨fun q => ?_, fun q => ?_, fun q => ?_, fun q => ?_, fun q => ?_⟩)
  · unfold rdD at h
    rw [if_neg (by omega), if_neg (by omega), if_neg (by omega), if_neg (by omega)] at h; exact h
  all_goals
    subst q
    exact h
theorem sp_beginsOne {c : Nat} (hD : 1 ≤ D) (h : K (.inl (some (vI (if bgO c then 1 else 0)))) w) : Cal g LC jEx_beginsOne D [vI (c : Int)] w K := by
  obtain ⟨d, rfl⟩ : ∃ d, D = d + 1 := ⟨D - 1, by omega⟩
  have hy : bgO c → K (.inl (some (vI 1))) w := fun z => by rw [if_pos z] at h; exact h
  have hn : ¬ bgO c → K (.inl (some (vI 0))) w := fun z => by rw [if_neg z] at h; exact h
  clear h
  refine Cal.ofV (by decide) rfl (Nat.le_of_ble_eq_true rfl) (s_Ex_beginsOne ⟨fun q => hy (by omega), fun q1 => ⟨fun q => hy (by omega), fun q2 => ⟨fun q => hy (by omega), fun q3 => ⟨fun q => hy (by omega), fun q4 => ⟨fun q => hy (by omega), fun q5 => ⟨fun q => hy (by omega), fun q6 => ⟨fun q => hy (by omega), fun q7 => ⟨fun q => hy (by omega), fun q8 => ⟨fun q => hy (by omega), fun q9 => ⟨fun q => hy (by omega), fun q10 => ⟨fun q => hy (by omega), fun q11 => sp_factDeed ?_⟩⟩⟩⟩⟩⟩⟩⟩⟩⟩⟩)
  unfold fcD
  by_cases hc : 54 ≤ c ∧ c ≤ 58
  · rw [if_pos hc]
    exact ⟨fun z => absurd z (by omega), fun _ => hy (by omega)⟩
  · rw [if_neg hc]
    exact ⟨fun _ => hn (by omega), fun z => absurd (by decide) z⟩
end LotSpecs
