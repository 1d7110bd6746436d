/-! ===== begin() ===== -/
section Begin
variable {g gm : Mg} {d n : Nat} {K : Ou → Wd → Prop} {w wc wc' wm wm' : Wd} {p : Int} {T : Nat → Int} {L m : Nat} {D : DE} {k kq na q : Nat}
theorem cpw_8 {w : Wd} {o1 o2 dp v k : Nat} (hk : k < 8) (hd : dp = 8 * v) : cpw w o1 0 o2 dp 8 o2 (8 * v + k) = w o1 k := by
  unfold cpw
  rw [if_pos ⟨rfl, by omega, by omega⟩]
  congr 1
  omega
theorem cpw_n {w : Wd} {o1 o2 dp n a b : Nat} (h : ¬ (a = o2 ∧ dp ≤ b ∧ b < dp + n)) : cpw w o1 0 o2 dp n a b = w a b := by
  unfold cpw
  rw [if_neg h]
/-- the class's moment as a RUN begins -/
def BaC (q : Nat) (w w' : Wd) : Prop := (∀ o, ¬ (q ≤ o ∧ o ≤ q + 6) → w' o = w o) ∧ w' q 0 = 0 ∧ w' q 1 = 0 ∧ (∀ v k, v < 40 → k < 8 → w' (q + 1) (8 * v + k) = w 9 k) ∧ (∀ v, v < 40 → w' (q + 2) v = 0) ∧ (∀ i, i < 160 → w' (q + 3) i = nthC (w 10 (i % 4)) ∧ w' (q + 4) i = 0) ∧ ∀ k, k < 4 → w' (q + 5) k = nthC (w 11 k) ∧ w' (q + 6) k = 0
theorem sp_beginAs (hq : isMo q) (hd : 3 ≤ d) (h : ∀ w', BaC q w w' → K (.inl none) w') : Cal g LC jMo_beginAs d [vA q, vA 8] w K := by
  obtain ⟨d, rfl⟩ : ∃ d', d = d' + 1 := ⟨d - 1, by omega⟩
  have hr := mo_rng hq
  have lp : ∀ (f v : Nat) (w' : Wd), v + f = 40 → (∀ o, o ≠ q → o ≠ q + 1 → o ≠ q + 2 → w' o = w o) → w' q 0 = 0 → (∀ u k, u < v → k < 8 → w' (q + 1) (8 * u + k) = w 9 k) → (∀ u, u < v → w' (q + 2) u = 0) → V g LC jMo_beginAs (d + 1) K 7 [(0, vA q), (1, vA 8), (2, vI (v : Int))] [] w' := by
    intro f
    induction f with
    | zero =>
      intro v w' hv f0 t0 a1 a2
      have : v = 40 := by omega
      subst this
      refine s_Mo_beginAs_7 hq (by omega) ⟨fun _ => sp_forget hq (by omega) (fun w2 hF => h w2 ?_), fun z => absurd (by decide) z⟩
      obtain ⟨g1, g2, g3, g4, g5⟩ := hF
      refine ⟨fun o ho => ?_, ?_, g2, fun v k hv hk => ?_, fun v hv => ?_, ?_, ?_⟩
      · rw [g1 o (by omega) (by omega), f0 o (by omega) (by omega) (by omega)]
      · rw [g3 0 (by decide)]; exact t0
      · rw [g1 (q + 1) (by omega) (by omega)]; exact a1 v k hv hk
      · rw [g1 (q + 2) (by omega) (by omega)]; exact a2 v hv
      · rw [f0 10 (by omega) (by omega) (by omega)] at g4; exact g4
      · rw [f0 11 (by omega) (by omega) (by omega)] at g5; exact g5
    | succ f ih =>
      intro v w' hv f0 t0 a1 a2
      have e8 : wr ((v : Int) * 8) = ((8 * v : Nat) : Int) := by rw [wr_id (by unfold inI; omega)]; omega
      refine s_Mo_beginAs_7 hq (by omega) ⟨fun z => absurd z (by omega), fun _ => ?_⟩
      rw [e8, toN, toN, wr_n1 (by omega)]
      refine ⟨by omega, by omega, ih (v + 1) _ (by omega) (fun o h1 h2 h3 => ?_) ?_ (fun u k hu hk => ?_) (fun u hu => ?_)⟩
      · rw [up_o h3, cpw_o h2]; exact f0 o h1 h2 h3
      · rw [up_o (by omega), cpw_o (by omega)]; exact t0
      · rw [up_o (by omega)]
        show cpw w' 9 0 (q + 1) (8 * v) 8 (q + 1) (8 * u + k) = w 9 k
        by_cases z : u = v
        · subst z
          rw [cpw_8 hk rfl, f0 9 (by omega) (by omega) (by omega)]
        · rw [cpw_n (by omega)]
          exact a1 u k (by omega) hk
      · by_cases z : u = v
        · subst z; rw [up_s]
        · rw [up_k z, cpw_o (by omega)]
          exact a2 u (by omega)
  exact Cal.ofV (by decide) rfl (Nat.le_of_ble_eq_true rfl) (s_Mo_beginAs hq (by omega) (lp 40 0 _ (by omega) (fun o h1 _ _ => up_o h1) (up_s _ _ _ _) (fun u k hu => by omega) (fun u hu => by omega)))
theorem bg_a {i f c : Nat} (h : i + (f + 1) = c) (hc : c ≤ 8) : i < 8 := by omega
theorem bg_b {i f c : Nat} (h : i + (f + 1) = c) : i + 1 + f = c := by omega
theorem bg_c {i : Nat} (h : i < 8) : i < 2000000000 := by omega
theorem bg_d {v i : Nat} (hv : v < 40) (hi : i < 8) : (0 : Int) ≤ ((8 * v + i : Nat) : Int) ∧ ((8 * v + i : Nat) : Int) < 320 := by omega
theorem bg_e {u v k i : Nat} (h : u < v) (hk : k < 8) (hi : i < 8) : 8 * u + k ≠ 8 * v + i := by omega
theorem bg_f {v k i : Nat} (h : k ≠ i) : 8 * v + k ≠ 8 * v + i := by omega
theorem bg_g {k i : Nat} (h : k < i + 1) (z : k ≠ i) : k < i := by omega
/-- the model as a RUN begins -/
def BaM (D : DE) (n c1 : Nat) (w w' : Wd) : Prop := Fx [41, 42, 43, 44, 45, 46] w w' ∧ (∀ v k, v < n → k < c1 → w' 41 (8 * v + k) = wyD D 1 k) ∧ (∀ v, v < n → w' 42 v = 0) ∧ (∀ i, i < 160 → w' 43 i = 0 ∧ w' 44 i = 0) ∧ ∀ k, k < 4 → w' 45 k = 0 ∧ w' 46 k = 0
theorem begin_61 {c1 : Nat} (hd : 3 ≤ d) (hn : n ≤ 40) (hc : c1 = cntE 1 (enD D)) (hc8 : c1 ≤ 8) (hN : NUM (enD D)) (h59 : w 0 59 = (n : Int)) (hT : TD (kdT T L) w D) (h : ∀ w', BaM D n c1 w w' → K (.inl (some (vI 1))) w') : V gm LM jMd_begin (d + 1) K 61 [(0, vA 0), (2, vI 0)] [] w := by
  have h16 : w 16 1 = (c1 : Int) := by rw [hc]; exact (hT.2.1 1 (by decide)).1
  have l3 : ∀ (f i : Nat) (w' : Wd), i + f = 4 → Fx [41, 42, 43, 44, 45, 46] w w' → (∀ v k, v < n → k < c1 → w' 41 (8 * v + k) = wyD D 1 k) → (∀ v, v < n → w' 42 v = 0) → (∀ i, i < 160 → w' 43 i = 0 ∧ w' 44 i = 0) → (∀ k, k < i → w' 45 k = 0 ∧ w' 46 k = 0) → V gm LM jMd_begin (d + 1) K 148 [(0, vA 0), (2, vI (i : Int))] [] w' := by
    intro f
    induction f with
    | zero =>
      intro i w' hi f0 a1 a2 a3 a4
      have : i = 4 := by omega
      subst this
      exact s_Md_begin_148 ⟨fun _ => h w' ⟨f0, a1, a2, a3, a4⟩, fun z => absurd (by decide) z⟩
    | succ f ih =>
      intro i w' hi f0 a1 a2 a3 a4
      refine s_Md_begin_148 ⟨fun z => absurd z (by omega), fun _ => ?_⟩
      rw [toN, wr_n1 (by omega)]
      refine ⟨by omega, by omega, ih (i + 1) _ (by omega) ((f0.up (by decide)).up (by decide)) (fun v k hv hk => by rw [up_o (by decide), up_o (by decide)]; exact a1 v k hv hk) (fun v hv => by rw [up_o (by decide), up_o (by decide)]; exact a2 v hv) (fun x hx => by rw [up_o (by decide), up_o (by decide), up_o (by decide), up_o (by decide)]; exact a3 x hx) (fun k hk => ?_)⟩
      by_cases z : k = i
      · subst z; exact ⟨by rw [up_o (by decide), up_s], by rw [up_s]⟩
      · obtain ⟨y1, y2⟩ := a4 k (by omega)
        exact ⟨by rw [up_o (by decide), up_k z]; exact y1, by rw [up_k z, up_o (by decide)]; exact y2⟩
  have l2 : ∀ (f i : Nat) (w' : Wd), i + f = 160 → Fx [41, 42, 43, 44, 45, 46] w w' → (∀ v k, v < n → k < c1 → w' 41 (8 * v + k) = wyD D 1 k) → (∀ v, v < n → w' 42 v = 0) → (∀ x, x < i → w' 43 x = 0 ∧ w' 44 x = 0) → V gm LM jMd_begin (d + 1) K 119 [(0, vA 0), (2, vI (i : Int))] [] w' := by
    intro f
    induction f with
    | zero =>
      intro i w' hi f0 a1 a2 a3
      have : i = 160 := by omega
      subst this
      exact s_Md_begin_119 ⟨fun _ => l3 4 0 w' rfl f0 a1 a2 a3 (fun k hk => by omega), fun z => absurd (by decide) z⟩
    | succ f ih =>
      intro i w' hi f0 a1 a2 a3
      refine s_Md_begin_119 ⟨fun z => absurd z (by omega), fun _ => ?_⟩
      rw [toN, wr_n1 (by omega)]
      refine ⟨by omega, by omega, ih (i + 1) _ (by omega) ((f0.up (by decide)).up (by decide)) (fun v k hv hk => by rw [up_o (by decide), up_o (by decide)]; exact a1 v k hv hk) (fun v hv => by rw [up_o (by decide), up_o (by decide)]; exact a2 v hv) (fun x hx => ?_)⟩
      by_cases z : x = i
      · subst z; exact ⟨by rw [up_o (by decide), up_s], by rw [up_s]⟩
      · obtain ⟨y1, y2⟩ := a3 x (by omega)
        exact ⟨by rw [up_o (by decide), up_k z]; exact y1, by rw [up_k z, up_o (by decide)]; exact y2⟩
  have lk : ∀ (v : Nat), v < n → (∀ w', Fx [41, 42, 43, 44, 45, 46] w w' → (∀ u k, u < v + 1 → k < c1 → w' 41 (8 * u + k) = wyD D 1 k) → (∀ u, u < v + 1 → w' 42 u = 0) → V gm LM jMd_begin (d + 1) K 61 [(0, vA 0), (2, vI ((v + 1 : Nat) : Int))] [] w') → ∀ (f i : Nat) (w' : Wd), i + f = c1 → Fx [41, 42, 43, 44, 45, 46] w w' → (∀ u k, u < v → k < c1 → w' 41 (8 * u + k) = wyD D 1 k) → (∀ k, k < i → w' 41 (8 * v + k) = wyD D 1 k) → (∀ u, u < v + 1 → w' 42 u = 0) → V gm LM jMd_begin (d + 1) K 78 [(0, vA 0), (2, vI (v : Int)), (3, vI (i : Int))] [] w' := by
    intro v hv hgo f
    induction f with
    | zero =>
      intro i w' hi f0 a1 a2 a3
      have : i = c1 := by omega
      subst this
      have e16 : w' 16 1 = (i : Int) := by rw [f0 16 (by decide)]; exact h16
      refine s_Md_begin_78 ⟨fun _ => ?_, fun z => absurd (by rw [e16]; exact Int.le_refl _) z⟩
      rw [wr_n1 (by omega)]
      refine hgo w' f0 (fun u k hu hk => ?_) a3
      by_cases z : u = v
      · subst z; exact a2 k hk
      · exact a1 u k (by omega) hk
    | succ f ih =>
      intro i w' hi f0 a1 a2 a3
      have e16 : w' 16 1 = (c1 : Int) := by rw [f0 16 (by decide)]; exact h16
      have hT' : TD (kdT T L) w' D := hT.cg (by rw [f0 0 (by decide)]) (fun o p q => f0 o (by simp; omega))
      refine s_Md_begin_78 ⟨fun z => absurd z (by rw [e16]; omega), fun _ => sp_wayM (so := 1) (by omega) (by decide) hT' hN (by rw [← hc]; omega) ?_⟩
      have hv40 : v < 40 := Nat.lt_of_lt_of_le hv hn
      have hi8 : i < 8 := bg_a hi hc8
      have hnx : i + 1 + f = c1 := bg_b hi
      rw [ix8m hv40 hi8, toN, wr_n1 (bg_c hi8)]
      refine ⟨bg_d hv40 hi8, ih (i + 1) _ hnx (f0.up (by decide)) (fun u k hu hk => by rw [up_k (bg_e hu (Nat.lt_of_lt_of_le hk hc8) hi8)]; exact a1 u k hu hk) (fun k hk => ?_) (fun u hu => by rw [up_o (by decide)]; exact a3 u hu)⟩
      by_cases z : k = i
      · subst z; rw [up_s]
      · rw [up_k (bg_f z)]; exact a2 k (bg_g hk z)
  have l1 : ∀ (f v : Nat) (w' : Wd), v + f = n → Fx [41, 42, 43, 44, 45, 46] w w' → (∀ u k, u < v → k < c1 → w' 41 (8 * u + k) = wyD D 1 k) → (∀ u, u < v → w' 42 u = 0) → V gm LM jMd_begin (d + 1) K 61 [(0, vA 0), (2, vI (v : Int))] [] w' := by
    intro f
    induction f with
    | zero =>
      intro v w' hv f0 a1 a2
      have : v = n := by omega
      subst this
      have e59 : w' 0 59 = (v : Int) := by rw [f0 0 (by decide)]; exact h59
      exact s_Md_begin_61 ⟨fun _ => l2 160 0 w' rfl f0 a1 a2 (fun x hx => by omega), fun z => absurd (by rw [e59]; exact Int.le_refl _) z⟩
    | succ f ih =>
      intro v w' hv f0 a1 a2
      have e59 : w' 0 59 = (n : Int) := by rw [f0 0 (by decide)]; exact h59
      refine s_Md_begin_61 ⟨fun z => absurd z (by rw [e59]; omega), fun _ => ⟨by omega, ?_⟩⟩
      rw [toN]
      refine lk v (by omega) (fun w2 f2 b1 b2 => ih (v + 1) w2 (by omega) f2 b1 b2) c1 0 _ (by omega) (f0.up (by decide)) (fun u k hu hk => by rw [up_o (by decide)]; exact a1 u k hu hk) (fun k hk => by omega) (fun u hu => ?_)
      by_cases z : u = v
      · subst z; rw [up_s]
      · rw [up_k z]; exact a2 u (by omega)
  exact l1 n 0 w (by omega) (Fx.rf _ w) (fun u k hu => by omega) (fun u hu => by omega)
end Begin
