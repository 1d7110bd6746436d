/-! ===== the model judges blocks: the frame ===== -/
/-- what judging of statements changes: slots of rows s..s', names of rows lo..hi, lets from n on -/
def FMk (w w' : Wd) (s s' lo hi n : Nat) : Prop := Fx [0, 24, 32, 33, 34, 35] w w' ∧ (∀ b, b ≠ 46 → b ≠ 47 → b ≠ 50 → b ≠ 51 → b ≠ 52 → b ≠ 53 → w' 0 b = w 0 b) ∧ (∀ x, (x < s ∨ s' ≤ x ∨ w 17 x = 4) → w' 24 x = w 24 x) ∧ (∀ x, (x < lo ∨ hi ≤ x) → w' 32 x = w 32 x ∧ w' 33 x = w 33 x) ∧ ∀ x, x < n → w' 34 x = w 34 x ∧ w' 35 x = w 35 x
section JudgeFrame
variable {w w' : Wd} {T : Nat → Int} {L m s s' lo hi n : Nat}
theorem FMk.rf (w : Wd) : FMk w w s s' lo hi n := ⟨Fx.rf _ w, fun _ _ _ _ _ _ _ => rfl, fun _ _ => rfl, fun _ _ => ⟨rfl, rfl⟩, fun _ _ => ⟨rfl, rfl⟩⟩
theorem FMk.tr {a b c : Wd} (h1 : FMk a b s s' lo hi n) (h2 : FMk b c s s' lo hi n) : FMk a c s s' lo hi n := by
  obtain ⟨a1, a2, a3, a4, a5⟩ := h1
  obtain ⟨b1, b2, b3, b4, b5⟩ := h2
  refine ⟨a1.tr b1, fun x p1 p2 p3 p4 p5 p6 => (b2 x p1 p2 p3 p4 p5 p6).trans (a2 x p1 p2 p3 p4 p5 p6), fun x hx => ?_, fun x hx => ⟨(b4 x hx).1.trans (a4 x hx).1, (b4 x hx).2.trans (a4 x hx).2⟩, fun x hx => ⟨(b5 x hx).1.trans (a5 x hx).1, (b5 x hx).2.trans (a5 x hx).2⟩⟩
  have e17 : b 17 = a 17 := a1 17 (by decide)
  exact (b3 x (by rw [e17]; exact hx)).trans (a3 x hx)
theorem FMk.le {t t' p p' k : Nat} (h : FMk w w' s s' lo hi n) (h1 : t ≤ s) (h2 : s' ≤ t') (h3 : p ≤ lo) (h4 : hi ≤ p') (h5 : k ≤ n) : FMk w w' t t' p p' k := ⟨h.1, h.2.1, fun x hx => h.2.2.1 x (by omega), fun x hx => h.2.2.2.1 x (by omega), fun x hx => h.2.2.2.2 x (by omega)⟩
theorem FMk.j (h : FMj w w' lo hi) : FMk w w' s s' lo hi n := ⟨h.1.mono (by decide), fun x p1 p2 _ p4 p5 p6 => h.2.1 x p1 p2 p4 p5 p6, fun x _ => by rw [h.1 24 (by decide)], h.2.2, fun x _ => ⟨by rw [h.1 34 (by decide)], by rw [h.1 35 (by decide)]⟩⟩
theorem TxM.fk (h : TxM T L m w) (hf : FMk w w' s s' lo hi n) : TxM T L m w' := by
  obtain ⟨h1, h2, h3, h4, h5, h6⟩ := h
  refine ⟨?_, h2, h3, h4, by rw [hf.1 3 (by decide)]; exact h5, h6⟩
  unfold MTk at *
  rw [hf.1 4 (by decide), hf.1 5 (by decide), hf.1 6 (by decide), hf.1 7 (by decide)]
  exact h1
end JudgeFrame
