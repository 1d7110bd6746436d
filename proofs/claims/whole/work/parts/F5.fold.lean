/-! ===== folding: the class against the model ===== -/
theorem nth_eq {way : Int} : nthC way = nthM (way - 35) := by
  unfold nthC nthM
  by_cases h1 : way = 36
  · rw [if_pos h1, if_pos (show way - 35 = 1 by omega)]
  · rw [if_neg h1, if_neg (show ¬ way - 35 = 1 by omega)]
    by_cases h2 : way = 37
    · rw [if_pos h2, if_pos (show way - 35 = 2 by omega)]
    · rw [if_neg h2, if_neg (show ¬ way - 35 = 2 by omega)]
      by_cases h3 : way = 39
      · rw [if_pos h3, if_pos (show way - 35 = 4 by omega)]
      · rw [if_neg h3, if_neg (show ¬ way - 35 = 4 by omega)]
/-- c came before; the class holds 'nothing' where none came -/
theorem fld_rel {way c bC bM v : Int} (hw : 35 ≤ way ∧ way ≤ 40) (hc : 0 ≤ c) (hv : inI v) (hb : way = 39 ∨ way = 40 → b01 v) (hr : bC = (if c ≤ 0 then nthM (way - 35) else bM)) : fldC way bC c v = fldM (way - 35) c bM v := by
  unfold fldM
  by_cases h0 : c = 0
  · subst h0
    rw [if_pos (Int.le_refl 0)] at hr
    rw [if_pos rfl]
    have hw' : way = 35 ∨ way = 36 ∨ way = 37 ∨ way = 38 ∨ way = 39 ∨ way = 40 := by omega
    rcases hw' with rfl | rfl | rfl | rfl | rfl | rfl
    · have hr : bC = 0 := hr
      rw [hr]
      show wr (0 + v) = v
      rw [Int.zero_add]
      exact wr_id hv
    · have hr : bC = 2147483647 := hr
      rw [hr]
      show (if v < 2147483647 then v else 2147483647) = v
      unfold inI at hv
      split <;> omega
    · have hr : bC = -2147483648 := hr
      rw [hr]
      show (if -2147483648 < v then v else -2147483648) = v
      unfold inI at hv
      split <;> omega
    · rfl
    · have hr : bC = 1 := hr
      rw [hr]
      show iAnd 1 v = v
      rcases hb (Or.inl rfl) with z | z <;> rw [z] <;> decide
    · have hr : bC = 0 := hr
      rw [hr]
      show iOr 0 v = v
      rcases hb (Or.inr rfl) with z | z <;> rw [z] <;> decide
  · rw [if_neg (by omega)] at hr
    rw [if_neg h0, hr]
    have hw' : way = 35 ∨ way = 36 ∨ way = 37 ∨ way = 38 ∨ way = 39 ∨ way = 40 := by omega
    rcases hw' with rfl | rfl | rfl | rfl | rfl | rfl
    · rfl
    · show (if v < bM then v else bM) = (if bM ≤ v then bM else v)
      by_cases z : v < bM
      · rw [if_pos z, if_neg (by omega)]
      · rw [if_neg z, if_pos (by omega)]
    · show (if bM < v then v else bM) = (if v ≤ bM then bM else v)
      by_cases z : bM < v
      · rw [if_pos z, if_neg (by omega)]
      · rw [if_neg z, if_pos (by omega)]
    · show (if c = 0 then v else bM) = bM
      rw [if_neg h0]
    · rfl
    · rfl
/-- a bool fold holds 0 or 1 -/
theorem fld_b {way bC c v : Int} (hw : way = 38 ∨ way = 39 ∨ way = 40) (hv : b01 v) (hb : b01 bC) : b01 (fldC way bC c v) := by
  rcases hw with rfl | rfl | rfl
  · show b01 (if c = 0 then v else bC)
    split
    · exact hv
    · exact hb
  · show b01 (iAnd bC v)
    rcases hv with z | z <;> rcases hb with y | y <;> rw [z, y] <;> decide
  · show b01 (iOr bC v)
    rcases hv with z | z <;> rcases hb with y | y <;> rw [z, y] <;> decide
theorem fldC_in {way bC c v : Int} (hv : inI v) (hb : inI bC) : inI (fldC way bC c v) := by
  unfold fldC
  split
  · exact wr_in _
  split
  · split
    · exact hv
    · exact hb
  split
  · split
    · exact hv
    · exact hb
  split
  · split
    · exact hv
    · exact hb
  split
  · exact i_in _
  · exact i_in _
