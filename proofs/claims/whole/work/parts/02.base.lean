/-! ===== the abstract values: ints as Int, references as numbers of cells, longs as Int; a world: what each cell holds at each place ===== -/
abbrev AV : Type := Int ⊕ (Nat ⊕ Int)
abbrev vI (x : Int) : AV := .inl x
abbrev vA (a : Nat) : AV := .inr (.inl a)
abbrev vL (x : Int) : AV := .inr (.inr x)
abbrev Wd : Type := Nat → Nat → Int
def up (w : Wd) (o k : Nat) (x : Int) : Wd := fun a b => if a = o ∧ b = k then x else w a b
abbrev inI (x : Int) : Prop := -2147483648 ≤ x ∧ x ≤ 2147483647
abbrev inL (x : Int) : Prop := -9223372036854775808 ≤ x ∧ x ≤ 9223372036854775807
def wr (x : Int) : Int := (x + 2147483648) % 4294967296 - 2147483648
def wrL (x : Int) : Int := (x + 9223372036854775808) % 18446744073709551616 - 9223372036854775808
def wrB (x : Int) : Int := (x + 128) % 256 - 128
theorem up_same (w : Wd) (o k : Nat) (x : Int) : up w o k x o k = x := by simp [up]
theorem up_ne (w : Wd) {o k a b : Nat} (x : Int) (h : ¬ (a = o ∧ b = k)) : up w o k x a b = w a b := by simp only [up]; rw [if_neg h]
theorem wr_in (x : Int) : inI (wr x) := by unfold inI wr; omega
theorem wrL_in (x : Int) : inL (wrL x) := by unfold inL wrL; omega
theorem wr_id {x : Int} (h : inI x) : wr x = x := by unfold inI at h; unfold wr; omega
theorem wrL_id {x : Int} (h : inL x) : wrL x = x := by unfold inL at h; unfold wrL; omega
theorem inI_L {x : Int} (h : inI x) : inL x := by unfold inI at h; unfold inL; omega
theorem bm_wr (x : Int) : x.bmod 4294967296 = wr x := by
  unfold wr Int.bmod
  simp only []
  split <;> omega
theorem bm_wrL (x : Int) : x.bmod 18446744073709551616 = wrL x := by
  unfold wrL Int.bmod
  simp only []
  split <;> omega
theorem bm_wrB (x : Int) : x.bmod 256 = wrB x := by
  unfold wrB Int.bmod
  simp only []
  split <;> omega
theorem i_to (x : Int) : (Int32.ofInt x).toInt = wr x := by rw [Int32.toInt_ofInt, ← bm_wr]
theorem l_to (x : Int) : (Int64.ofInt x).toInt = wrL x := by rw [Int64.toInt_ofInt, ← bm_wrL]
theorem i_in (i : Int32) : inI i.toInt := by
  have h1 := Int32.minValue_le_toInt i
  have h2 := Int32.toInt_le i
  unfold inI
  constructor
  · simpa using h1
  · exact h2
theorem l_in (i : Int64) : inL i.toInt := by
  have h1 := Int64.minValue_le_toInt i
  have h2 := Int64.toInt_le i
  unfold inL
  constructor
  · simpa using h1
  · exact h2
theorem i_of (i : Int32) : Int32.ofInt i.toInt = i := by simp
theorem l_of (i : Int64) : Int64.ofInt i.toInt = i := by simp
theorem i_ext {i j : Int32} (h : i.toInt = j.toInt) : i = j := Int32.toInt_inj.mp h
theorem l_ext {i j : Int64} (h : i.toInt = j.toInt) : i = j := Int64.toInt_inj.mp h
theorem i_wr (x : Int) : Int32.ofInt (wr x) = Int32.ofInt x := i_ext (by rw [i_to, i_to, wr_id (wr_in x)])
theorem l_wr (x : Int) : Int64.ofInt (wrL x) = Int64.ofInt x := l_ext (by rw [l_to, l_to, wrL_id (wrL_in x)])
theorem i_add (a b : Int) : Int32.ofInt a + Int32.ofInt b = Int32.ofInt (wr (a + b)) := i_ext (by
  rw [Int32.toInt_add, i_to, i_to, i_to, wr_id (wr_in _)]
  rw [show (2 ^ 32 : Nat) = 4294967296 from rfl, bm_wr]
  unfold wr; omega)
theorem i_sub (a b : Int) : Int32.ofInt a - Int32.ofInt b = Int32.ofInt (wr (a - b)) := i_ext (by
  rw [Int32.toInt_sub, i_to, i_to, i_to, wr_id (wr_in _)]
  rw [show (2 ^ 32 : Nat) = 4294967296 from rfl, bm_wr]
  unfold wr; omega)
theorem i_neg (a : Int) : -Int32.ofInt a = Int32.ofInt (wr (-a)) := i_ext (by
  rw [Int32.toInt_neg, i_to, i_to, wr_id (wr_in _)]
  rw [show (2 ^ 32 : Nat) = 4294967296 from rfl, bm_wr]
  unfold wr; omega)
theorem wr_mod (x : Int) : wr x % 4294967296 = x % 4294967296 := by unfold wr; omega
theorem wr_congr {x y : Int} (h : x % 4294967296 = y % 4294967296) : wr x = wr y := by unfold wr; omega
theorem i_mul (a b : Int) : Int32.ofInt a * Int32.ofInt b = Int32.ofInt (wr (a * b)) := i_ext (by
  rw [Int32.toInt_mul, i_to, i_to, i_to, wr_id (wr_in _)]
  rw [show (2 ^ 32 : Nat) = 4294967296 from rfl, bm_wr]
  apply wr_congr
  rw [Int.mul_emod, wr_mod, wr_mod, ← Int.mul_emod])
theorem i_lt {a b : Int} (ha : inI a) (hb : inI b) : Int32.ofInt a < Int32.ofInt b ↔ a < b := by
  rw [Int32.lt_iff_toInt_lt, i_to, i_to, wr_id ha, wr_id hb]
theorem i_le {a b : Int} (ha : inI a) (hb : inI b) : Int32.ofInt a ≤ Int32.ofInt b ↔ a ≤ b := by
  rw [Int32.le_iff_toInt_le, i_to, i_to, wr_id ha, wr_id hb]
theorem i_eq {a b : Int} (ha : inI a) (hb : inI b) : Int32.ofInt a = Int32.ofInt b ↔ a = b := by
  constructor
  · intro h
    have := congrArg Int32.toInt h
    rwa [i_to, i_to, wr_id ha, wr_id hb] at this
  · intro h; rw [h]
theorem i_zero : (0 : Int32) = Int32.ofInt 0 := rfl
theorem i_nat {a : Int} (ha : inI a) : (Int32.ofInt a).toNatClampNeg = a.toNat := by
  have : (Int32.ofInt a).toNatClampNeg = (Int32.ofInt a).toInt.toNat := rfl
  rw [this, i_to, wr_id ha]
