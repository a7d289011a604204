/-! numbers: an int as a whole number -/
def iI (z : Int) : Int32 := Int32.ofInt z
theorem iI_t {z : Int} (h1 : -2147483648 ≤ z) (h2 : z < 2147483648) : (iI z).toInt = z := Int32.toInt_ofInt_of_le h1 h2
theorem iI_of (x : Int32) : ∃ z : Int, -2147483648 ≤ z ∧ z < 2147483648 ∧ x = iI z := ⟨x.toInt, x.le_toInt, x.toInt_lt, (Int32.ofInt_toInt x).symm⟩
theorem iI_le {a b : Int} (h1 : -2147483648 ≤ a) (h2 : a < 2147483648) (h3 : -2147483648 ≤ b) (h4 : b < 2147483648) : iI a ≤ iI b ↔ a ≤ b := by
  rw [Int32.le_iff_toInt_le, iI_t h1 h2, iI_t h3 h4]
theorem iI_lt {a b : Int} (h1 : -2147483648 ≤ a) (h2 : a < 2147483648) (h3 : -2147483648 ≤ b) (h4 : b < 2147483648) : iI a < iI b ↔ a < b := by
  rw [Int32.lt_iff_toInt_lt, iI_t h1 h2, iI_t h3 h4]
theorem iI_eq {a b : Int} (h1 : -2147483648 ≤ a) (h2 : a < 2147483648) (h3 : -2147483648 ≤ b) (h4 : b < 2147483648) : iI a = iI b ↔ a = b := by
  rw [← Int32.toInt_inj, iI_t h1 h2, iI_t h3 h4]
theorem iI_add (a b : Int) : iI a + iI b = iI (a + b) := (Int32.ofInt_add a b).symm
theorem iI_sub (a b : Int) : iI a - iI b = iI (a - b) := (Int32.ofInt_sub a b).symm
theorem iI_mul (a b : Int) : iI a * iI b = iI (a * b) := (Int32.ofInt_mul a b).symm
theorem iI_neg (a : Int) : -iI a = iI (-a) := (Int32.ofInt_neg a).symm
theorem nI_i (n : Nat) : nI n = iI (n : Int) := Int32.ofInt_eq_ofNat.symm
theorem lit_i (n : Nat) : (OfNat.ofNat n : Int32) = iI (OfNat.ofNat n : Int) := nI_i n
theorem iI_cl {a : Int} (h1 : -2147483648 ≤ a) (h2 : a < 2147483648) : (iI a).toNatClampNeg = a.toNat := Int32.toNatClampNeg_ofInt_of_le h1 h2
theorem iI_in {a : Int} {n : Nat} (h1 : -2147483648 ≤ a) (h2 : a < 2147483648) : vp_in (iI a) n ↔ 0 ≤ a ∧ a < n := by
  rw [vp_in_iff, iI_t h1 h2]
theorem iI_if {c : Prop} [Decidable c] (a b : Int) : (if c then iI a else iI b) = iI (if c then a else b) := by split <;> rfl
theorem nar0 : vp_nar .boolean 0 = 0 := rfl
theorem nar1 : vp_nar .boolean 1 = 1 := rfl
theorem upd_eq (f : Nat → Int32) (k : Nat) (x : Int32) (j : Nat) : upd f k x j = if j = k then x else f j := rfl
theorem lit_ne {n m : Nat} (h : n ≠ m) (hn : n < 2147483648) (hm : m < 2147483648) : ¬ (OfNat.ofNat n : Int32) = (OfNat.ofNat m : Int32) := by
  rw [lit_i, lit_i, iI_eq (by show (-2147483648 : Int) ≤ (n : Int); omega) (by show (n : Int) < 2147483648; omega) (by show (-2147483648 : Int) ≤ (m : Int); omega) (by show (m : Int) < 2147483648; omega)]
  intro q
  exact h (by have : (n : Int) = (m : Int) := q; omega)
theorem t_lit (n : Nat) (h : n < 2147483648) : (OfNat.ofNat n : Int32).toInt = (n : Int) := by
  rw [lit_i]
  exact iI_t (show (-2147483648 : Int) ≤ (n : Int) by omega) (show (n : Int) < 2147483648 by omega)
/-! small methods of both sides -/
theorem p_in7 {x a b : Int32} {Q : Int32 → Prop} (h1 : a.toInt ≤ x.toInt → x.toInt ≤ b.toInt → Q 1) (h0 : (x.toInt < a.toInt ∨ b.toInt < x.toInt) → Q 0) : wp_X7_isWithin x a b Q := by
  unfold wp_X7_isWithin
  refine ⟨fun c => h0 (Or.inl (Int32.lt_iff_toInt_lt.mp c)), fun c => ⟨fun d => h0 (Or.inr (Int32.lt_iff_toInt_lt.mp d)), fun d => h1 ?_ ?_⟩⟩
  · rw [Int32.lt_iff_toInt_lt] at c; omega
  · rw [Int32.lt_iff_toInt_lt] at d; omega
theorem p_in8 {x a b : Int32} {Q : Int32 → Prop} (h1 : a.toInt ≤ x.toInt → x.toInt ≤ b.toInt → Q 1) (h0 : (x.toInt < a.toInt ∨ b.toInt < x.toInt) → Q 0) : wp_X8_in x a b Q := by
  unfold wp_X8_in
  refine ⟨fun c => h0 (Or.inl (Int32.lt_iff_toInt_lt.mp c)), fun c => ⟨fun d => h0 (Or.inr (Int32.lt_iff_toInt_lt.mp d)), fun d => h1 ?_ ?_⟩⟩
  · rw [Int32.lt_iff_toInt_lt] at c; omega
  · rw [Int32.lt_iff_toInt_lt] at d; omega
