/-! whole numbers in Int32 -/
def zI (z : Int) : Int32 := Int32.ofInt z
theorem zI_n (n : Nat) : nI n = zI (n : Int) := Int32.ofInt_eq_ofNat.symm
theorem zI_toInt {z : Int} (h1 : -2147483648 ≤ z) (h2 : z < 2147483648) : (zI z).toInt = z := by
  apply Int32.toInt_ofInt_of_le <;> omega
theorem zI_add (a b : Int) : zI a + zI b = zI (a + b) := (Int32.ofInt_add a b).symm
theorem zI_sub (a b : Int) : zI a - zI b = zI (a - b) := (Int32.ofInt_sub a b).symm
theorem zI_mul (a b : Int) : zI a * zI b = zI (a * b) := (Int32.ofInt_mul a b).symm
theorem zI_neg (a : Int) : -zI a = zI (-a) := (Int32.ofInt_neg a).symm
theorem zI_le {a b : Int} (ha : -2147483648 ≤ a) (ha2 : a < 2147483648) (hb : -2147483648 ≤ b) (hb2 : b < 2147483648) : (zI a ≤ zI b) = (a ≤ b) := by
  apply propext
  rw [Int32.le_iff_toInt_le, zI_toInt ha ha2, zI_toInt hb hb2]
theorem zI_lt {a b : Int} (ha : -2147483648 ≤ a) (ha2 : a < 2147483648) (hb : -2147483648 ≤ b) (hb2 : b < 2147483648) : (zI a < zI b) = (a < b) := by
  apply propext
  rw [Int32.lt_iff_toInt_lt, zI_toInt ha ha2, zI_toInt hb hb2]
theorem zI_eq {a b : Int} (ha : -2147483648 ≤ a) (ha2 : a < 2147483648) (hb : -2147483648 ≤ b) (hb2 : b < 2147483648) : (zI a = zI b) = (a = b) := by
  apply propext
  rw [← Int32.toInt_inj, zI_toInt ha ha2, zI_toInt hb hb2]
theorem zI_of (x : Int32) : x = zI x.toInt := (Int32.ofInt_toInt x).symm
theorem NN_z : NN = zI (-1) := by decide +kernel
/-- two berths are beside each other -/
theorem mz_abs {a b : Nat} (ha : a < 1000) (hb : b < 1000) : (if nI 0 ≤ nI a - nI b then nI a - nI b else nI 0 - (nI a - nI b)) = zI (if 0 ≤ (a : Int) - b then (a : Int) - b else -((a : Int) - b)) := by
  rw [zI_n a, zI_n b, zI_n 0, zI_sub]
  have e : (zI ((0 : Nat) : Int) ≤ zI ((a : Int) - b)) = (0 ≤ (a : Int) - b) := by rw [zI_le (by omega) (by omega) (by omega) (by omega)]; rfl
  simp only [e]
  split
  · rfl
  · rw [zI_sub]
    congr 1
    omega
theorem mz_abs1 {a b : Nat} (ha : a < 1000) (hb : b < 1000) : ((if nI 0 ≤ nI a - nI b then nI a - nI b else nI 0 - (nI a - nI b)) = nI 1) = (a + 1 = b ∨ b + 1 = a) := by
  rw [mz_abs ha hb, zI_n 1, zI_eq] <;> (try split) <;> (try apply propext) <;> omega
