/-! ints as whole numbers -/
def J (a : Int) : Int32 := Int32.ofInt a
theorem J_add (a b : Int) : J a + J b = J (a + b) := (Int32.ofInt_add a b).symm
theorem J_sub (a b : Int) : J a - J b = J (a - b) := (Int32.ofInt_sub a b).symm
theorem J_mul (a b : Int) : J a * J b = J (a * b) := (Int32.ofInt_mul a b).symm
theorem J_toInt {a : Int} (h1 : -2147483648 ≤ a) (h2 : a < 2147483648) : (J a).toInt = a := Int32.toInt_ofInt_of_le (by omega) (by omega)
theorem J_of (x : Int32) : J x.toInt = x := Int32.ofInt_toInt x
theorem J_le {a b : Int} (h1 : -2147483648 ≤ a) (h2 : a < 2147483648) (h3 : -2147483648 ≤ b) (h4 : b < 2147483648) : J a ≤ J b ↔ a ≤ b := by rw [Int32.le_iff_toInt_le, J_toInt h1 h2, J_toInt h3 h4]
theorem J_lt {a b : Int} (h1 : -2147483648 ≤ a) (h2 : a < 2147483648) (h3 : -2147483648 ≤ b) (h4 : b < 2147483648) : J a < J b ↔ a < b := by rw [Int32.lt_iff_toInt_lt, J_toInt h1 h2, J_toInt h3 h4]
theorem J_eq {a b : Int} (h1 : -2147483648 ≤ a) (h2 : a < 2147483648) (h3 : -2147483648 ≤ b) (h4 : b < 2147483648) : J a = J b ↔ a = b := by rw [← Int32.toInt_inj, J_toInt h1 h2, J_toInt h3 h4]
theorem J_nat {a : Int} (h1 : -2147483648 ≤ a) (h2 : a < 2147483648) : (J a).toNatClampNeg = a.toNat := by
  show (J a).toInt.toNat = a.toNat
  rw [J_toInt h1 h2]
theorem J_in {a : Int} {n : Nat} (h1 : 0 ≤ a) (h2 : a < n) (h3 : n ≤ 2147483648) : vp_in (J a) n := by
  unfold vp_in
  rw [J_nat (by omega) (by omega), show (0 : Int32) = J 0 from rfl, J_lt (by omega) (by omega) (by omega) (by omega)]
  omega
theorem ck_J {α : Type} {a : Int} {n : Nat} {k : Option α} (h1 : 0 ≤ a) (h2 : a < n) (h3 : n ≤ 2147483648) : ck (J a) n k = k := by
  unfold ck
  exact if_neg (J_in h1 h2 h3)
theorem J0 : (0 : Int32) = J 0 := rfl
theorem J1 : (1 : Int32) = J 1 := rfl
theorem J2 : (2 : Int32) = J 2 := rfl
theorem J3 : (3 : Int32) = J 3 := rfl
theorem J4 : (4 : Int32) = J 4 := rfl
theorem J5 : (5 : Int32) = J 5 := rfl
theorem J6 : (6 : Int32) = J 6 := rfl
theorem J7 : (7 : Int32) = J 7 := rfl
theorem J8 : (8 : Int32) = J 8 := rfl
theorem J1000 : (1000 : Int32) = J 1000 := rfl
theorem J200000 : (200000 : Int32) = J 200000 := rfl
theorem J256 : (256 : Int32) = J 256 := rfl
theorem Jm1 : (-1 : Int32) = J (-1) := rfl
theorem Jm2 : (-2 : Int32) = J (-2) := rfl
theorem Jm3 : (-3 : Int32) = J (-3) := rfl
theorem Jm4 : (-4 : Int32) = J (-4) := rfl
theorem Jm5 : (-5 : Int32) = J (-5) := rfl
