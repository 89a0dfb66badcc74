/-! Int32 by integers: locals and indices are zI z with z an Int -/
def zI (z : Int) : Int32 := Int32.ofInt z
theorem zi_toInt {z : Int} (h : -2147483648 ≤ z ∧ z < 2147483648) : (zI z).toInt = z :=
  Int32.toInt_ofInt_of_le h.1 h.2
theorem zi_ex (x : Int32) : ∃ z : Int, (-2147483648 ≤ z ∧ z < 2147483648) ∧ x = zI z :=
  ⟨x.toInt, ⟨x.le_toInt, x.toInt_lt⟩, (Int32.ofInt_toInt x).symm⟩
theorem zi_add (a b : Int) : zI a + zI b = zI (a + b) := (Int32.ofInt_add a b).symm
theorem zi_sub (a b : Int) : zI a - zI b = zI (a - b) := (Int32.ofInt_sub a b).symm
theorem zi_mul (a b : Int) : zI a * zI b = zI (a * b) := (Int32.ofInt_mul a b).symm
theorem zi_1 (a : Int) : zI a + 1 = zI (a + 1) := zi_add a 1
theorem zi_2 (a : Int) : zI a + 2 = zI (a + 2) := zi_add a 2
theorem zi_m1 (a : Int) : zI a + (-1) = zI (a - 1) := by
  have h : zI a + zI (-1) = zI (a + -1) := zi_add a (-1)
  exact h
theorem zi_s1 (a : Int) : zI a - 1 = zI (a - 1) := zi_sub a 1
theorem zi_dbl (a : Int) : 2 * zI a = zI (2 * a) := zi_mul 2 a
theorem zi_lt {a b : Int} (ha : -2147483648 ≤ a ∧ a < 2147483648) (hb : -2147483648 ≤ b ∧ b < 2147483648) : zI a < zI b ↔ a < b := by
  rw [Int32.lt_iff_toInt_lt, zi_toInt ha, zi_toInt hb]
theorem zi_le {a b : Int} (ha : -2147483648 ≤ a ∧ a < 2147483648) (hb : -2147483648 ≤ b ∧ b < 2147483648) : zI a ≤ zI b ↔ a ≤ b := by
  rw [Int32.le_iff_toInt_le, zi_toInt ha, zi_toInt hb]
theorem zi_eq {a b : Int} (ha : -2147483648 ≤ a ∧ a < 2147483648) (hb : -2147483648 ≤ b ∧ b < 2147483648) : zI a = zI b ↔ a = b := by
  rw [← Int32.toInt_inj, zi_toInt ha, zi_toInt hb]
theorem zi_cl {z : Int} (h : -2147483648 ≤ z ∧ z < 2147483648) : (zI z).toNatClampNeg = z.toNat :=
  Int32.toNatClampNeg_ofInt_of_le h.1 h.2
theorem zi_in {z : Int} {N : Nat} (h : 0 ≤ z ∧ z < N) (hN : N < 2147483648) : vp_in (zI z) N := by
  rw [vp_in_iff, zi_toInt ⟨by omega, by omega⟩]; exact h
theorem zi_div {a : Int} {d : Int} (ha : 0 ≤ a ∧ a < 2147483648) (hd : 0 < d ∧ d < 2147483648) : zI a / zI d = zI (a / d) := by
  have h := Int32.ofInt_tdiv (a := a) (b := d) (by show (-2147483648 : Int) ≤ a; omega) (by show a ≤ (2147483647 : Int); omega) (by show (-2147483648 : Int) ≤ d; omega) (by show d ≤ (2147483647 : Int); omega)
  rw [Int.tdiv_eq_ediv_of_nonneg ha.1] at h
  exact h.symm
theorem zi_rem {a : Int} {d : Int} (ha : 0 ≤ a ∧ a < 2147483648) (hd : 0 < d ∧ d < 2147483648) : zI a - zI a / zI d * zI d = zI (a % d) := by
  rw [zi_div ha hd, zi_mul, zi_sub]
  congr 1
  have := Int.mul_ediv_add_emod a d
  have e : a / d * d = d * (a / d) := Int.mul_comm _ _
  omega
theorem zi_and1 {a : Int} (ha : -2147483648 ≤ a ∧ a < 2147483648) : zI a &&& 1 = zI (a % 2) := by
  apply Int32.toBitVec_inj.mp
  apply BitVec.eq_of_toNat_eq
  have e1 : (zI a &&& 1).toBitVec.toNat = (zI a).toBitVec.toNat % 2 := by
    rw [Int32.toBitVec_and, BitVec.toNat_and]
    exact Nat.and_two_pow_sub_one_eq_mod _ 1
  have e2 : (zI a).toBitVec = BitVec.ofInt 32 a := rfl
  have e3 : (zI (a % 2)).toBitVec = BitVec.ofInt 32 (a % 2) := rfl
  rw [e1, e2, e3, BitVec.toNat_ofInt, BitVec.toNat_ofInt]
  omega
/-! branches by integers -/
theorem zb_lt {x y : Int32} {A B : Prop} (a b : Int) (f : a < b → A) (g : b ≤ a → B) (hx : x = zI a := by rfl) (hy : y = zI b := by rfl) (ha : -2147483648 ≤ a ∧ a < 2147483648 := by omega) (hb : -2147483648 ≤ b ∧ b < 2147483648 := by omega) : (x < y → A) ∧ (¬ x < y → B) := by
  rw [hx, hy, zi_lt ha hb]; exact ⟨f, fun h => g (by omega)⟩
theorem zb_le {x y : Int32} {A B : Prop} (a b : Int) (f : a ≤ b → A) (g : b < a → B) (hx : x = zI a := by rfl) (hy : y = zI b := by rfl) (ha : -2147483648 ≤ a ∧ a < 2147483648 := by omega) (hb : -2147483648 ≤ b ∧ b < 2147483648 := by omega) : (x ≤ y → A) ∧ (¬ x ≤ y → B) := by
  rw [hx, hy, zi_le ha hb]; exact ⟨f, fun h => g (by omega)⟩
theorem zb_eq {x y : Int32} {A B : Prop} (a b : Int) (f : a = b → A) (g : a ≠ b → B) (hx : x = zI a := by rfl) (hy : y = zI b := by rfl) (ha : -2147483648 ≤ a ∧ a < 2147483648 := by omega) (hb : -2147483648 ≤ b ∧ b < 2147483648 := by omega) : (x = y → A) ∧ (¬ x = y → B) := by
  rw [hx, hy, zi_eq ha hb]; exact ⟨f, g⟩
theorem zv_in {x : Int32} {N : Nat} (z : Int) (h : 0 ≤ z ∧ z < N := by omega) (hx : x = zI z := by rfl) (hN : N < 2147483648 := by omega) : vp_in x N := by
  rw [hx]; exact zi_in h hN
theorem zv_cl {x : Int32} (z : Int) (hx : x = zI z := by rfl) (h : -2147483648 ≤ z ∧ z < 2147483648 := by omega) : x.toNatClampNeg = z.toNat := by
  rw [hx]; exact zi_cl h
/-! booleans -/
def bI (b : Bool) : Int32 := if b = true then 1 else 0
def bZ (b : Bool) : Int := if b = true then 1 else 0
theorem bi_z (b : Bool) : bI b = zI (bZ b) := by cases b <;> rfl
theorem bz_r (b : Bool) : 0 ≤ bZ b ∧ bZ b ≤ 1 := by cases b <;> decide
theorem bi_n (b : Bool) : narrow .boolean (.int (bI b)) = .int (bI b) := by cases b <;> rfl
theorem bi_v (b : Bool) : vp_nar .boolean (bI b) = bI b := by cases b <;> rfl
theorem bi_0 (b : Bool) : bI b = 0 ↔ b = false := by cases b <;> decide
theorem bi_eq (b c : Bool) : bI b = bI c ↔ b = c := by cases b <;> cases c <;> decide
/-- a branch on a boolean -/
theorem bb_0 {b : Bool} {A B : Prop} (f : b = false → A) (g : b = true → B) : (bI b = 0 → A) ∧ (¬ bI b = 0 → B) := by
  cases b
  · exact ⟨fun _ => f rfl, fun h => absurd rfl h⟩
  · exact ⟨fun h => absurd h (by decide), fun _ => g rfl⟩
theorem bb_e {b c : Bool} {A B : Prop} (f : b = c → A) (g : b ≠ c → B) : (bI b = bI c → A) ∧ (¬ bI b = bI c → B) := by
  rw [bi_eq]; exact ⟨f, g⟩
