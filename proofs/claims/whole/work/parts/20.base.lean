/-! INTS AS NUMBERS -/
def zi (z : Int) : Int32 := Int32.ofInt z
theorem zi_add (a b : Int) : zi a + zi b = zi (a + b) := (Int32.ofInt_add a b).symm
theorem zi_sub (a b : Int) : zi a - zi b = zi (a - b) := (Int32.ofInt_sub a b).symm
theorem zi_mul (a b : Int) : zi a * zi b = zi (a * b) := (Int32.ofInt_mul a b).symm
theorem zi_toInt {a : Int} (h1 : -2147483648 ≤ a) (h2 : a < 2147483648) : (zi a).toInt = a := Int32.toInt_ofInt_of_le h1 h2
theorem zi_of (x : Int32) : zi x.toInt = x := Int32.ofInt_toInt x
theorem toInt_rng (x : Int32) : -2147483648 ≤ x.toInt ∧ x.toInt < 2147483648 := ⟨Int32.le_toInt x, Int32.toInt_lt x⟩
theorem zi_lt {a b : Int} (h1 : -2147483648 ≤ a) (h2 : a < 2147483648) (h3 : -2147483648 ≤ b) (h4 : b < 2147483648) : zi a < zi b ↔ a < b := by
  rw [Int32.lt_iff_toInt_lt, zi_toInt h1 h2, zi_toInt h3 h4]
theorem zi_le {a b : Int} (h1 : -2147483648 ≤ a) (h2 : a < 2147483648) (h3 : -2147483648 ≤ b) (h4 : b < 2147483648) : zi a ≤ zi b ↔ a ≤ b := by
  rw [Int32.le_iff_toInt_le, zi_toInt h1 h2, zi_toInt h3 h4]
theorem zi_eq {a b : Int} (h1 : -2147483648 ≤ a) (h2 : a < 2147483648) (h3 : -2147483648 ≤ b) (h4 : b < 2147483648) : zi a = zi b ↔ a = b := by
  rw [← Int32.toInt_inj, zi_toInt h1 h2, zi_toInt h3 h4]
theorem nI_zi (n : Nat) : nI n = zi n := by
  exact (Int32.ofInt_eq_ofNat (n := n)).symm
theorem zi_nI (n : Nat) : zi (n : Int) = nI n := (nI_zi n).symm
theorem nI_inj {a b : Nat} (ha : a < 2147483648) (hb : b < 2147483648) (h : nI a = nI b) : a = b := (nI_eq ha hb).mp h
/-- an int is a number in its range -/
theorem zi_ex (x : Int32) : ∃ z : Int, x = zi z ∧ -2147483648 ≤ z ∧ z < 2147483648 := ⟨x.toInt, (zi_of x).symm, toInt_rng x⟩
theorem lt_zi {x y : Int32} : x < y ↔ x.toInt < y.toInt := Int32.lt_iff_toInt_lt
theorem le_zi {x y : Int32} : x ≤ y ↔ x.toInt ≤ y.toInt := Int32.le_iff_toInt_le
theorem eq_zi {x y : Int32} : x = y ↔ x.toInt = y.toInt := Int32.toInt_inj.symm
theorem nI_ti {n : Nat} (h : n < 2147483648) : (nI n).toInt = n := nI_toInt h
/-- an int that is not negative, and not above, is a small number -/
theorem nI_ex {x : Int32} {N : Nat} (h0 : 0 ≤ x.toInt) (h : x.toInt ≤ N) (hN : N < 2147483648) : ∃ n : Nat, n ≤ N ∧ x = nI n := by
  refine ⟨x.toInt.toNat, by omega, ?_⟩
  rw [eq_zi, nI_ti (by omega)]
  omega
/-! memory -/
theorem up_at (M : mM) (k j : Nat) (v : Int32) : up M k j v k j = v := by simp [up]
theorem up_k {M : mM} {k j k' j' : Nat} {v : Int32} (h : k' ≠ k) : up M k j v k' j' = M k' j' := by simp [up, h]
theorem up_j {M : mM} {k j k' j' : Nat} {v : Int32} (h : j' ≠ j) : up M k j v k' j' = M k' j' := by simp [up, h]
/-! bits -/
theorem sh_small {n : Nat} (h : n < 31) : (1 : Int32) <<< (nI n &&& 31) = nI (2 ^ n) := by
  have : ∀ n, n < 31 → (1 : Int32) <<< (nI n &&& 31) = nI (2 ^ n) := by decide
  exact this n h
theorem nI_and31 {n : Nat} (h : n < 32) : nI n &&& 31 = nI n := by
  have : ∀ n, n < 32 → nI n &&& 31 = nI n := by decide
  exact this n h
theorem nI_or (a b : Nat) : nI a ||| nI b = nI (a ||| b) := by
  unfold nI
  rw [← Int32.toBitVec_inj]
  simp [Int32.toBitVec_or]
theorem nI_and (a b : Nat) : nI a &&& nI b = nI (a &&& b) := by
  unfold nI
  rw [← Int32.toBitVec_inj]
  simp [Int32.toBitVec_and]
theorem nI_shr {a n : Nat} (ha : a < 2147483648) (hn : n < 32) : nI a >>> (nI n &&& 31) = nI (a / 2 ^ n) := by
  refine pk_shrN ha _ n ?_
  have : ∀ n, n < 32 → ((nI n &&& 31).toBitVec.smod 32).toNat = n := by decide
  exact this n hn
theorem nI_bit {a n : Nat} (ha : a < 2147483648) (hn : n < 32) : (nI a >>> (nI n &&& 31)) &&& 1 = nI (if a.testBit n then 1 else 0) := by
  rw [nI_shr ha hn, show (1 : Int32) = nI 1 from rfl, nI_and]
  congr 1
  rw [Nat.and_one_is_mod, Nat.testBit_eq_decide_div_mod_eq]
  have : a / 2 ^ n % 2 < 2 := Nat.mod_lt _ (by decide)
  split <;> simp_all <;> omega
