/-! facts of numbers for the walks over any state -/
theorem zi_add {r x y : Int32} {a b : Int} (e : r = x + y) (hx : x.toInt = a) (hy : y.toInt = b) (h1 : -2147483648 ≤ a + b) (h2 : a + b ≤ 2147483647) : r.toInt = a + b := by
  rw [e, Int32.toInt_add, hx, hy]
  exact Int.bmod_eq_of_le (by omega) (by omega)
theorem zi_sub {r x y : Int32} {a b : Int} (e : r = x - y) (hx : x.toInt = a) (hy : y.toInt = b) (h1 : -2147483648 ≤ a - b) (h2 : a - b ≤ 2147483647) : r.toInt = a - b := by
  rw [e, Int32.toInt_sub, hx, hy]
  exact Int.bmod_eq_of_le (by omega) (by omega)
theorem zi_mul {r x y : Int32} {a b : Int} (e : r = x * y) (hx : x.toInt = a) (hy : y.toInt = b) (h1 : -2147483648 ≤ a * b) (h2 : a * b ≤ 2147483647) : r.toInt = a * b := by
  rw [e, Int32.toInt_mul, hx, hy]
  exact Int.bmod_eq_of_le (by omega) (by omega)
theorem zi_div0 {r x y : Int32} {a b : Int} (e : r = x / y) (hx : x.toInt = a) (hy : y.toInt = b) (h1 : 0 ≤ a) (h2 : 0 < b) : 0 ≤ r.toInt ∧ r.toInt ≤ a := by
  rw [e, lg_idiv_nonneg (by omega) (by omega), hx, hy]
  exact ⟨Int.ediv_nonneg h1 (by omega), Int.ediv_le_self b h1⟩
theorem zi_min {r x y : Int32} {a b : Int} (e : r = if y < x then y else x) (hx : x.toInt = a) (hy : y.toInt = b) : r.toInt ≤ a ∧ r.toInt ≤ b ∧ (r.toInt = a ∨ r.toInt = b) := by
  by_cases h : y < x
  · rw [if_pos h] at e
    have := z_lt hy hx h
    rw [e, hy]
    omega
  · rw [if_neg h] at e
    have := z_nlt hy hx h
    rw [e, hx]
    omega
theorem zi_max {r x y : Int32} {a b : Int} (e : r = if x < y then y else x) (hx : x.toInt = a) (hy : y.toInt = b) : a ≤ r.toInt ∧ b ≤ r.toInt ∧ (r.toInt = a ∨ r.toInt = b) := by
  by_cases h : x < y
  · rw [if_pos h] at e
    have := z_lt hx hy h
    rw [e, hy]
    omega
  · rw [if_neg h] at e
    have := z_nlt hx hy h
    rw [e, hx]
    omega
theorem z_nz {y : Int32} {b : Int} (hy : y.toInt = b) (h : b ≠ 0) : ¬ y = 0 := fun e => h (by rw [← hy, e]; rfl)
theorem z_nn {v : Int32} {a : Int} (h : v.toInt = a) (h0 : 0 ≤ a) : ¬ v < 0 := fun q => by
  have q2 : a < 0 := z_lt h rfl q
  omega
theorem z_le2 {p q : Int32} {a b : Int} {N : Nat} (hp : p.toInt = a) (hq : q.toInt = b) (h1 : 0 ≤ a) (h2 : 0 ≤ b) (h3 : a + b ≤ N) : p.toNatClampNeg + q.toNatClampNeg ≤ N := by
  have e1 : p.toNatClampNeg = p.toInt.toNat := rfl
  have e2 : q.toNatClampNeg = q.toInt.toNat := rfl
  rw [e1, e2, hp, hq]
  omega
theorem z_idx {i : Int32} {n : Nat} (h : vp_in i n) : i.toNatClampNeg < n := Nat.not_le.mp fun q => h (Or.inr q)
theorem zi_and1 {r x : Int32} (e : r = x &&& 1) : 0 ≤ r.toInt ∧ r.toInt ≤ 1 := by
  have hb : (x &&& 1).toBitVec.toNat ≤ 1 := by
    show (x.toBitVec &&& 1#32).toNat ≤ 1
    rw [BitVec.toNat_and]
    exact Nat.and_le_right
  have h : (x &&& 1).toInt = ((x &&& 1).toBitVec.toNat : Int) := by
    show (x &&& 1).toBitVec.toInt = _
    rw [BitVec.toInt_eq_toNat_of_lt (by omega)]
  rw [e, h]
  omega
theorem zi_and3 {r x : Int32} (e : r = x &&& 3) : 0 ≤ r.toInt ∧ r.toInt ≤ 3 := by
  have hb : (x &&& 3).toBitVec.toNat ≤ 3 := by
    show (x.toBitVec &&& 3#32).toNat ≤ 3
    rw [BitVec.toNat_and]
    exact Nat.and_le_right
  have h : (x &&& 3).toInt = ((x &&& 3).toBitVec.toNat : Int) := by
    show (x &&& 3).toBitVec.toInt = _
    rw [BitVec.toInt_eq_toNat_of_lt (by omega)]
  rw [e, h]
  omega
/-- how many items the sheets have -/
def iSize (F : Nat → Int32) : Prop := ∀ j, j < 4 → 0 ≤ (F j).toInt ∧ (F j).toInt ≤ 16
theorem iSize_put {F : Nat → Int32} {k : Nat} {v : Int32} (h : iSize F) (h0 : 0 ≤ v.toInt) (h1 : v.toInt ≤ 16) : iSize (upd F k v) := by
  intro j hj
  simp only [upd]
  by_cases q : j = k
  · rw [if_pos q]
    exact ⟨h0, h1⟩
  · rw [if_neg q]
    exact h j hj
