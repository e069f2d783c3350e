theorem z_rng (x : Int32) : -2147483648 ≤ x.toInt ∧ x.toInt ≤ 2147483647 := by
  have h1 := Int32.le_toInt x
  have h2 := Int32.toInt_lt x
  omega
theorem z_put {R F : Nat → Int32} {k : Nat} {v : Int32} {a : Int} (e : R = upd F k v) (hv : v.toInt = a) : (R k).toInt = a := by
  rw [e]
  show (if k = k then v else F k).toInt = a
  rw [if_pos rfl]
  exact hv
theorem z_keep {R F : Nat → Int32} {j k : Nat} {v : Int32} (e : R = upd F k v) (h : j ≠ k) : (R j).toInt = (F j).toInt := by
  rw [e]
  simp only [upd]
  rw [if_neg h]
theorem zi_shl (n : Nat) {r x : Int32} {a : Int} (e : r = (1 : Int32) <<< (x &&& 31)) (hx : x.toInt = a) (h0 : 0 ≤ a) (h1 : a ≤ n) (hn : n ≤ 10) : 1 ≤ r.toInt ∧ r.toInt ≤ ((2 ^ n : Nat) : Int) := by
  have key : ∀ c : Nat, c ≤ n → r.toInt = ((2 ^ c : Nat) : Int) → 1 ≤ r.toInt ∧ r.toInt ≤ ((2 ^ n : Nat) : Int) := by
    intro c hc hr
    have g1 : 2 ^ c ≤ 2 ^ n := Nat.pow_le_pow_right (by decide) hc
    have g2 : 1 ≤ 2 ^ c := Nat.one_le_two_pow
    rw [hr]
    constructor
    · exact Int.ofNat_le.mpr g2
    · exact Int.ofNat_le.mpr g1
  have hq : a = 0 ∨ a = 1 ∨ a = 2 ∨ a = 3 ∨ a = 4 ∨ a = 5 ∨ a = 6 ∨ a = 7 ∨ a = 8 ∨ a = 9 ∨ a = 10 := by omega
  rcases hq with q | q | q | q | q | q | q | q | q | q | q
  · have hz : x = 0 := Int32.toInt_inj.mp (hx.trans q)
    exact key 0 (by omega) (by rw [e, hz]; decide)
  · have hz : x = 1 := Int32.toInt_inj.mp (hx.trans q)
    exact key 1 (by omega) (by rw [e, hz]; decide)
  · have hz : x = 2 := Int32.toInt_inj.mp (hx.trans q)
    exact key 2 (by omega) (by rw [e, hz]; decide)
  · have hz : x = 3 := Int32.toInt_inj.mp (hx.trans q)
    exact key 3 (by omega) (by rw [e, hz]; decide)
  · have hz : x = 4 := Int32.toInt_inj.mp (hx.trans q)
    exact key 4 (by omega) (by rw [e, hz]; decide)
  · have hz : x = 5 := Int32.toInt_inj.mp (hx.trans q)
    exact key 5 (by omega) (by rw [e, hz]; decide)
  · have hz : x = 6 := Int32.toInt_inj.mp (hx.trans q)
    exact key 6 (by omega) (by rw [e, hz]; decide)
  · have hz : x = 7 := Int32.toInt_inj.mp (hx.trans q)
    exact key 7 (by omega) (by rw [e, hz]; decide)
  · have hz : x = 8 := Int32.toInt_inj.mp (hx.trans q)
    exact key 8 (by omega) (by rw [e, hz]; decide)
  · have hz : x = 9 := Int32.toInt_inj.mp (hx.trans q)
    exact key 9 (by omega) (by rw [e, hz]; decide)
  · have hz : x = 10 := Int32.toInt_inj.mp (hx.trans q)
    exact key 10 (by omega) (by rw [e, hz]; decide)
theorem z_nat {x : Int32} (h : 0 ≤ x.toInt) : x.toInt = (x.toBitVec.toNat : Int) ∧ x.toBitVec.toNat < 2147483648 := by
  have e : x.toInt = x.toBitVec.toInt := rfl
  rw [e] at h ⊢
  have h2 := BitVec.toInt_eq_toNat_cond x.toBitVec
  have h3 := x.toBitVec.isLt
  by_cases q : 2 * x.toBitVec.toNat < 2 ^ 32
  · rw [if_pos q] at h2
    omega
  · rw [if_neg q] at h2
    omega
theorem zi_or {r x y : Int32} {a b : Int} (e : r = x ||| y) (hx : x.toInt = a) (hy : y.toInt = b) (h0 : 0 ≤ a) (h1 : a ≤ 31) (h2 : 0 ≤ b) (h3 : b ≤ 31) : a ≤ r.toInt ∧ b ≤ r.toInt ∧ r.toInt ≤ 31 := by
  obtain ⟨ex, lx⟩ := z_nat (x := x) (by omega)
  obtain ⟨ey, ly⟩ := z_nat (x := y) (by omega)
  have en : r.toBitVec.toNat = x.toBitVec.toNat ||| y.toBitVec.toNat := by
    rw [e]
    show (x.toBitVec ||| y.toBitVec).toNat = _
    rw [BitVec.toNat_or]
  have g1 : x.toBitVec.toNat ≤ x.toBitVec.toNat ||| y.toBitVec.toNat := Nat.left_le_or
  have g2 : y.toBitVec.toNat ≤ x.toBitVec.toNat ||| y.toBitVec.toNat := Nat.right_le_or
  have g3 : x.toBitVec.toNat ||| y.toBitVec.toNat < 2 ^ 5 := Nat.or_lt_two_pow (by omega) (by omega)
  have er : r.toInt = (r.toBitVec.toNat : Int) := by
    show r.toBitVec.toInt = _
    rw [BitVec.toInt_eq_toNat_of_lt (by omega)]
  omega
theorem zl_add {r x y : Int64} {a b : Int} (e : r = x + y) (hx : x.toInt = a) (hy : y.toInt = b) (h1 : -9223372036854775808 ≤ a + b) (h2 : a + b ≤ 9223372036854775807) : r.toInt = a + b := by
  rw [e, Int64.toInt_add, hx, hy]
  exact Int.bmod_eq_of_le (by omega) (by omega)
