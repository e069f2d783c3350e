/-! answers that are told alike are one -/
theorem zu_item {p1 p2 p3 L S r t : Int} (a0 : p1 < 0 ∨ 3 < p1 ∨ p2 < 0 ∨ 2 < p2 → r = -1) (a1 : 0 ≤ p1 → p1 ≤ 3 → 0 ≤ p2 → p2 ≤ 2 → L < 0 → r = -11) (a2 : 0 ≤ p1 → p1 ≤ 3 → 0 ≤ p2 → p2 ≤ 2 → 0 ≤ L → L ≠ p2 → r = -12) (a3 : 0 ≤ p1 → p1 ≤ 3 → 0 ≤ p2 → p2 ≤ 2 → L = p2 → (p3 < 0 ∨ 1 < 0 ∨ S < p3 + 1) → r = -13) (a4 : 0 ≤ p1 → p1 ≤ 3 → 0 ≤ p2 → p2 ≤ 2 → L = p2 → 0 ≤ p3 → p3 + 1 ≤ S → r = 1)
    (b0 : p1 < 0 ∨ 3 < p1 ∨ p2 < 0 ∨ 2 < p2 → t = -1) (b1 : 0 ≤ p1 → p1 ≤ 3 → 0 ≤ p2 → p2 ≤ 2 → L < 0 → t = -11) (b2 : 0 ≤ p1 → p1 ≤ 3 → 0 ≤ p2 → p2 ≤ 2 → 0 ≤ L → L ≠ p2 → t = -12) (b3 : 0 ≤ p1 → p1 ≤ 3 → 0 ≤ p2 → p2 ≤ 2 → L = p2 → (p3 < 0 ∨ 1 < 0 ∨ S < p3 + 1) → t = -13) (b4 : 0 ≤ p1 → p1 ≤ 3 → 0 ≤ p2 → p2 ≤ 2 → L = p2 → 0 ≤ p3 → p3 + 1 ≤ S → t = 1) : r = t := by
  by_cases c0 : p1 < 0 ∨ 3 < p1 ∨ p2 < 0 ∨ 2 < p2
  · rw [a0 c0, b0 c0]
  · have o1 : 0 ≤ p1 := by omega
    have o2 : p1 ≤ 3 := by omega
    have o3 : 0 ≤ p2 := by omega
    have o4 : p2 ≤ 2 := by omega
    by_cases c1 : L < 0
    · rw [a1 o1 o2 o3 o4 c1, b1 o1 o2 o3 o4 c1]
    · by_cases c2 : L = p2
      · by_cases c3 : p3 < 0 ∨ 1 < 0 ∨ S < p3 + 1
        · rw [a3 o1 o2 o3 o4 c2 c3, b3 o1 o2 o3 o4 c2 c3]
        · have u1 : 0 ≤ p3 := by clear a0 a1 a2 a3 a4 b0 b1 b2 b3 b4; omega
          have u2 : p3 + 1 ≤ S := by clear a0 a1 a2 a3 a4 b0 b1 b2 b3 b4; omega
          rw [a4 o1 o2 o3 o4 c2 u1 u2, b4 o1 o2 o3 o4 c2 u1 u2]
      · have u0 : 0 ≤ L := by clear a0 a1 a2 a3 a4 b0 b1 b2 b3 b4; omega
        rw [a2 o1 o2 o3 o4 u0 c2, b2 o1 o2 o3 o4 u0 c2]
theorem zu_copy {p1 p2 p3 p4 p5 L S M U r t : Int} (a0 : p1 < 0 ∨ 3 < p1 ∨ p3 < 0 ∨ 3 < p3 → r = -1) (a1 : 0 ≤ p1 → p1 ≤ 3 → 0 ≤ p3 → p3 ≤ 3 → (L < 0 ∨ M < 0) → r = -11) (a2 : 0 ≤ p1 → p1 ≤ 3 → 0 ≤ p3 → p3 ≤ 3 → 0 ≤ L → 0 ≤ M → L ≠ M → r = -12) (a3 : 0 ≤ p1 → p1 ≤ 3 → 0 ≤ p3 → p3 ≤ 3 → 0 ≤ L → L = M → (p5 < 0 ∨ p2 < 0 ∨ S < p2 + p5 ∨ p4 < 0 ∨ U < p4 + p5) → r = -13) (a4 : 0 ≤ p1 → p1 ≤ 3 → 0 ≤ p3 → p3 ≤ 3 → 0 ≤ L → L = M → 0 ≤ p5 → 0 ≤ p2 → p2 + p5 ≤ S → 0 ≤ p4 → p4 + p5 ≤ U → r = p5)
    (b0 : p1 < 0 ∨ 3 < p1 ∨ p3 < 0 ∨ 3 < p3 → t = -1) (b1 : 0 ≤ p1 → p1 ≤ 3 → 0 ≤ p3 → p3 ≤ 3 → (L < 0 ∨ M < 0) → t = -11) (b2 : 0 ≤ p1 → p1 ≤ 3 → 0 ≤ p3 → p3 ≤ 3 → 0 ≤ L → 0 ≤ M → L ≠ M → t = -12) (b3 : 0 ≤ p1 → p1 ≤ 3 → 0 ≤ p3 → p3 ≤ 3 → 0 ≤ L → L = M → (p5 < 0 ∨ p2 < 0 ∨ S < p2 + p5 ∨ p4 < 0 ∨ U < p4 + p5) → t = -13) (b4 : 0 ≤ p1 → p1 ≤ 3 → 0 ≤ p3 → p3 ≤ 3 → 0 ≤ L → L = M → 0 ≤ p5 → 0 ≤ p2 → p2 + p5 ≤ S → 0 ≤ p4 → p4 + p5 ≤ U → t = p5) : r = t := by
  by_cases c0 : p1 < 0 ∨ 3 < p1 ∨ p3 < 0 ∨ 3 < p3
  · rw [a0 c0, b0 c0]
  · have o : (0 ≤ p1 ∧ p1 ≤ 3) ∧ 0 ≤ p3 ∧ p3 ≤ 3 := by clear a0 a1 a2 a3 a4 b0 b1 b2 b3 b4; omega
    obtain ⟨⟨o1, o2⟩, o3, o4⟩ := o
    by_cases c1 : L < 0 ∨ M < 0
    · rw [a1 o1 o2 o3 o4 c1, b1 o1 o2 o3 o4 c1]
    · have u : 0 ≤ L ∧ 0 ≤ M := by clear a0 a1 a2 a3 a4 b0 b1 b2 b3 b4; omega
      by_cases c2 : L = M
      · by_cases c3 : p5 < 0 ∨ p2 < 0 ∨ S < p2 + p5 ∨ p4 < 0 ∨ U < p4 + p5
        · rw [a3 o1 o2 o3 o4 u.1 c2 c3, b3 o1 o2 o3 o4 u.1 c2 c3]
        · have w : (0 ≤ p5 ∧ 0 ≤ p2 ∧ p2 + p5 ≤ S) ∧ 0 ≤ p4 ∧ p4 + p5 ≤ U := by clear a0 a1 a2 a3 a4 b0 b1 b2 b3 b4; omega
          rw [a4 o1 o2 o3 o4 u.1 c2 w.1.1 w.1.2.1 w.1.2.2 w.2.1 w.2.2, b4 o1 o2 o3 o4 u.1 c2 w.1.1 w.1.2.1 w.1.2.2 w.2.1 w.2.2]
      · rw [a2 o1 o2 o3 o4 u.1 u.2 c2, b2 o1 o2 o3 o4 u.1 u.2 c2]
theorem zu_buyer {p1 p2 n r t : Int} (a0 : p1 < 0 ∨ 4 < p1 ∨ p2 < 0 ∨ 999 < p2 → r = -1) (a1 : 0 ≤ p1 → p1 ≤ 4 → 0 ≤ p2 → p2 ≤ 999 → (n < 0 ∨ 5 ≤ n) → r = -3) (a2 : 0 ≤ p1 → p1 ≤ 4 → 0 ≤ p2 → p2 ≤ 999 → 0 ≤ n → n < 5 → r = n)
    (b0 : p1 < 0 ∨ 4 < p1 ∨ p2 < 0 ∨ 999 < p2 → t = -1) (b1 : 0 ≤ p1 → p1 ≤ 4 → 0 ≤ p2 → p2 ≤ 999 → (n < 0 ∨ 5 ≤ n) → t = -3) (b2 : 0 ≤ p1 → p1 ≤ 4 → 0 ≤ p2 → p2 ≤ 999 → 0 ≤ n → n < 5 → t = n) : r = t := by
  by_cases c0 : p1 < 0 ∨ 4 < p1 ∨ p2 < 0 ∨ 999 < p2
  · rw [a0 c0, b0 c0]
  · have o : (0 ≤ p1 ∧ p1 ≤ 4) ∧ 0 ≤ p2 ∧ p2 ≤ 999 := by clear a0 a1 a2 b0 b1 b2; omega
    by_cases c1 : n < 0 ∨ 5 ≤ n
    · rw [a1 o.1.1 o.1.2 o.2.1 o.2.2 c1, b1 o.1.1 o.1.2 o.2.1 o.2.2 c1]
    · have u : 0 ≤ n ∧ n < 5 := by clear a0 a1 a2 b0 b1 b2; omega
      rw [a2 o.1.1 o.1.2 o.2.1 o.2.2 u.1 u.2, b2 o.1.1 o.1.2 o.2.1 o.2.2 u.1 u.2]
theorem zu_film {p1 p2 p3 L S T r t : Int} (h0 : 0 ≤ T) (a0 : p1 < 0 ∨ 3 < p1 ∨ p2 < 0 ∨ 2 < p2 → r = -1) (a1 : 0 ≤ p1 → p1 ≤ 3 → 0 ≤ p2 → p2 ≤ 2 → L < 0 → r = -11) (a2 : 0 ≤ p1 → p1 ≤ 3 → 0 ≤ p2 → p2 ≤ 2 → 0 ≤ L → L ≠ p2 → r = -12) (a3 : 0 ≤ p1 → p1 ≤ 3 → 0 ≤ p2 → p2 ≤ 2 → L = p2 → (p3 < 0 ∨ (2 * T) < 0 ∨ S < p3 + (2 * T)) → r = -13) (a4 : 0 ≤ p1 → p1 ≤ 3 → 0 ≤ p2 → p2 ≤ 2 → L = p2 → 0 ≤ p3 → p3 + (2 * T) ≤ S → T ≤ 0 → r = -2) (a5 : 0 ≤ p1 → p1 ≤ 3 → 0 ≤ p2 → p2 ≤ 2 → L = p2 → 0 ≤ p3 → p3 + (2 * T) ≤ S → 0 < T → r = 2 * T)
    (b0 : p1 < 0 ∨ 3 < p1 ∨ p2 < 0 ∨ 2 < p2 → t = -1) (b1 : 0 ≤ p1 → p1 ≤ 3 → 0 ≤ p2 → p2 ≤ 2 → L < 0 → t = -11) (b2 : 0 ≤ p1 → p1 ≤ 3 → 0 ≤ p2 → p2 ≤ 2 → 0 ≤ L → L ≠ p2 → t = -12) (b3 : 0 ≤ p1 → p1 ≤ 3 → 0 ≤ p2 → p2 ≤ 2 → L = p2 → (p3 < 0 ∨ (2 * T) < 0 ∨ S < p3 + (2 * T)) → t = -13) (b4 : 0 ≤ p1 → p1 ≤ 3 → 0 ≤ p2 → p2 ≤ 2 → L = p2 → 0 ≤ p3 → p3 + (2 * T) ≤ S → T ≤ 0 → t = -2) (b5 : 0 ≤ p1 → p1 ≤ 3 → 0 ≤ p2 → p2 ≤ 2 → L = p2 → 0 ≤ p3 → p3 + (2 * T) ≤ S → 0 < T → t = 2 * T) : r = t := by
  by_cases c0 : p1 < 0 ∨ 3 < p1 ∨ p2 < 0 ∨ 2 < p2
  · rw [a0 c0, b0 c0]
  · have o : (0 ≤ p1 ∧ p1 ≤ 3) ∧ 0 ≤ p2 ∧ p2 ≤ 2 := by clear a0 a1 a2 a3 a4 a5 b0 b1 b2 b3 b4 b5; omega
    obtain ⟨⟨o1, o2⟩, o3, o4⟩ := o
    by_cases c1 : L < 0
    · rw [a1 o1 o2 o3 o4 c1, b1 o1 o2 o3 o4 c1]
    · by_cases c2 : L = p2
      · by_cases c3 : p3 < 0 ∨ (2 * T) < 0 ∨ S < p3 + (2 * T)
        · rw [a3 o1 o2 o3 o4 c2 c3, b3 o1 o2 o3 o4 c2 c3]
        · have u : 0 ≤ p3 ∧ p3 + (2 * T) ≤ S := by clear a0 a1 a2 a3 a4 a5 b0 b1 b2 b3 b4 b5; omega
          by_cases c4 : T ≤ 0
          · rw [a4 o1 o2 o3 o4 c2 u.1 u.2 c4, b4 o1 o2 o3 o4 c2 u.1 u.2 c4]
          · have c5 : 0 < T := by clear a0 a1 a2 a3 a4 a5 b0 b1 b2 b3 b4 b5; omega
            rw [a5 o1 o2 o3 o4 c2 u.1 u.2 c5, b5 o1 o2 o3 o4 c2 u.1 u.2 c5]
      · have u0 : 0 ≤ L := by clear a0 a1 a2 a3 a4 a5 b0 b1 b2 b3 b4 b5; omega
        rw [a2 o1 o2 o3 o4 u0 c2, b2 o1 o2 o3 o4 u0 c2]
