theorem z_tn {i : Int32} {a : Int} (hi : i.toInt = a) (h0 : 0 ≤ a) : i.toNatClampNeg = a.toNat := by
  rw [← hi]
  rfl
theorem z_tn' {i : Int32} {a : Int} (hi : i.toInt = a) (h0 : 0 ≤ a) : ((i.toNatClampNeg : Nat) : Int) = a := by
  rw [z_tn hi h0]
  omega
/-- the k-th byte of a word, and whether its first n bytes may stand on a tape -/
def zb8 (v : Int64) (k : Int32) : Int := ((v >>> ((8 * k).toInt64 &&& 63)) &&& 255).toInt
noncomputable def zOK (v : Int64) (n : Int) : Int := @ite Int (∀ k : Int32, 0 ≤ k.toInt → k.toInt < n → 32 ≤ zb8 v k ∧ zb8 v k ≤ 126) (Classical.propDecidable _) 1 0
theorem zOK_01 (v : Int64) (n : Int) : zOK v n = 0 ∨ zOK v n = 1 := by
  unfold zOK
  split
  · exact Or.inr rfl
  · exact Or.inl rfl
theorem zOK_0 (v : Int64) : zOK v 0 = 1 := by
  unfold zOK
  exact if_pos fun k h0 h1 => by omega
theorem zOK_s {v : Int64} {a c : Int} (h : zOK v a = 1) (k : Int32) (hk : k.toInt = a) (b0 : 32 ≤ zb8 v k) (b1 : zb8 v k ≤ 126) (e : c = a + 1) : zOK v c = 1 := by
  unfold zOK at h ⊢
  refine if_pos fun j h0 h1 => ?_
  by_cases q : j.toInt = a
  · have : j = k := Int32.toInt_inj.mp (q.trans hk.symm)
    rw [this]
    exact ⟨b0, b1⟩
  · have hh : ∀ k : Int32, 0 ≤ k.toInt → k.toInt < a → 32 ≤ zb8 v k ∧ zb8 v k ≤ 126 := by
      by_cases g : ∀ k : Int32, 0 ≤ k.toInt → k.toInt < a → 32 ≤ zb8 v k ∧ zb8 v k ≤ 126
      · exact g
      · rw [if_neg g] at h
        omega
    exact hh j h0 (by omega)
theorem zOK_b {v : Int64} {n : Int} (k : Int32) (h0 : 0 ≤ k.toInt) (h1 : k.toInt < n) (b : zb8 v k < 32 ∨ 126 < zb8 v k) : zOK v n = 0 := by
  unfold zOK
  refine if_neg fun g => ?_
  have := g k h0 h1
  omega
/-- a tape's length behind a typing, and the answer -/
noncomputable def zTL (v : Int64) (n l : Int) : Int := if 1 ≤ n ∧ n ≤ 8 ∧ zOK v n = 1 ∧ l + n ≤ 60 then l + n else l
noncomputable def zTR (v : Int64) (n l : Int) : Int := if n < 1 ∨ 8 < n ∨ zOK v n = 0 then -1 else if 60 < l + n then -3 else l + n
theorem zTL_c (v : Int64) (n l : Int) : zTL v n l = l ∨ (zOK v n = 1 ∧ n ≤ 8 ∧ zTL v n l = l + n) := by
  unfold zTL
  split
  · rename_i h
    exact Or.inr ⟨h.2.2.1, h.2.1, rfl⟩
  · exact Or.inl rfl
