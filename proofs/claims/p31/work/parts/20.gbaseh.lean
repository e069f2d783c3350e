/-! the sheets' items -/
/-- a row of items is just that one -/
def zEqL (X F : Nat → Int64) : Prop := F = X
theorem zEqL_0 {F : Nat → Int64} : zEqL F F := rfl
theorem zEqL_tr {X Y F : Nat → Int64} (h : zEqL X F) (e : X = Y) : zEqL Y F := h.trans e
/-- an item as of a lane -/
def zCut (la : Int) (v : Int64) : Int64 := if la = 0 then v.toInt32.toInt8.toInt32.toInt64 else if la = 1 then v.toInt32.toInt64 else v
theorem zCut_0 {la : Int} {v : Int64} (h : la = 0) : zCut la v = v.toInt32.toInt8.toInt32.toInt64 := if_pos h
theorem zCut_1 {la : Int} {v : Int64} (h : la = 1) : zCut la v = v.toInt32.toInt64 := (if_neg (by omega)).trans (if_pos h)
theorem zCut_2 {la : Int} {v : Int64} (h0 : la ≠ 0) (h1 : la ≠ 1) : zCut la v = v := (if_neg h0).trans (if_neg h1)
theorem z_i8 {x : Int32} (h0 : -1 ≤ x.toInt) (h1 : x.toInt ≤ 99) : x.toInt8.toInt32 = x := by
  have e : x.toInt8.toInt32.toInt = x.toInt.bmod 256 := by
    rw [Int8.toInt_toInt32]
    exact Int32.toInt_toInt8 x
  exact Int32.toInt_inj.mp (e.trans (Int.bmod_eq_of_le (by omega) (by omega)))
/-- a buyer's number, a price are in each lane what they are -/
theorem zCut_small {la : Int} {x : Int32} (h0 : -1 ≤ x.toInt) (h1 : x.toInt ≤ 99) : zCut la x.toInt64 = Int64.ofInt x.toInt := by
  have e : Int64.ofInt x.toInt = x.toInt64 := rfl
  rw [e]
  unfold zCut
  rw [Int32.toInt32_toInt64, z_i8 h0 h1]
  split
  · rfl
  · split <;> rfl
/-- what a put makes of the items -/
def zIpt (L S : Nat → Int32) (s : Int32) (k : Int) (w : Int64) (Z : Nat → Int64) : Nat → Int64 := if 0 ≤ s.toInt ∧ s.toInt ≤ 3 ∧ 0 ≤ k ∧ k + 1 ≤ (S s.toNatClampNeg).toInt then vp_updL Z (16 * s.toInt + k).toNat (zCut (L s.toNatClampNeg).toInt w) else Z
theorem zIpt_at {L S : Nat → Int32} {s : Int32} {k : Int} {w : Int64} {Z : Nat → Int64} (h : 0 ≤ s.toInt ∧ s.toInt ≤ 3 ∧ 0 ≤ k ∧ k + 1 ≤ (S s.toNatClampNeg).toInt) : zIpt L S s k w Z = vp_updL Z (16 * s.toInt + k).toNat (zCut (L s.toNatClampNeg).toInt w) := if_pos h
theorem zIpt_yes {L S : Nat → Int32} {s i : Int32} {k : Int} {w v : Int64} {Z R : Nat → Int64} (e : R = vp_updL Z i.toNatClampNeg v) (hi : i.toInt = 16 * s.toInt + k) (h : 0 ≤ s.toInt ∧ s.toInt ≤ 3 ∧ 0 ≤ k ∧ k + 1 ≤ (S s.toNatClampNeg).toInt) (hv : zCut (L s.toNatClampNeg).toInt w = v) : zEqL (zIpt L S s k w Z) R := by
  unfold zEqL
  rw [zIpt_at h, hv, e, z_tn hi (by omega)]
theorem zIpt_no {L S : Nat → Int32} {s : Int32} {k : Int} {w : Int64} {Z : Nat → Int64} (h : ¬ (0 ≤ s.toInt ∧ s.toInt ≤ 3 ∧ 0 ≤ k ∧ k + 1 ≤ (S s.toNatClampNeg).toInt)) : zEqL (zIpt L S s k w Z) Z := (if_neg h).symm
/-- what item makes of them -/
def zItm (L S : Nat → Int32) (s la : Int32) (k : Int) (w : Int64) (Z : Nat → Int64) : Nat → Int64 := if 0 ≤ s.toInt ∧ s.toInt ≤ 3 ∧ 0 ≤ la.toInt ∧ la.toInt ≤ 2 ∧ (L s.toNatClampNeg).toInt = la.toInt ∧ 0 ≤ k ∧ k + 1 ≤ (S s.toNatClampNeg).toInt then vp_updL Z (16 * s.toInt + k).toNat (zCut la.toInt w) else Z
theorem zItm_pt {L S : Nat → Int32} {s la : Int32} {k : Int} {w : Int64} {Z R : Nat → Int64} (h : zEqL (zIpt L S s k w Z) R) (c : 0 ≤ s.toInt ∧ s.toInt ≤ 3 ∧ 0 ≤ la.toInt ∧ la.toInt ≤ 2 ∧ (L s.toNatClampNeg).toInt = la.toInt ∧ 0 ≤ k ∧ k + 1 ≤ (S s.toNatClampNeg).toInt) : zEqL (zItm L S s la k w Z) R := by
  refine zEqL_tr h ?_
  unfold zItm
  rw [zIpt_at ⟨c.1, c.2.1, c.2.2.2.2.2.1, c.2.2.2.2.2.2⟩, if_pos c, c.2.2.2.2.1]
theorem zItm_yes {L S : Nat → Int32} {s la i : Int32} {k : Int} {w v : Int64} {Z R : Nat → Int64} (e : R = vp_updL Z i.toNatClampNeg v) (hi : i.toInt = 16 * s.toInt + k) (c : 0 ≤ s.toInt ∧ s.toInt ≤ 3 ∧ 0 ≤ la.toInt ∧ la.toInt ≤ 2 ∧ (L s.toNatClampNeg).toInt = la.toInt ∧ 0 ≤ k ∧ k + 1 ≤ (S s.toNatClampNeg).toInt) (hv : v = zCut la.toInt w) : zEqL (zItm L S s la k w Z) R := by
  unfold zEqL zItm
  rw [if_pos c, e, hv, z_tn hi (by omega)]
theorem zItm_no {L S : Nat → Int32} {s la : Int32} {k : Int} {w : Int64} {Z : Nat → Int64} (h : ¬ (0 ≤ s.toInt ∧ s.toInt ≤ 3 ∧ 0 ≤ la.toInt ∧ la.toInt ≤ 2 ∧ (L s.toNatClampNeg).toInt = la.toInt ∧ 0 ≤ k ∧ k + 1 ≤ (S s.toNatClampNeg).toInt)) : zEqL (zItm L S s la k w Z) Z := (if_neg h).symm
/-- filled from a place on -/
def zFl9 (a b : Int) (v : Int64) (Z : Nat → Int64) : Nat → Int64 := fun j => if a ≤ (j : Int) ∧ (j : Int) < b then v else Z j
theorem zFl9_0 {a : Int} {v : Int64} {Z : Nat → Int64} : zEqL (zFl9 a a v Z) Z := by
  funext j
  exact (if_neg (by omega)).symm
theorem zFl9_eq {a b c : Int} {v : Int64} {Z F : Nat → Int64} (h : zEqL (zFl9 a b v Z) F) (e : b = c) : zEqL (zFl9 a c v Z) F := e ▸ h
theorem zFl9_put {a b : Int} {v : Int64} {Z F : Nat → Int64} {i : Int32} (h : zEqL (zFl9 a b v Z) F) (hi : i.toInt = b) (h0 : 0 ≤ b) (hab : a ≤ b) : zEqL (zFl9 a (b + 1) v Z) (vp_updL F i.toNatClampNeg v) := by
  have q := z_tn' hi h0
  funext j
  show (if j = i.toNatClampNeg then v else F j) = (if a ≤ (j : Int) ∧ (j : Int) < b + 1 then v else Z j)
  rw [show F j = (if a ≤ (j : Int) ∧ (j : Int) < b then v else Z j) from congrFun h j]
  by_cases c : j = i.toNatClampNeg
  · rw [if_pos c, if_pos (by omega)]
  · rw [if_neg c]
    by_cases d : a ≤ (j : Int) ∧ (j : Int) < b
    · rw [if_pos d, if_pos (by omega)]
    · rw [if_neg d, if_neg (by omega)]
/-- a new row of a sheet -/
def zSht (s la n : Int) (Z : Nat → Int64) : Nat → Int64 := if 0 ≤ s ∧ s ≤ 3 ∧ 0 ≤ la ∧ la ≤ 2 ∧ 0 ≤ n ∧ n ≤ 16 then zFl9 (16 * s) (16 * s + 16) 0 Z else Z
theorem zSht_yes {s la n a b : Int} {v : Int64} {Z F : Nat → Int64} (h : zEqL (zFl9 a b v Z) F) (c : 0 ≤ s ∧ s ≤ 3 ∧ 0 ≤ la ∧ la ≤ 2 ∧ 0 ≤ n ∧ n ≤ 16) (ha : a = 16 * s) (hb : b = 16 * s + 16) (hv : v = 0) : zEqL (zSht s la n Z) F := by
  refine zEqL_tr h ?_
  unfold zSht
  rw [if_pos c, ha, hb, hv]
theorem zSht_no {s la n : Int} {Z : Nat → Int64} (h : ¬ (0 ≤ s ∧ s ≤ 3 ∧ 0 ≤ la ∧ la ≤ 2 ∧ 0 ≤ n ∧ n ≤ 16)) : zEqL (zSht s la n Z) Z := (if_neg h).symm
/-- what copy makes of them -/
def zCop (L S : Nat → Int32) (f t : Int32) (i j n : Int) (Z : Nat → Int64) : Nat → Int64 := if 0 ≤ f.toInt ∧ f.toInt ≤ 3 ∧ 0 ≤ t.toInt ∧ t.toInt ≤ 3 ∧ 0 ≤ (L f.toNatClampNeg).toInt ∧ (L f.toNatClampNeg).toInt = (L t.toNatClampNeg).toInt ∧ 0 ≤ n ∧ 0 ≤ i ∧ i + n ≤ (S f.toNatClampNeg).toInt ∧ 0 ≤ j ∧ j + n ≤ (S t.toNatClampNeg).toInt then va_cpy Z Z (16 * f.toInt + i).toNat (16 * t.toInt + j).toNat n.toNat else Z
theorem zCop_yes {L S : Nat → Int32} {f t x y m : Int32} {i j n : Int} {Z R : Nat → Int64} (e : R = va_cpy Z Z x.toNatClampNeg y.toNatClampNeg m.toNatClampNeg) (c : 0 ≤ f.toInt ∧ f.toInt ≤ 3 ∧ 0 ≤ t.toInt ∧ t.toInt ≤ 3 ∧ 0 ≤ (L f.toNatClampNeg).toInt ∧ (L f.toNatClampNeg).toInt = (L t.toNatClampNeg).toInt ∧ 0 ≤ n ∧ 0 ≤ i ∧ i + n ≤ (S f.toNatClampNeg).toInt ∧ 0 ≤ j ∧ j + n ≤ (S t.toNatClampNeg).toInt) (hx : x.toInt = 16 * f.toInt + i) (hy : y.toInt = 16 * t.toInt + j) (hm : m.toInt = n) : zEqL (zCop L S f t i j n Z) R := by
  unfold zEqL zCop
  rw [if_pos c, e, z_tn hx (by omega), z_tn hy (by omega), z_tn hm (by omega)]
theorem zCop_no {L S : Nat → Int32} {f t : Int32} {i j n : Int} {Z : Nat → Int64} (h : ¬ (0 ≤ f.toInt ∧ f.toInt ≤ 3 ∧ 0 ≤ t.toInt ∧ t.toInt ≤ 3 ∧ 0 ≤ (L f.toNatClampNeg).toInt ∧ (L f.toNatClampNeg).toInt = (L t.toNatClampNeg).toInt ∧ 0 ≤ n ∧ 0 ≤ i ∧ i + n ≤ (S f.toNatClampNeg).toInt ∧ 0 ≤ j ∧ j + n ≤ (S t.toNatClampNeg).toInt)) : zEqL (zCop L S f t i j n Z) Z := (if_neg h).symm
/-- the reference's hands: so many items taken -/
def zHn (a : Int) (Z : Nat → Int64) (k : Int) (H : Nat → Int64) : Prop := ∀ q : Nat, (q : Int) < k → H q = Z (a + q).toNat
theorem zHn_0 {a : Int} {Z H : Nat → Int64} : zHn a Z 0 H := fun q hq => by omega
theorem zHn_eq {a b c : Int} {Z H : Nat → Int64} (h : zHn a Z b H) (e : b = c) : zHn a Z c H := e ▸ h
theorem zHn_put {a k : Int} {Z H : Nat → Int64} {i x : Int32} {v : Int64} (h : zHn a Z k H) (hi : i.toInt = k) (h0 : 0 ≤ k) (hx : x.toInt = a + k) (hx0 : 0 ≤ a + k) (e : v = Z x.toNatClampNeg) : zHn a Z (k + 1) (vp_updL H i.toNatClampNeg v) := by
  have q9 := z_tn' hi h0
  intro q hq
  by_cases c : q = i.toNatClampNeg
  · rw [c, pk_uLs, e, z_tn hx hx0, show a + ((i.toNatClampNeg : Nat) : Int) = a + k by omega]
  · rw [pk_uLn c]
    exact h q (by omega)
/-- so many items laid again -/
def zCp9 (a b : Int) (Z : Nat → Int64) (k : Int) (F : Nat → Int64) : Prop := F = va_cpy Z Z a.toNat b.toNat k.toNat
theorem zCp9_0 {a b : Int} {Z : Nat → Int64} : zCp9 a b Z 0 Z := by
  funext j
  exact (if_neg (show ¬ (b.toNat ≤ j ∧ j < b.toNat + (0 : Int).toNat) from by have : (0 : Int).toNat = 0 := rfl; omega)).symm
theorem zCp9_eq {a b c d : Int} {Z F : Nat → Int64} (h : zCp9 a b Z c F) (e : c = d) : zCp9 a b Z d F := e ▸ h
theorem zCp9_put {a b k n : Int} {Z F H : Nat → Int64} {i x : Int32} {v : Int64} (h : zCp9 a b Z k F) (hh : zHn a Z n H) (hi : i.toInt = b + k) (hx : x.toInt = k) (h0 : 0 ≤ k) (hn : k < n) (ha : 0 ≤ a) (hb : 0 ≤ b) (e : v = H x.toNatClampNeg) : zCp9 a b Z (k + 1) (vp_updL F i.toNatClampNeg v) := by
  have q9 := z_tn' hi (by omega)
  have q8 := z_tn' hx h0
  have v9 : v = Z (a + k).toNat := by
    rw [e, hh x.toNatClampNeg (by omega), q8]
  funext j
  show (if j = i.toNatClampNeg then v else F j) = (if b.toNat ≤ j ∧ j < b.toNat + (k + 1).toNat then Z (a.toNat + (j - b.toNat)) else Z j)
  rw [show F j = (if b.toNat ≤ j ∧ j < b.toNat + k.toNat then Z (a.toNat + (j - b.toNat)) else Z j) from congrFun h j]
  by_cases c : j = i.toNatClampNeg
  · rw [if_pos c, if_pos (by omega), v9, show a.toNat + (j - b.toNat) = (a + k).toNat by omega]
  · rw [if_neg c]
    by_cases d : b.toNat ≤ j ∧ j < b.toNat + k.toNat
    · rw [if_pos d, if_pos (by omega)]
    · rw [if_neg d, if_neg (by omega)]
theorem zCop_cp9 {L S : Nat → Int32} {f t : Int32} {i j n a b : Int} {Z R : Nat → Int64} (h : zCp9 a b Z n R) (c : 0 ≤ f.toInt ∧ f.toInt ≤ 3 ∧ 0 ≤ t.toInt ∧ t.toInt ≤ 3 ∧ 0 ≤ (L f.toNatClampNeg).toInt ∧ (L f.toNatClampNeg).toInt = (L t.toNatClampNeg).toInt ∧ 0 ≤ n ∧ 0 ≤ i ∧ i + n ≤ (S f.toNatClampNeg).toInt ∧ 0 ≤ j ∧ j + n ≤ (S t.toNatClampNeg).toInt) (ha : a = 16 * f.toInt + i) (hb : b = 16 * t.toInt + j) : zEqL (zCop L S f t i j n Z) R := by
  unfold zEqL zCop
  rw [if_pos c, ← ha, ← hb]
  exact h
/-! a morning filmed -/
/-- so many lots, each by who had it (W) and its price (P), from a place on -/
def zFm (W P : Nat → Int) (b : Int) (Z : Nat → Int64) : Nat → Nat → Int64
  | 0 => Z
  | k + 1 => vp_updL (vp_updL (zFm W P b Z k) (b + 2 * (k : Int)).toNat (if W k < 0 then -1 else Int64.ofInt (W k))) (b + 2 * (k : Int) + 1).toNat (if W k < 0 then 0 else Int64.ofInt (P k))
theorem zFm_s {W P : Nat → Int} {b : Int} {Z F G : Nat → Int64} {k : Nat} {w1 w2 : Int64} (h : zEqL (zFm W P b Z k) F) (hG : G = vp_updL (vp_updL F (b + 2 * (k : Int)).toNat w1) (b + 2 * (k : Int) + 1).toNat w2) (h1 : w1 = (if W k < 0 then -1 else Int64.ofInt (W k))) (h2 : w2 = (if W k < 0 then 0 else Int64.ofInt (P k))) : zEqL (zFm W P b Z (k + 1)) G := by
  unfold zEqL
  rw [hG, h1, h2, show F = zFm W P b Z k from h]
  rfl
/-- by two puts of the class -/
theorem zFm_pt {W P : Nat → Int} {b a1 a2 : Int} {L S : Nat → Int32} {s : Int32} {Z F F1 F2 : Nat → Int64} {k : Nat} {w1 w2 : Int64} {q1 q2 : Int64} (h : zEqL (zFm W P b Z k) F) (p1 : zEqL (zIpt L S s a1 w1 F) F1) (p2 : zEqL (zIpt L S s a2 w2 F1) F2) (hb : 16 * s.toInt + a1 = b + 2 * (k : Int)) (hb2 : a2 = a1 + 1) (s0 : 0 ≤ s.toInt) (s3 : s.toInt ≤ 3) (a0 : 0 ≤ a1) (aS : a1 + 2 ≤ (S s.toNatClampNeg).toInt) (c1 : zCut (L s.toNatClampNeg).toInt w1 = q1) (c2 : zCut (L s.toNatClampNeg).toInt w2 = q2) (h1 : q1 = (if W k < 0 then -1 else Int64.ofInt (W k))) (h2 : q2 = (if W k < 0 then 0 else Int64.ofInt (P k))) : zEqL (zFm W P b Z (k + 1)) F2 := by
  refine zFm_s (w1 := q1) (w2 := q2) h ?_ h1 h2
  rw [show F2 = zIpt L S s a2 w2 F1 from p2, show F1 = zIpt L S s a1 w1 F from p1, zIpt_at ⟨s0, s3, by omega, by omega⟩, zIpt_at ⟨s0, s3, a0, by omega⟩, c1, c2, hb, show 16 * s.toInt + a2 = b + 2 * (k : Int) + 1 by omega]
theorem zCut_m1 {la : Int} : zCut la (-1) = -1 := by
  unfold zCut
  split
  · decide
  · split
    · decide
    · rfl
theorem zCut_z {la : Int} : zCut la 0 = 0 := by
  unfold zCut
  split
  · decide
  · split
    · decide
    · rfl
/-- what film makes of them -/
def zFil (ok : Prop) (W P : Nat → Int) (b : Int) (n : Nat) (Z F : Nat → Int64) : Prop := (ok → F = zFm W P b Z n) ∧ (¬ ok → F = Z)
theorem zFil_yes {ok : Prop} {W P : Nat → Int} {b : Int} {n : Nat} {Z F : Nat → Int64} (h : zEqL (zFm W P b Z n) F) (c : ok) : zFil ok W P b n Z F := ⟨fun _ => h, fun d => absurd c d⟩
theorem zFil_no {ok : Prop} {W P : Nat → Int} {b : Int} {n : Nat} {Z : Nat → Int64} (c : ¬ ok) : zFil ok W P b n Z Z := ⟨fun d => absurd d c, fun _ => rfl⟩
theorem zFm_cg {W P W2 P2 : Nat → Int} {b : Int} {Z : Nat → Int64} : ∀ k : Nat, (∀ j : Nat, j < k → W j = W2 j ∧ P j = P2 j) → zFm W P b Z k = zFm W2 P2 b Z k := by
  intro k
  induction k with
  | zero => intro _; rfl
  | succ k ih =>
    intro h
    have e := h k (by omega)
    show vp_updL (vp_updL (zFm W P b Z k) _ _) _ _ = vp_updL (vp_updL (zFm W2 P2 b Z k) _ _) _ _
    rw [ih fun j hj => h j (by omega), e.1, e.2]
/-! which rings' morning it was -/
/-- the items from b on tell of so many lots who had them (W) and for how much (P) -/
def zAf (W P : Nat → Int) (I : Nat → Int64) (b : Int) : Nat → Int
  | 0 => 1
  | k + 1 => if zAf W P I b k = 1 ∧ (I (b + 2 * (k : Int)).toNat).toInt = (if W k < 0 then -1 else W k) ∧ (0 ≤ W k → (I (b + 2 * (k : Int) + 1).toNat).toInt = P k) then 1 else 0
theorem zAf_01 {W P : Nat → Int} {I : Nat → Int64} {b : Int} : ∀ k : Nat, zAf W P I b k = 0 ∨ zAf W P I b k = 1 := by
  intro k
  cases k with
  | zero => exact Or.inr rfl
  | succ k =>
    by_cases c : zAf W P I b k = 1 ∧ (I (b + 2 * (k : Int)).toNat).toInt = (if W k < 0 then -1 else W k) ∧ (0 ≤ W k → (I (b + 2 * (k : Int) + 1).toNat).toInt = P k)
    · exact Or.inr (if_pos c)
    · exact Or.inl (if_neg c)
theorem zAf_yes {W P : Nat → Int} {I : Nat → Int64} {b : Int} {k : Nat} (h : zAf W P I b k = 1) (h1 : (I (b + 2 * (k : Int)).toNat).toInt = (if W k < 0 then -1 else W k)) (h2 : 0 ≤ W k → (I (b + 2 * (k : Int) + 1).toNat).toInt = P k) : zAf W P I b (k + 1) = 1 := if_pos ⟨h, h1, h2⟩
theorem zAf_no {W P : Nat → Int} {I : Nat → Int64} {b : Int} {k : Nat} (h : zAf W P I b k ≠ 1 ∨ (I (b + 2 * (k : Int)).toNat).toInt ≠ (if W k < 0 then -1 else W k) ∨ (0 ≤ W k ∧ (I (b + 2 * (k : Int) + 1).toNat).toInt ≠ P k)) : zAf W P I b (k + 1) = 0 := if_neg fun q => by
  rcases h with h | h | h
  · exact h q.1
  · exact h q.2.1
  · exact h.2 (q.2.2 h.1)
theorem zAf_mono {W P : Nat → Int} {I : Nat → Int64} {b : Int} {k : Nat} (h : zAf W P I b k = 0) : ∀ d : Nat, zAf W P I b (k + d) = 0 := by
  intro d
  induction d with
  | zero => exact h
  | succ d ih => exact zAf_no (k := k + d) (Or.inl (by rw [ih]; decide))
theorem zAf_end {W P : Nat → Int} {I : Nat → Int64} {b : Int} {k n : Nat} (h : zAf W P I b k = 0) (hn : k ≤ n) : zAf W P I b n = 0 := by
  have := zAf_mono h (n - k)
  rwa [show k + (n - k) = n by omega] at this
theorem zAf_cg {W P W2 P2 : Nat → Int} {I : Nat → Int64} {b : Int} : ∀ k : Nat, (∀ j : Nat, j < k → W j = W2 j ∧ (0 ≤ W j → P j = P2 j)) → zAf W P I b k = zAf W2 P2 I b k := by
  intro k
  induction k with
  | zero => intro _; rfl
  | succ k ih =>
    intro h
    have e := h k (by omega)
    have i := ih fun j hj => h j (by omega)
    show (if _ then (1 : Int) else 0) = (if _ then (1 : Int) else 0)
    rw [i, ← e.1]
    by_cases c : 0 ≤ W k
    · rw [e.2 c]
    · simp only [show (0 ≤ W k) = False from eq_false c, false_implies]
/-- of the sets of buyers: none (0) and the rings, each by f -/
def zRs9 (n : Int) (f : Nat → Int) : Nat → Int := fun k => if k = 0 ∨ ((k : Int) < zPw n ∧ 2 ≤ (zPop (Int32.ofNat k)).toInt) then f k else 0
theorem zRs9_yes {n : Int} {f : Nat → Int} {s : Int32} {v : Int} (h0 : 0 ≤ s.toInt) (c : s.toInt = 0 ∨ (s.toInt < zPw n ∧ 2 ≤ (zPop s).toInt)) (hf : f s.toInt.toNat = v) : zRs9 n f s.toInt.toNat = v := by
  unfold zRs9
  rw [← z_ofn h0, if_pos]
  · exact hf
  · rcases c with c | c
    · exact Or.inl (by omega)
    · exact Or.inr ⟨by have := c.1; omega, c.2⟩
theorem zRs9_no {n : Int} {f : Nat → Int} {s : Int32} (h0 : 0 ≤ s.toInt) (c : s.toInt ≠ 0) (d : zPw n ≤ s.toInt ∨ (zPop s).toInt < 2) : zRs9 n f s.toInt.toNat = 0 := by
  unfold zRs9
  rw [← z_ofn h0, if_neg]
  intro q
  rcases q with q | q
  · omega
  · have q1 := q.1
    have q2 := q.2
    omega
theorem zPw_r {n : Int} : 1 ≤ zPw n ∧ zPw n ≤ 32 := by
  unfold zPw
  repeat' split
  all_goals omega
theorem zCn_out {f : Nat → Int} {a b : Nat} (hab : a ≤ b) (h : ∀ k : Nat, a ≤ k → k < b → f k ≠ 1) : zCn f b = zCn f a := by
  have key : ∀ d : Nat, a + d ≤ b → zCn f (a + d) = zCn f a := by
    intro d
    induction d with
    | zero => intro _; rfl
    | succ d ih =>
      intro hd
      rw [← ih (by omega)]
      exact zCn_0 (k := a + d) (h (a + d) (by omega) (by omega))
  have := key (b - a) (by omega)
  rwa [show a + (b - a) = b by omega] at this
theorem zRs9_out {n : Int} {f : Nat → Int} {k : Int} (hk : k = zPw n) : zCn (zRs9 n f) 32 = zCn (zRs9 n f) k.toNat := by
  have r := zPw_r (n := n)
  refine zCn_out (by omega) fun j h1 h2 => ?_
  unfold zRs9
  rw [if_neg]
  · decide
  · intro q
    rcases q with q | q
    · omega
    · have q1 := q.1
      omega
/-- what which answers: refused, how many, the least -/
def zAwh (L S : Nat → Int32) (s la : Int32) (i w lots : Int) (c : Int × Int) : Int := if w < 0 ∨ 1 < w ∨ s.toInt < 0 ∨ 3 < s.toInt ∨ la.toInt < 0 ∨ 2 < la.toInt then -1 else if (L s.toNatClampNeg).toInt < 0 then -11 else if (L s.toNatClampNeg).toInt ≠ la.toInt then -12 else if i < 0 ∨ (S s.toNatClampNeg).toInt < i + 2 * lots then -13 else if lots ≤ 0 then -2 else if w = 0 then c.1 else if c.1 = 0 then -4 else c.2
theorem zAwh_ok {L S : Nat → Int32} {s la : Int32} {i w lots : Int} {c : Int × Int} (h : 0 ≤ w ∧ w ≤ 1 ∧ 0 ≤ s.toInt ∧ s.toInt ≤ 3 ∧ 0 ≤ la.toInt ∧ la.toInt ≤ 2 ∧ 0 ≤ (L s.toNatClampNeg).toInt ∧ (L s.toNatClampNeg).toInt = la.toInt ∧ 0 ≤ i ∧ i + 2 * lots ≤ (S s.toNatClampNeg).toInt ∧ 0 < lots) : zAwh L S s la i w lots c = if w = 0 then c.1 else if c.1 = 0 then -4 else c.2 := by
  unfold zAwh
  rw [if_neg (by omega), if_neg (by omega), if_neg (by omega), if_neg (by omega), if_neg (by omega)]
theorem zQ_r {L : Nat → Int32} {n : Int} {S V : Nat → Int32} {M : Nat → Int} {ring : Int32} {K P : Nat → Int} (hL : iLaw L) (j : Nat) : zQw L n S V M ring K P j = -1 ∨ (0 ≤ zQw L n S V M ring K P j ∧ zQw L n S V M ring K P j ≤ 4 ∧ 0 ≤ zQp L n S V M ring K P j ∧ zQp L n S V M ring K P j ≤ 99) := by
  have r := iLaw_r hL
  have g := zLot_go (L := L) (n := n) (S := S) (V := V) (M := M) (ring := ring) (kd := K j) (P := (zSm L n S V M ring K P j).1) (H := (zSm L n S V M ring K P j).2.1) hL
  rcases g with g | g
  · exact Or.inl g
  · refine Or.inr ⟨g.1, g.2.1, ?_, ?_⟩
    · have := g.2.2.2.1
      show 0 ≤ (zLot L n S V M ring (K j) (zSm L n S V M ring K P j).1 (zSm L n S V M ring K P j).2.1).2.1
      omega
    · have := g.2.2.2.2.1
      show (zLot L n S V M ring (K j) (zSm L n S V M ring K P j).1 (zSm L n S V M ring K P j).2.1).2.1 ≤ 99
      omega
theorem zFm_eq {W P : Nat → Int} {b : Int} {Z F : Nat → Int64} {a c : Nat} (h : zEqL (zFm W P b Z a) F) (e : a = c) : zEqL (zFm W P b Z c) F := e ▸ h
theorem zSw_c (o : zO) : (o.1 < 0 → zSw o = -4) ∧ (0 ≤ o.1 → zSw o = o.1) := by
  unfold zSw
  refine ⟨fun h => if_pos h, fun h => if_neg (by omega)⟩
theorem zSp_c (o : zO) : 0 ≤ o.1 → zSp o = o.2.1 := by
  unfold zSp
  exact fun h => if_neg (by omega)
/-- the reference's rows tell the same -/
theorem zAf_cs {O : Nat → zO} {F G : Nat → Int32} {I : Nat → Int64} {b : Int} : ∀ k : Nat, (∀ j : Nat, j < k → (F j).toInt = zSw (O j)) → (∀ j : Nat, j < k → (G j).toInt = zSp (O j)) → zAf (zIv F) (zIv G) I b k = zAf (fun j => (O j).1) (fun j => (O j).2.1) I b k := by
  intro k
  induction k with
  | zero => intro _ _; rfl
  | succ k ih =>
    intro h g
    have i := ih (fun j hj => h j (by omega)) (fun j hj => g j (by omega))
    have h1 : zIv F k = zSw (O k) := h k (by omega)
    have g1 : zIv G k = zSp (O k) := g k (by omega)
    have s := zSw_c (O k)
    have p := zSp_c (O k)
    show (if _ then (1 : Int) else 0) = (if _ then (1 : Int) else 0)
    rw [i, h1, g1]
    by_cases c : (O k).1 < 0
    · rw [s.1 c]
      simp only [if_pos c, show ((-4 : Int) < 0) = True from eq_true (by decide), if_true, show ((0 : Int) ≤ -4) = False from eq_false (by decide), show (0 ≤ (O k).1) = False from eq_false (by omega), false_implies]
    · rw [s.2 (by omega), p (by omega)]
theorem zFil_eq {ok ok2 : Prop} {W P : Nat → Int} {b : Int} {n : Nat} {Z Z2 F F2 : Nat → Int64} (h : zFil ok W P b n Z F) (h2 : zFil ok2 W P b n Z2 F2) (e : ok ↔ ok2) (ez : Z = Z2) : F = F2 := by
  by_cases c : ok
  · rw [h.1 c, h2.1 (e.mp c), ez]
  · rw [h.2 c, h2.2 (fun d => c (e.mpr d)), ez]
