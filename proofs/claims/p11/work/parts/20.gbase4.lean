/-! a tape read: blanks left out, the text of lots -/
/-- the byte at a place -/
def zc (F : Nat → Int32) (a : Int) : Int := (F a.toNat).toInt
/-- the place behind blanks -/
def zskN (F : Nat → Int32) : Nat → Int → Int
  | 0, a => a
  | f + 1, a => if zc F a = 32 then zskN F f (a + 1) else a
def zsk (F : Nat → Int32) (len a : Int) : Int := zskN F (len - a).toNat a
theorem zsk_end {F : Nat → Int32} {len a : Int} (h : len ≤ a) : zsk F len a = a := by
  unfold zsk
  rw [show (len - a).toNat = 0 by omega]
  rfl
theorem zsk_blank {F : Nat → Int32} {len a : Int} (h : a < len) (hb : zc F a = 32) : zsk F len a = zsk F len (a + 1) := by
  unfold zsk
  rw [show (len - a).toNat = (len - (a + 1)).toNat + 1 by omega]
  show (if zc F a = 32 then zskN F (len - (a + 1)).toNat (a + 1) else a) = _
  rw [if_pos hb]
theorem zsk_stop {F : Nat → Int32} {len a : Int} (h : a < len) (hb : zc F a ≠ 32) : zsk F len a = a := by
  unfold zsk
  rw [show (len - a).toNat = (len - (a + 1)).toNat + 1 by omega]
  show (if zc F a = 32 then zskN F (len - (a + 1)).toNat (a + 1) else a) = _
  rw [if_neg hb]
theorem zsk_rng {F : Nat → Int32} {len : Int} : ∀ (n : Nat) (a : Int), len - a ≤ n → a ≤ len → a ≤ zsk F len a ∧ zsk F len a ≤ len := by
  intro n
  induction n with
  | zero =>
    intro a h1 h2
    rw [zsk_end (by omega)]
    omega
  | succ n ih =>
    intro a h1 h2
    by_cases q : a < len
    · by_cases g : zc F a = 32
      · rw [zsk_blank q g]
        have := ih (a + 1) (by omega) (by omega)
        omega
      · rw [zsk_stop q g]
        omega
    · rw [zsk_end (by omega)]
      omega
theorem zsk_r {F : Nat → Int32} {len a : Int} (h : a ≤ len) : a ≤ zsk F len a ∧ zsk F len a ≤ len := zsk_rng (len - a).toNat a (by omega) h
theorem zsk_congr {F G : Nat → Int32} {len : Int} (e : ∀ a : Int, 0 ≤ a → a < len → zc F a = zc G a) : ∀ (n : Nat) (a : Int), len - a ≤ n → 0 ≤ a → zsk F len a = zsk G len a := by
  intro n
  induction n with
  | zero =>
    intro a h1 h2
    rw [zsk_end (by omega), zsk_end (by omega)]
  | succ n ih =>
    intro a h1 h2
    by_cases q : a < len
    · by_cases g : zc F a = 32
      · rw [zsk_blank q g, zsk_blank q (by rw [← e a h2 q]; exact g)]
        exact ih (a + 1) (by omega) (by omega)
      · rw [zsk_stop q g, zsk_stop q (by rw [← e a h2 q]; exact g)]
    · rw [zsk_end (by omega), zsk_end (by omega)]
/-- what a text of lots comes to, from a place that is no blank on, n read -/
def zLoN (F : Nat → Int32) (len : Int) : Nat → Int → Int → Int
  | 0, _, _ => 0
  | f + 1, p, n => if p < len ∧ 48 ≤ zc F p ∧ zc F p ≤ 51 ∧ n < 6 then (if zsk F len (p + 1) < len then zLoN F len f (zsk F len (p + 1)) (n + 1) else n + 1) else -20 - p
def zLo (F : Nat → Int32) (len p n : Int) : Int := zLoN F len (7 - n).toNat p n
theorem zLo_bad {F : Nat → Int32} {len p n : Int} (h : n ≤ 6) (hb : ¬ (p < len ∧ 48 ≤ zc F p ∧ zc F p ≤ 51 ∧ n < 6)) : zLo F len p n = -20 - p := by
  unfold zLo
  rw [show (7 - n).toNat = (7 - (n + 1)).toNat + 1 by omega]
  show (if _ then _ else _) = _
  rw [if_neg hb]
theorem zLo_last {F : Nat → Int32} {len p n : Int} (hb : p < len ∧ 48 ≤ zc F p ∧ zc F p ≤ 51 ∧ n < 6) (hl : len ≤ zsk F len (p + 1)) : zLo F len p n = n + 1 := by
  unfold zLo
  rw [show (7 - n).toNat = (7 - (n + 1)).toNat + 1 by omega]
  show (if _ then _ else _) = _
  rw [if_pos hb, if_neg (by omega)]
theorem zLo_more {F : Nat → Int32} {len p n : Int} (hb : p < len ∧ 48 ≤ zc F p ∧ zc F p ≤ 51 ∧ n < 6) (hl : zsk F len (p + 1) < len) : zLo F len p n = zLo F len (zsk F len (p + 1)) (n + 1) := by
  unfold zLo
  rw [show (7 - n).toNat = (7 - (n + 1)).toNat + 1 by omega]
  show (if _ then _ else _) = _
  rw [if_pos hb, if_pos hl]
theorem zLo_congr {F G : Nat → Int32} {len : Int} (e : ∀ a : Int, 0 ≤ a → a < len → zc F a = zc G a) : ∀ (f : Nat) (p n : Int), 7 - n ≤ f → 0 ≤ p → n ≤ 6 → zLo F len p n = zLo G len p n := by
  intro f
  induction f with
  | zero => intro p n h; omega
  | succ f ih =>
    intro p n h h0 h6
    by_cases q : p < len ∧ 48 ≤ zc F p ∧ zc F p ≤ 51 ∧ n < 6
    · have q2 : p < len ∧ 48 ≤ zc G p ∧ zc G p ≤ 51 ∧ n < 6 := by rw [← e p h0 q.1]; exact q
      have sk := zsk_congr e (len - (p + 1)).toNat (p + 1) (by omega) (by omega)
      have r := zsk_r (F := F) (show p + 1 ≤ len by omega)
      by_cases g : zsk F len (p + 1) < len
      · rw [zLo_more q g, zLo_more q2 (by omega), sk]
        exact ih _ _ (by omega) (by omega) (by omega)
      · rw [zLo_last q (by omega), zLo_last q2 (by omega)]
    · have q2 : ¬ (p < len ∧ 48 ≤ zc G p ∧ zc G p ≤ 51 ∧ n < 6) := fun q2 => q (by rw [e p h0 q2.1]; exact q2)
      rw [zLo_bad h6 q, zLo_bad h6 q2]
/-- what lots answers -/
def zLots (F : Nat → Int32) (len : Int) : Int := zLo F len (zsk F len 0) 0
theorem zLots_congr {F G : Nat → Int32} {len : Int} (h : 0 ≤ len) (e : ∀ a : Int, 0 ≤ a → a < len → zc F a = zc G a) : zLots F len = zLots G len := by
  unfold zLots
  have sk := zsk_congr e len.toNat 0 (by omega) (by omega)
  have r := zsk_r (F := G) h
  rw [sk]
  exact zLo_congr e 7 _ _ (by omega) (by omega) (by omega)
theorem zsk_idem {F : Nat → Int32} {len : Int} : ∀ (n : Nat) (a : Int), len - a ≤ n → zsk F len (zsk F len a) = zsk F len a := by
  intro n
  induction n with
  | zero =>
    intro a h
    rw [zsk_end (a := a) (by omega), zsk_end (by omega)]
  | succ n ih =>
    intro a h
    by_cases q : a < len
    · by_cases g : zc F a = 32
      · rw [zsk_blank q g]
        exact ih (a + 1) (by omega)
      · rw [zsk_stop q g, zsk_stop q g]
    · rw [zsk_end (a := a) (by omega), zsk_end (by omega)]
theorem zsk_i {F : Nat → Int32} {len a : Int} : zsk F len (zsk F len a) = zsk F len a := zsk_idem (len - a).toNat a (by omega)
/-- what stands on a tape is no negative number -/
noncomputable def zPos (F : Nat → Int32) (len : Int) : Int := @ite Int (∀ a : Int, 0 ≤ a → a < len → 0 ≤ zc F a ∧ zc F a ≤ 127) (Classical.propDecidable _) 1 0
theorem zPos_at {F : Nat → Int32} {len : Int} (h : zPos F len = 1) (a : Int) (h0 : 0 ≤ a) (h1 : a < len) : 0 ≤ zc F a ∧ zc F a ≤ 127 := by
  unfold zPos at h
  by_cases g : ∀ a : Int, 0 ≤ a → a < len → 0 ≤ zc F a ∧ zc F a ≤ 127
  · exact g a h0 h1
  · rw [if_neg g] at h
    omega
theorem zPos_i {F : Nat → Int32} {len : Int} (h : ∀ a : Int, 0 ≤ a → a < len → 0 ≤ zc F a ∧ zc F a ≤ 127) : zPos F len = 1 := by
  unfold zPos
  exact if_pos h
theorem zPos_0 {F : Nat → Int32} {len : Int} (h : len = 0) : zPos F len = 1 := zPos_i fun a h0 h1 => by omega
theorem zOK_at {v : Int64} {n : Int} (h : zOK v n = 1) (k : Int32) (h0 : 0 ≤ k.toInt) (h1 : k.toInt < n) : 32 ≤ zb8 v k ∧ zb8 v k ≤ 126 := by
  unfold zOK at h
  by_cases g : ∀ k : Int32, 0 ≤ k.toInt → k.toInt < n → 32 ≤ zb8 v k ∧ zb8 v k ≤ 126
  · exact g k h0 h1
  · rw [if_neg g] at h
    omega
def zbI (v : Int64) (k : Int) : Int := zb8 v (Int32.ofInt k)
theorem zbI_eq {v : Int64} {k : Int32} : zbI v k.toInt = zb8 v k := by
  unfold zbI
  rw [Int32.ofInt_toInt]
theorem z_nar {x : Int32} (h0 : 0 ≤ x.toInt) (h1 : x.toInt ≤ 127) : (vp_nar .byte x.toInt8.toInt32).toInt = x.toInt := by
  rw [pk_vb]
  have e : x.toInt8.toInt32.toInt = x.toInt.bmod 256 := by
    rw [Int8.toInt_toInt32]
    exact Int32.toInt_toInt8 x
  rw [e]
  exact Int.bmod_eq_of_le (by omega) (by omega)
/-- a tape behind a typing: as before up to l0, the word's bytes from there to l1 -/
def zTy (v : Int64) (n l0 l1 : Int) (Z F : Nat → Int32) : Prop := (∀ a : Int, 0 ≤ a → a < l0 → zc F a = zc Z a) ∧ ∀ a : Int, l0 ≤ a → a < l1 → zc F a = zbI v (l0 + n - 1 - a)
theorem zTy_0 {v : Int64} {n l0 : Int} {Z : Nat → Int32} : zTy v n l0 l0 Z Z := ⟨fun _ _ _ => rfl, fun a h0 h1 => by omega⟩
theorem zTy_eq {v : Int64} {n l0 a b : Int} {Z F : Nat → Int32} (h : zTy v n l0 a Z F) (e : a = b) : zTy v n l0 b Z F := e ▸ h
theorem zTy_put {v : Int64} {n l0 l1 : Int} {Z F : Nat → Int32} {i x : Int32} (h : zTy v n l0 l1 Z F) (hi : i.toInt = l1) (h0 : 0 ≤ l0) (hl : l0 ≤ l1) (hx : x.toInt = zbI v (l0 + n - 1 - l1)) : zTy v n l0 (l1 + 1) Z (upd F i.toNatClampNeg x) := by
  have e0 : i.toNatClampNeg = i.toInt.toNat := rfl
  have key : ∀ a : Int, 0 ≤ a → zc (upd F i.toNatClampNeg x) a = if a = l1 then x.toInt else zc F a := by
    intro a ha
    show (if a.toNat = i.toNatClampNeg then x else F a.toNat).toInt = _
    by_cases q : a = l1
    · rw [if_pos q, if_pos (by omega)]
    · rw [if_neg q, if_neg (by omega)]
      rfl
  refine ⟨fun a ha h1 => ?_, fun a ha h1 => ?_⟩
  · rw [key a ha, if_neg (by omega)]
    exact h.1 a ha h1
  · rw [key a (by omega)]
    by_cases q : a = l1
    · rw [if_pos q, hx, q]
    · rw [if_neg q]
      exact h.2 a ha (by omega)
theorem zTy_rel {v : Int64} {n l0 l1 k0 k1 : Int} {X F M G : Nat → Int32} (hx : zTy v n l0 l1 X F) (hm : zTy v n k0 k1 M G) (e0 : l0 = k0) (e1 : l1 = k1) (h : ∀ a : Int, 0 ≤ a → a < l0 → zc X a = zc M a) : ∀ a : Int, 0 ≤ a → a < l1 → zc F a = zc G a := by
  intro a h0 h1
  by_cases q : a < l0
  · rw [hx.1 a h0 q, hm.1 a h0 (by omega), h a h0 q]
  · rw [hx.2 a (by omega) h1, hm.2 a (by omega) (by omega), e0]
theorem zTy_pos {v : Int64} {n l0 l1 : Int} {M G : Nat → Int32} (hm : zTy v n l0 l1 M G) (h : zPos M l0 = 1) (hok : l1 = l0 ∨ (zOK v n = 1 ∧ l1 = l0 + n)) (h8 : n ≤ 8 ∨ l1 = l0) : zPos G l1 = 1 := by
  refine zPos_i fun a h0 h1 => ?_
  by_cases q : a < l0
  · rw [hm.1 a h0 q]
    exact zPos_at h a h0 q
  · rw [hm.2 a (by omega) h1]
    rcases hok with e | ⟨e, e2⟩
    · omega
    · have hk : (Int32.ofInt (l0 + n - 1 - a)).toInt = l0 + n - 1 - a := Int32.toInt_ofInt_of_le (by omega) (by omega)
      have := zOK_at e (Int32.ofInt (l0 + n - 1 - a)) (by omega) (by omega)
      show 0 ≤ zb8 v (Int32.ofInt (l0 + n - 1 - a)) ∧ zb8 v (Int32.ofInt (l0 + n - 1 - a)) ≤ 127
      omega
theorem zTy_pos' {v : Int64} {n l0 l1 : Int} {M G : Nat → Int32} (hm : zTy v n l0 l1 M G) (h : zPos M l0 = 1) (e : l1 = zTL v n l0) : zPos G l1 = 1 := by
  rcases zTL_c v n l0 with q | ⟨q1, q2, q3⟩
  · exact zTy_pos hm h (Or.inl (by omega)) (Or.inr (by omega))
  · exact zTy_pos hm h (Or.inr ⟨q1, by omega⟩) (Or.inl q2)
