/-! the falling morning's parts, lot by lot -/
def zQw (L : Nat → Int32) (n : Int) (S V : Nat → Int32) (M : Nat → Int) (ring : Int32) (K P : Nat → Int) : Nat → Int := fun j => (zOu L n S V M ring K P j).1
def zQp (L : Nat → Int32) (n : Int) (S V : Nat → Int32) (M : Nat → Int) (ring : Int32) (K P : Nat → Int) : Nat → Int := fun j => (zOu L n S V M ring K P j).2.1
def zQb (L : Nat → Int32) (n : Int) (S V : Nat → Int32) (M : Nat → Int) (ring : Int32) (K P : Nat → Int) : Nat → Int := fun j => (zOu L n S V M ring K P j).2.2.1
def zQr (L : Nat → Int32) (n : Int) (S V : Nat → Int32) (M : Nat → Int) (ring : Int32) (K P : Nat → Int) : Nat → Int := fun j => (zOu L n S V M ring K P j).2.2.2
theorem zSm_P {L : Nat → Int32} {n : Int} {S V : Nat → Int32} {M : Nat → Int} {ring : Int32} {K P : Nat → Int} {k : Nat} : (zSm L n S V M ring K P (k + 1)).1 = zAdd (zSm L n S V M ring K P k).1 (zOu L n S V M ring K P k).1 (-(zOu L n S V M ring K P k).2.1) := rfl
theorem zSm_H {L : Nat → Int32} {n : Int} {S V : Nat → Int32} {M : Nat → Int} {ring : Int32} {K P : Nat → Int} {k : Nat} : (zSm L n S V M ring K P (k + 1)).2.1 = zAdd (zSm L n S V M ring K P k).2.1 (zOu L n S V M ring K P k).1 1 := rfl
theorem zSm_G {L : Nat → Int32} {n : Int} {S V : Nat → Int32} {M : Nat → Int} {ring : Int32} {K P : Nat → Int} {k : Nat} : (zSm L n S V M ring K P (k + 1)).2.2.1 = zAdd (zSm L n S V M ring K P k).2.2.1 (zOu L n S V M ring K P k).1 (zWq n V ((zOu L n S V M ring K P k).1.toNat : Int) (K k) - (zOu L n S V M ring K P k).2.1) := rfl
theorem zSm_T {L : Nat → Int32} {n : Int} {S V : Nat → Int32} {M : Nat → Int} {ring : Int32} {K P : Nat → Int} {k : Nat} : (zSm L n S V M ring K P (k + 1)).2.2.2 = (zSm L n S V M ring K P k).2.2.2 + (if (zOu L n S V M ring K P k).1 < 0 then 0 else (zOu L n S V M ring K P k).2.1) := rfl
theorem zAdd_same {F : Nat → Int} {b v c : Int} (h : 0 ≤ b → v = c) : zAdd F b v = zAdd F b c := by
  by_cases q : b < 0
  · rw [zAdd_neg q, zAdd_neg q]
  · rw [h (by omega)]
/-- what the paying of a lot is told by -/
theorem zSe_pre {L : Nat → Int32} {n : Int} {S V : Nat → Int32} {M : Nat → Int} {ring : Int32} {K P : Nat → Int} {k : Nat} {Pr Hr Gr : Nat → Int32} (hL : iLaw L) (hV : iWo V) (h0 : 0 ≤ n) (h5 : n ≤ 5) (hP : ∀ b : Nat, (b : Int) < n → -99 ≤ P b ∧ P b ≤ 9999) (hk : k ≤ 5) (iP : zRw n Pr = (zSm L n S V M ring K P k).1) (iH : zRw n Hr = (zSm L n S V M ring K P k).2.1) (iG : zRw n Gr = (zSm L n S V M ring K P k).2.2.1) {W : Int} (hW : W = (zOu L n S V M ring K P k).1) :
    -1 ≤ W ∧ W < n ∧ W ≤ 4 ∧ (0 ≤ W → 0 ≤ (zOu L n S V M ring K P k).2.1) ∧ (0 ≤ W → (zOu L n S V M ring K P k).2.1 ≤ 99) ∧ (0 ≤ W → (zOu L n S V M ring K P k).2.1 ≤ (Pr W.toNat).toInt + 99) ∧ (0 ≤ W → (Hr W.toNat).toInt ≤ 5) ∧ (0 ≤ W → -900 ≤ (Gr W.toNat).toInt) ∧ (0 ≤ W → (Gr W.toNat).toInt ≤ 900) := by
  have w := zFl_way (n := n) (S := S) (V := V) (M := M) (ring := ring) hL (K k) (zSm L n S V M ring K P k).1 (zSm L n S V M ring K P k).2.1
  have w : (zOu L n S V M ring K P k).1 = -1 ∨ (0 ≤ (zOu L n S V M ring K P k).1 ∧ (zOu L n S V M ring K P k).1 < n ∧ (zOu L n S V M ring K P k).1 ≤ 4 ∧ 0 ≤ (zOu L n S V M ring K P k).2.1 ∧ (zOu L n S V M ring K P k).2.1 ≤ 99 ∧ (zOu L n S V M ring K P k).2.1 ≤ (zSm L n S V M ring K P k).1 (zOu L n S V M ring K P k).1.toNat + 99) := w
  rw [← hW] at w
  by_cases c : W < 0
  · refine ⟨by omega, by omega, by omega, ?_, ?_, ?_, ?_, ?_, ?_⟩ <;> intro q <;> omega
  · have w2 : 0 ≤ W ∧ W < n ∧ W ≤ 4 ∧ 0 ≤ (zOu L n S V M ring K P k).2.1 ∧ (zOu L n S V M ring K P k).2.1 ≤ 99 ∧ (zOu L n S V M ring K P k).2.1 ≤ (zSm L n S V M ring K P k).1 W.toNat + 99 := by
      rcases w with w | w
      · omega
      · exact w
    have b := (zSm_bn (S := S) (M := M) (ring := ring) (K := K) hL hV h5 hP k).1 W.toNat (by omega)
    rw [← iP, ← iH, ← iG, zRw_at (by omega), zRw_at (by omega), zRw_at (by omega)] at b
    rw [← iP, zRw_at (by omega)] at w2
    refine ⟨by omega, by omega, by omega, ?_, ?_, ?_, ?_, ?_, ?_⟩ <;> intro q <;> omega
/-- the rows behind the paying of a lot -/
theorem zE_P {L : Nat → Int32} {n : Int} {S V : Nat → Int32} {M : Nat → Int} {ring : Int32} {K P : Nat → Int} {k : Nat} {Z F : Nat → Int32} {I : (Nat → Int32) → Prop} {W p : Int} (h : zU I n W (-p) Z F) (i : zRw n Z = (zSm L n S V M ring K P k).1) (hW : W = (zOu L n S V M ring K P k).1) (hp : 0 ≤ W → p = (zOu L n S V M ring K P k).2.1) : zE I n (zSm L n S V M ring K P (k + 1)).1 F := ⟨h.1, by
  rw [h.2, i, zSm_P, ← hW]
  exact zAdd_same fun q => by rw [hp q]⟩
theorem zE_H {L : Nat → Int32} {n : Int} {S V : Nat → Int32} {M : Nat → Int} {ring : Int32} {K P : Nat → Int} {k : Nat} {Z F : Nat → Int32} {I : (Nat → Int32) → Prop} {W : Int} (h : zU I n W 1 Z F) (i : zRw n Z = (zSm L n S V M ring K P k).2.1) (hW : W = (zOu L n S V M ring K P k).1) : zE I n (zSm L n S V M ring K P (k + 1)).2.1 F := ⟨h.1, by
  rw [h.2, i, zSm_H, ← hW]⟩
theorem zE_G {L : Nat → Int32} {n : Int} {S V : Nat → Int32} {M : Nat → Int} {ring : Int32} {K P : Nat → Int} {k : Nat} {Z F : Nat → Int32} {I : (Nat → Int32) → Prop} {W p kd : Int} (h : zU I n W (zWq n V W kd - p) Z F) (i : zRw n Z = (zSm L n S V M ring K P k).2.2.1) (hW : W = (zOu L n S V M ring K P k).1) (hp : 0 ≤ W → p = (zOu L n S V M ring K P k).2.1) (hk : kd = K k) : zE I n (zSm L n S V M ring K P (k + 1)).2.2.1 F := ⟨h.1, by
  rw [h.2, i, zSm_G, ← hW]
  exact zAdd_same fun q => by rw [hp q, hk, show ((W.toNat : Nat) : Int) = W by omega]⟩
/-- what the reference shows of how a lot went -/
def zSw (o : zO) : Int := if o.1 < 0 then -4 else o.1
def zSp (o : zO) : Int := if o.1 < 0 then -4 else o.2.1
def zSb (o : zO) : Int := if o.2.2.1 < 0 then -4 else o.2.2.1
theorem zSw_of {o : zO} {y : Int} (h1 : o.1 < 0 → y = -4) (h2 : 0 ≤ o.1 → y = o.1) : y = zSw o := by
  unfold zSw
  split
  · rename_i c
    exact h1 c
  · exact h2 (by omega)
theorem zSp_of {o : zO} {y : Int} (h1 : o.1 < 0 → y = -4) (h2 : 0 ≤ o.1 → y = o.2.1) : y = zSp o := by
  unfold zSp
  split
  · rename_i c
    exact h1 c
  · exact h2 (by omega)
theorem zSb_of {o : zO} {y : Int} (h1 : o.2.2.1 < 0 → y = -4) (h2 : 0 ≤ o.2.2.1 → y = o.2.2.1) : y = zSb o := by
  unfold zSb
  split
  · rename_i c
    exact h1 c
  · exact h2 (by omega)
/-! the answers -/
def zAlot (lots : Int) (K : Nat → Int32) (O : Nat → zO) (a w : Int) : Int := if a < 0 ∨ 6 ≤ a ∨ lots ≤ a ∨ w < 0 ∨ 4 < w then -1 else if w = 0 then (K a.toNat).toInt else if w = 1 then zSw (O a.toNat) else if w = 2 then zSp (O a.toNat) else if w = 3 then zSb (O a.toNat) else (O a.toNat).2.2.2
def zAgain (n : Int) (G : Nat → Int) (b : Int) : Int := if b < 0 ∨ 5 ≤ b ∨ n ≤ b then -100001 else G b.toNat
def zAtold (n : Int) (S M P V : Nat → Int32) (b w : Int) : Int := if b < 0 ∨ 5 ≤ b ∨ n ≤ b ∨ w < 0 ∨ 6 < w then -100001 else if w = 0 then (S b.toNat).toInt else if w = 1 then (M b.toNat).toInt else if w = 6 then (P b.toNat).toInt else zWq n V b (w - 2)
def zAearn (n : Int) (P : Nat → Int32) (b v : Int) : Int := if b < 0 ∨ 5 ≤ b ∨ n ≤ b ∨ v < 1 ∨ 999 < v then -100001 else if 9999 < (P b.toNat).toInt + v then -100003 else (P b.toNat).toInt + v
