/-! the reference's rising and sealed lots, its tills and mornings -/
theorem zRi_out {o w mon : Nat → Int} {fl : Int} {k : Nat} (h5 : k ≤ 5) (h : ∀ b : Nat, k ≤ b → o b = 0) : zRi o w mon fl k = zRi o w mon fl 5 := by
  have key : ∀ d : Nat, zRi o w mon fl (k + d) = zRi o w mon fl k := by
    intro d
    induction d with
    | zero => rfl
    | succ d ih =>
      have z := h (k + d) (by omega)
      rw [← ih]
      exact zRi_no (k := k + d) fun q => by
        have := q.1
        omega
  have := key (5 - k)
  rw [show k + (5 - k) = 5 by omega] at this
  exact this.symm
theorem zSl_out {o lim mon : Nat → Int} {fl : Int} {k : Nat} (h5 : k ≤ 5) (h : ∀ b : Nat, k ≤ b → o b = 0) : zSl o lim mon fl k = zSl o lim mon fl 5 := by
  have key : ∀ d : Nat, zSl o lim mon fl (k + d) = zSl o lim mon fl k := by
    intro d
    induction d with
    | zero => rfl
    | succ d ih =>
      have z := h (k + d) (by omega)
      rw [← ih]
      exact zSl_n (k := k + d) fun q => by
        have := q.1
        omega
  have := key (5 - k)
  rw [show k + (5 - k) = 5 by omega] at this
  exact this.symm
theorem zMo_G9 {n : Int} {V : Nat → Int32} {f : Int → (Nat → Int) → (Nat → Int) → Int × Int} {K P : Nat → Int} {k : Nat} {F : Nat → Int32} (hf : zWay n f) (hV : iWo V) (h5 : n ≤ 5) (hP : ∀ b : Nat, (b : Int) < n → -99 ≤ P b ∧ P b ≤ 9999) (hk : k ≤ 5) (i : zE iGa n (zMo (zWf n V) f K P k).2.2.1 F) : zG9 n F ∧ (zMo (zWf n V) f K P k).2.2.2 ≤ 900 ∧ 0 ≤ (zMo (zWf n V) f K P k).2.2.2 := by
  have b := zMo_bn (K := K) hf hV h5 hP k
  refine ⟨⟨i.1, fun j hj => ?_⟩, by have := b.2; omega, b.2.1⟩
  have q := b.1 j hj
  rw [← i.2, zRw_at hj] at q
  omega
theorem zF_R {n : Int} {S : Nat → Int32} {w : Int → Nat → Int} {f : Int → (Nat → Int) → (Nat → Int) → Int × Int} {K P : Nat → Int} {k : Nat} {Z F : Nat → Int32} {W : Int} (h : zUr n S W Z F) (i : zHd n S Z = (zMo w f K P k).2.1) (hW : W = (zOf w f K P k).1) : zEr n S (zMo w f K P (k + 1)).2.1 F := ⟨h.1, by
  rw [h.2, i, zMo_H, ← hW]⟩
theorem zWy_pre {n : Int} {f : Int → (Nat → Int) → (Nat → Int) → Int × Int} {kd : Int} {Pr : Nat → Int32} {H : Nat → Int} (hf : zWay n f) (h : 0 ≤ (f kd (zRw n Pr) H).1) {i : Int32} (hi : i.toInt = (f kd (zRw n Pr) H).1) : i.toInt < n ∧ 0 ≤ (f kd (zRw n Pr) H).2 ∧ (f kd (zRw n Pr) H).2 ≤ 99 ∧ (f kd (zRw n Pr) H).2 ≤ (Pr i.toNatClampNeg).toInt + 99 := by
  have w := hf kd (zRw n Pr) H
  have e : i.toNatClampNeg = (f kd (zRw n Pr) H).1.toNat := z_tn hi h
  rw [e]
  have w2 : 0 ≤ (f kd (zRw n Pr) H).1 ∧ (f kd (zRw n Pr) H).1 < n ∧ (f kd (zRw n Pr) H).1 ≤ 4 ∧ 0 ≤ (f kd (zRw n Pr) H).2 ∧ (f kd (zRw n Pr) H).2 ≤ 99 ∧ (f kd (zRw n Pr) H).2 ≤ zRw n Pr (f kd (zRw n Pr) H).1.toNat + 99 := by
    rcases w with w | w
    · omega
    · exact w
  rw [zRw_at (by omega)] at w2
  omega
theorem zRm_ro {n : Int} {S Rr : Nat → Int32} {x : Int} {i : Int32} (hi : i.toInt = x) (h0 : 0 ≤ x) (h : zRm n S (zHd n S Rr) x.toNat = 1) : 1 ≤ (Rr i.toNatClampNeg).toInt := by
  have e : i.toNatClampNeg = x.toNat := z_tn hi h0
  rw [e]
  have m := zRm_n h
  have m2 := m.2
  rw [zHd_at m.1] at m2
  omega
/-! the books behind a morning -/
def zPof (X : Nat → Int) : Nat → Int32 := fun j => Int32.ofInt (X j)
theorem zPof_at {X : Nat → Int} {n : Int} {F : Nat → Int32} {j : Nat} (h : zRw n F = X) (hj : (j : Int) < n) : F j = zPof X j := by
  unfold zPof
  rw [← h, zRw_at hj]
  exact (Int32.ofInt_toInt _).symm
def zPk (P : Nat → Int32) (X : Nat → Int) (k : Int) : Nat → Int32 := fun j => if (j : Int) < k then zPof X j else P j
theorem zPk_0 {P : Nat → Int32} {X : Nat → Int} : zPk P X 0 = P := by
  funext j
  exact if_neg (by omega)
theorem zPk_s {P : Nat → Int32} {X : Nat → Int} {k : Int} (h0 : 0 ≤ k) {v : Int32} (hv : v = zPof X k.toNat) : upd (zPk P X k) k.toNat v = zPk P X (k + 1) := by
  funext j
  by_cases c : j = k.toNat
  · rw [upd_eq (by omega), hv, ← c]
    show zPof X j = (if (j : Int) < k + 1 then zPof X j else P j)
    rw [if_pos (by omega)]
  · rw [upd_ne (by omega)]
    unfold zPk
    by_cases d : (j : Int) < k
    · rw [if_pos d, if_pos (by omega)]
    · rw [if_neg d, if_neg (by omega)]
def zPW (K : Prop) (B C : zBk) (X : Nat → Int) (k : Int) (F : Nat → Int32) : Prop := iW K (B.setP (zPk B.P X k)) C F
theorem zPW_0 {K : Prop} {B C : zBk} {X : Nat → Int} {F : Nat → Int32} (h : iW K B C F) : zPW K B C X 0 F := by
  unfold zPW
  rw [zPk_0]
  exact h
theorem zPW_eq {K : Prop} {B C : zBk} {X : Nat → Int} {a b : Int} {F : Nat → Int32} (h : zPW K B C X a F) (e : a = b) : zPW K B C X b F := e ▸ h
theorem zPW_put {K : Prop} {B C : zBk} {X : Nat → Int} {k : Int} {F : Nat → Int32} {i v : Int32} (h : zPW K B C X k F) (hi : i.toInt = 18 + k) (h0 : 0 ≤ k) (h1 : k < B.n) (hv : v = zPof X k.toNat) : zPW K B C X (k + 1) (upd F i.toNatClampNeg v) := by
  have q := iW_putP (v := v) h hi h0 h1
  have e : upd (zPk B.P X k) k.toNat v = zPk B.P X (k + 1) := zPk_s h0 hv
  have q : iW K (B.setP (upd (zPk B.P X k) k.toNat v)) C (upd F i.toNatClampNeg v) := q
  rw [e] at q
  exact q
theorem iW_setP {K : Prop} {B C : zBk} {P Q : Nat → Int32} {F : Nat → Int32} (h : iW K (B.setP P) C F) (e : ∀ j : Nat, (j : Int) < B.n → P j = Q j) : iW K (B.setP Q) C F := ⟨h.1, ⟨fun j hj => by
  have c := h.2.1.1 j hj
  exact ⟨c.1, c.2.1, c.2.2.1, c.2.2.2.1, c.2.2.2.2.1, c.2.2.2.2.2.1, c.2.2.2.2.2.2.1, fun g1 g2 g3 => (c.2.2.2.2.2.2.2.1 g1 g2 g3).trans (e (j - 18) (by have g3 : (j : Int) - 18 < B.n := g3; omega)), c.2.2.2.2.2.2.2.2⟩, h.2.1.2⟩, h.2.2⟩
theorem zPW_end {K : Prop} {B C : zBk} {X : Nat → Int} {k : Int} {F : Nat → Int32} (h : zPW K B C X k F) (e : k = B.n) : iW K (B.setP (zPof X)) C F := iW_setP h fun j hj => if_pos (by omega)
/-- the books behind a morning that ends with the purses X -/
def zMoB (B : zBk) (X : Nat → Int) : zBk := if 0 < B.lots ∧ B.held < 9999 then (B.setP (zPof X)).setH (B.held + 1) else B
theorem zMoB_no {K : Prop} {B C : zBk} {X : Nat → Int} {F : Nat → Int32} (h : iW K B C F) (c : B.lots ≤ 0 ∨ 9999 ≤ B.held) : iW K (zMoB B X) C F := by
  unfold zMoB
  rw [if_neg (by omega)]
  exact h
theorem zMoB_so {K : Prop} {B C : zBk} {X : Nat → Int} {F : Nat → Int32} {i v : Int32} (h : iW K (B.setP (zPof X)) C F) (c : 0 < B.lots ∧ B.held < 9999) (hi : i.toInt = 88) (hv : v.toInt = B.held + 1) : iW K (zMoB B X) C (upd F i.toNatClampNeg v) := by
  unfold zMoB
  rw [if_pos c, show i.toNatClampNeg = 88 from z_tn hi (by omega)]
  exact iW_putH h hv
/-! rows of lots in the reference's goings through -/
def zIdp (F : Nat → Int32) : Prop := iPerm F ∧ zIdn F
theorem zRwP_of {n : Int} {F : Nat → Int32} (h : zIdp F) (hn : n ≤ 6) : zRwP n F := zRwP_id h.1 h.2 hn
theorem zRwP_eq {a b : Int} {F : Nat → Int32} (h : zRwP a F) (e : a = b) : zRwP b F := e ▸ h
theorem zSw_n {F R : Nat → Int32} {x y i i2 j j2 : Int32} {a b n : Int} (hN : ∀ m : Nat, (m : Int) < n → (F m).toInt < n) (ey : y = F i.toNatClampNeg) (ex : x = F j.toNatClampNeg) (e1 : R = upd F i2.toNatClampNeg x) (hi : i.toInt = a) (hi2 : i2.toInt = a) (hj : j.toInt = b) (hj2 : j2.toInt = b) (h0 : 0 ≤ a) (h2 : 0 ≤ b) (ha : a < n) (hb : b < n) : ∀ m : Nat, (m : Int) < n → (upd R j2.toNatClampNeg y m).toInt < n := by
  intro m hm
  have k := z_swap ey ex e1 hi hi2 hj hj2 h0 h2
  have qi := z_tn' hi h0
  have qj := z_tn' hj h2
  rw [k m]
  refine hN _ ?_
  split
  · omega
  · split <;> omega
/-- as zAft, the first n among themselves -/
def zAfN (n : Int) (Z : Nat → Int32) (c : Int) (F : Nat → Int32) : Prop := zAft Z c F ∧ ∀ m : Nat, (m : Int) < n → (F m).toInt < n
/-- the reference's way to it -/
theorem z_bar9 {c u q d p b : Int32} {t : Int} (hu : u.toInt = zP4 t) (ht0 : 0 ≤ t) (ht1 : t ≤ 4) (e1 : q = c / u) (e2 : d = q &&& 3) (e3 : p = d * u) (e4 : b = c - p) (h0 : 0 ≤ c.toInt) (h1 : c.toInt ≤ 1023) : b.toInt = c.toInt - c.toInt / zP4 t % 4 * zP4 t := by
  have k := zP4_c ht0 ht1
  have hp : 1 ≤ zP4 t := by omega
  have hq : q.toInt = c.toInt / zP4 t := by rw [e1, lg_idiv_nonneg (by omega) (by omega), hu]
  have hq0 : 0 ≤ q.toInt := by
    rw [hq]
    exact Int.ediv_nonneg h0 (by omega)
  have hd : d.toInt = q.toInt % 4 := by rw [e2, z_and3 hq0]
  rcases k with k | k | k | k | k
  all_goals
    rw [k.2] at hu hq ⊢
    have hp := zi_mul e3 (show d.toInt = d.toInt from rfl) hu (by omega) (by omega)
    have hb := zi_sub e4 (show c.toInt = c.toInt from rfl) hp (by omega) (by omega)
    omega
