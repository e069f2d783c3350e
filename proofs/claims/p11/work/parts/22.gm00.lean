/-! what the reference's rows hold, in any state -/
def wB (a b : Int) : Prop := (a = 0 → 0 ≤ b ∧ b ≤ 99) ∧ (a = 1 → 1 ≤ b ∧ b ≤ 9) ∧ (a = 2 → 0 ≤ b ∧ b ≤ 99) ∧ (a = 5 → 0 ≤ b ∧ b ≤ 6) ∧ (6 ≤ a → a ≤ 11 → 0 ≤ b ∧ b ≤ 3) ∧ (a = 12 → 0 ≤ b ∧ b ≤ 5)
def gW (F : Nat → Int32) (o : Nat) : Prop := ∀ j : Nat, j < 90 → wB j (F (o + j)).toInt
/-- what cell j holds, by the books -/
def bC (B : zBk) (j : Nat) (x : Int32) : Prop := (j < 5 → x = B.L j) ∧ (j = 5 → x.toInt = B.lots) ∧ (6 ≤ j → j < 12 → (j : Int) - 6 < B.lots → x = B.K (j - 6)) ∧ (j = 12 → x.toInt = B.n) ∧ (13 ≤ j → j < 18 → (j : Int) - 13 < B.n → x = B.S (j - 13)) ∧ (23 ≤ j → j < 28 → (j : Int) - 23 < B.n → x = B.M (j - 23)) ∧ (28 ≤ j → j < 48 → (j : Int) - 28 < 4 * B.n → x = B.V (j - 28)) ∧ (18 ≤ j → j < 23 → (j : Int) - 18 < B.n → x = B.P (j - 18)) ∧ (j = 88 → x.toInt = B.held)
def bW (B : zBk) (F : Nat → Int32) (o : Nat) : Prop := ∀ j : Nat, j < 90 → bC B j (F (o + j))
/-- nothing stands behind the last buyer -/
def bZ (B : zBk) : Prop := (∀ j : Nat, j < 5 → B.n ≤ j → B.M j = 0) ∧ ∀ j : Nat, j < 20 → 4 * B.n ≤ j → B.V j = 0
def iW (K : Prop) (B C : zBk) (F : Nat → Int32) : Prop := gW F 0 ∧ (bW B F 0 ∧ bZ B) ∧ (K → gW F 90 ∧ bW C F 90 ∧ bZ C)
theorem bW_at {B : zBk} {F : Nat → Int32} {k : Nat} (h : bW B F 0) (hk : k < 90) : bC B k (F k) := by
  have := h k hk
  rw [Nat.zero_add] at this
  exact this
theorem iW_at {K : Prop} {B C : zBk} {F : Nat → Int32} {i y : Int32} {a : Int} (h : iW K B C F) (hi : i.toInt = a) (h0 : 0 ≤ a) (h1 : a ≤ 89) (e : y = F i.toNatClampNeg) : wB a y.toInt := by
  have q := z_tn' hi h0
  have h2 := h.1 i.toNatClampNeg (by omega)
  rw [q, Nat.zero_add] at h2
  rw [e]
  exact h2
theorem iW_n {K : Prop} {B C : zBk} {F : Nat → Int32} (h : iW K B C F) : (F 12).toInt = B.n := (bW_at h.2.1.1 (by omega)).2.2.2.1 rfl
theorem iW_lots {K : Prop} {B C : zBk} {F : Nat → Int32} (h : iW K B C F) : (F 5).toInt = B.lots := (bW_at h.2.1.1 (by omega)).2.1 rfl
theorem iW_nr {K : Prop} {B C : zBk} {F : Nat → Int32} (h : iW K B C F) : 0 ≤ B.n ∧ B.n ≤ 5 := by
  have h1 := (h.1 12 (by omega)).2.2.2.2.2 rfl
  have h2 := iW_n h
  rw [← h2]
  exact h1
theorem iW_lr {K : Prop} {B C : zBk} {F : Nat → Int32} (h : iW K B C F) : 0 ≤ B.lots ∧ B.lots ≤ 6 := by
  have h1 := (h.1 5 (by omega)).2.2.2.1 rfl
  have h2 := iW_lots h
  rw [← h2]
  exact h1
theorem iW_L {K : Prop} {B C : zBk} {F : Nat → Int32} {i y : Int32} {a : Int} (h : iW K B C F) (hi : i.toInt = a) (h0 : 0 ≤ a) (h1 : a ≤ 4) (e : y = F i.toNatClampNeg) : y = B.L a.toNat := by
  have q := z_tn' hi h0
  rw [e, (bW_at h.2.1.1 (show i.toNatClampNeg < 90 by omega)).1 (by omega), show i.toNatClampNeg = a.toNat by omega]
theorem iW_K {K : Prop} {B C : zBk} {F : Nat → Int32} {i y : Int32} {a : Int} (h : iW K B C F) (hi : i.toInt = 6 + a) (h0 : 0 ≤ a) (h1 : a < B.lots) (e : y = F i.toNatClampNeg) : y = B.K a.toNat := by
  have q := z_tn' hi (by omega)
  have hn := iW_lr h
  rw [e, (bW_at h.2.1.1 (show i.toNatClampNeg < 90 by omega)).2.2.1 (by omega) (by omega) (by omega), show i.toNatClampNeg - 6 = a.toNat by omega]
theorem iW_S {K : Prop} {B C : zBk} {F : Nat → Int32} {i y : Int32} {a : Int} (h : iW K B C F) (hi : i.toInt = 13 + a) (h0 : 0 ≤ a) (h1 : a < B.n) (e : y = F i.toNatClampNeg) : y = B.S a.toNat := by
  have q := z_tn' hi (by omega)
  have hn := iW_nr h
  rw [e, (bW_at h.2.1.1 (show i.toNatClampNeg < 90 by omega)).2.2.2.2.1 (by omega) (by omega) (by omega), show i.toNatClampNeg - 13 = a.toNat by omega]
theorem iW_M {K : Prop} {B C : zBk} {F : Nat → Int32} {i y : Int32} {a : Int} (h : iW K B C F) (hi : i.toInt = 23 + a) (h0 : 0 ≤ a) (h1 : a < B.n) (e : y = F i.toNatClampNeg) : y = B.M a.toNat := by
  have q := z_tn' hi (by omega)
  have hn := iW_nr h
  rw [e, (bW_at h.2.1.1 (show i.toNatClampNeg < 90 by omega)).2.2.2.2.2.1 (by omega) (by omega) (by omega), show i.toNatClampNeg - 23 = a.toNat by omega]
theorem iW_V {K : Prop} {B C : zBk} {F : Nat → Int32} {i y : Int32} {a : Int} (h : iW K B C F) (hi : i.toInt = 28 + a) (h0 : 0 ≤ a) (h1 : a < 4 * B.n) (e : y = F i.toNatClampNeg) : y = B.V a.toNat := by
  have q := z_tn' hi (by omega)
  have hn := iW_nr h
  rw [e, (bW_at h.2.1.1 (show i.toNatClampNeg < 90 by omega)).2.2.2.2.2.2.1 (by omega) (by omega) (by omega), show i.toNatClampNeg - 28 = a.toNat by omega]
theorem iW_P {K : Prop} {B C : zBk} {F : Nat → Int32} {i y : Int32} {a : Int} (h : iW K B C F) (hi : i.toInt = 18 + a) (h0 : 0 ≤ a) (h1 : a < B.n) (e : y = F i.toNatClampNeg) : y = B.P a.toNat := by
  have q := z_tn' hi (by omega)
  have hn := iW_nr h
  rw [e, (bW_at h.2.1.1 (show i.toNatClampNeg < 90 by omega)).2.2.2.2.2.2.2.1 (by omega) (by omega) (by omega), show i.toNatClampNeg - 18 = a.toNat by omega]
theorem iW_held {K : Prop} {B C : zBk} {F : Nat → Int32} (h : iW K B C F) : (F 88).toInt = B.held := (bW_at h.2.1.1 (by omega)).2.2.2.2.2.2.2.2 rfl
theorem gW_put {F : Nat → Int32} {o k : Nat} {v : Int32} (h : gW F o) (hv : ∀ j : Nat, j < 90 → k = o + j → wB j v.toInt) : gW (upd F k v) o := by
  intro j hj
  show wB j (if o + j = k then v else F (o + j)).toInt
  by_cases q : o + j = k
  · rw [if_pos q]
    exact hv j hj q.symm
  · rw [if_neg q]
    exact h j hj
theorem bW_put {B D : zBk} {F : Nat → Int32} {o k : Nat} {v : Int32} (h : bW B F o) (hk : ∀ j : Nat, j < 90 → k = o + j → bC D j v) (hs : ∀ j : Nat, j < 90 → k ≠ o + j → bC B j (F (o + j)) → bC D j (F (o + j))) : bW D (upd F k v) o := by
  intro j hj
  by_cases q : o + j = k
  · rw [upd_eq q]
    exact hk j hj q.symm
  · rw [upd_ne q]
    exact hs j hj (Ne.symm q) (h j hj)
theorem gW_put' {F : Nat → Int32} {i v : Int32} {a b : Int} (h : gW F 0) (hi : i.toInt = a) (hv : v.toInt = b) (h0 : 0 ≤ a) (w : wB a b) : gW (upd F i.toNatClampNeg v) 0 := by
  have q := z_tn' hi h0
  refine gW_put h fun j hj e => ?_
  have e2 : (j : Int) = a := by omega
  rw [e2, hv]
  exact w
theorem kept_put {K : Prop} {C : zBk} {F : Nat → Int32} {k : Nat} {v : Int32} (h : K → gW F 90 ∧ bW C F 90 ∧ bZ C) (hk : k ≤ 89) : K → gW (upd F k v) 90 ∧ bW C (upd F k v) 90 ∧ bZ C := fun q =>
  ⟨gW_put (h q).1 fun j hj e => by exfalso; omega, bW_put (h q).2.1 (fun j hj e => by exfalso; omega) (fun _ _ _ c => c), (h q).2.2⟩
/-- a cell that says nothing: not of a lot, not of a buyer -/
theorem iW_put {K : Prop} {B C : zBk} {F : Nat → Int32} {i v : Int32} {a : Int} (h : iW K B C F) (hi : i.toInt = a) (h0 : 13 ≤ a) (h1 : a ≤ 89) (qs : a ≤ 17 → B.n ≤ a - 13) (qm : 23 ≤ a → a ≤ 27 → B.n ≤ a - 23) (qv : 28 ≤ a → a ≤ 47 → 4 * B.n ≤ a - 28) (qp : 18 ≤ a → a ≤ 22 → B.n ≤ a - 18) (qh : a ≠ 88) : iW K B C (upd F i.toNatClampNeg v) := by
  have q := z_tn' hi (by omega)
  refine ⟨gW_put' h.1 hi rfl (by omega) ⟨by omega, by omega, by omega, by omega, by omega, by omega⟩, ⟨bW_put h.2.1.1 (fun j hj e => ?_) (fun _ _ _ c => c), h.2.1.2⟩, kept_put h.2.2 (by omega)⟩
  refine ⟨fun _ => ?_, fun _ => ?_, fun _ _ => ?_, fun _ => ?_, fun _ _ c => ?_, fun _ _ c => ?_, fun _ _ c => ?_, fun _ _ c => ?_, fun c => ?_⟩
  · exfalso
    omega
  · exfalso
    omega
  · exfalso
    omega
  · exfalso
    omega
  · exfalso
    have := qs (by omega)
    omega
  · exfalso
    have := qm (by omega) (by omega)
    omega
  · exfalso
    have := qv (by omega) (by omega)
    omega
  · exfalso
    have := qp (by omega) (by omega)
    omega
  · exfalso
    omega
/-- books that say the same -/
def bEq (B D : zBk) : Prop := (∀ j : Nat, j < 5 → B.L j = D.L j) ∧ B.lots = D.lots ∧ (∀ j : Nat, j < 6 → (j : Int) < B.lots → B.K j = D.K j) ∧ B.n = D.n ∧ (∀ j : Nat, j < 5 → (j : Int) < B.n → B.S j = D.S j) ∧ (∀ j : Nat, j < 5 → B.M j = D.M j) ∧ (∀ j : Nat, j < 20 → B.V j = D.V j) ∧ (∀ j : Nat, j < 5 → (j : Int) < B.n → B.P j = D.P j) ∧ B.held = D.held
theorem bC_eq {B D : zBk} (e : bEq B D) {j : Nat} {x : Int32} (h : bC B j x) : bC D j x := by
  obtain ⟨eL, el, eK, en, eS, eM, eV, eP, eh⟩ := e
  obtain ⟨h1, h2, h3, h4, h5, h6, h7, h8, h9⟩ := h
  refine ⟨fun c => ?_, fun c => ?_, fun c c2 c3 => ?_, fun c => ?_, fun c c2 c3 => ?_, fun c c2 c3 => ?_, fun c c2 c3 => ?_, fun c c2 c3 => ?_, fun c => ?_⟩
  · rw [← eL j c]
    exact h1 c
  · rw [← el]
    exact h2 c
  · rw [← eK _ (by omega) (by omega)]
    exact h3 c c2 (by omega)
  · rw [← en]
    exact h4 c
  · rw [← eS _ (by omega) (by omega)]
    exact h5 c c2 (by omega)
  · rw [← eM _ (by omega)]
    exact h6 c c2 (by omega)
  · rw [← eV _ (by omega)]
    exact h7 c c2 (by omega)
  · rw [← eP _ (by omega) (by omega)]
    exact h8 c c2 (by omega)
  · rw [← eh]
    exact h9 c
theorem bZ_eq {B D : zBk} (e : bEq B D) (h : bZ B) : bZ D := by
  obtain ⟨eL, el, eK, en, eS, eM, eV, eP, eh⟩ := e
  refine ⟨fun j hj c => ?_, fun j hj c => ?_⟩
  · rw [← eM j hj]
    exact h.1 j hj (by omega)
  · rw [← eV j hj]
    exact h.2 j hj (by omega)
theorem iW_eq {K : Prop} {B D C : zBk} {F : Nat → Int32} (h : iW K B C F) (e : bEq B D) : iW K D C F := ⟨h.1, ⟨fun j hj => bC_eq e (h.2.1.1 j hj), bZ_eq e h.2.1.2⟩, h.2.2⟩
theorem iW_eqC {K : Prop} {B D C : zBk} {F : Nat → Int32} (h : iW K B C F) (e : bEq C D) : iW K B D F := ⟨h.1, h.2.1, fun q => ⟨(h.2.2 q).1, fun j hj => bC_eq e ((h.2.2 q).2.1 j hj), bZ_eq e (h.2.2 q).2.2⟩⟩
theorem bEq_refl (B : zBk) : bEq B B := ⟨fun _ _ => rfl, rfl, fun _ _ _ => rfl, rfl, fun _ _ _ => rfl, fun _ _ => rfl, fun _ _ => rfl, fun _ _ _ => rfl, rfl⟩
def zBk.setL (B : zBk) (L : Nat → Int32) : zBk := zBk.mk L B.lots B.K B.n B.S B.P B.M B.V B.held
def zBk.setK (B : zBk) (n : Int) (K : Nat → Int32) : zBk := zBk.mk B.L n K B.n B.S B.P B.M B.V B.held
def zBk.setM (B : zBk) (M : Nat → Int32) : zBk := zBk.mk B.L B.lots B.K B.n B.S B.P M B.V B.held
def zBk.setV (B : zBk) (V : Nat → Int32) : zBk := zBk.mk B.L B.lots B.K B.n B.S B.P B.M V B.held
def zBk.setP (B : zBk) (P : Nat → Int32) : zBk := zBk.mk B.L B.lots B.K B.n B.S P B.M B.V B.held
def zBk.setH (B : zBk) (h : Int) : zBk := zBk.mk B.L B.lots B.K B.n B.S B.P B.M B.V h
def zBk.more (B : zBk) (s p : Int32) : zBk := zBk.mk B.L B.lots B.K (B.n + 1) (upd B.S B.n.toNat s) (upd B.P B.n.toNat p) B.M B.V B.held
theorem iW_putL {K : Prop} {B C : zBk} {F : Nat → Int32} {i v : Int32} {a b : Int} (h : iW K B C F) (hi : i.toInt = a) (hv : v.toInt = b) (h0 : 0 ≤ a) (h1 : a ≤ 4) (c : zft a b) : iW K (B.setL (upd B.L a.toNat v)) C (upd F i.toNatClampNeg v) := by
  have q := z_tn' hi h0
  have z1 := zlo_r a
  have z2 := zhi_r a
  have c1 : zlo a ≤ b := c.1
  have c2 : b ≤ zhi a := c.2
  refine ⟨gW_put' h.1 hi hv h0 ⟨by omega, fun e => ?_, by omega, by omega, by omega, by omega⟩, ⟨bW_put h.2.1.1 (fun j hj e => ?_) (fun j hj e c => ?_), h.2.1.2⟩, kept_put h.2.2 (by omega)⟩
  · rw [e] at c1 c2
    have e1 : zlo 1 = 1 := rfl
    have e2 : zhi 1 = 9 := rfl
    omega
  · refine ⟨fun _ => ?_, fun _ => ?_, fun _ _ => ?_, fun _ => ?_, fun _ _ c => ?_, fun _ _ c => ?_, fun _ _ c => ?_, fun _ _ c => ?_, fun c => ?_⟩
    · show v = upd B.L a.toNat v j
      rw [upd_eq (by omega)]
    · exfalso
      omega
    · exfalso
      omega
    · exfalso
      omega
    · exfalso
      omega
    · exfalso
      omega
    · exfalso
      omega
    · exfalso
      omega
    · exfalso
      omega
  · refine ⟨fun g => ?_, c.2.1, c.2.2.1, c.2.2.2.1, c.2.2.2.2.1, c.2.2.2.2.2.1, c.2.2.2.2.2.2⟩
    show F (0 + j) = upd B.L a.toNat v j
    rw [upd_ne (by omega)]
    exact c.1 g
theorem iW_putM {K : Prop} {B C : zBk} {F : Nat → Int32} {i v : Int32} {a : Int} (h : iW K B C F) (hi : i.toInt = 23 + a) (h0 : 0 ≤ a) (h1 : a < B.n) : iW K (B.setM (upd B.M a.toNat v)) C (upd F i.toNatClampNeg v) := by
  have q := z_tn' hi (by omega)
  have hn := iW_nr h
  refine ⟨gW_put' h.1 hi rfl (by omega) ⟨by omega, by omega, by omega, by omega, by omega, by omega⟩, ⟨bW_put h.2.1.1 (fun j hj e => ?_) (fun j hj e c => ?_), fun j hj g => ?_, h.2.1.2.2⟩, kept_put h.2.2 (by omega)⟩
  · refine ⟨fun _ => ?_, fun _ => ?_, fun _ _ => ?_, fun _ => ?_, fun _ _ c => ?_, fun _ _ c => ?_, fun _ _ c => ?_, fun _ _ c => ?_, fun c => ?_⟩
    · exfalso
      omega
    · exfalso
      omega
    · exfalso
      omega
    · exfalso
      omega
    · exfalso
      omega
    · show v = upd B.M a.toNat v (j - 23)
      rw [upd_eq (by omega)]
    · exfalso
      omega
    · exfalso
      omega
    · exfalso
      omega
  · refine ⟨c.1, c.2.1, c.2.2.1, c.2.2.2.1, c.2.2.2.2.1, fun g1 g2 g3 => ?_, c.2.2.2.2.2.2⟩
    show F (0 + j) = upd B.M a.toNat v (j - 23)
    rw [upd_ne (by omega)]
    exact c.2.2.2.2.2.1 g1 g2 g3
  · show upd B.M a.toNat v j = 0
    have g : B.n ≤ j := g
    rw [upd_ne (by omega)]
    exact h.2.1.2.1 j hj g
theorem iW_putV {K : Prop} {B C : zBk} {F : Nat → Int32} {i v : Int32} {a : Int} (h : iW K B C F) (hi : i.toInt = 28 + a) (h0 : 0 ≤ a) (h1 : a < 4 * B.n) : iW K (B.setV (upd B.V a.toNat v)) C (upd F i.toNatClampNeg v) := by
  have q := z_tn' hi (by omega)
  have hn := iW_nr h
  refine ⟨gW_put' h.1 hi rfl (by omega) ⟨by omega, by omega, by omega, by omega, by omega, by omega⟩, ⟨bW_put h.2.1.1 (fun j hj e => ?_) (fun j hj e c => ?_), h.2.1.2.1, fun j hj g => ?_⟩, kept_put h.2.2 (by omega)⟩
  · refine ⟨fun _ => ?_, fun _ => ?_, fun _ _ => ?_, fun _ => ?_, fun _ _ c => ?_, fun _ _ c => ?_, fun _ _ c => ?_, fun _ _ c => ?_, fun c => ?_⟩
    · exfalso
      omega
    · exfalso
      omega
    · exfalso
      omega
    · exfalso
      omega
    · exfalso
      omega
    · exfalso
      omega
    · show v = upd B.V a.toNat v (j - 28)
      rw [upd_eq (by omega)]
    · exfalso
      omega
    · exfalso
      omega
  · refine ⟨c.1, c.2.1, c.2.2.1, c.2.2.2.1, c.2.2.2.2.1, c.2.2.2.2.2.1, fun g1 g2 g3 => ?_, c.2.2.2.2.2.2.2⟩
    show F (0 + j) = upd B.V a.toNat v (j - 28)
    rw [upd_ne (by omega)]
    exact c.2.2.2.2.2.2.1 g1 g2 g3
  · show upd B.V a.toNat v j = 0
    have g : 4 * B.n ≤ j := g
    rw [upd_ne (by omega)]
    exact h.2.1.2.2 j hj g
/-- the lots' kinds as they stand in the row, n of them -/
def zWk (K : Prop) (B C : zBk) (n : Int) (F : Nat → Int32) : Prop := iW K (B.setK n (fun j => F (6 + j))) C F
theorem zWk_5 {K : Prop} {B C : zBk} {F : Nat → Int32} {v : Int32} {n : Int} (h : iW K B C F) (hv : v.toInt = n) (h0 : 0 ≤ n) (h6 : n ≤ 6) : zWk K B C n (upd F 5 v) := by
  refine ⟨gW_put h.1 fun j hj e => ?_, ⟨bW_put h.2.1.1 (fun j hj e => ?_) (fun j hj e c => ?_), h.2.1.2⟩, kept_put h.2.2 (by omega)⟩
  · have e2 : (j : Int) = 5 := by omega
    rw [e2, hv]
    exact ⟨by omega, by omega, by omega, by omega, by omega, by omega⟩
  · refine ⟨fun _ => ?_, fun _ => hv, fun _ _ => ?_, fun _ => ?_, fun _ _ c => ?_, fun _ _ c => ?_, fun _ _ c => ?_, fun _ _ c => ?_, fun c => ?_⟩
    · exfalso
      omega
    · exfalso
      omega
    · exfalso
      omega
    · exfalso
      omega
    · exfalso
      omega
    · exfalso
      omega
    · exfalso
      omega
    · exfalso
      omega
  · refine ⟨c.1, fun g => ?_, fun g1 g2 g3 => ?_, c.2.2.2.1, c.2.2.2.2.1, c.2.2.2.2.2.1, c.2.2.2.2.2.2⟩
    · exfalso
      omega
    · show F (0 + j) = upd F 5 v (6 + (j - 6))
      rw [upd_ne (by omega), show 6 + (j - 6) = 0 + j by omega]
theorem zWk_put {K : Prop} {B C : zBk} {F : Nat → Int32} {i v : Int32} {n a : Int} (h : zWk K B C n F) (hi : i.toInt = 6 + a) (h0 : 0 ≤ a) (h5 : a ≤ 5) (hv : 0 ≤ v.toInt ∧ v.toInt ≤ 3) : zWk K B C n (upd F i.toNatClampNeg v) := by
  have q := z_tn' hi (by omega)
  refine ⟨gW_put' h.1 hi rfl (by omega) ⟨by omega, by omega, by omega, by omega, by omega, by omega⟩, ⟨bW_put h.2.1.1 (fun j hj e => ?_) (fun j hj e c => ?_), h.2.1.2⟩, kept_put h.2.2 (by omega)⟩
  · refine ⟨fun _ => ?_, fun _ => ?_, fun g1 g2 _ => ?_, fun _ => ?_, fun _ _ c => ?_, fun _ _ c => ?_, fun _ _ c => ?_, fun _ _ c => ?_, fun c => ?_⟩
    · exfalso
      omega
    · exfalso
      omega
    · show v = upd F i.toNatClampNeg v (6 + (j - 6))
      rw [upd_eq (by omega)]
    · exfalso
      omega
    · exfalso
      omega
    · exfalso
      omega
    · exfalso
      omega
    · exfalso
      omega
    · exfalso
      omega
  · refine ⟨c.1, c.2.1, fun g1 g2 g3 => ?_, c.2.2.2.1, c.2.2.2.2.1, c.2.2.2.2.2.1, c.2.2.2.2.2.2⟩
    show F (0 + j) = upd F i.toNatClampNeg v (6 + (j - 6))
    rw [upd_ne (by omega), show 6 + (j - 6) = 0 + j by omega]
/-- so many of the lots' kinds are taken over -/
def zKW (K : Prop) (B C : zBk) (n : Int) (T : Nat → Int32) (k : Int) (F : Nat → Int32) : Prop := zWk K B C n F ∧ ∀ j : Nat, (j : Int) < k → F (6 + j) = T j
theorem zKW_0 {K : Prop} {B C : zBk} {F T : Nat → Int32} {v : Int32} {n : Int} (h : iW K B C F) (hv : v.toInt = n) (h0 : 0 ≤ n) (h6 : n ≤ 6) : zKW K B C n T 0 (upd F 5 v) := ⟨zWk_5 h hv h0 h6, fun j hj => by omega⟩
theorem zKW_eq {K : Prop} {B C : zBk} {n a b : Int} {T F : Nat → Int32} (h : zKW K B C n T a F) (e : a = b) : zKW K B C n T b F := e ▸ h
theorem zKW_put {K : Prop} {B C : zBk} {F T : Nat → Int32} {i q v : Int32} {n a : Int} (h : zKW K B C n T a F) (hi : i.toInt = 6 + a) (h0 : 0 ≤ a) (h5 : a ≤ 5) (hq : q.toInt = a) (e : v = T q.toNatClampNeg) (hv : 0 ≤ v.toInt ∧ v.toInt ≤ 3) : zKW K B C n T (a + 1) (upd F i.toNatClampNeg v) := by
  have k := z_tn' hi (by omega)
  have k2 := z_tn' hq h0
  refine ⟨zWk_put h.1 hi h0 h5 hv, fun j hj => ?_⟩
  by_cases g : 6 + j = i.toNatClampNeg
  · rw [upd_eq g, e, show q.toNatClampNeg = j by omega]
  · rw [upd_ne g]
    exact h.2 j (by omega)
/-- the books behind a text of lots -/
def zLtB (B : zBk) (Z : Nat → Int32) (len : Int) : zBk := if 1 ≤ zLots Z len then B.setK (zLots Z len) (fun j => Int32.ofInt (zLotK Z len j)) else B
theorem zLtB_neg {K : Prop} {B C : zBk} {F Z : Nat → Int32} {len : Int} (h : iW K B C F) (c : zLots Z len ≤ 0) : iW K (zLtB B Z len) C F := by
  unfold zLtB
  rw [if_neg (by omega)]
  exact h
theorem zKW_end {K : Prop} {B C : zBk} {F T Z : Nat → Int32} {n k len : Int} (h : zKW K B C n T k F) (hk : n ≤ k) (ht : zKT Z len T) (e : n = zLots Z len) (h1 : 1 ≤ n) : iW K (zLtB B Z len) C F := by
  unfold zLtB
  rw [if_pos (by omega), ← e]
  refine iW_eq h.1 ⟨fun _ _ => rfl, rfl, fun j hj c => ?_, rfl, fun _ _ _ => rfl, fun _ _ => rfl, fun _ _ => rfl, fun _ _ _ => rfl, rfl⟩
  have c : (j : Int) < n := c
  show F (6 + j) = Int32.ofInt (zLotK Z len j)
  rw [h.2 j (by omega), ← zKT_at ht (by omega) (by omega), Int32.ofInt_toInt]
/-- so many rules are taken over -/
def zNW (K : Prop) (B C : zBk) (T : Nat → Int32) (k : Int) (F : Nat → Int32) : Prop := iW K (B.setL (zNLF T k B.L)) C F
theorem zNW_0 {K : Prop} {B C : zBk} {F T : Nat → Int32} (h : iW K B C F) : zNW K B C T 0 F := iW_eq h ⟨fun j _ => (zNL_0 (T := T) (L := B.L) j (by omega)), rfl, fun _ _ _ => rfl, rfl, fun _ _ _ => rfl, fun _ _ => rfl, fun _ _ => rfl, fun _ _ _ => rfl, rfl⟩
theorem zNW_eq {K : Prop} {B C : zBk} {a b : Int} {T F : Nat → Int32} (h : zNW K B C T a F) (e : a = b) : zNW K B C T b F := e ▸ h
theorem zNW_put {K : Prop} {B C : zBk} {F T : Nat → Int32} {k : Int} {i v : Int32} (h : zNW K B C T k F) (hi : i.toInt = k) (h0 : 0 ≤ k) (h4 : k ≤ 4) (e : v = T i.toNatClampNeg) (hv : 0 ≤ v.toInt) (hf : zft k v.toInt) : zNW K B C T (k + 1) (upd F i.toNatClampNeg v) := by
  have q := z_tn' hi h0
  refine iW_eq (iW_putL h hi rfl h0 h4 hf) ⟨fun j hj => ?_, rfl, fun _ _ _ => rfl, rfl, fun _ _ _ => rfl, fun _ _ => rfl, fun _ _ => rfl, fun _ _ _ => rfl, rfl⟩
  have z := zNL_put (T := T) (L := B.L) (F := zNLF T k B.L) (i := i) (v := v) (fun _ _ => rfl) hi h0 e hv j hj
  rw [show i.toNatClampNeg = k.toNat by omega] at z
  exact z
theorem upd_same {F : Nat → Int32} {k : Nat} {v : Int32} (e : v = F k) : upd F k v = F := by
  funext j
  by_cases q : j = k
  · rw [upd_eq q, e, q]
  · rw [upd_ne q]
theorem zNW_keep {K : Prop} {B C : zBk} {F T : Nat → Int32} {k : Int} {i v : Int32} (h : zNW K B C T k F) (hi : i.toInt = k) (h0 : 0 ≤ k) (e : v = F i.toNatClampNeg) (ht : (T i.toNatClampNeg).toInt < 0) : zNW K B C T (k + 1) (upd F i.toNatClampNeg v) := by
  rw [upd_same e]
  refine iW_eq h ⟨fun j hj => ?_, rfl, fun _ _ _ => rfl, rfl, fun _ _ _ => rfl, fun _ _ => rfl, fun _ _ => rfl, fun _ _ _ => rfl, rfl⟩
  exact zNL_not (T := T) (L := B.L) (F := zNLF T k B.L) (i := i) (fun _ _ => rfl) hi h0 ht j hj
theorem zNW_end {K : Prop} {B C : zBk} {F T Z : Nat → Int32} {k len : Int} (h : zNW K B C T k F) (hk : 5 ≤ k) (ht : zTold Z len T) (h1 : 0 < zLaw Z len) : iW K (B.setL (zLwF Z len B.L)) C F := iW_eq h ⟨fun j hj => zLwP_of (F := zNLF T k B.L) (fun _ _ => rfl) ht h1 hk j hj, rfl, fun _ _ _ => rfl, rfl, fun _ _ _ => rfl, fun _ _ => rfl, fun _ _ => rfl, fun _ _ _ => rfl, rfl⟩
theorem zNW_neg {K : Prop} {B C : zBk} {F Z : Nat → Int32} {len : Int} (h : iW K B C F) (h1 : zLaw Z len ≤ 0) : iW K (B.setL (zLwF Z len B.L)) C F := iW_eq h ⟨fun j hj => zLwP_same h1 j hj, rfl, fun _ _ _ => rfl, rfl, fun _ _ _ => rfl, fun _ _ => rfl, fun _ _ => rfl, fun _ _ _ => rfl, rfl⟩
/-- a buyer that is being written: his sort -/
def zBy0 (K : Prop) (B C : zBk) (s : Int32) (F : Nat → Int32) : Prop := iW K B C F ∧ ∀ j : Nat, (j : Int) = B.n → F (13 + j) = s
theorem zBy0_put {K : Prop} {B C : zBk} {F : Nat → Int32} {i s : Int32} {a : Int} (h : iW K B C F) (hi : i.toInt = 13 + a) (hn : a = B.n) (h4 : a ≤ 4) : zBy0 K B C s (upd F i.toNatClampNeg s) := by
  have hr := iW_nr h
  have q := z_tn' hi (by omega)
  exact ⟨iW_put h hi (by omega) (by omega) (by omega) (by omega) (by omega) (by omega) (by omega), fun j hj => by rw [upd_eq (by omega)]⟩
/-- .. and his purse -/
def zBy1 (K : Prop) (B C : zBk) (s p : Int32) (F : Nat → Int32) : Prop := iW K B C F ∧ ∀ j : Nat, (j : Int) = B.n → F (13 + j) = s ∧ F (18 + j) = p
theorem zBy1_put {K : Prop} {B C : zBk} {F : Nat → Int32} {i s v : Int32} {a : Int} (h : zBy0 K B C s F) (hi : i.toInt = 18 + a) (hn : a = B.n) (h4 : a ≤ 4) : zBy1 K B C s v (upd F i.toNatClampNeg v) := by
  have hr := iW_nr h.1
  have q := z_tn' hi (by omega)
  refine ⟨iW_put h.1 hi (by omega) (by omega) (by omega) (by omega) (by omega) (by omega) (by omega), fun j hj => ⟨?_, ?_⟩⟩
  · rw [upd_ne (by omega)]
    exact h.2 j hj
  · rw [upd_eq (by omega)]
/-- a buyer that is being written: his sort, his purse, margin 0, so many worths 0 -/
def zBy (K : Prop) (B C : zBk) (s p : Int32) (k : Int) (F : Nat → Int32) : Prop := iW K B C F ∧ (∀ j : Nat, (j : Int) = B.n → F (13 + j) = s ∧ F (23 + j) = 0 ∧ F (18 + j) = p) ∧ ∀ j : Nat, 4 * B.n ≤ j → (j : Int) < k → F (28 + j) = 0
theorem zBy_eq {K : Prop} {B C : zBk} {s p : Int32} {a b : Int} {F : Nat → Int32} (h : zBy K B C s p a F) (e : a = b) : zBy K B C s p b F := e ▸ h
theorem zBy_0 {K : Prop} {B C : zBk} {F : Nat → Int32} {i s p : Int32} {a : Int} (h : zBy1 K B C s p F) (hi : i.toInt = 23 + a) (hn : a = B.n) (h4 : a ≤ 4) : zBy K B C s p (4 * a) (upd F i.toNatClampNeg 0) := by
  have hr := iW_nr h.1
  have q := z_tn' hi (by omega)
  refine ⟨iW_put h.1 hi (by omega) (by omega) (by omega) (by omega) (by omega) (by omega) (by omega), fun j hj => ⟨?_, ?_, ?_⟩, fun j h1 h2 => ?_⟩
  · rw [upd_ne (by omega)]
    exact (h.2 j hj).1
  · rw [upd_eq (by omega)]
  · rw [upd_ne (by omega)]
    exact (h.2 j hj).2
  · exfalso
    omega
theorem zBy_V {K : Prop} {B C : zBk} {k : Int} {F : Nat → Int32} {i s p : Int32} (h : zBy K B C s p k F) (hi : i.toInt = 28 + k) (h4 : 4 * B.n ≤ k) (h19 : k ≤ 19) : zBy K B C s p (k + 1) (upd F i.toNatClampNeg 0) := by
  have hr := iW_nr h.1
  have q := z_tn' hi (by omega)
  refine ⟨iW_put h.1 hi (by omega) (by omega) (by omega) (by omega) (by omega) (by omega) (by omega), fun j hj => ?_, fun j h1 h2 => ?_⟩
  · rw [upd_ne (by omega), upd_ne (by omega), upd_ne (by omega)]
    exact h.2.1 j hj
  · by_cases e : (j : Int) = k
    · rw [upd_eq (by omega)]
    · rw [upd_ne (by omega)]
      exact h.2.2 j h1 (by omega)
theorem zBy_far {K : Prop} {B C : zBk} {k : Int} {F : Nat → Int32} {i s p v : Int32} {a : Int} (h : zBy K B C s p k F) (hi : i.toInt = a) (h0 : 48 ≤ a) (h1 : a ≤ 87) (hk : k ≤ 20) : zBy K B C s p k (upd F i.toNatClampNeg v) := by
  have hr := iW_nr h.1
  have q := z_tn' hi (by omega)
  refine ⟨iW_put h.1 hi (by omega) (by omega) (by omega) (by omega) (by omega) (by omega) (by omega), fun j hj => ?_, fun j h1 h2 => ?_⟩
  · rw [upd_ne (by omega), upd_ne (by omega), upd_ne (by omega)]
    exact h.2.1 j hj
  · rw [upd_ne (by omega)]
    exact h.2.2 j h1 h2
theorem zBy_end {K : Prop} {B C : zBk} {k : Int} {F : Nat → Int32} {s p v : Int32} (h : zBy K B C s p k F) (hv : v.toInt = B.n + 1) (h4 : B.n ≤ 4) (hk : 4 * B.n + 4 ≤ k) : iW K (B.more s p) C (upd F 12 v) := by
  have hr := iW_nr h.1
  obtain ⟨⟨hg, ⟨hb, hz1, hz2⟩, hc⟩, hm, hz⟩ := h
  refine ⟨gW_put hg fun j hj e => ?_, ⟨bW_put hb (fun j hj e => ?_) (fun j hj e c => ?_), fun j hj g => ?_, fun j hj g => ?_⟩, kept_put hc (by omega)⟩
  · have e2 : (j : Int) = 12 := by omega
    rw [e2, hv]
    exact ⟨by omega, by omega, by omega, by omega, by omega, by omega⟩
  · refine ⟨fun _ => ?_, fun _ => ?_, fun _ _ => ?_, fun _ => hv, fun _ _ c => ?_, fun _ _ c => ?_, fun _ _ c => ?_, fun _ _ c => ?_, fun c => ?_⟩
    · exfalso
      omega
    · exfalso
      omega
    · exfalso
      omega
    · exfalso
      omega
    · exfalso
      omega
    · exfalso
      omega
    · exfalso
      omega
    · exfalso
      omega
  · refine ⟨c.1, c.2.1, c.2.2.1, fun g => ?_, fun g1 g2 g3 => ?_, fun g1 g2 g3 => ?_, fun g1 g2 g3 => ?_, fun g1 g2 g3 => ?_, c.2.2.2.2.2.2.2.2⟩
    · exfalso
      omega
    · have g3 : (j : Int) - 13 < B.n + 1 := g3
      show F (0 + j) = upd B.S B.n.toNat s (j - 13)
      by_cases q : (j : Int) - 13 < B.n
      · rw [upd_ne (by omega)]
        exact c.2.2.2.2.1 g1 g2 q
      · rw [upd_eq (by omega), show 0 + j = 13 + (j - 13) by omega]
        exact (hm (j - 13) (by omega)).1
    · have g3 : (j : Int) - 23 < B.n + 1 := g3
      show F (0 + j) = B.M (j - 23)
      by_cases q : (j : Int) - 23 < B.n
      · exact c.2.2.2.2.2.1 g1 g2 q
      · rw [hz1 _ (by omega) (by omega), show 0 + j = 23 + (j - 23) by omega]
        exact (hm (j - 23) (by omega)).2.1
    · have g3 : (j : Int) - 28 < 4 * (B.n + 1) := g3
      show F (0 + j) = B.V (j - 28)
      by_cases q : (j : Int) - 28 < 4 * B.n
      · exact c.2.2.2.2.2.2.1 g1 g2 q
      · rw [hz2 _ (by omega) (by omega), show 0 + j = 28 + (j - 28) by omega]
        exact hz (j - 28) (by omega) (by omega)
    · have g3 : (j : Int) - 18 < B.n + 1 := g3
      show F (0 + j) = upd B.P B.n.toNat p (j - 18)
      by_cases q : (j : Int) - 18 < B.n
      · rw [upd_ne (by omega)]
        exact c.2.2.2.2.2.2.2.1 g1 g2 q
      · rw [upd_eq (by omega), show 0 + j = 18 + (j - 18) by omega]
        exact (hm (j - 18) (by omega)).2.2
  · have g : B.n + 1 ≤ j := g
    exact hz1 j hj (by omega)
  · have g : 4 * (B.n + 1) ≤ j := g
    exact hz2 j hj (by omega)
theorem iW_putP {K : Prop} {B C : zBk} {F : Nat → Int32} {i v : Int32} {a : Int} (h : iW K B C F) (hi : i.toInt = 18 + a) (h0 : 0 ≤ a) (h1 : a < B.n) : iW K (B.setP (upd B.P a.toNat v)) C (upd F i.toNatClampNeg v) := by
  have q := z_tn' hi (by omega)
  have hn := iW_nr h
  refine ⟨gW_put' h.1 hi rfl (by omega) ⟨by omega, by omega, by omega, by omega, by omega, by omega⟩, ⟨bW_put h.2.1.1 (fun j hj e => ?_) (fun j hj e c => ?_), h.2.1.2⟩, kept_put h.2.2 (by omega)⟩
  · refine ⟨fun _ => ?_, fun _ => ?_, fun _ _ => ?_, fun _ => ?_, fun _ _ c => ?_, fun _ _ c => ?_, fun _ _ c => ?_, fun _ _ c => ?_, fun c => ?_⟩
    · exfalso
      omega
    · exfalso
      omega
    · exfalso
      omega
    · exfalso
      omega
    · exfalso
      omega
    · exfalso
      omega
    · exfalso
      omega
    · show v = upd B.P a.toNat v (j - 18)
      rw [upd_eq (by omega)]
    · exfalso
      omega
  · refine ⟨c.1, c.2.1, c.2.2.1, c.2.2.2.1, c.2.2.2.2.1, c.2.2.2.2.2.1, c.2.2.2.2.2.2.1, fun g1 g2 g3 => ?_, c.2.2.2.2.2.2.2.2⟩
    show F (0 + j) = upd B.P a.toNat v (j - 18)
    rw [upd_ne (by omega)]
    exact c.2.2.2.2.2.2.2.1 g1 g2 g3
theorem iW_putH {K : Prop} {B C : zBk} {F : Nat → Int32} {v : Int32} {a : Int} (h : iW K B C F) (hv : v.toInt = a) : iW K (B.setH a) C (upd F 88 v) := by
  refine ⟨gW_put h.1 fun j hj e => ?_, ⟨bW_put h.2.1.1 (fun j hj e => ?_) (fun j hj e c => ?_), h.2.1.2⟩, kept_put h.2.2 (by omega)⟩
  · have e2 : (j : Int) = 88 := by omega
    rw [e2]
    exact ⟨by omega, by omega, by omega, by omega, by omega, by omega⟩
  · refine ⟨fun _ => ?_, fun _ => ?_, fun _ _ => ?_, fun _ => ?_, fun _ _ c => ?_, fun _ _ c => ?_, fun _ _ c => ?_, fun _ _ c => ?_, fun _ => hv⟩
    · exfalso
      omega
    · exfalso
      omega
    · exfalso
      omega
    · exfalso
      omega
    · exfalso
      omega
    · exfalso
      omega
    · exfalso
      omega
    · exfalso
      omega
  · exact ⟨c.1, c.2.1, c.2.2.1, c.2.2.2.1, c.2.2.2.2.1, c.2.2.2.2.2.1, c.2.2.2.2.2.2.1, c.2.2.2.2.2.2.2.1, fun g => by exfalso; omega⟩
/-- the books after a taking over -/
def bCpy (B C : zBk) : zBk := zBk.mk (va_cpy B.L C.L 0 0 5) B.lots (va_cpy B.K C.K 0 0 6) B.n (va_cpy B.S C.S 0 0 5) (va_cpy B.P C.P 0 0 5) (va_cpy B.M C.M 0 0 5) (va_cpy B.V C.V 0 0 20) B.held
theorem bEq_cpy (B C : zBk) : bEq B (bCpy B C) := ⟨fun j hj => (z_cpy hj).symm, rfl, fun j hj _ => (z_cpy hj).symm, rfl, fun j hj _ => (z_cpy hj).symm, fun j hj => (z_cpy hj).symm, fun j hj => (z_cpy hj).symm, fun j hj _ => (z_cpy hj).symm, rfl⟩
theorem bW_cpy {B C : zBk} {F : Nat → Int32} {o p : Nat} (h : bW B F o) (e : ∀ j : Nat, j < 90 → F (p + j) = F (o + j)) : bW (bCpy B C) F p := fun j hj => by
  rw [e j hj]
  exact bC_eq (bEq_cpy B C) (h j hj)
/-- so much is brought back -/
def zRes (C : zBk) (k : Int) (F : Nat → Int32) : Prop := gW F 0 ∧ (gW F 90 ∧ bW C F 90 ∧ bZ C) ∧ ∀ j : Nat, (j : Int) < k → j < 90 → F j = F (90 + j)
theorem zRes_0 {K : Prop} {B C : zBk} {F : Nat → Int32} (h : iW K B C F) (hk : K) : zRes C 0 F := ⟨h.1, h.2.2 hk, fun j hj => by omega⟩
theorem zRes_eq {C : zBk} {a b : Int} {F : Nat → Int32} (h : zRes C a F) (e : a = b) : zRes C b F := e ▸ h
theorem zRes_put {C : zBk} {F : Nat → Int32} {i n v : Int32} {a : Int} (h : zRes C a F) (e : v = F n.toNatClampNeg) (hn : n.toInt = 90 + a) (hi : i.toInt = a) (h0 : 0 ≤ a) (h1 : a ≤ 89) : zRes C (a + 1) (upd F i.toNatClampNeg v) := by
  have q := z_tn' hi h0
  have qn := z_tn' hn (by omega)
  refine ⟨gW_put h.1 fun j hj e3 => ?_, kept_put (K := True) (fun _ => h.2.1) (by omega) trivial, fun j hj hj9 => ?_⟩
  · have e2 : n.toNatClampNeg = 90 + j := by omega
    rw [e, e2]
    exact h.2.1.1 j hj
  · rw [upd_ne (show 90 + j ≠ i.toNatClampNeg by omega)]
    by_cases q3 : j = i.toNatClampNeg
    · rw [upd_eq q3, e]
      have : n.toNatClampNeg = 90 + j := by omega
      rw [this]
    · rw [upd_ne q3]
      exact h.2.2 j (by omega) hj9
theorem zRes_end {K : Prop} {B C : zBk} {F : Nat → Int32} {a : Int} (h : zRes C a F) (ha : 90 ≤ a) : iW K (bCpy C B) C F :=
  ⟨h.1, ⟨bW_cpy h.2.1.2.1 (fun j hj => by rw [Nat.zero_add]; exact h.2.2 j (by omega) hj), bZ_eq (bEq_cpy C B) h.2.1.2.2⟩, fun _ => h.2.1⟩
/-- so much of the image stands -/
def zImg (B : zBk) (k : Int) (F : Nat → Int32) : Prop := gW F 0 ∧ (bW B F 0 ∧ bZ B) ∧ ∀ j : Nat, (j : Int) < k → j < 90 → F (90 + j) = F j
theorem zImg_0 {K : Prop} {B C : zBk} {F : Nat → Int32} (h : iW K B C F) : zImg B 0 F := ⟨h.1, h.2.1, fun j hj => by omega⟩
theorem zImg_eq {B : zBk} {a b : Int} {F : Nat → Int32} (h : zImg B a F) (e : a = b) : zImg B b F := e ▸ h
theorem zImg_put {B : zBk} {F : Nat → Int32} {i n v : Int32} {a : Int} (h : zImg B a F) (e : v = F i.toNatClampNeg) (hi : i.toInt = a) (hn : n.toInt = 90 + a) (h0 : 0 ≤ a) (h1 : a ≤ 89) : zImg B (a + 1) (upd F n.toNatClampNeg v) := by
  have q := z_tn' hi h0
  have qn := z_tn' hn (by omega)
  refine ⟨gW_put h.1 fun j hj e3 => ?_, ⟨bW_put h.2.1.1 (fun j hj e3 => ?_) (fun _ _ _ c => c), h.2.1.2⟩, fun j hj hj9 => ?_⟩
  · exfalso
    omega
  · exfalso
    omega
  · rw [upd_ne (show j ≠ n.toNatClampNeg by omega)]
    by_cases q3 : 90 + j = n.toNatClampNeg
    · rw [upd_eq q3, e]
      have : i.toNatClampNeg = j := by omega
      rw [this]
    · rw [upd_ne q3]
      exact h.2.2 j (by omega) hj9
theorem zImg_iW {B C : zBk} {F : Nat → Int32} {a : Int} (h : zImg B a F) (ha : 90 ≤ a) : iW True B (bCpy B C) F := by
  refine ⟨h.1, h.2.1, fun _ => ⟨fun j hj => ?_, bW_cpy h.2.1.1 (fun j hj => by rw [Nat.zero_add]; exact h.2.2 j (by omega) hj), bZ_eq (bEq_cpy B C) h.2.1.2⟩⟩
  rw [h.2.2 j (by omega) hj]
  have h3 := h.1 j hj
  rw [Nat.zero_add] at h3
  exact h3
theorem iW_any {K : Prop} {B C : zBk} {F : Nat → Int32} (h : iW True B C F) : iW K B C F := ⟨h.1, h.2.1, fun _ => h.2.2 trivial⟩
theorem z_keepi {R F : Nat → Int32} {j : Nat} {i v : Int32} (e : R = upd F i.toNatClampNeg v) (h : (j : Int) ≠ i.toInt ∧ 0 ≤ i.toInt) : (R j).toInt = (F j).toInt := by
  have q := z_tn' (i := i) rfl h.2
  refine z_keep e ?_
  omega
def iKinds (F : Nat → Int32) : Prop := ∀ j, j < 6 → 0 ≤ (F j).toInt ∧ (F j).toInt ≤ 3
theorem iKinds_put {F : Nat → Int32} {k : Nat} {v : Int32} (h : iKinds F) (h0 : 0 ≤ v.toInt) (h1 : v.toInt ≤ 3) : iKinds (upd F k v) := by
  intro j hj
  simp only [upd]
  by_cases q : j = k
  · rw [if_pos q]
    exact ⟨h0, h1⟩
  · rw [if_neg q]
    exact h j hj
def iWho (F : Nat → Int32) : Prop := ∀ j, j < 6 → -4 ≤ (F j).toInt ∧ (F j).toInt ≤ 4
theorem iWho_put {F : Nat → Int32} {k : Nat} {v : Int32} (h : iWho F) (h0 : -4 ≤ v.toInt) (h1 : v.toInt ≤ 4) : iWho (upd F k v) := by
  intro j hj
  simp only [upd]
  by_cases q : j = k
  · rw [if_pos q]
    exact ⟨h0, h1⟩
  · rw [if_neg q]
    exact h j hj
/-- what a law read names, in its rule's range -/
def iMeant (F : Nat → Int32) : Prop := ∀ j : Nat, j < 5 → ((j : Int) ≤ 2 → -1 ≤ (F j).toInt ∧ (F j).toInt ≤ 99) ∧ ((j : Int) = 1 → (F j).toInt ≤ 9 ∧ (F j).toInt ≠ 0)
theorem iMeant_of {F : Nat → Int32} (h0 : (F 0).toInt = -1) (h1 : (F 1).toInt = -1) (h2 : (F 2).toInt = -1) (h3 : (F 3).toInt = -1) (h4 : (F 4).toInt = -1) : iMeant F := by
  intro j hj
  have q : j = 0 ∨ j = 1 ∨ j = 2 ∨ j = 3 ∨ j = 4 := by omega
  rcases q with rfl | rfl | rfl | rfl | rfl <;> omega
theorem iMeant_at {F : Nat → Int32} {i y : Int32} {a : Int} (h : iMeant F) (hi : i.toInt = a) (h0 : 0 ≤ a) (h1 : a ≤ 4) (e : y = F i.toNatClampNeg) : (a ≤ 2 → -1 ≤ y.toInt ∧ y.toInt ≤ 99) ∧ (a = 1 → y.toInt ≤ 9 ∧ y.toInt ≠ 0) := by
  have q := z_tn' hi h0
  have h2 := h i.toNatClampNeg (by omega)
  rw [q] at h2
  rw [e]
  exact h2
theorem iMeant_put {F : Nat → Int32} {i v : Int32} {a b : Int} (h : iMeant F) (hi : i.toInt = a) (hv : v.toInt = b) (h0 : 0 ≤ a) (h1 : a ≤ 4) (q0 : a ≤ 2 → -1 ≤ b ∧ b ≤ 99) (q1 : a = 1 → b ≤ 9 ∧ b ≠ 0) : iMeant (upd F i.toNatClampNeg v) := by
  have q := z_tn' hi h0
  intro j hj
  show ((j : Int) ≤ 2 → -1 ≤ (if j = i.toNatClampNeg then v else F j).toInt ∧ (if j = i.toNatClampNeg then v else F j).toInt ≤ 99) ∧ ((j : Int) = 1 → (if j = i.toNatClampNeg then v else F j).toInt ≤ 9 ∧ (if j = i.toNatClampNeg then v else F j).toInt ≠ 0)
  by_cases q3 : j = i.toNatClampNeg
  · rw [if_pos q3, hv]
    have : (j : Int) = a := by omega
    rw [this]
    exact ⟨q0, q1⟩
  · rw [if_neg q3]
    exact h j hj
theorem zbit5 {x : Int32} (h0 : 1 ≤ x.toInt) (h1 : x.toInt ≤ 31) : 1 ≤ zbit x 0 + zbit x 1 + zbit x 2 + zbit x 3 + zbit x 4 := by
  have key : ∀ n : Fin 32, n.val ≠ 0 → 1 ≤ zbit (Int32.ofNat n.val) 0 + zbit (Int32.ofNat n.val) 1 + zbit (Int32.ofNat n.val) 2 + zbit (Int32.ofNat n.val) 3 + zbit (Int32.ofNat n.val) 4 := by decide +kernel
  obtain ⟨ex, lx⟩ := z_nat (x := x) (by omega)
  have hx : x = Int32.ofNat x.toBitVec.toNat := by
    apply Int32.toBitVec_inj.mp
    show x.toBitVec = BitVec.ofNat 32 x.toBitVec.toNat
    rw [BitVec.ofNat_toNat, BitVec.setWidth_eq]
  have h2 := key ⟨x.toBitVec.toNat, by omega⟩ (by show x.toBitVec.toNat ≠ 0; omega)
  rw [hx]
  exact h2
/-- a row of places: each of 0 to 5 once -/
def iPerm (F : Nat → Int32) : Prop := (∀ j, j < 6 → 0 ≤ (F j).toInt ∧ (F j).toInt ≤ 5) ∧ ∀ i j, i < 6 → j < 6 → (F i).toInt = (F j).toInt → i = j
theorem iPerm_ident {F : Nat → Int32} (h0 : (F 0).toInt = 0) (h1 : (F 1).toInt = 1) (h2 : (F 2).toInt = 2) (h3 : (F 3).toInt = 3) (h4 : (F 4).toInt = 4) (h5 : (F 5).toInt = 5) : iPerm F := by
  have key : ∀ j : Nat, j < 6 → (F j).toInt = j := by
    intro j hj
    have q : j = 0 ∨ j = 1 ∨ j = 2 ∨ j = 3 ∨ j = 4 ∨ j = 5 := by omega
    rcases q with rfl | rfl | rfl | rfl | rfl | rfl <;> omega
  refine ⟨fun j hj => ?_, fun i j hi hj e => ?_⟩
  · rw [key j hj]
    omega
  · rw [key i hi, key j hj] at e
    omega
/-- the row as one number -/
def zV (F : Nat → Int32) : Int := 7776 * (F 0).toInt + 1296 * (F 1).toInt + 216 * (F 2).toInt + 36 * (F 3).toInt + 6 * (F 4).toInt + (F 5).toInt
theorem zV_rng {F : Nat → Int32} (h : iPerm F) : 0 ≤ zV F ∧ zV F ≤ 46655 := by
  have h0 := h.1 0 (by omega)
  have h1 := h.1 1 (by omega)
  have h2 := h.1 2 (by omega)
  have h3 := h.1 3 (by omega)
  have h4 := h.1 4 (by omega)
  have h5 := h.1 5 (by omega)
  unfold zV
  omega
theorem z_nei {F : Nat → Int32} {p q : Int32} (h : (F p.toNatClampNeg).toInt ≠ (F q.toNatClampNeg).toInt) : p.toInt ≠ q.toInt := fun e => h (by rw [Int32.toInt_inj.mp e])
/-- two places changed -/
theorem z_swap {F R : Nat → Int32} {x y i i2 j j2 : Int32} {a b : Int} (ey : y = F i.toNatClampNeg) (ex : x = F j.toNatClampNeg) (e1 : R = upd F i2.toNatClampNeg x) (hi : i.toInt = a) (hi2 : i2.toInt = a) (hj : j.toInt = b) (hj2 : j2.toInt = b) (h0 : 0 ≤ a) (h2 : 0 ≤ b) (m : Nat) : upd R j2.toNatClampNeg y m = F (if m = b.toNat then a.toNat else if m = a.toNat then b.toNat else m) := by
  rw [e1, ey, ex, z_tn hi h0, z_tn hi2 h0, z_tn hj h2, z_tn hj2 h2]
  show (if m = b.toNat then F a.toNat else (if m = a.toNat then F b.toNat else F m)) = _
  by_cases q : m = b.toNat
  · rw [if_pos q, if_pos q]
  · rw [if_neg q, if_neg q]
    by_cases q2 : m = a.toNat
    · rw [if_pos q2, if_pos q2]
    · rw [if_neg q2, if_neg q2]
theorem iPerm_swap {F R : Nat → Int32} {x y i i2 j j2 : Int32} {a b : Int} (h : iPerm F) (ey : y = F i.toNatClampNeg) (ex : x = F j.toNatClampNeg) (e1 : R = upd F i2.toNatClampNeg x) (hi : i.toInt = a) (hi2 : i2.toInt = a) (hj : j.toInt = b) (hj2 : j2.toInt = b) (h0 : 0 ≤ a) (h1 : a ≤ 5) (h2 : 0 ≤ b) (h3 : b ≤ 5) : iPerm (upd R j2.toNatClampNeg y) := by
  have k := z_swap ey ex e1 hi hi2 hj hj2 h0 h2
  refine ⟨fun m hm => ?_, fun m n hm hn e => ?_⟩
  · rw [k m]
    refine h.1 _ ?_
    split
    · omega
    · split <;> omega
  · rw [k m, k n] at e
    have e2 := h.2 _ _ (by split; omega; split <;> omega) (by split; omega; split <;> omega) e
    split at e2 <;> split at e2 <;> (try split at e2) <;> (try split at e2) <;> omega
/-- greater at i, and the same before -/
def zAft (Z : Nat → Int32) (c : Int) (F : Nat → Int32) : Prop := iPerm F ∧ (∀ m : Nat, (m : Int) < c → (F m).toInt = (Z m).toInt) ∧ ∀ m : Nat, (m : Int) = c → (Z m).toInt < (F m).toInt
theorem zAft_first {F R : Nat → Int32} {x y i i2 j j2 : Int32} {a b : Int} (h : iPerm F) (ey : y = F i.toNatClampNeg) (ex : x = F j.toNatClampNeg) (e1 : R = upd F i2.toNatClampNeg x) (hi : i.toInt = a) (hi2 : i2.toInt = a) (hj : j.toInt = b) (hj2 : j2.toInt = b) (h0 : 0 ≤ a) (hab : a < b) (h3 : b ≤ 5) (hle : y.toInt ≤ x.toInt) : zAft F a (upd R j2.toNatClampNeg y) := by
  have k := z_swap ey ex e1 hi hi2 hj hj2 h0 (by omega)
  have qi := z_tn hi h0
  have qj := z_tn hj (by omega)
  have ne : y.toInt ≠ x.toInt := fun e => by
    rw [ey, ex] at e
    have := h.2 _ _ (by omega) (by omega) e
    omega
  refine ⟨iPerm_swap h ey ex e1 hi hi2 hj hj2 h0 (by omega) (by omega) h3, fun m hm => ?_, fun m hm => ?_⟩
  · rw [k m, if_neg (by omega), if_neg (by omega)]
  · rw [k m, if_neg (by omega), if_pos (by omega)]
    have e3 : m = i.toNatClampNeg := by omega
    rw [e3, ← qj, ← ex, ← ey]
    omega
theorem zAft_swap {Z F R : Nat → Int32} {x y i i2 j j2 : Int32} {a b c : Int} (h : zAft Z c F) (ey : y = F i.toNatClampNeg) (ex : x = F j.toNatClampNeg) (e1 : R = upd F i2.toNatClampNeg x) (hi : i.toInt = a) (hi2 : i2.toInt = a) (hj : j.toInt = b) (hj2 : j2.toInt = b) (h0 : 0 ≤ c) (hca : c < a) (h1 : a ≤ 5) (hcb : c < b) (h3 : b ≤ 5) : zAft Z c (upd R j2.toNatClampNeg y) := by
  have k := z_swap ey ex e1 hi hi2 hj hj2 (by omega) (by omega)
  refine ⟨iPerm_swap h.1 ey ex e1 hi hi2 hj hj2 (by omega) h1 (by omega) h3, fun m hm => ?_, fun m hm => ?_⟩
  · rw [k m, if_neg (by omega), if_neg (by omega)]
    exact h.2.1 m hm
  · rw [k m, if_neg (by omega), if_neg (by omega)]
    exact h.2.2 m hm
theorem zAft_next {Z F : Nat → Int32} {c : Int} (hZ : iPerm Z) (h : zAft Z c F) (h0 : 0 ≤ c) (h1 : c ≤ 4) : zV Z < zV F := by
  obtain ⟨hF, hs, hl⟩ := h
  have a0 := hF.1 0 (by omega)
  have a1 := hF.1 1 (by omega)
  have a2 := hF.1 2 (by omega)
  have a3 := hF.1 3 (by omega)
  have a4 := hF.1 4 (by omega)
  have a5 := hF.1 5 (by omega)
  have b0 := hZ.1 0 (by omega)
  have b1 := hZ.1 1 (by omega)
  have b2 := hZ.1 2 (by omega)
  have b3 := hZ.1 3 (by omega)
  have b4 := hZ.1 4 (by omega)
  have b5 := hZ.1 5 (by omega)
  have s0 := hs 0
  have s1 := hs 1
  have s2 := hs 2
  have s3 := hs 3
  have l0 := hl 0
  have l1 := hl 1
  have l2 := hl 2
  have l3 := hl 3
  have l4 := hl 4
  unfold zV
  have q : c = 0 ∨ c = 1 ∨ c = 2 ∨ c = 3 ∨ c = 4 := by omega
  rcases q with q | q | q | q | q
  · have := l0 (by omega)
    omega
  · have := s0 (by omega)
    have := l1 (by omega)
    omega
  · have := s0 (by omega)
    have := s1 (by omega)
    have := l2 (by omega)
    omega
  · have := s0 (by omega)
    have := s1 (by omega)
    have := s2 (by omega)
    have := l3 (by omega)
    omega
  · have := s0 (by omega)
    have := s1 (by omega)
    have := s2 (by omega)
    have := s3 (by omega)
    have := l4 (by omega)
    omega
theorem z_mu {r m u : Int32} (e : r = m * u) (h0 : 0 ≤ m.toInt) (h1 : m.toInt ≤ 3) (h2 : 0 ≤ u.toInt) (h3 : u.toInt ≤ 256) : 0 ≤ r.toInt ∧ r.toInt ≤ 3 * u.toInt := by
  have q : m.toInt = 0 ∨ m.toInt = 1 ∨ m.toInt = 2 ∨ m.toInt = 3 := by omega
  rcases q with q | q | q | q
  · have := zi_mul e q rfl (by omega) (by omega)
    omega
  · have := zi_mul e q rfl (by omega) (by omega)
    omega
  · have := zi_mul e q rfl (by omega) (by omega)
    omega
  · have := zi_mul e q rfl (by omega) (by omega)
    omega
theorem z_and3 {x : Int32} (h0 : 0 ≤ x.toInt) : (x &&& 3).toInt = x.toInt % 4 := by
  obtain ⟨ex, lx⟩ := z_nat h0
  have en : (x &&& 3).toBitVec.toNat = x.toBitVec.toNat % 4 := by
    show (x.toBitVec &&& 3#32).toNat = _
    rw [BitVec.toNat_and]
    exact Nat.and_two_pow_sub_one_eq_mod x.toBitVec.toNat 2
  have er : (x &&& 3).toInt = ((x &&& 3).toBitVec.toNat : Int) := by
    show (x &&& 3).toBitVec.toInt = _
    rw [BitVec.toInt_eq_toNat_of_lt (by omega)]
  rw [er, en, ex]
  omega
theorem z_bare1 {c u q d p b : Int32} {n : Int} (hn : n = 1 ∨ n = 4 ∨ n = 16 ∨ n = 64 ∨ n = 256) (hu : u.toInt = n) (e1 : q = c / u) (e2 : d = q &&& 3) (e3 : p = d * u) (e4 : b = c - p) (h0 : 0 ≤ c.toInt) (h1 : c.toInt ≤ 1023) : 0 ≤ b.toInt ∧ b.toInt + 3 * n ≤ 1023 := by
  have hq : q.toInt = c.toInt / n := by rw [e1, lg_idiv_nonneg (by omega) (by omega), hu]
  have hq0 : 0 ≤ q.toInt := by
    rw [hq]
    exact Int.ediv_nonneg h0 (by omega)
  have hd : d.toInt = q.toInt % 4 := by rw [e2, z_and3 hq0]
  rcases hn with rfl | rfl | rfl | rfl | rfl
  all_goals
    have hp := zi_mul e3 (show d.toInt = d.toInt from rfl) hu (by omega) (by omega)
    have hb := zi_sub e4 (show c.toInt = c.toInt from rfl) hp (by omega) (by omega)
    omega
theorem z_bare {c u s q d p b : Int32} {t : Int} (eu : u = (1 : Int32) <<< (s &&& 31)) (hs : s.toInt = 2 * t) (ht0 : 0 ≤ t) (ht1 : t ≤ 4) (e1 : q = c / u) (e2 : d = q &&& 3) (e3 : p = d * u) (e4 : b = c - p) (h0 : 0 ≤ c.toInt) (h1 : c.toInt ≤ 1023) : 0 ≤ b.toInt ∧ b.toInt + 3 * u.toInt ≤ 1023 := by
  have hq : t = 0 ∨ t = 1 ∨ t = 2 ∨ t = 3 ∨ t = 4 := by omega
  have key : ∃ n : Int, u.toInt = n ∧ (n = 1 ∨ n = 4 ∨ n = 16 ∨ n = 64 ∨ n = 256) := by
    rcases hq with w | w | w | w | w
    · have hz : s = 0 := Int32.toInt_inj.mp (hs.trans (by rw [w]; rfl))
      exact ⟨1, by rw [eu, hz]; decide, by omega⟩
    · have hz : s = 2 := Int32.toInt_inj.mp (hs.trans (by rw [w]; rfl))
      exact ⟨4, by rw [eu, hz]; decide, by omega⟩
    · have hz : s = 4 := Int32.toInt_inj.mp (hs.trans (by rw [w]; rfl))
      exact ⟨16, by rw [eu, hz]; decide, by omega⟩
    · have hz : s = 6 := Int32.toInt_inj.mp (hs.trans (by rw [w]; rfl))
      exact ⟨64, by rw [eu, hz]; decide, by omega⟩
    · have hz : s = 8 := Int32.toInt_inj.mp (hs.trans (by rw [w]; rfl))
      exact ⟨256, by rw [eu, hz]; decide, by omega⟩
  obtain ⟨n, hn, ho⟩ := key
  rw [hn]
  exact z_bare1 ho hn e1 e2 e3 e4 h0 h1
