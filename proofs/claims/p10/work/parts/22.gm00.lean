/-! what the reference's rows hold, in any state -/
def wB (a b : Int) : Prop := (a = 0 → 0 ≤ b ∧ b ≤ 99) ∧ (a = 1 → 1 ≤ b ∧ b ≤ 9) ∧ (a = 2 → 0 ≤ b ∧ b ≤ 99) ∧ (a = 5 → 0 ≤ b ∧ b ≤ 6) ∧ (6 ≤ a → a ≤ 11 → 0 ≤ b ∧ b ≤ 3) ∧ (a = 12 → 0 ≤ b ∧ b ≤ 5)
def gW (F : Nat → Int32) (o : Nat) : Prop := ∀ j : Nat, j < 90 → wB j (F (o + j)).toInt
/-- what the books say: how many buyers, their margins, their worths (nothing behind the last buyer) -/
abbrev zBk : Type := Int × (Nat → Int32) × (Nat → Int32)
def zBk.mk (n : Int) (M V : Nat → Int32) : zBk := (n, M, V)
def zBk.n (B : zBk) : Int := B.1
def zBk.M (B : zBk) : Nat → Int32 := B.2.1
def zBk.V (B : zBk) : Nat → Int32 := B.2.2
def bW (B : zBk) (F : Nat → Int32) (o : Nat) : Prop := (F (o + 12)).toInt = B.n ∧ (∀ j : Nat, j < 5 → ((j : Int) < B.n → F (o + 23 + j) = B.M j) ∧ (B.n ≤ j → B.M j = 0)) ∧ ∀ j : Nat, j < 20 → ((j : Int) < 4 * B.n → F (o + 28 + j) = B.V j) ∧ (4 * B.n ≤ j → B.V j = 0)
def iW (K : Prop) (B C : zBk) (F : Nat → Int32) : Prop := gW F 0 ∧ bW B F 0 ∧ (K → gW F 90 ∧ bW C F 90)
theorem iW_at {K : Prop} {B C : zBk} {F : Nat → Int32} {i y : Int32} {a : Int} (h : iW K B C F) (hi : i.toInt = a) (h0 : 0 ≤ a) (h1 : a ≤ 89) (e : y = F i.toNatClampNeg) : wB a y.toInt := by
  have q := z_tn' hi h0
  have h2 := h.1 i.toNatClampNeg (by omega)
  rw [q, Nat.zero_add] at h2
  rw [e]
  exact h2
theorem iW_n {K : Prop} {B C : zBk} {F : Nat → Int32} (h : iW K B C F) : (F 12).toInt = B.n := h.2.1.1
theorem iW_nr {K : Prop} {B C : zBk} {F : Nat → Int32} (h : iW K B C F) : 0 ≤ B.n ∧ B.n ≤ 5 := by
  have h1 := (h.1 12 (by omega)).2.2.2.2.2 rfl
  have h2 := iW_n h
  rw [← h2]
  exact h1
theorem iW_M {K : Prop} {B C : zBk} {F : Nat → Int32} {i y : Int32} {a : Int} (h : iW K B C F) (hi : i.toInt = 23 + a) (h0 : 0 ≤ a) (h1 : a < B.n) (e : y = F i.toNatClampNeg) : y = B.M a.toNat := by
  have q := z_tn' hi (by omega)
  have hn := iW_nr h
  have h2 := (h.2.1.2.1 a.toNat (by omega)).1 (by omega)
  rw [e, ← h2]
  have e2 : i.toNatClampNeg = 0 + 23 + a.toNat := by omega
  rw [e2]
theorem iW_V {K : Prop} {B C : zBk} {F : Nat → Int32} {i y : Int32} {a : Int} (h : iW K B C F) (hi : i.toInt = 28 + a) (h0 : 0 ≤ a) (h1 : a < 4 * B.n) (e : y = F i.toNatClampNeg) : y = B.V a.toNat := by
  have q := z_tn' hi (by omega)
  have hn := iW_nr h
  have h2 := (h.2.1.2.2 a.toNat (by omega)).1 (by omega)
  rw [e, ← h2]
  have e2 : i.toNatClampNeg = 0 + 28 + a.toNat := by omega
  rw [e2]
theorem gW_put {F : Nat → Int32} {o k : Nat} {v : Int32} (h : gW F o) (hv : ∀ j : Nat, j < 90 → k = o + j → wB j v.toInt) : gW (upd F k v) o := by
  intro j hj
  show wB j (if o + j = k then v else F (o + j)).toInt
  by_cases q : o + j = k
  · rw [if_pos q]
    exact hv j hj q.symm
  · rw [if_neg q]
    exact h j hj
theorem upd_ne {F : Nat → Int32} {k j : Nat} {v : Int32} (h : j ≠ k) : upd F k v j = F j := by
  show (if j = k then v else F j) = F j
  rw [if_neg h]
theorem upd_eq {F : Nat → Int32} {k j : Nat} {v : Int32} (h : j = k) : upd F k v j = v := by
  show (if j = k then v else F j) = v
  rw [if_pos h]
theorem bW_far {B : zBk} {F : Nat → Int32} {o k : Nat} {v : Int32} (h : bW B F o) (h1 : k ≠ o + 12) (h2 : ∀ j : Nat, j < 5 → (j : Int) < B.n → k ≠ o + 23 + j) (h3 : ∀ j : Nat, j < 20 → (j : Int) < 4 * B.n → k ≠ o + 28 + j) : bW B (upd F k v) o := by
  refine ⟨?_, fun j hj => ⟨fun q => ?_, (h.2.1 j hj).2⟩, fun j hj => ⟨fun q => ?_, (h.2.2 j hj).2⟩⟩
  · rw [upd_ne (Ne.symm h1)]
    exact h.1
  · rw [upd_ne (Ne.symm (h2 j hj q))]
    exact (h.2.1 j hj).1 q
  · rw [upd_ne (Ne.symm (h3 j hj q))]
    exact (h.2.2 j hj).1 q
theorem gW_put' {F : Nat → Int32} {i v : Int32} {a b : Int} (h : gW F 0) (hi : i.toInt = a) (hv : v.toInt = b) (h0 : 0 ≤ a) (w : wB a b) : gW (upd F i.toNatClampNeg v) 0 := by
  have q := z_tn' hi h0
  refine gW_put h fun j hj e => ?_
  have e2 : (j : Int) = a := by omega
  rw [e2, hv]
  exact w
theorem kept_put {K : Prop} {C : zBk} {F : Nat → Int32} {k : Nat} {v : Int32} (h : K → gW F 90 ∧ bW C F 90) (hk : k ≤ 89) : K → gW (upd F k v) 90 ∧ bW C (upd F k v) 90 := fun q =>
  ⟨gW_put (h q).1 fun j hj e => by exfalso; omega, bW_far (h q).2 (by omega) (fun j _ _ => by omega) (fun j _ _ => by omega)⟩
theorem iW_put {K : Prop} {B C : zBk} {F : Nat → Int32} {i v : Int32} {a b : Int} (h : iW K B C F) (hi : i.toInt = a) (hv : v.toInt = b) (h0 : 0 ≤ a) (h1 : a ≤ 89) (q0 : a = 0 → 0 ≤ b ∧ b ≤ 99) (q1 : a = 1 → 1 ≤ b ∧ b ≤ 9) (q2 : a = 2 → 0 ≤ b ∧ b ≤ 99) (q5 : a = 5 → 0 ≤ b ∧ b ≤ 6) (qk : 6 ≤ a → a ≤ 11 → 0 ≤ b ∧ b ≤ 3) (q12 : a ≠ 12) (qm : 23 ≤ a → a ≤ 27 → B.n ≤ a - 23) (qv : 28 ≤ a → a ≤ 47 → 4 * B.n ≤ a - 28) : iW K B C (upd F i.toNatClampNeg v) := by
  have q := z_tn' hi h0
  refine ⟨gW_put' h.1 hi hv h0 ⟨q0, q1, q2, q5, qk, fun e => absurd e q12⟩, bW_far h.2.1 ?_ (fun j hj g => ?_) (fun j hj g => ?_), kept_put h.2.2 (by omega)⟩
  · omega
  · intro e
    have := qm (by omega) (by omega)
    omega
  · intro e
    have := qv (by omega) (by omega)
    omega
theorem iW_putM {K : Prop} {B C : zBk} {F : Nat → Int32} {i v : Int32} {a : Int} (h : iW K B C F) (hi : i.toInt = 23 + a) (h0 : 0 ≤ a) (h1 : a < B.n) : iW K (zBk.mk B.n (upd B.M a.toNat v) B.V) C (upd F i.toNatClampNeg v) := by
  have q := z_tn' hi (by omega)
  have hn := iW_nr h
  refine ⟨gW_put' h.1 hi rfl (by omega) ⟨by omega, by omega, by omega, by omega, by omega, by omega⟩, ⟨?_, fun j hj => ⟨fun g => ?_, fun g => ?_⟩, fun j hj => ⟨fun g => ?_, fun g => ?_⟩⟩, kept_put h.2.2 (by omega)⟩
  · show (upd F i.toNatClampNeg v 12).toInt = B.n
    rw [upd_ne (by omega)]
    exact h.2.1.1
  · show upd F i.toNatClampNeg v (0 + 23 + j) = upd B.M a.toNat v j
    by_cases e : j = a.toNat
    · rw [upd_eq (by omega), upd_eq e]
    · rw [upd_ne (by omega), upd_ne e]
      exact (h.2.1.2.1 j hj).1 g
  · show upd B.M a.toNat v j = 0
    have g : B.n ≤ j := g
    rw [upd_ne (by omega)]
    exact (h.2.1.2.1 j hj).2 g
  · show upd F i.toNatClampNeg v (0 + 28 + j) = B.V j
    rw [upd_ne (by omega)]
    exact (h.2.1.2.2 j hj).1 g
  · exact (h.2.1.2.2 j hj).2 g
theorem iW_putV {K : Prop} {B C : zBk} {F : Nat → Int32} {i v : Int32} {a : Int} (h : iW K B C F) (hi : i.toInt = 28 + a) (h0 : 0 ≤ a) (h1 : a < 4 * B.n) : iW K (zBk.mk B.n B.M (upd B.V a.toNat v)) C (upd F i.toNatClampNeg v) := by
  have q := z_tn' hi (by omega)
  have hn := iW_nr h
  refine ⟨gW_put' h.1 hi rfl (by omega) ⟨by omega, by omega, by omega, by omega, by omega, by omega⟩, ⟨?_, fun j hj => ⟨fun g => ?_, fun g => ?_⟩, fun j hj => ⟨fun g => ?_, fun g => ?_⟩⟩, kept_put h.2.2 (by omega)⟩
  · show (upd F i.toNatClampNeg v 12).toInt = B.n
    rw [upd_ne (by omega)]
    exact h.2.1.1
  · show upd F i.toNatClampNeg v (0 + 23 + j) = B.M j
    rw [upd_ne (by omega)]
    exact (h.2.1.2.1 j hj).1 g
  · exact (h.2.1.2.1 j hj).2 g
  · show upd F i.toNatClampNeg v (0 + 28 + j) = upd B.V a.toNat v j
    by_cases e : j = a.toNat
    · rw [upd_eq (by omega), upd_eq e]
    · rw [upd_ne (by omega), upd_ne e]
      exact (h.2.1.2.2 j hj).1 g
  · show upd B.V a.toNat v j = 0
    have g : 4 * B.n ≤ j := g
    rw [upd_ne (by omega)]
    exact (h.2.1.2.2 j hj).2 g
/-- a buyer that is being written: margin 0, so many worths 0 -/
def zBy (K : Prop) (B C : zBk) (k : Int) (F : Nat → Int32) : Prop := iW K B C F ∧ (∀ j : Nat, (j : Int) = B.n → F (23 + j) = 0) ∧ ∀ j : Nat, 4 * B.n ≤ j → (j : Int) < k → F (28 + j) = 0
theorem zBy_eq {K : Prop} {B C : zBk} {a b : Int} {F : Nat → Int32} (h : zBy K B C a F) (e : a = b) : zBy K B C b F := e ▸ h
theorem zBy_0 {K : Prop} {B C : zBk} {F : Nat → Int32} {i : Int32} {a : Int} (h : iW K B C F) (hi : i.toInt = 23 + a) (hn : a = B.n) (h4 : a ≤ 4) : zBy K B C (4 * a) (upd F i.toNatClampNeg 0) := by
  have hr := iW_nr h
  have q := z_tn' hi (by omega)
  refine ⟨iW_put (b := 0) h hi rfl (by omega) (by omega) (by omega) (by omega) (by omega) (by omega) (by omega) (by omega) (by omega) (by omega), fun j hj => ?_, fun j h1 h2 => ?_⟩
  · rw [upd_eq (by omega)]
  · exfalso
    omega
theorem zBy_V {K : Prop} {B C : zBk} {k : Int} {F : Nat → Int32} {i : Int32} (h : zBy K B C k F) (hi : i.toInt = 28 + k) (h4 : 4 * B.n ≤ k) (h19 : k ≤ 19) : zBy K B C (k + 1) (upd F i.toNatClampNeg 0) := by
  have hr := iW_nr h.1
  have q := z_tn' hi (by omega)
  refine ⟨iW_put (b := 0) h.1 hi rfl (by omega) (by omega) (by omega) (by omega) (by omega) (by omega) (by omega) (by omega) (by omega) (by omega), fun j hj => ?_, fun j h1 h2 => ?_⟩
  · rw [upd_ne (by omega)]
    exact h.2.1 j hj
  · by_cases e : (j : Int) = k
    · rw [upd_eq (by omega)]
    · rw [upd_ne (by omega)]
      exact h.2.2 j h1 (by omega)
theorem zBy_far {K : Prop} {B C : zBk} {k : Int} {F : Nat → Int32} {i v : Int32} {a : Int} (h : zBy K B C k F) (hi : i.toInt = a) (h0 : 48 ≤ a) (h1 : a ≤ 89) (hk : k ≤ 20) : zBy K B C k (upd F i.toNatClampNeg v) := by
  have hr := iW_nr h.1
  have q := z_tn' hi (by omega)
  refine ⟨iW_put h.1 hi rfl (by omega) (by omega) (by omega) (by omega) (by omega) (by omega) (by omega) (by omega) (by omega) (by omega), fun j hj => ?_, fun j h1 h2 => ?_⟩
  · rw [upd_ne (by omega)]
    exact h.2.1 j hj
  · rw [upd_ne (by omega)]
    exact h.2.2 j h1 h2
theorem zBy_end {K : Prop} {B C : zBk} {k : Int} {F : Nat → Int32} {v : Int32} (h : zBy K B C k F) (hv : v.toInt = B.n + 1) (h4 : B.n ≤ 4) (hk : 4 * B.n + 4 ≤ k) : iW K (zBk.mk (B.n + 1) B.M B.V) C (upd F 12 v) := by
  have hr := iW_nr h.1
  obtain ⟨⟨hg, hb, hc⟩, hm, hz⟩ := h
  refine ⟨gW_put hg fun j hj e => ?_, ⟨?_, fun j hj => ⟨fun g => ?_, fun g => ?_⟩, fun j hj => ⟨fun g => ?_, fun g => ?_⟩⟩, kept_put hc (by omega)⟩
  · have e2 : (j : Int) = 12 := by omega
    rw [e2, hv]
    exact ⟨by omega, by omega, by omega, by omega, by omega, by omega⟩
  · show (upd F 12 v 12).toInt = B.n + 1
    rw [upd_eq rfl]
    exact hv
  · have g : (j : Int) < B.n + 1 := g
    show upd F 12 v (0 + 23 + j) = B.M j
    rw [upd_ne (by omega)]
    by_cases e : (j : Int) < B.n
    · exact (hb.2.1 j hj).1 e
    · rw [Nat.zero_add, hm j (by omega), (hb.2.1 j hj).2 (by omega)]
  · have g : B.n + 1 ≤ j := g
    exact (hb.2.1 j hj).2 (by omega)
  · have g : (j : Int) < 4 * (B.n + 1) := g
    show upd F 12 v (0 + 28 + j) = B.V j
    rw [upd_ne (by omega)]
    by_cases e : (j : Int) < 4 * B.n
    · exact (hb.2.2 j hj).1 e
    · rw [Nat.zero_add, hz j (by omega) (by omega), (hb.2.2 j hj).2 (by omega)]
  · have g : 4 * (B.n + 1) ≤ j := g
    exact (hb.2.2 j hj).2 (by omega)
/-- the books after a taking over -/
def bCpy (B C : zBk) : zBk := zBk.mk B.n (va_cpy B.M C.M 0 0 5) (va_cpy B.V C.V 0 0 20)
theorem z_cpy {F G : Nat → Int32} {n j : Nat} (h : j < n) : va_cpy F G 0 0 n j = F j := by
  show (if 0 ≤ j ∧ j < 0 + n then F (0 + (j - 0)) else G j) = F j
  rw [if_pos ⟨by omega, by omega⟩, Nat.zero_add, Nat.sub_zero]
theorem bW_cpy {B C : zBk} {F : Nat → Int32} {o p : Nat} (h : bW B F o) (e : ∀ j : Nat, j < 90 → F (p + j) = F (o + j)) : bW (bCpy B C) F p := by
  refine ⟨?_, fun j hj => ⟨fun g => ?_, fun g => ?_⟩, fun j hj => ⟨fun g => ?_, fun g => ?_⟩⟩
  · rw [e 12 (by omega)]
    exact h.1
  · show F (p + 23 + j) = va_cpy B.M C.M 0 0 5 j
    rw [z_cpy hj, Nat.add_assoc, e (23 + j) (by omega), ← Nat.add_assoc]
    exact (h.2.1 j hj).1 g
  · show va_cpy B.M C.M 0 0 5 j = 0
    rw [z_cpy hj]
    exact (h.2.1 j hj).2 g
  · show F (p + 28 + j) = va_cpy B.V C.V 0 0 20 j
    rw [z_cpy hj, Nat.add_assoc, e (28 + j) (by omega), ← Nat.add_assoc]
    exact (h.2.2 j hj).1 g
  · show va_cpy B.V C.V 0 0 20 j = 0
    rw [z_cpy hj]
    exact (h.2.2 j hj).2 g
/-- so much is brought back -/
def zRes (C : zBk) (k : Int) (F : Nat → Int32) : Prop := gW F 0 ∧ (gW F 90 ∧ bW C F 90) ∧ ∀ j : Nat, (j : Int) < k → j < 90 → F j = F (90 + j)
theorem zRes_0 {K : Prop} {B C : zBk} {F : Nat → Int32} (h : iW K B C F) (hk : K) : zRes C 0 F := ⟨h.1, h.2.2 hk, fun j hj => by omega⟩
theorem zRes_eq {C : zBk} {a b : Int} {F : Nat → Int32} (h : zRes C a F) (e : a = b) : zRes C b F := e ▸ h
theorem zRes_put {C : zBk} {F : Nat → Int32} {i n v : Int32} {a : Int} (h : zRes C a F) (e : v = F n.toNatClampNeg) (hn : n.toInt = 90 + a) (hi : i.toInt = a) (h0 : 0 ≤ a) (h1 : a ≤ 89) : zRes C (a + 1) (upd F i.toNatClampNeg v) := by
  have q := z_tn' hi h0
  have qn := z_tn' hn (by omega)
  refine ⟨gW_put h.1 fun j hj e3 => ?_, kept_put (K := True) (fun _ => h.2.1) (by omega) trivial, fun j hj hj9 => ?_⟩
  · have e2 : n.toNatClampNeg = 90 + j := by omega
    rw [e, e2]
    exact h.2.1.1 j hj
  · rw [upd_ne (show 90 + j ≠ i.toNatClampNeg by omega)]
    by_cases q3 : j = i.toNatClampNeg
    · rw [upd_eq q3, e]
      have : n.toNatClampNeg = 90 + j := by omega
      rw [this]
    · rw [upd_ne q3]
      exact h.2.2 j (by omega) hj9
theorem zRes_end {K : Prop} {B C : zBk} {F : Nat → Int32} {a : Int} (h : zRes C a F) (ha : 90 ≤ a) : iW K (bCpy C B) C F :=
  ⟨h.1, bW_cpy h.2.1.2 (fun j hj => by rw [Nat.zero_add]; exact h.2.2 j (by omega) hj), fun _ => h.2.1⟩
/-- so much of the image stands -/
def zImg (B : zBk) (k : Int) (F : Nat → Int32) : Prop := gW F 0 ∧ bW B F 0 ∧ ∀ j : Nat, (j : Int) < k → j < 90 → F (90 + j) = F j
theorem zImg_0 {K : Prop} {B C : zBk} {F : Nat → Int32} (h : iW K B C F) : zImg B 0 F := ⟨h.1, h.2.1, fun j hj => by omega⟩
theorem zImg_eq {B : zBk} {a b : Int} {F : Nat → Int32} (h : zImg B a F) (e : a = b) : zImg B b F := e ▸ h
theorem bW_n {B : zBk} {F : Nat → Int32} (h : gW F 0) (h2 : bW B F 0) : 0 ≤ B.n ∧ B.n ≤ 5 := iW_nr (K := False) (C := B) ⟨h, h2, fun q => q.elim⟩
theorem zImg_put {B : zBk} {F : Nat → Int32} {i n v : Int32} {a : Int} (h : zImg B a F) (e : v = F i.toNatClampNeg) (hi : i.toInt = a) (hn : n.toInt = 90 + a) (h0 : 0 ≤ a) (h1 : a ≤ 89) : zImg B (a + 1) (upd F n.toNatClampNeg v) := by
  have q := z_tn' hi h0
  have qn := z_tn' hn (by omega)
  have hr := bW_n h.1 h.2.1
  refine ⟨gW_put h.1 fun j hj e3 => ?_, bW_far h.2.1 (by omega) (fun j _ _ => by omega) (fun j _ _ => by omega), fun j hj hj9 => ?_⟩
  · exfalso
    omega
  · rw [upd_ne (show j ≠ n.toNatClampNeg by omega)]
    by_cases q3 : 90 + j = n.toNatClampNeg
    · rw [upd_eq q3, e]
      have : i.toNatClampNeg = j := by omega
      rw [this]
    · rw [upd_ne q3]
      exact h.2.2 j (by omega) hj9
theorem zImg_iW {B C : zBk} {F : Nat → Int32} {a : Int} (h : zImg B a F) (ha : 90 ≤ a) : iW True B (bCpy B C) F := by
  refine ⟨h.1, h.2.1, fun _ => ⟨fun j hj => ?_, bW_cpy h.2.1 (fun j hj => by rw [Nat.zero_add]; exact h.2.2 j (by omega) hj)⟩⟩
  rw [h.2.2 j (by omega) hj]
  have h3 := h.1 j hj
  rw [Nat.zero_add] at h3
  exact h3
theorem iW_any {K : Prop} {B C : zBk} {F : Nat → Int32} (h : iW True B C F) : iW K B C F := ⟨h.1, h.2.1, fun _ => h.2.2 trivial⟩
theorem z_keepi {R F : Nat → Int32} {j : Nat} {i v : Int32} (e : R = upd F i.toNatClampNeg v) (h : (j : Int) ≠ i.toInt ∧ 0 ≤ i.toInt) : (R j).toInt = (F j).toInt := by
  have q := z_tn' (i := i) rfl h.2
  refine z_keep e ?_
  omega
def iKinds (F : Nat → Int32) : Prop := ∀ j, j < 6 → 0 ≤ (F j).toInt ∧ (F j).toInt ≤ 3
theorem iKinds_put {F : Nat → Int32} {k : Nat} {v : Int32} (h : iKinds F) (h0 : 0 ≤ v.toInt) (h1 : v.toInt ≤ 3) : iKinds (upd F k v) := by
  intro j hj
  simp only [upd]
  by_cases q : j = k
  · rw [if_pos q]
    exact ⟨h0, h1⟩
  · rw [if_neg q]
    exact h j hj
def iWho (F : Nat → Int32) : Prop := ∀ j, j < 6 → -4 ≤ (F j).toInt ∧ (F j).toInt ≤ 4
theorem iWho_put {F : Nat → Int32} {k : Nat} {v : Int32} (h : iWho F) (h0 : -4 ≤ v.toInt) (h1 : v.toInt ≤ 4) : iWho (upd F k v) := by
  intro j hj
  simp only [upd]
  by_cases q : j = k
  · rw [if_pos q]
    exact ⟨h0, h1⟩
  · rw [if_neg q]
    exact h j hj
/-- what a law read names, in its rule's range -/
def iMeant (F : Nat → Int32) : Prop := ∀ j : Nat, j < 5 → ((j : Int) ≤ 2 → -1 ≤ (F j).toInt ∧ (F j).toInt ≤ 99) ∧ ((j : Int) = 1 → (F j).toInt ≤ 9 ∧ (F j).toInt ≠ 0)
theorem iMeant_of {F : Nat → Int32} (h0 : (F 0).toInt = -1) (h1 : (F 1).toInt = -1) (h2 : (F 2).toInt = -1) (h3 : (F 3).toInt = -1) (h4 : (F 4).toInt = -1) : iMeant F := by
  intro j hj
  have q : j = 0 ∨ j = 1 ∨ j = 2 ∨ j = 3 ∨ j = 4 := by omega
  rcases q with rfl | rfl | rfl | rfl | rfl <;> omega
theorem iMeant_at {F : Nat → Int32} {i y : Int32} {a : Int} (h : iMeant F) (hi : i.toInt = a) (h0 : 0 ≤ a) (h1 : a ≤ 4) (e : y = F i.toNatClampNeg) : (a ≤ 2 → -1 ≤ y.toInt ∧ y.toInt ≤ 99) ∧ (a = 1 → y.toInt ≤ 9 ∧ y.toInt ≠ 0) := by
  have q := z_tn' hi h0
  have h2 := h i.toNatClampNeg (by omega)
  rw [q] at h2
  rw [e]
  exact h2
theorem iMeant_put {F : Nat → Int32} {i v : Int32} {a b : Int} (h : iMeant F) (hi : i.toInt = a) (hv : v.toInt = b) (h0 : 0 ≤ a) (h1 : a ≤ 4) (q0 : a ≤ 2 → -1 ≤ b ∧ b ≤ 99) (q1 : a = 1 → b ≤ 9 ∧ b ≠ 0) : iMeant (upd F i.toNatClampNeg v) := by
  have q := z_tn' hi h0
  intro j hj
  show ((j : Int) ≤ 2 → -1 ≤ (if j = i.toNatClampNeg then v else F j).toInt ∧ (if j = i.toNatClampNeg then v else F j).toInt ≤ 99) ∧ ((j : Int) = 1 → (if j = i.toNatClampNeg then v else F j).toInt ≤ 9 ∧ (if j = i.toNatClampNeg then v else F j).toInt ≠ 0)
  by_cases q3 : j = i.toNatClampNeg
  · rw [if_pos q3, hv]
    have : (j : Int) = a := by omega
    rw [this]
    exact ⟨q0, q1⟩
  · rw [if_neg q3]
    exact h j hj
/-- the k-th of a set, as a number -/
def zbit (s k : Int32) : Int := ((s >>> (k &&& 31)) &&& 1).toInt
theorem zbit_eq {s k y r : Int32} (e0 : y = s >>> (k &&& 31)) (e1 : r = y &&& 1) : zbit s k = r.toInt := by
  rw [e1, e0]
  rfl
theorem zbit5 {x : Int32} (h0 : 1 ≤ x.toInt) (h1 : x.toInt ≤ 31) : 1 ≤ zbit x 0 + zbit x 1 + zbit x 2 + zbit x 3 + zbit x 4 := by
  have key : ∀ n : Fin 32, n.val ≠ 0 → 1 ≤ zbit (Int32.ofNat n.val) 0 + zbit (Int32.ofNat n.val) 1 + zbit (Int32.ofNat n.val) 2 + zbit (Int32.ofNat n.val) 3 + zbit (Int32.ofNat n.val) 4 := by decide +kernel
  obtain ⟨ex, lx⟩ := z_nat (x := x) (by omega)
  have hx : x = Int32.ofNat x.toBitVec.toNat := by
    apply Int32.toBitVec_inj.mp
    show x.toBitVec = BitVec.ofNat 32 x.toBitVec.toNat
    rw [BitVec.ofNat_toNat, BitVec.setWidth_eq]
  have h2 := key ⟨x.toBitVec.toNat, by omega⟩ (by show x.toBitVec.toNat ≠ 0; omega)
  rw [hx]
  exact h2
/-- a row of places: each of 0 to 5 once -/
def iPerm (F : Nat → Int32) : Prop := (∀ j, j < 6 → 0 ≤ (F j).toInt ∧ (F j).toInt ≤ 5) ∧ ∀ i j, i < 6 → j < 6 → (F i).toInt = (F j).toInt → i = j
theorem iPerm_ident {F : Nat → Int32} (h0 : (F 0).toInt = 0) (h1 : (F 1).toInt = 1) (h2 : (F 2).toInt = 2) (h3 : (F 3).toInt = 3) (h4 : (F 4).toInt = 4) (h5 : (F 5).toInt = 5) : iPerm F := by
  have key : ∀ j : Nat, j < 6 → (F j).toInt = j := by
    intro j hj
    have q : j = 0 ∨ j = 1 ∨ j = 2 ∨ j = 3 ∨ j = 4 ∨ j = 5 := by omega
    rcases q with rfl | rfl | rfl | rfl | rfl | rfl <;> omega
  refine ⟨fun j hj => ?_, fun i j hi hj e => ?_⟩
  · rw [key j hj]
    omega
  · rw [key i hi, key j hj] at e
    omega
/-- the row as one number -/
def zV (F : Nat → Int32) : Int := 7776 * (F 0).toInt + 1296 * (F 1).toInt + 216 * (F 2).toInt + 36 * (F 3).toInt + 6 * (F 4).toInt + (F 5).toInt
theorem zV_rng {F : Nat → Int32} (h : iPerm F) : 0 ≤ zV F ∧ zV F ≤ 46655 := by
  have h0 := h.1 0 (by omega)
  have h1 := h.1 1 (by omega)
  have h2 := h.1 2 (by omega)
  have h3 := h.1 3 (by omega)
  have h4 := h.1 4 (by omega)
  have h5 := h.1 5 (by omega)
  unfold zV
  omega
theorem z_nei {F : Nat → Int32} {p q : Int32} (h : (F p.toNatClampNeg).toInt ≠ (F q.toNatClampNeg).toInt) : p.toInt ≠ q.toInt := fun e => h (by rw [Int32.toInt_inj.mp e])
/-- two places changed -/
theorem z_swap {F R : Nat → Int32} {x y i i2 j j2 : Int32} {a b : Int} (ey : y = F i.toNatClampNeg) (ex : x = F j.toNatClampNeg) (e1 : R = upd F i2.toNatClampNeg x) (hi : i.toInt = a) (hi2 : i2.toInt = a) (hj : j.toInt = b) (hj2 : j2.toInt = b) (h0 : 0 ≤ a) (h2 : 0 ≤ b) (m : Nat) : upd R j2.toNatClampNeg y m = F (if m = b.toNat then a.toNat else if m = a.toNat then b.toNat else m) := by
  rw [e1, ey, ex, z_tn hi h0, z_tn hi2 h0, z_tn hj h2, z_tn hj2 h2]
  show (if m = b.toNat then F a.toNat else (if m = a.toNat then F b.toNat else F m)) = _
  by_cases q : m = b.toNat
  · rw [if_pos q, if_pos q]
  · rw [if_neg q, if_neg q]
    by_cases q2 : m = a.toNat
    · rw [if_pos q2, if_pos q2]
    · rw [if_neg q2, if_neg q2]
theorem iPerm_swap {F R : Nat → Int32} {x y i i2 j j2 : Int32} {a b : Int} (h : iPerm F) (ey : y = F i.toNatClampNeg) (ex : x = F j.toNatClampNeg) (e1 : R = upd F i2.toNatClampNeg x) (hi : i.toInt = a) (hi2 : i2.toInt = a) (hj : j.toInt = b) (hj2 : j2.toInt = b) (h0 : 0 ≤ a) (h1 : a ≤ 5) (h2 : 0 ≤ b) (h3 : b ≤ 5) : iPerm (upd R j2.toNatClampNeg y) := by
  have k := z_swap ey ex e1 hi hi2 hj hj2 h0 h2
  refine ⟨fun m hm => ?_, fun m n hm hn e => ?_⟩
  · rw [k m]
    refine h.1 _ ?_
    split
    · omega
    · split <;> omega
  · rw [k m, k n] at e
    have e2 := h.2 _ _ (by split; omega; split <;> omega) (by split; omega; split <;> omega) e
    split at e2 <;> split at e2 <;> (try split at e2) <;> (try split at e2) <;> omega
/-- greater at i, and the same before -/
def zAft (Z : Nat → Int32) (c : Int) (F : Nat → Int32) : Prop := iPerm F ∧ (∀ m : Nat, (m : Int) < c → (F m).toInt = (Z m).toInt) ∧ ∀ m : Nat, (m : Int) = c → (Z m).toInt < (F m).toInt
theorem zAft_first {F R : Nat → Int32} {x y i i2 j j2 : Int32} {a b : Int} (h : iPerm F) (ey : y = F i.toNatClampNeg) (ex : x = F j.toNatClampNeg) (e1 : R = upd F i2.toNatClampNeg x) (hi : i.toInt = a) (hi2 : i2.toInt = a) (hj : j.toInt = b) (hj2 : j2.toInt = b) (h0 : 0 ≤ a) (hab : a < b) (h3 : b ≤ 5) (hle : y.toInt ≤ x.toInt) : zAft F a (upd R j2.toNatClampNeg y) := by
  have k := z_swap ey ex e1 hi hi2 hj hj2 h0 (by omega)
  have qi := z_tn hi h0
  have qj := z_tn hj (by omega)
  have ne : y.toInt ≠ x.toInt := fun e => by
    rw [ey, ex] at e
    have := h.2 _ _ (by omega) (by omega) e
    omega
  refine ⟨iPerm_swap h ey ex e1 hi hi2 hj hj2 h0 (by omega) (by omega) h3, fun m hm => ?_, fun m hm => ?_⟩
  · rw [k m, if_neg (by omega), if_neg (by omega)]
  · rw [k m, if_neg (by omega), if_pos (by omega)]
    have e3 : m = i.toNatClampNeg := by omega
    rw [e3, ← qj, ← ex, ← ey]
    omega
theorem zAft_swap {Z F R : Nat → Int32} {x y i i2 j j2 : Int32} {a b c : Int} (h : zAft Z c F) (ey : y = F i.toNatClampNeg) (ex : x = F j.toNatClampNeg) (e1 : R = upd F i2.toNatClampNeg x) (hi : i.toInt = a) (hi2 : i2.toInt = a) (hj : j.toInt = b) (hj2 : j2.toInt = b) (h0 : 0 ≤ c) (hca : c < a) (h1 : a ≤ 5) (hcb : c < b) (h3 : b ≤ 5) : zAft Z c (upd R j2.toNatClampNeg y) := by
  have k := z_swap ey ex e1 hi hi2 hj hj2 (by omega) (by omega)
  refine ⟨iPerm_swap h.1 ey ex e1 hi hi2 hj hj2 (by omega) h1 (by omega) h3, fun m hm => ?_, fun m hm => ?_⟩
  · rw [k m, if_neg (by omega), if_neg (by omega)]
    exact h.2.1 m hm
  · rw [k m, if_neg (by omega), if_neg (by omega)]
    exact h.2.2 m hm
theorem zAft_next {Z F : Nat → Int32} {c : Int} (hZ : iPerm Z) (h : zAft Z c F) (h0 : 0 ≤ c) (h1 : c ≤ 4) : zV Z < zV F := by
  obtain ⟨hF, hs, hl⟩ := h
  have a0 := hF.1 0 (by omega)
  have a1 := hF.1 1 (by omega)
  have a2 := hF.1 2 (by omega)
  have a3 := hF.1 3 (by omega)
  have a4 := hF.1 4 (by omega)
  have a5 := hF.1 5 (by omega)
  have b0 := hZ.1 0 (by omega)
  have b1 := hZ.1 1 (by omega)
  have b2 := hZ.1 2 (by omega)
  have b3 := hZ.1 3 (by omega)
  have b4 := hZ.1 4 (by omega)
  have b5 := hZ.1 5 (by omega)
  have s0 := hs 0
  have s1 := hs 1
  have s2 := hs 2
  have s3 := hs 3
  have l0 := hl 0
  have l1 := hl 1
  have l2 := hl 2
  have l3 := hl 3
  have l4 := hl 4
  unfold zV
  have q : c = 0 ∨ c = 1 ∨ c = 2 ∨ c = 3 ∨ c = 4 := by omega
  rcases q with q | q | q | q | q
  · have := l0 (by omega)
    omega
  · have := s0 (by omega)
    have := l1 (by omega)
    omega
  · have := s0 (by omega)
    have := s1 (by omega)
    have := l2 (by omega)
    omega
  · have := s0 (by omega)
    have := s1 (by omega)
    have := s2 (by omega)
    have := l3 (by omega)
    omega
  · have := s0 (by omega)
    have := s1 (by omega)
    have := s2 (by omega)
    have := s3 (by omega)
    have := l4 (by omega)
    omega
theorem z_mu {r m u : Int32} (e : r = m * u) (h0 : 0 ≤ m.toInt) (h1 : m.toInt ≤ 3) (h2 : 0 ≤ u.toInt) (h3 : u.toInt ≤ 256) : 0 ≤ r.toInt ∧ r.toInt ≤ 3 * u.toInt := by
  have q : m.toInt = 0 ∨ m.toInt = 1 ∨ m.toInt = 2 ∨ m.toInt = 3 := by omega
  rcases q with q | q | q | q
  · have := zi_mul e q rfl (by omega) (by omega)
    omega
  · have := zi_mul e q rfl (by omega) (by omega)
    omega
  · have := zi_mul e q rfl (by omega) (by omega)
    omega
  · have := zi_mul e q rfl (by omega) (by omega)
    omega
theorem z_and3 {x : Int32} (h0 : 0 ≤ x.toInt) : (x &&& 3).toInt = x.toInt % 4 := by
  obtain ⟨ex, lx⟩ := z_nat h0
  have en : (x &&& 3).toBitVec.toNat = x.toBitVec.toNat % 4 := by
    show (x.toBitVec &&& 3#32).toNat = _
    rw [BitVec.toNat_and]
    exact Nat.and_two_pow_sub_one_eq_mod x.toBitVec.toNat 2
  have er : (x &&& 3).toInt = ((x &&& 3).toBitVec.toNat : Int) := by
    show (x &&& 3).toBitVec.toInt = _
    rw [BitVec.toInt_eq_toNat_of_lt (by omega)]
  rw [er, en, ex]
  omega
theorem z_bare1 {c u q d p b : Int32} {n : Int} (hn : n = 1 ∨ n = 4 ∨ n = 16 ∨ n = 64 ∨ n = 256) (hu : u.toInt = n) (e1 : q = c / u) (e2 : d = q &&& 3) (e3 : p = d * u) (e4 : b = c - p) (h0 : 0 ≤ c.toInt) (h1 : c.toInt ≤ 1023) : 0 ≤ b.toInt ∧ b.toInt + 3 * n ≤ 1023 := by
  have hq : q.toInt = c.toInt / n := by rw [e1, lg_idiv_nonneg (by omega) (by omega), hu]
  have hq0 : 0 ≤ q.toInt := by
    rw [hq]
    exact Int.ediv_nonneg h0 (by omega)
  have hd : d.toInt = q.toInt % 4 := by rw [e2, z_and3 hq0]
  rcases hn with rfl | rfl | rfl | rfl | rfl
  all_goals
    have hp := zi_mul e3 (show d.toInt = d.toInt from rfl) hu (by omega) (by omega)
    have hb := zi_sub e4 (show c.toInt = c.toInt from rfl) hp (by omega) (by omega)
    omega
theorem z_bare {c u s q d p b : Int32} {t : Int} (eu : u = (1 : Int32) <<< (s &&& 31)) (hs : s.toInt = 2 * t) (ht0 : 0 ≤ t) (ht1 : t ≤ 4) (e1 : q = c / u) (e2 : d = q &&& 3) (e3 : p = d * u) (e4 : b = c - p) (h0 : 0 ≤ c.toInt) (h1 : c.toInt ≤ 1023) : 0 ≤ b.toInt ∧ b.toInt + 3 * u.toInt ≤ 1023 := by
  have hq : t = 0 ∨ t = 1 ∨ t = 2 ∨ t = 3 ∨ t = 4 := by omega
  have key : ∃ n : Int, u.toInt = n ∧ (n = 1 ∨ n = 4 ∨ n = 16 ∨ n = 64 ∨ n = 256) := by
    rcases hq with w | w | w | w | w
    · have hz : s = 0 := Int32.toInt_inj.mp (hs.trans (by rw [w]; rfl))
      exact ⟨1, by rw [eu, hz]; decide, by omega⟩
    · have hz : s = 2 := Int32.toInt_inj.mp (hs.trans (by rw [w]; rfl))
      exact ⟨4, by rw [eu, hz]; decide, by omega⟩
    · have hz : s = 4 := Int32.toInt_inj.mp (hs.trans (by rw [w]; rfl))
      exact ⟨16, by rw [eu, hz]; decide, by omega⟩
    · have hz : s = 6 := Int32.toInt_inj.mp (hs.trans (by rw [w]; rfl))
      exact ⟨64, by rw [eu, hz]; decide, by omega⟩
    · have hz : s = 8 := Int32.toInt_inj.mp (hs.trans (by rw [w]; rfl))
      exact ⟨256, by rw [eu, hz]; decide, by omega⟩
  obtain ⟨n, hn, ho⟩ := key
  rw [hn]
  exact z_bare1 ho hn e1 e2 e3 e4 h0 h1
