/-! the reference's lots, one by one -/
theorem zVo_out {ring : Int32} {w o : Nat → Int} {k : Nat} (h5 : k ≤ 5) (h : ∀ b : Nat, k ≤ b → o b = 0) : zVo ring w o k = zVo ring w o 5 := by
  have key : ∀ d : Nat, zVo ring w o (k + d) = zVo ring w o k := by
    intro d
    induction d with
    | zero => rfl
    | succ d ih =>
      have z : o (k + d) ≠ 1 := by
        rw [h (k + d) (by omega)]
        decide
      rw [← ih]
      exact zVo_n (Or.inr (Or.inl z))
  have := key (5 - k)
  rw [show k + (5 - k) = 5 by omega] at this
  exact this.symm
theorem zKp_whoI {o : Nat → Int} {S : Nat → Int32} {lim mon : Nat → Int} {p a dr v : Int} (h1 : 1 ≤ dr) (h9 : dr ≤ 9) (h0 : 0 ≤ v) (hl : v < 100000) (h : v = zMn (zKp o S lim mon dr p a) 5) : ∀ b : Nat, b < 5 → zEq (zKp o S lim mon dr p a) v b = zCg o S lim mon (p - v * dr) (zAh p a dr v.toNat) b := by
  have e : ((v.toNat : Nat) : Int) = v := by omega
  have k := zKp_who (o := o) (S := S) (lim := lim) (mon := mon) (p := p) (a := a) (dr := dr) (i := v.toNat) h1 h9 (by omega) (by rw [e]; exact h)
  rw [e] at k
  exact k
theorem zMn_out {f : Nat → Int} {k : Nat} (h5 : k ≤ 5) (h : ∀ b : Nat, k ≤ b → f b = 100000) : zMn f k = zMn f 5 := by
  have key : ∀ d : Nat, zMn f (k + d) = zMn f k := by
    intro d
    induction d with
    | zero => rfl
    | succ d ih =>
      have m := (zMn_le (f := f) k).1
      have e : zMn f (k + (d + 1)) = min (zMn f (k + d)) (f (k + d)) := rfl
      rw [e, ih, h (k + d) (by omega)]
      omega
  have := key (5 - k)
  rw [show k + (5 - k) = 5 by omega] at this
  exact this.symm
theorem zKp_out {n : Int} {S V : Nat → Int32} {ring : Int32} {kd : Int} {H lim mon : Nat → Int} {dr p a : Int} {b : Nat} (h : n ≤ (b : Int)) : zKp (zOp n S V ring kd H) S lim mon dr p a b = 100000 := if_neg fun q => by
  have := zRm_n (zOp_rm q)
  omega
theorem zEq_out {n : Int} {S V : Nat → Int32} {ring : Int32} {kd : Int} {H lim mon : Nat → Int} {dr p a v : Int} {k : Int} (h0 : 0 ≤ k) (h : n ≤ k) : zSk (zEq (zKp (zOp n S V ring kd H) S lim mon dr p a) v) k = zS5 (zEq (zKp (zOp n S V ring kd H) S lim mon dr p a) v) := zSk_all h0 fun b hb _ => if_neg fun q => by
  rw [zKp_out (by omega)] at q
  omega
theorem zRw_ma {n : Int} {F : Nat → Int32} (h : iMa F) (h5 : n ≤ 5) (b : Nat) : 0 ≤ zRw n F b := by
  unfold zRw
  by_cases c : (b : Int) < n
  · rw [if_pos c]
    exact (h b (by omega)).1
  · rw [if_neg c]
    omega
theorem zCh_0 {S : Nat → Int32} {M : Nat → Int} {b : Nat} (h : 0 ≤ M b) : 0 ≤ zCh S M b := by
  unfold zCh
  split <;> omega
theorem zLim_hi {n : Int} {S V : Nat → Int32} {M : Nat → Int} {kd : Int} (hV : iWo V) (h5 : n ≤ 5) (hM : ∀ b : Nat, 0 ≤ M b) (b : Nat) : zLim n S V M kd b ≤ 99 := by
  have q := zWq_r hV h5 (b : Int) kd
  have c := zCh_0 (S := S) (hM b)
  unfold zLim
  split <;> omega
/-- gains that bear one lot more -/
def zG9 (n : Int) (F : Nat → Int32) : Prop := iGa F ∧ ∀ j : Nat, (j : Int) < n → -900 ≤ (F j).toInt ∧ (F j).toInt ≤ 900
/-- what the selling of a lot is told by -/
theorem zSl_pre {L : Nat → Int32} {n : Int} {S V : Nat → Int32} {M : Nat → Int} {ring : Int32} {kd : Int} {Pr Rr : Nat → Int32} (hL : iLaw L) (h5 : n ≤ 5) (h : 0 ≤ (zLot L n S V M ring kd (zRw n Pr) (zHd n S Rr)).1) {i : Int32} (hi : i.toInt = (zLot L n S V M ring kd (zRw n Pr) (zHd n S Rr)).1) :
    i.toInt < n ∧ 0 ≤ (zLot L n S V M ring kd (zRw n Pr) (zHd n S Rr)).2.1 ∧ (zLot L n S V M ring kd (zRw n Pr) (zHd n S Rr)).2.1 ≤ 99 ∧ (zLot L n S V M ring kd (zRw n Pr) (zHd n S Rr)).2.1 ≤ (Pr i.toNatClampNeg).toInt + 99 ∧ 1 ≤ (Rr i.toNatClampNeg).toInt := by
  have g := zLot_go (n := n) (S := S) (V := V) (M := M) (ring := ring) (kd := kd) (P := zRw n Pr) (H := zHd n S Rr) hL
  have r := iLaw_r hL
  obtain ⟨o, ho⟩ : ∃ o, o = zLot L n S V M ring kd (zRw n Pr) (zHd n S Rr) := ⟨_, rfl⟩
  rw [← ho] at g h hi ⊢
  have g2 : 0 ≤ o.1 ∧ o.1 ≤ 4 ∧ zOp n S V ring kd (zHd n S Rr) o.1.toNat = 1 ∧ (L 2).toInt ≤ o.2.1 ∧ o.2.1 ≤ (L 0).toInt ∧ o.2.1 ≤ zMon L n S (zRw n Pr) o.1.toNat := by
    rcases g with g | g
    · omega
    · exact g
  have e : i.toNatClampNeg = o.1.toNat := z_tn hi h
  rw [e]
  have m := zRm_n (zOp_rm g2.2.2.1)
  have m2 := m.2
  rw [zHd_at m.1] at m2
  have k := g2.2.2.2.2.2
  unfold zMon at k
  rw [if_pos m.1, zRw_at m.1] at k
  refine ⟨by omega, by omega, by omega, ?_, by omega⟩
  by_cases c : (S o.1.toNat).toInt = 4
  · rw [if_pos c] at k
    omega
  · rw [if_neg c] at k
    omega
theorem zSm_K {L : Nat → Int32} {n : Int} {S V : Nat → Int32} {M : Nat → Int} {ring : Int32} {K J P : Nat → Int} : ∀ k : Nat, (∀ j : Nat, j < k → K j = J j) → zSm L n S V M ring K P k = zSm L n S V M ring J P k := by
  intro k
  induction k with
  | zero => intro _; rfl
  | succ k ih =>
    intro h
    have e := ih (fun j hj => h j (by omega))
    unfold zSm at e ⊢
    rw [zMo_s, zMo_s, e, h k (by omega)]
theorem zOu_K {L : Nat → Int32} {n : Int} {S V : Nat → Int32} {M : Nat → Int} {ring : Int32} {K J P : Nat → Int} {k : Nat} (h : ∀ j : Nat, j ≤ k → K j = J j) : zOu L n S V M ring K P k = zOu L n S V M ring J P k := by
  have e := zSm_K (L := L) (n := n) (S := S) (V := V) (M := M) (ring := ring) (P := P) k (fun j hj => h j (by omega))
  unfold zOu
  rw [e, h k (by omega)]
/-- a row of lots: each place once, the first of them among the first -/
def zRwP (n : Int) (F : Nat → Int32) : Prop := iPerm F ∧ ∀ j : Nat, (j : Int) < n → (F j).toInt < n
/-- by the row: the first k places that it names are X -/
def zTr (R : Nat → Int32) (X : Nat → Int) (k : Int) (F : Nat → Int32) : Prop := ∀ j : Nat, (j : Int) < k → (F (R j).toNatClampNeg).toInt = X j
theorem zTr_0 {R F : Nat → Int32} {X : Nat → Int} : zTr R X 0 F := fun j h => by omega
theorem zTr_eq {R F : Nat → Int32} {X : Nat → Int} {a b : Int} (h : zTr R X a F) (e : a = b) : zTr R X b F := e ▸ h
theorem zTr_nr {R Z F : Nat → Int32} {X : Nat → Int} {k : Int} {y : Int32} {q : Int} (hp : iPerm R) (h : zTr R X k Z) (hn : zNr q Z F) (h0 : 0 ≤ k) (h5 : k ≤ 5) (ey : y = R k.toNat) (hq : q = y.toInt) (hx : (F y.toNatClampNeg).toInt = X k.toNat) : zTr R X (k + 1) F := by
  intro j hj
  by_cases c : (j : Int) = k
  · have e : k.toNat = j := by omega
    rw [e] at hx ey
    rw [← ey]
    exact hx
  · have r1 := hp.1 j (by omega)
    have r2 := hp.1 k.toNat (by omega)
    have ne : (R j).toInt ≠ (R k.toNat).toInt := fun g => by
      have := hp.2 j k.toNat (by omega) (by omega) g
      omega
    have q1 := z_tn' (i := R j) rfl r1.1
    rw [hn (R j).toNatClampNeg (by rw [hq, ey, q1]; exact ne)]
    exact h j (by omega)
/-- the rows behind the selling of a lot -/
theorem zE_R {L : Nat → Int32} {n : Int} {S V : Nat → Int32} {M : Nat → Int} {ring : Int32} {K P : Nat → Int} {k : Nat} {Z F : Nat → Int32} (h : zUr n S (zOu L n S V M ring K P k).1 Z F) (i : zHd n S Z = (zSm L n S V M ring K P k).2.1) : zEr n S (zSm L n S V M ring K P (k + 1)).2.1 F := ⟨h.1, by
  rw [h.2, i, zSm_H]⟩
theorem zE_G9 {L : Nat → Int32} {n : Int} {S V : Nat → Int32} {M : Nat → Int} {ring : Int32} {K P : Nat → Int} {k : Nat} {F : Nat → Int32} (hL : iLaw L) (hV : iWo V) (h5 : n ≤ 5) (hP : ∀ b : Nat, (b : Int) < n → -99 ≤ P b ∧ P b ≤ 9999) (hk : k ≤ 5) (i : zE iGa n (zSm L n S V M ring K P k).2.2.1 F) : zG9 n F ∧ (zSm L n S V M ring K P k).2.2.2 ≤ 900 ∧ 0 ≤ (zSm L n S V M ring K P k).2.2.2 := by
  have b := zSm_bn (S := S) (M := M) (ring := ring) (K := K) hL hV h5 hP k
  refine ⟨⟨i.1, fun j hj => ?_⟩, by have := b.2; omega, b.2.1⟩
  have q := b.1 j hj
  rw [← i.2, zRw_at hj] at q
  omega
/-- lots in their order -/
def zIdn (R : Nat → Int32) : Prop := ∀ j : Nat, j < 6 → (R j).toInt = (j : Int)
theorem zIdn_of {F : Nat → Int32} (h0 : (F 0).toInt = 0) (h1 : (F 1).toInt = 1) (h2 : (F 2).toInt = 2) (h3 : (F 3).toInt = 3) (h4 : (F 4).toInt = 4) (h5 : (F 5).toInt = 5) : zIdn F := by
  intro j hj
  have q : j = 0 ∨ j = 1 ∨ j = 2 ∨ j = 3 ∨ j = 4 ∨ j = 5 := by omega
  rcases q with rfl | rfl | rfl | rfl | rfl | rfl <;> omega
theorem zIdn_j {R : Nat → Int32} {j : Nat} (h : zIdn R) (hj : j < 6) : (R j).toNatClampNeg = j := by
  have k := z_tn (h j hj) (by omega)
  omega
theorem zKr_id {K R : Nat → Int32} {j : Nat} (h : zIdn R) (hj : j < 6) : zKr K R j = zIv K j := by
  unfold zKr
  rw [zIdn_j h hj]
  rfl
theorem zTr_id {R F : Nat → Int32} {X Y : Nat → Int} {k : Int} (h : zTr R X k F) (hi : zIdn R) (hk : k ≤ 6) (e : ∀ j : Nat, (j : Int) < k → X j = Y j) : zTo Y k F := fun j hj => by
  have q := h j hj
  rw [zIdn_j hi (by omega)] at q
  rw [q, e j hj]
theorem zRwP_id {n : Int} {F : Nat → Int32} (hp : iPerm F) (h : zIdn F) (hn : n ≤ 6) : zRwP n F := ⟨hp, fun j hj => by rw [h j (by omega)]; exact hj⟩
