/-! who has room, limits, what one can pay -/
/-- WORTH of a kind to a buyer -/
def zWq (n : Int) (V : Nat → Int32) (b kd : Int) : Int := if 0 ≤ b ∧ b < 5 ∧ b < n ∧ 0 ≤ kd ∧ kd ≤ 3 then (V (4 * b + kd).toNat).toInt else 0
/-- of one kind, by buyers -/
def zWf (n : Int) (V : Nat → Int32) (kd : Int) : Nat → Int := fun b => zWq n V b kd
/-- what a MARGIN takes off -/
def zCh (S : Nat → Int32) (M : Nat → Int) (b : Nat) : Int := if (S b).toInt = 3 then M b / 2 else M b
def zLim (n : Int) (S V : Nat → Int32) (M : Nat → Int) (kd : Int) (b : Nat) : Int := if (b : Int) < n then zWq n V b kd - zCh S M b else 0
def zMon (L : Nat → Int32) (n : Int) (S : Nat → Int32) (P : Nat → Int) (b : Nat) : Int := if (b : Int) < n then P b + (if (S b).toInt = 4 then (L 4).toInt else 0) else 0
def zCap (S : Nat → Int32) (b : Nat) : Int := if (S b).toInt = 2 then 2 else 1
def zRm (n : Int) (S : Nat → Int32) (H : Nat → Int) (b : Nat) : Int := if (b : Int) < n ∧ H b < zCap S b then 1 else 0
theorem zRm_01 {n : Int} {S : Nat → Int32} {H : Nat → Int} : z01 (zRm n S H) := fun b => by
  unfold zRm
  split
  · exact Or.inr rfl
  · exact Or.inl rfl
theorem zCap_r (S : Nat → Int32) (b : Nat) : 1 ≤ zCap S b ∧ zCap S b ≤ 2 := by
  unfold zCap
  split <;> omega
theorem zCap_2 {S : Nat → Int32} {b : Nat} (h : (S b).toInt = 2) : zCap S b = 2 := if_pos h
theorem zCap_1 {S : Nat → Int32} {b : Nat} (h : (S b).toInt ≠ 2) : zCap S b = 1 := if_neg h
theorem zRm_1 {n : Int} {S : Nat → Int32} {H : Nat → Int} {b : Nat} (hb : (b : Int) < n) (h : H b < zCap S b) : zRm n S H b = 1 := if_pos ⟨hb, h⟩
theorem zRm_0 {n : Int} {S : Nat → Int32} {H : Nat → Int} {b : Nat} (h : n ≤ (b : Int) ∨ zCap S b ≤ H b) : zRm n S H b = 0 := if_neg (by omega)
theorem zRm_n {n : Int} {S : Nat → Int32} {H : Nat → Int} {b : Nat} (h : zRm n S H b = 1) : (b : Int) < n ∧ H b < zCap S b := by
  unfold zRm at h
  split at h
  · assumption
  · omega
theorem zWq_in {n : Int} {V : Nat → Int32} {b kd : Int} (h0 : 0 ≤ b) (h5 : b < 5) (hn : b < n) (k0 : 0 ≤ kd) (k3 : kd ≤ 3) : zWq n V b kd = (V (4 * b + kd).toNat).toInt := if_pos ⟨h0, h5, hn, k0, k3⟩
theorem zWq_out {n : Int} {V : Nat → Int32} {b kd : Int} (h : b < 0 ∨ 5 ≤ b ∨ n ≤ b ∨ kd < 0 ∨ 3 < kd) : zWq n V b kd = 0 := if_neg (by omega)
/-- ranges of the books' rows -/
def iSo (F : Nat → Int32) : Prop := ∀ j : Nat, j < 5 → 0 ≤ (F j).toInt ∧ (F j).toInt ≤ 4
def iPu (F : Nat → Int32) : Prop := ∀ j : Nat, j < 5 → -99 ≤ (F j).toInt ∧ (F j).toInt ≤ 9999
def iMa (F : Nat → Int32) : Prop := ∀ j : Nat, j < 5 → 0 ≤ (F j).toInt ∧ (F j).toInt ≤ 40
def iWo (F : Nat → Int32) : Prop := ∀ j : Nat, j < 20 → 0 ≤ (F j).toInt ∧ (F j).toInt ≤ 99
def iLm (F : Nat → Int32) : Prop := ∀ j : Nat, j < 5 → -40 ≤ (F j).toInt ∧ (F j).toInt ≤ 99
def iMo (F : Nat → Int32) : Prop := ∀ j : Nat, j < 5 → -99 ≤ (F j).toInt ∧ (F j).toInt ≤ 10098
def iGa (F : Nat → Int32) : Prop := ∀ j : Nat, j < 5 → -1000 ≤ (F j).toInt ∧ (F j).toInt ≤ 1000
def iHd (F : Nat → Int32) : Prop := ∀ j : Nat, j < 5 → 0 ≤ (F j).toInt ∧ (F j).toInt ≤ 10
theorem i_put {F : Nat → Int32} {N : Nat} {lo hi : Int} {k : Nat} {v : Int32} (h : ∀ j : Nat, j < N → lo ≤ (F j).toInt ∧ (F j).toInt ≤ hi) (h0 : lo ≤ v.toInt) (h1 : v.toInt ≤ hi) : ∀ j : Nat, j < N → lo ≤ (upd F k v j).toInt ∧ (upd F k v j).toInt ≤ hi := by
  intro j hj
  by_cases q : j = k
  · rw [upd_eq q]
    exact ⟨h0, h1⟩
  · rw [upd_ne q]
    exact h j hj
theorem i_at {F : Nat → Int32} {N : Nat} {lo hi : Int} {i y : Int32} {a : Int} (h : ∀ j : Nat, j < N → lo ≤ (F j).toInt ∧ (F j).toInt ≤ hi) (hi1 : i.toInt = a) (h0 : 0 ≤ a) (h1 : a < N) (e : y = F i.toNatClampNeg) : lo ≤ y.toInt ∧ y.toInt ≤ hi := by
  have q := z_tn' hi1 h0
  rw [e]
  exact h _ (by omega)
theorem i_cpy {F G : Nat → Int32} {N : Nat} {lo hi : Int} (h : ∀ j : Nat, j < N → lo ≤ (F j).toInt ∧ (F j).toInt ≤ hi) : ∀ j : Nat, j < N → lo ≤ (va_cpy F G 0 0 N j).toInt ∧ (va_cpy F G 0 0 N j).toInt ≤ hi := fun j hj => by
  rw [z_cpy hj]
  exact h j hj
theorem iSo_cpy {F G : Nat → Int32} (h : iSo F) : iSo (va_cpy F G 0 0 5) := i_cpy h
theorem iPu_cpy {F G : Nat → Int32} (h : iPu F) : iPu (va_cpy F G 0 0 5) := i_cpy h
theorem iMa_cpy {F G : Nat → Int32} (h : iMa F) : iMa (va_cpy F G 0 0 5) := i_cpy h
theorem iWo_cpy {F G : Nat → Int32} (h : iWo F) : iWo (va_cpy F G 0 0 20) := i_cpy h
theorem i_fil {F : Nat → Int32} {lo hi : Int} {N : Nat} (h : zFilK 0 N F) (h0 : lo ≤ 0) (h1 : 0 ≤ hi) : ∀ j : Nat, j < N → lo ≤ (F j).toInt ∧ (F j).toInt ≤ hi := fun j hj => by
  rw [h j (by omega)]
  exact ⟨h0, h1⟩
/-- the first k of a row are X -/
def zTo (X : Nat → Int) (k : Int) (F : Nat → Int32) : Prop := ∀ j : Nat, (j : Int) < k → (F j).toInt = X j
theorem zTo_0 {X : Nat → Int} {F : Nat → Int32} : zTo X 0 F := fun j h => by omega
theorem zTo_eq {X : Nat → Int} {a b : Int} {F : Nat → Int32} (h : zTo X a F) (e : a = b) : zTo X b F := e ▸ h
theorem zTo_put {X : Nat → Int} {k c : Int} {F : Nat → Int32} {i v : Int32} (h : zTo X k F) (hi : i.toInt = k) (h0 : 0 ≤ k) (hv : v.toInt = c) (hc : c = X i.toNatClampNeg) : zTo X (k + 1) (upd F i.toNatClampNeg v) := by
  have q := z_tn' hi h0
  intro j hj
  by_cases g : j = i.toNatClampNeg
  · rw [upd_eq g, hv, hc, g]
  · rw [upd_ne g]
    exact h j (by omega)
theorem zTo_rw {X : Nat → Int} {n : Int} {F : Nat → Int32} (h : zTo X n F) (hx : ∀ j : Nat, n ≤ (j : Int) → X j = 0) : zRw n F = X := by
  funext b
  unfold zRw
  by_cases q : (b : Int) < n
  · rw [if_pos q, h b q]
  · rw [if_neg q, hx b (by omega)]
theorem zLim_i {n : Int} {S V : Nat → Int32} {M : Nat → Int} {kd : Int} {i : Int32} (h0 : 0 ≤ i.toInt) (hn : i.toInt < n) : zLim n S V M kd i.toNatClampNeg = zWq n V i.toInt kd - zCh S M i.toNatClampNeg := by
  have q := z_tn' (i := i) rfl h0
  unfold zLim
  rw [q, if_pos hn]
theorem zMon_i {L : Nat → Int32} {n : Int} {S : Nat → Int32} {P : Nat → Int} {i : Int32} (h0 : 0 ≤ i.toInt) (hn : i.toInt < n) : zMon L n S P i.toNatClampNeg = P i.toNatClampNeg + (if (S i.toNatClampNeg).toInt = 4 then (L 4).toInt else 0) := by
  have q := z_tn' (i := i) rfl h0
  unfold zMon
  rw [q, if_pos hn]
theorem zLim_out {n : Int} {S V : Nat → Int32} {M : Nat → Int} {kd : Int} {j : Nat} (h : n ≤ (j : Int)) : zLim n S V M kd j = 0 := if_neg (by omega)
theorem zMon_out {L : Nat → Int32} {n : Int} {S : Nat → Int32} {P : Nat → Int} {j : Nat} (h : n ≤ (j : Int)) : zMon L n S P j = 0 := if_neg (by omega)
/-! rings -/
def zib (s : Int32) (b : Nat) : Int := zbit s (Int32.ofNat b)
theorem zib_01 {s : Int32} (h0 : 0 ≤ s.toInt) (h1 : s.toInt ≤ 31) {b : Nat} (hb : b < 5) : zib s b = 0 ∨ zib s b = 1 := by
  have q : zbit (Int32.ofNat s.toInt.toNat) (Int32.ofNat b) = ((s.toInt.toNat : Nat) : Int) / zP2 (b : Int) % 2 := zbit_tab ⟨s.toInt.toNat, by omega⟩ ⟨b, hb⟩
  have es : Int32.ofNat s.toInt.toNat = s := (z_ofn h0).symm
  rw [es] at q
  unfold zib
  omega
theorem zib_i {s i : Int32} {k : Int} (hi : i.toInt = k) (h0 : 0 ≤ k) : zib s i.toNatClampNeg = zbit s i := by
  have q := z_tn' hi h0
  unfold zib
  have e : Int32.ofNat i.toNatClampNeg = i := by
    have := z_ofn (x := i) (by omega)
    exact this.symm
  rw [e]
/-- the set by its members -/
def zIb (s : Int32) : Nat → Int := fun b => if b < 5 then zib s b else 0
theorem zIb_01 {s : Int32} (h0 : 0 ≤ s.toInt) (h1 : s.toInt ≤ 31) : z01 (zIb s) := fun b => by
  unfold zIb
  by_cases c : b < 5
  · rw [if_pos c]
    exact zib_01 h0 h1 c
  · rw [if_neg c]
    exact Or.inl rfl
theorem zIb_S {s : Int32} (h0 : 0 ≤ s.toInt) (h1 : s.toInt ≤ 31) : s.toInt = zS5 (zIb s) := by
  have es : Int32.ofNat s.toInt.toNat = s := (z_ofn h0).symm
  have q0 : zbit (Int32.ofNat s.toInt.toNat) (Int32.ofNat 0) = ((s.toInt.toNat : Nat) : Int) / 1 % 2 := zbit_tab ⟨s.toInt.toNat, by omega⟩ ⟨0, by omega⟩
  have q1 : zbit (Int32.ofNat s.toInt.toNat) (Int32.ofNat 1) = ((s.toInt.toNat : Nat) : Int) / 2 % 2 := zbit_tab ⟨s.toInt.toNat, by omega⟩ ⟨1, by omega⟩
  have q2 : zbit (Int32.ofNat s.toInt.toNat) (Int32.ofNat 2) = ((s.toInt.toNat : Nat) : Int) / 4 % 2 := zbit_tab ⟨s.toInt.toNat, by omega⟩ ⟨2, by omega⟩
  have q3 : zbit (Int32.ofNat s.toInt.toNat) (Int32.ofNat 3) = ((s.toInt.toNat : Nat) : Int) / 8 % 2 := zbit_tab ⟨s.toInt.toNat, by omega⟩ ⟨3, by omega⟩
  have q4 : zbit (Int32.ofNat s.toInt.toNat) (Int32.ofNat 4) = ((s.toInt.toNat : Nat) : Int) / 16 % 2 := zbit_tab ⟨s.toInt.toNat, by omega⟩ ⟨4, by omega⟩
  rw [es] at q0 q1 q2 q3 q4
  show s.toInt = zbit s (Int32.ofNat 0) + 2 * zbit s (Int32.ofNat 1) + 4 * zbit s (Int32.ofNat 2) + 8 * zbit s (Int32.ofNat 3) + 16 * zbit s (Int32.ofNat 4)
  omega
/-- of a ring the one that has room and the greatest worth, the first by numbers; -1: none -/
def zVo (ring : Int32) (w o : Nat → Int) : Nat → Int
  | 0 => -1
  | k + 1 => if zib ring k = 1 ∧ o k = 1 ∧ (zVo ring w o k < 0 ∨ w (zVo ring w o k).toNat < w k) then (k : Int) else zVo ring w o k
theorem zVo_r {ring : Int32} {w o : Nat → Int} : ∀ k : Nat, -1 ≤ zVo ring w o k ∧ zVo ring w o k < k ∧ (0 ≤ zVo ring w o k → zib ring (zVo ring w o k).toNat = 1 ∧ o (zVo ring w o k).toNat = 1) := by
  intro k
  induction k with
  | zero => exact ⟨show (-1 : Int) ≤ -1 from by decide, show (-1 : Int) < 0 from by decide, fun h => absurd (show (0 : Int) ≤ -1 from h) (by decide)⟩
  | succ k ih =>
    by_cases c : zib ring k = 1 ∧ o k = 1 ∧ (zVo ring w o k < 0 ∨ w (zVo ring w o k).toNat < w k)
    · have e : zVo ring w o (k + 1) = (k : Int) := if_pos c
      rw [e]
      exact ⟨by omega, by omega, fun _ => ⟨by rw [Int.toNat_natCast]; exact c.1, by rw [Int.toNat_natCast]; exact c.2.1⟩⟩
    · have e : zVo ring w o (k + 1) = zVo ring w o k := if_neg c
      rw [e]
      exact ⟨ih.1, by omega, ih.2.2⟩
theorem zVo_1 {ring : Int32} {w o : Nat → Int} {k : Nat} (h1 : zib ring k = 1) (h2 : o k = 1) (h3 : zVo ring w o k < 0 ∨ w (zVo ring w o k).toNat < w k) : zVo ring w o (k + 1) = (k : Int) := if_pos ⟨h1, h2, h3⟩
theorem zVo_n {ring : Int32} {w o : Nat → Int} {k : Nat} (h : zib ring k ≠ 1 ∨ o k ≠ 1 ∨ ¬ (zVo ring w o k < 0 ∨ w (zVo ring w o k).toNat < w k)) : zVo ring w o (k + 1) = zVo ring w o k := if_neg fun q => by
  rcases h with h | h | h
  · exact h q.1
  · exact h q.2.1
  · exact h q.2.2
/-- what the silent are, as a set: of the ring all but the voice -/
def zSil (ring : Int32) (v : Int) : Nat → Int := zNo (zIb ring) (zJu v)
/-- who may cough for a lot of a kind -/
def zOp (n : Int) (S V : Nat → Int32) (ring : Int32) (kd : Int) (H : Nat → Int) : Nat → Int := zNo (zRm n S H) (zSil ring (zVo ring (zWf n V kd) (zRm n S H) 5))
theorem zOp_01 {n : Int} {S V : Nat → Int32} {ring : Int32} {kd : Int} {H : Nat → Int} : z01 (zOp n S V ring kd H) := zNo_01 _ _
theorem zOp_rm {n : Int} {S V : Nat → Int32} {ring : Int32} {kd : Int} {H : Nat → Int} {b : Nat} (h : zOp n S V ring kd H b = 1) : zRm n S H b = 1 := by
  unfold zOp zNo at h
  split at h
  · rename_i q
    exact q.1
  · omega
theorem zVo_ext {ring : Int32} {w o o2 : Nat → Int} (h : ∀ b : Nat, b < 5 → o b = o2 b) : ∀ k : Nat, k ≤ 5 → zVo ring w o k = zVo ring w o2 k := by
  intro k
  induction k with
  | zero => intro _; rfl
  | succ k ih =>
    intro hk
    show (if _ then _ else _) = (if _ then _ else _)
    rw [ih (by omega), h k (by omega)]
/-! a lot -/
def zCo (L : Nat → Int32) (n : Int) (S V : Nat → Int32) (M : Nat → Int) (ring : Int32) (kd : Int) (P H : Nat → Int) : Int → Int → Nat → Int := zCg (zOp n S V ring kd H) S (zLim n S V M kd) (zMon L n S P)
def zLot (L : Nat → Int32) (n : Int) (S V : Nat → Int32) (M : Nat → Int) (ring : Int32) (kd : Int) (P H : Nat → Int) : zO := zRun (L 0).toInt (L 2).toInt (L 1).toInt (L 3).toInt (zCo L n S V M ring kd P H) (L 0).toInt 1000 0 0
/-- the ones that cough, by the rows as they stand -/
def zIv (F : Nat → Int32) : Nat → Int := fun b => (F b).toInt
theorem zCo_of {L : Nat → Int32} {n : Int} {S V : Nat → Int32} {M : Nat → Int} {ring : Int32} {kd : Int} {P H : Nat → Int} {x : Int32} {Lm Mn : Nat → Int32} (hx : x.toInt = zS5 (zOp n S V ring kd H)) (hl : zRw n Lm = zLim n S V M kd) (hm : zRw n Mn = zMon L n S P) (p a : Int) : zS5 (zCg (zib x) S (zIv Lm) (zIv Mn) p a) = zS5 (zCo L n S V M ring kd P H p a) ∧ zC5 (zCg (zib x) S (zIv Lm) (zIv Mn) p a) = zC5 (zCo L n S V M ring kd P H p a) ∧ zF5 (zCg (zib x) S (zIv Lm) (zIv Mn) p a) = zF5 (zCo L n S V M ring kd P H p a) := by
  refine zS5_ext (zCg_ext (fun b hb => ?_) p a)
  have e : zib x b = zOp n S V ring kd H b := by
    have k : (Int32.ofNat b).toInt = (b : Int) := Int32.toInt_ofNat_of_lt (by omega)
    have z := zbit_S zOp_01 hx k (by omega) (by omega)
    rw [Int.toNat_natCast] at z
    exact z
  refine ⟨e, fun q => ?_⟩
  have r := (zRm_n (zOp_rm (e.symm.trans q))).1
  constructor
  · rw [← hl, zRw_at r]
    rfl
  · rw [← hm, zRw_at r]
    rfl
/-! a morning, by a way to sell a lot: who has it, for how much -/
def zAdd (F : Nat → Int) (b v : Int) : Nat → Int := fun j => if (j : Int) = b then F j + v else F j
/-- purses, how many lots each had, gains, the till -/
abbrev zMs : Type := (Nat → Int) × (Nat → Int) × (Nat → Int) × Int
def zPay (w : Nat → Int) (o : Int × Int) (s : zMs) : zMs := (zAdd s.1 o.1 (-o.2), zAdd s.2.1 o.1 1, zAdd s.2.2.1 o.1 (w o.1.toNat - o.2), s.2.2.2 + (if o.1 < 0 then 0 else o.2))
def zMo (w : Int → Nat → Int) (f : Int → (Nat → Int) → (Nat → Int) → Int × Int) (K P : Nat → Int) : Nat → zMs
  | 0 => (P, fun _ => 0, fun _ => 0, 0)
  | k + 1 => zPay (w (K k)) (f (K k) (zMo w f K P k).1 (zMo w f K P k).2.1) (zMo w f K P k)
theorem zMo_s {w : Int → Nat → Int} {f : Int → (Nat → Int) → (Nat → Int) → Int × Int} {K P : Nat → Int} {k : Nat} : zMo w f K P (k + 1) = zPay (w (K k)) (f (K k) (zMo w f K P k).1 (zMo w f K P k).2.1) (zMo w f K P k) := rfl
theorem zAdd_neg {F : Nat → Int} {b v : Int} (h : b < 0) : zAdd F b v = F := by
  funext j
  exact if_neg (by omega)
theorem zPay_neg {w : Nat → Int} {o : Int × Int} {s : zMs} (h : o.1 < 0) : zPay w o s = s := by
  unfold zPay
  rw [zAdd_neg h, zAdd_neg h, zAdd_neg h, if_pos h, Int.add_zero]
/-- adding in a row -/
theorem zRw_add {n : Int} {F : Nat → Int32} {i v : Int32} {a c : Int} (hi : i.toInt = a) (h0 : 0 ≤ a) (hn : a < n) (hv : v.toInt = (F i.toNatClampNeg).toInt + c) : zRw n (upd F i.toNatClampNeg v) = zAdd (zRw n F) a c := by
  have q := z_tn' hi h0
  funext j
  unfold zRw zAdd
  by_cases g : (j : Int) = a
  · rw [if_pos (by omega), if_pos g, upd_eq (by omega), hv, show i.toNatClampNeg = j by omega]
    show _ = (if (j : Int) < n then (F j).toInt else 0) + c
    rw [if_pos (by omega)]
  · rw [if_neg g, upd_ne (by omega)]
