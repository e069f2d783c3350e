/-! steps of the walks over buyers -/
theorem zi_div {r x y : Int32} {a b : Int} (e : r = x / y) (hx : x.toInt = a) (hy : y.toInt = b) (h1 : 0 ≤ a) (h2 : 0 < b) : r.toInt = a / b := by
  rw [e, lg_idiv_nonneg (by omega) (by omega), hx, hy]
theorem zi_tdiv {r x y : Int32} {a b : Int} (e : r = x / y) (hx : x.toInt = a) (hy : y.toInt = b) (h2 : 0 < b) : r.toInt = Int.tdiv a b := by
  rw [e, Jvm.Kit.i32_div (by omega), hx, hy]
theorem z_tdr {a b : Int} (h0 : -100 ≤ a) (h1 : a ≤ 300) (h2 : 1 ≤ b) : -100 ≤ Int.tdiv a b ∧ Int.tdiv a b ≤ 300 := by
  by_cases c : 0 ≤ a
  · rw [Int.tdiv_eq_ediv_of_nonneg c]
    have := Int.ediv_nonneg c (show 0 ≤ b by omega)
    have := Int.ediv_le_self b c
    omega
  · have e : a = -(-a) := by omega
    rw [e, Int.neg_tdiv, Int.tdiv_eq_ediv_of_nonneg (by omega)]
    have := Int.ediv_nonneg (show 0 ≤ -a by omega) (show 0 ≤ b by omega)
    have := Int.ediv_le_self b (show 0 ≤ -a by omega)
    omega
theorem z_mr {x d : Int} (h0 : 0 ≤ x) (h1 : x ≤ 300) (d1 : 1 ≤ d) (d9 : d ≤ 9) : 0 ≤ x * d ∧ x * d ≤ 2700 := by
  rcases z_nine (x := 0) d1 d9 with e | e | e | e | e | e | e | e | e <;> subst e <;> omega
theorem zi_mul9 {r x y : Int32} {a b : Int} (e : r = x * y) (hx : x.toInt = a) (hy : y.toInt = b) (h0 : 0 ≤ a) (h1 : a ≤ 300) (d1 : 1 ≤ b) (d9 : b ≤ 9) : r.toInt = a * b := by
  have := z_mr h0 h1 d1 d9
  exact zi_mul e hx hy (by omega) (by omega)
theorem zCh_rw {n : Int} {S F : Nat → Int32} {i : Int32} (h0 : 0 ≤ i.toInt) (hn : i.toInt < n) : zCh S (zRw n F) i.toNatClampNeg = zCh S (zIv F) i.toNatClampNeg := by
  have q := z_tn' (i := i) rfl h0
  unfold zCh
  rw [zRw_at (by omega)]
  rfl
theorem zRw_i {n : Int} {F : Nat → Int32} {i : Int32} (h0 : 0 ≤ i.toInt) (hn : i.toInt < n) : zRw n F i.toNatClampNeg = (F i.toNatClampNeg).toInt := by
  have q := z_tn' (i := i) rfl h0
  exact zRw_at (by omega)
theorem zRm_i1 {n : Int} {S F : Nat → Int32} {i : Int32} {c : Int} (h0 : 0 ≤ i.toInt) (hn : i.toInt < n) (hc : zCap S i.toNatClampNeg = c) (h : (F i.toNatClampNeg).toInt < c) : zRm n S (zRw n F) i.toNatClampNeg = 1 := by
  have q := z_tn' (i := i) rfl h0
  exact zRm_1 (by omega) (by rw [zRw_i h0 hn, hc]; exact h)
theorem zRm_i0 {n : Int} {S F : Nat → Int32} {i : Int32} {c : Int} (h0 : 0 ≤ i.toInt) (hn : i.toInt < n) (hc : zCap S i.toNatClampNeg = c) (h : c ≤ (F i.toNatClampNeg).toInt) : zRm n S (zRw n F) i.toNatClampNeg = 0 := zRm_0 (Or.inr (by rw [zRw_i h0 hn, hc]; exact h))
theorem zSk_all {f : Nat → Int} {k : Int} (h0 : 0 ≤ k) (h : ∀ b : Nat, k ≤ (b : Int) → b < 5 → f b = 0) : zSk f k = zS5 f := by
  have key : ∀ (b : Nat) (m : Int), b < 5 → (if (b : Int) < k then m * f b else 0) = m * f b := by
    intro b m hb
    by_cases c : (b : Int) < k
    · rw [if_pos c]
    · rw [if_neg c, h b (by omega) hb, Int.mul_zero]
  have k0 := key 0 1 (by omega)
  have k1 := key 1 2 (by omega)
  have k2 := key 2 4 (by omega)
  have k3 := key 3 8 (by omega)
  have k4 := key 4 16 (by omega)
  rw [Int.one_mul] at k0
  have k0 : (if 0 < k then f 0 else 0) = f 0 := k0
  have k1 : (if 1 < k then 2 * f 1 else 0) = 2 * f 1 := k1
  have k2 : (if 2 < k then 4 * f 2 else 0) = 4 * f 2 := k2
  have k3 : (if 3 < k then 8 * f 3 else 0) = 8 * f 3 := k3
  have k4 : (if 4 < k then 16 * f 4 else 0) = 16 * f 4 := k4
  unfold zSk zS5
  rw [k0, k1, k2, k3, k4]
theorem zSk_rm {n : Int} {S : Nat → Int32} {H : Nat → Int} {k : Int} (h0 : 0 ≤ k) (hn : n ≤ k) : zSk (zRm n S H) k = zS5 (zRm n S H) := zSk_all h0 fun b hb _ => zRm_0 (Or.inl (by omega))
/-- rows of limits and of what can be paid, so far and in all -/
def zLmP (X : Nat → Int) (k : Int) (F : Nat → Int32) : Prop := iLm F ∧ zTo X k F
def zLmQ (X : Nat → Int) (n : Int) (F : Nat → Int32) : Prop := iLm F ∧ zRw n F = X
def zMoP (X : Nat → Int) (k : Int) (F : Nat → Int32) : Prop := iMo F ∧ zTo X k F
def zMoQ (X : Nat → Int) (n : Int) (F : Nat → Int32) : Prop := iMo F ∧ zRw n F = X
theorem zLmP_eq {X : Nat → Int} {a b : Int} {F : Nat → Int32} (h : zLmP X a F) (e : a = b) : zLmP X b F := e ▸ h
theorem zMoP_eq {X : Nat → Int} {a b : Int} {F : Nat → Int32} (h : zMoP X a F) (e : a = b) : zMoP X b F := e ▸ h
theorem zLmP_put {X : Nat → Int} {k c : Int} {F : Nat → Int32} {i v : Int32} (h : zLmP X k F) (hi : i.toInt = k) (h0 : 0 ≤ k) (hv : v.toInt = c) (hc : c = X i.toNatClampNeg) (lo : -40 ≤ c) (hi2 : c ≤ 99) : zLmP X (k + 1) (upd F i.toNatClampNeg v) := ⟨i_put h.1 (by omega) (by omega), zTo_put h.2 hi h0 hv hc⟩
theorem zMoP_put {X : Nat → Int} {k c : Int} {F : Nat → Int32} {i v : Int32} (h : zMoP X k F) (hi : i.toInt = k) (h0 : 0 ≤ k) (hv : v.toInt = c) (hc : c = X i.toNatClampNeg) (lo : -99 ≤ c) (hi2 : c ≤ 10098) : zMoP X (k + 1) (upd F i.toNatClampNeg v) := ⟨i_put h.1 (by omega) (by omega), zTo_put h.2 hi h0 hv hc⟩
/-- nothing had, nothing gained -/
def zHd0 (F : Nat → Int32) : Prop := iHd F ∧ zFilK 0 5 F
def zGa0 (F : Nat → Int32) : Prop := iGa F ∧ zFilK 0 5 F
theorem zRw_fil {n : Int} {F : Nat → Int32} (h : zFilK 0 5 F) (h5 : n ≤ 5) : zRw n F = fun _ => 0 := by
  funext b
  unfold zRw
  by_cases q : (b : Int) < n
  · rw [if_pos q, h b (by omega)]
    rfl
  · rw [if_neg q]
theorem zRw_cpy {n : Int} {F G : Nat → Int32} (h5 : n ≤ 5) : zRw n (va_cpy F G 0 0 5) = zRw n F := zRw_ext fun j hj => z_cpy (by omega)
theorem zWf_i {n : Int} {V : Nat → Int32} {kd : Int} {i : Int32} (h0 : 0 ≤ i.toInt) : zWf n V kd i.toInt.toNat = zWq n V i.toInt kd := by
  unfold zWf
  rw [show ((i.toInt.toNat : Nat) : Int) = i.toInt by omega]
theorem zVo_z {ring : Int32} {w o : Nat → Int} (h : ring.toInt = 0) : ∀ k : Nat, k ≤ 5 → zVo ring w o k = -1 := by
  intro k
  induction k with
  | zero => intro _; rfl
  | succ k ih =>
    intro hk
    have e : ring = 0 := Int32.toInt_inj.mp (h.trans rfl)
    have z : zib ring k ≠ 1 := by
      have q := zbit_tab ⟨0, by omega⟩ ⟨k, by omega⟩
      have q : zbit 0 (Int32.ofNat k) = ((0 : Nat) : Int) / zP2 (k : Int) % 2 := q
      unfold zib
      rw [e, q]
      have := zP2_r (k := (k : Int))
      rw [Int.ofNat_zero, Int.zero_ediv]
      decide
    rw [zVo_n (Or.inl z)]
    exact ih (by omega)
theorem zCg_i1 {x i : Int32} {S Lm Mn : Nat → Int32} {p a h : Int} (h0 : 0 ≤ i.toInt) (ho : zbit x i = 1) (hm : p ≤ (Mn i.toNatClampNeg).toInt) (hS : ((S i.toNatClampNeg).toInt = 1 ∧ h = a) ∨ ((S i.toNatClampNeg).toInt ≠ 1 ∧ h = p)) (hl : h ≤ (Lm i.toNatClampNeg).toInt) : zCg (zib x) S (zIv Lm) (zIv Mn) p a i.toNatClampNeg = 1 := by
  refine if_pos ⟨(zib_i rfl h0).trans ho, hm, ?_⟩
  show _ ≤ (Lm i.toNatClampNeg).toInt
  rcases hS with q | q
  · rw [if_pos q.1]
    omega
  · rw [if_neg q.1]
    omega
theorem zCg_i0 {x i : Int32} {S Lm Mn : Nat → Int32} {p a h : Int} (h0 : 0 ≤ i.toInt) (hS : ((S i.toNatClampNeg).toInt = 1 ∧ h = a) ∨ ((S i.toNatClampNeg).toInt ≠ 1 ∧ h = p)) (hn : zbit x i ≠ 1 ∨ (Mn i.toNatClampNeg).toInt < p ∨ (Lm i.toNatClampNeg).toInt < h) : zCg (zib x) S (zIv Lm) (zIv Mn) p a i.toNatClampNeg = 0 := by
  refine if_neg fun q => ?_
  have q1 := (zib_i rfl h0).symm.trans q.1
  have q2 : p ≤ (Mn i.toNatClampNeg).toInt := q.2.1
  have q3 : (if (S i.toNatClampNeg).toInt = 1 then a else p) ≤ (Lm i.toNatClampNeg).toInt := q.2.2
  rcases hS with c | c
  · rw [if_pos c.1] at q3
    omega
  · rw [if_neg c.1] at q3
    omega
theorem zTp_i {S Lm Mn : Nat → Int32} {dr l : Int} {i : Int32} (hS : ((S i.toNatClampNeg).toInt = 1 ∧ l = dr) ∨ ((S i.toNatClampNeg).toInt ≠ 1 ∧ l = 0)) : zTp S (zIv Lm) (zIv Mn) dr i.toNatClampNeg = min (Mn i.toNatClampNeg).toInt ((Lm i.toNatClampNeg).toInt - l) := by
  unfold zTp zIv
  rcases hS with c | c
  · rw [if_pos c.1, c.2]
  · rw [if_neg c.1, c.2]
theorem zTk_i1 {x i : Int32} {t : Nat → Int} (h0 : 0 ≤ i.toInt) (h : zbit x i = 1) : zTk (zib x) t (i.toInt.toNat + 1) = max (zTk (zib x) t i.toInt.toNat) (t i.toNatClampNeg) := zTk_1 ((zib_i (i := i) rfl h0).trans h)
theorem zTk_i0 {x i : Int32} {t : Nat → Int} (h0 : 0 ≤ i.toInt) (h : zbit x i = 0) : zTk (zib x) t (i.toInt.toNat + 1) = zTk (zib x) t i.toInt.toNat := zTk_n (by
  have := (zib_i (s := x) (i := i) rfl h0).trans h
  show zib x i.toNatClampNeg ≠ 1
  omega)
/-- the first from k on -/
def zFk (f : Nat → Int) (k : Int) : Int := if k ≤ 0 ∧ f 0 = 1 then 0 else if k ≤ 1 ∧ f 1 = 1 then 1 else if k ≤ 2 ∧ f 2 = 1 then 2 else if k ≤ 3 ∧ f 3 = 1 then 3 else if k ≤ 4 ∧ f 4 = 1 then 4 else -1
theorem zFk_0 {f : Nat → Int} : zFk f 0 = zF5 f := by
  unfold zFk zF5
  simp only [show ((0 : Int) ≤ 0) = True from eq_true (by decide), show ((0 : Int) ≤ 1) = True from eq_true (by decide), show ((0 : Int) ≤ 2) = True from eq_true (by decide), show ((0 : Int) ≤ 3) = True from eq_true (by decide), show ((0 : Int) ≤ 4) = True from eq_true (by decide), true_and]
theorem zFk_no {f : Nat → Int} {k : Int} (h0 : 0 ≤ k) (h4 : k ≤ 4) (h : f k.toNat ≠ 1) : zFk f (k + 1) = zFk f k := by
  have q : k = 0 ∨ k = 1 ∨ k = 2 ∨ k = 3 ∨ k = 4 := by omega
  unfold zFk
  rcases q with rfl | rfl | rfl | rfl | rfl
  · have h : f 0 ≠ 1 := h
    repeat' split
    all_goals omega
  · have h : f 1 ≠ 1 := h
    repeat' split
    all_goals omega
  · have h : f 2 ≠ 1 := h
    repeat' split
    all_goals omega
  · have h : f 3 ≠ 1 := h
    repeat' split
    all_goals omega
  · have h : f 4 ≠ 1 := h
    repeat' split
    all_goals omega
theorem zFk_yes {f : Nat → Int} {k : Int} (h0 : 0 ≤ k) (h4 : k ≤ 4) (h : f k.toNat = 1) : zFk f k = k := by
  have q : k = 0 ∨ k = 1 ∨ k = 2 ∨ k = 3 ∨ k = 4 := by omega
  unfold zFk
  rcases q with rfl | rfl | rfl | rfl | rfl
  · have h : f 0 = 1 := h
    repeat' split
    all_goals omega
  · have h : f 1 = 1 := h
    repeat' split
    all_goals omega
  · have h : f 2 = 1 := h
    repeat' split
    all_goals omega
  · have h : f 3 = 1 := h
    repeat' split
    all_goals omega
  · have h : f 4 = 1 := h
    repeat' split
    all_goals omega
theorem zFk_end {f : Nat → Int} {k : Int} (h : 5 ≤ k) : zFk f k = -1 := by
  unfold zFk
  repeat' split
  all_goals omega
/-! how many bits -/
def zSh (x k : Int32) : Int32 := ((x.toUInt32 >>> (k.toUInt32 &&& Int32.toUInt32 31)).toInt32)
def zPa (x : Int32) : Int32 := x - (zSh x 1 &&& 1431655765)
def zPb (x : Int32) : Int32 := (zPa x &&& 858993459) + (zSh (zPa x) 2 &&& 858993459)
def zPc (x : Int32) : Int32 := (zPb x + zSh (zPb x) 4) &&& 252645135
def zPd (x : Int32) : Int32 := zPc x + zSh (zPc x) 8
def zPop (x : Int32) : Int32 := (zPd x + zSh (zPd x) 16) &&& 63
theorem zPop_tab : ∀ n : Fin 32, (zPop (Int32.ofNat n.val)).toInt = (n.val : Int) / 1 % 2 + (n.val : Int) / 2 % 2 + (n.val : Int) / 4 % 2 + (n.val : Int) / 8 % 2 + (n.val : Int) / 16 % 2 := by decide +kernel
theorem zPop_S {x : Int32} {f : Nat → Int} (h : z01 f) (hx : x.toInt = zS5 f) : (zPop x).toInt = zC5 f := by
  have r := zS5_r h
  have q : (zPop (Int32.ofNat x.toInt.toNat)).toInt = ((x.toInt.toNat : Nat) : Int) / 1 % 2 + ((x.toInt.toNat : Nat) : Int) / 2 % 2 + ((x.toInt.toNat : Nat) : Int) / 4 % 2 + ((x.toInt.toNat : Nat) : Int) / 8 % 2 + ((x.toInt.toNat : Nat) : Int) / 16 % 2 := zPop_tab ⟨x.toInt.toNat, by omega⟩
  have e2 : ((x.toInt.toNat : Nat) : Int) = zS5 f := by omega
  have es : Int32.ofNat x.toInt.toNat = x := (z_ofn (by omega)).symm
  rw [e2, es] at q
  have b0 : zS5 f / 1 % 2 = f 0 := zS5_bit h (b := 0) (by omega)
  have b1 : zS5 f / 2 % 2 = f 1 := zS5_bit h (b := 1) (by omega)
  have b2 : zS5 f / 4 % 2 = f 2 := zS5_bit h (b := 2) (by omega)
  have b3 : zS5 f / 8 % 2 = f 3 := zS5_bit h (b := 3) (by omega)
  have b4 : zS5 f / 16 % 2 = f 4 := zS5_bit h (b := 4) (by omega)
  rw [q, b0, b1, b2, b3, b4]
  rfl
/-- a walk does not depend on more than the sets -/
theorem zRun_ext {st fl dr be : Int} {c d : Int → Int → Nat → Int} (h : ∀ p a : Int, zS5 (c p a) = zS5 (d p a) ∧ zC5 (c p a) = zC5 (d p a) ∧ zF5 (c p a) = zF5 (d p a)) (p a br bl : Int) : zRun st fl dr be c p a br bl = zRun st fl dr be d p a br bl := by
  have key : ∀ (f : Nat) (p a br bl : Int), zRunN st fl dr be c f p a br bl = zRunN st fl dr be d f p a br bl := by
    intro f
    induction f with
    | zero => intro p a br bl; rfl
    | succ f ih =>
      intro p a br bl
      have q := h p a
      show (if _ then _ else _) = (if _ then _ else _)
      rw [q.1, q.2.1, q.2.2, ih, ih]
  exact key _ p a br bl
/-- the place k of a row is what it is, the others are as they were -/
def zNr (k : Int) (Z F : Nat → Int32) : Prop := ∀ j : Nat, (j : Int) ≠ k → F j = Z j
theorem zNr_0 {k : Int} {F : Nat → Int32} : zNr k F F := fun _ _ => rfl
theorem zNr_put {k : Int} {Z F : Nat → Int32} {i v : Int32} (h : zNr k Z F) (hi : i.toInt = k) (h0 : 0 ≤ k) : zNr k Z (upd F i.toNatClampNeg v) := by
  have q := z_tn' hi h0
  intro j hj
  rw [upd_ne (by omega)]
  exact h j hj
