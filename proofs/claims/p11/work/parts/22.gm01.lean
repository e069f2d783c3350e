/-! the reference's morning -/
/-- the books' rows are in their ranges -/
def bOk (B : zBk) : Prop := iLaw B.L ∧ iKd B.K ∧ iSo B.S ∧ iPu B.P ∧ iMa B.M ∧ iWo B.V ∧ 0 ≤ B.held ∧ B.held ≤ 9999
def iRo (F : Nat → Int32) : Prop := ∀ j : Nat, j < 5 → 0 ≤ (F j).toInt ∧ (F j).toInt ≤ 2
/-- how many lots each had, by the rooms that are left -/
def zHd (n : Int) (S : Nat → Int32) (F : Nat → Int32) : Nat → Int := fun b => if (b : Int) < n then zCap S b - (F b).toInt else 0
theorem zHd_at {n : Int} {S F : Nat → Int32} {b : Nat} (h : (b : Int) < n) : zHd n S F b = zCap S b - (F b).toInt := if_pos h
theorem zHd_i {n : Int} {S F : Nat → Int32} {i : Int32} (h0 : 0 ≤ i.toInt) (hn : i.toInt < n) : zHd n S F i.toNatClampNeg = zCap S i.toNatClampNeg - (F i.toNatClampNeg).toInt := by
  have q := z_tn' (i := i) rfl h0
  exact zHd_at (by omega)
theorem zRm_h1 {n : Int} {S F : Nat → Int32} {i : Int32} (h0 : 0 ≤ i.toInt) (hn : i.toInt < n) (h : 0 < (F i.toNatClampNeg).toInt) : zRm n S (zHd n S F) i.toNatClampNeg = 1 := by
  have q := z_tn' (i := i) rfl h0
  exact zRm_1 (by omega) (by rw [zHd_i h0 hn]; omega)
theorem zRm_h0 {n : Int} {S F : Nat → Int32} {i : Int32} (h0 : 0 ≤ i.toInt) (hn : i.toInt < n) (h : (F i.toNatClampNeg).toInt ≤ 0) : zRm n S (zHd n S F) i.toNatClampNeg = 0 := zRm_0 (Or.inr (by rw [zHd_i h0 hn]; omega))
def zEr (n : Int) (S : Nat → Int32) (X : Nat → Int) (F : Nat → Int32) : Prop := iRo F ∧ zHd n S F = X
def zUr (n : Int) (S : Nat → Int32) (b : Int) (Z F : Nat → Int32) : Prop := iRo F ∧ zHd n S F = zAdd (zHd n S Z) b 1
theorem zUr_no {n : Int} {S : Nat → Int32} {b : Int} {F : Nat → Int32} (h : iRo F) (hb : b < 0) : zUr n S b F F := ⟨h, (zAdd_neg hb).symm⟩
theorem zUr_put {n : Int} {S : Nat → Int32} {b : Int} {F : Nat → Int32} {i v : Int32} (h : iRo (upd F i.toNatClampNeg v)) (hi : i.toInt = b) (h0 : 0 ≤ b) (hn : b < n) (hv : v.toInt = (F i.toNatClampNeg).toInt - 1) : zUr n S b F (upd F i.toNatClampNeg v) := ⟨h, by
  have q := z_tn' hi h0
  funext j
  unfold zHd zAdd
  by_cases g : (j : Int) = b
  · rw [if_pos (by omega), if_pos g, upd_eq (by omega), hv, show i.toNatClampNeg = j by omega]
    show _ = (if (j : Int) < n then zCap S j - (F j).toInt else 0) + 1
    rw [if_pos (by omega)]
    omega
  · rw [if_neg g, upd_ne (by omega)]⟩
theorem zHd_cap {n : Int} {S F : Nat → Int32} (h : zTo (zCap S) n F) : zHd n S F = fun _ => 0 := by
  funext b
  unfold zHd
  by_cases c : (b : Int) < n
  · rw [if_pos c, h b c]
    omega
  · rw [if_neg c]
theorem zRw_o {n : Int} {F : Nat → Int32} {j : Nat} (h : n ≤ (j : Int)) : zRw n F j = 0 := if_neg (by omega)
theorem zTo_rwB {n : Int} {F G : Nat → Int32} (h : zTo (zRw n G) n F) : zRw n F = zRw n G := zTo_rw h fun j hj => zRw_o hj
/-- what comes to a set that has it not -/
theorem zor2_tab : ∀ (n : Fin 32) (k : Fin 5), (n.val : Int) / zP2 (k.val : Int) % 2 = 0 → (Int32.ofNat n.val ||| ((1 : Int32) <<< (Int32.ofNat k.val &&& 31))).toInt = (n.val : Int) + zP2 (k.val : Int) := by decide +kernel
theorem zor_new {r s x b : Int32} {k : Int} {f : Nat → Int} (e : r = s ||| x) (ex : x = (1 : Int32) <<< (b &&& 31)) (hb : b.toInt = k) (h0 : 0 ≤ k) (h4 : k ≤ 4) (hf : z01 f) (hs : s.toInt = zS5 f) (hk : f k.toNat = 0) : r.toInt = zS5 f + zP2 k := by
  have rr := zS5_r hf
  have q := zor2_tab ⟨s.toInt.toNat, by omega⟩ ⟨k.toNat, by omega⟩
  have e1 : ((k.toNat : Nat) : Int) = k := by omega
  have e2 : ((s.toInt.toNat : Nat) : Int) = zS5 f := by omega
  have eb : Int32.ofNat k.toNat = b := by rw [← hb]; exact (z_ofn (by omega)).symm
  have es : Int32.ofNat s.toInt.toNat = s := (z_ofn (by omega)).symm
  have q : ((s.toInt.toNat : Nat) : Int) / zP2 ((k.toNat : Nat) : Int) % 2 = 0 → (Int32.ofNat s.toInt.toNat ||| ((1 : Int32) <<< (Int32.ofNat k.toNat &&& 31))).toInt = ((s.toInt.toNat : Nat) : Int) + zP2 ((k.toNat : Nat) : Int) := q
  have z := zS5_bit hf (b := k.toNat) (by omega)
  rw [e1] at z
  rw [e1, e2, eb, es] at q
  rw [e, ex]
  exact q (by omega)
theorem zS5_add {f g : Nat → Int} {k : Nat} (hk : k < 5) (h1 : g k = f k + 1) (h : ∀ b : Nat, b < 5 → b ≠ k → g b = f b) : zS5 g = zS5 f + zP2 (k : Int) := by
  have q : k = 0 ∨ k = 1 ∨ k = 2 ∨ k = 3 ∨ k = 4 := by omega
  unfold zS5
  rcases q with rfl | rfl | rfl | rfl | rfl
  · rw [h1, h 1 (by omega) (by omega), h 2 (by omega) (by omega), h 3 (by omega) (by omega), h 4 (by omega) (by omega)]
    show _ = _ + (1 : Int)
    omega
  · rw [h 0 (by omega) (by omega), h1, h 2 (by omega) (by omega), h 3 (by omega) (by omega), h 4 (by omega) (by omega)]
    show _ = _ + (2 : Int)
    omega
  · rw [h 0 (by omega) (by omega), h 1 (by omega) (by omega), h1, h 3 (by omega) (by omega), h 4 (by omega) (by omega)]
    show _ = _ + (4 : Int)
    omega
  · rw [h 0 (by omega) (by omega), h 1 (by omega) (by omega), h 2 (by omega) (by omega), h1, h 4 (by omega) (by omega)]
    show _ = _ + (8 : Int)
    omega
  · rw [h 0 (by omega) (by omega), h 1 (by omega) (by omega), h 2 (by omega) (by omega), h 3 (by omega) (by omega), h1]
    show _ = _ + (16 : Int)
    omega
theorem zNo_1 {f g : Nat → Int} {b : Nat} (h : f b = 1) (k : g b = 0) : zNo f g b = 1 := if_pos ⟨h, k⟩
theorem zNo_0 {f g : Nat → Int} {b : Nat} (h : f b ≠ 1 ∨ g b ≠ 0) : zNo f g b = 0 := if_neg fun q => by
  rcases h with h | h
  · exact h q.1
  · exact h q.2
/-- the ring's voice and those of no ring -/
theorem zOp_neg {n : Int} {S V : Nat → Int32} {ring : Int32} {kd : Int} {H : Nat → Int} (h0 : 0 ≤ ring.toInt) (h1 : ring.toInt ≤ 31) (hv : zVo ring (zWf n V kd) (zRm n S H) 5 < 0) : zS5 (zNo (zRm n S H) (zIb ring)) = zS5 (zOp n S V ring kd H) := (zS5_ext fun b hb => by
  unfold zOp zNo
  rw [zSil_neg h0 h1 hv hb]).1
theorem zOp_pos {n : Int} {S V : Nat → Int32} {ring : Int32} {kd v : Int} {H : Nat → Int} (e : v = zVo ring (zWf n V kd) (zRm n S H) 5) (hv : 0 ≤ v) : zNo (zRm n S H) (zIb ring) v.toNat = 0 ∧ zS5 (zOp n S V ring kd H) = zS5 (zNo (zRm n S H) (zIb ring)) + zP2 v := by
  have r := zVo_r (ring := ring) (w := zWf n V kd) (o := zRm n S H) 5
  rw [← e] at r
  have r3 := r.2.2 hv
  have ib : zIb ring v.toNat = 1 := by
    unfold zIb
    rw [if_pos (by omega)]
    exact r3.1
  have z : zNo (zRm n S H) (zIb ring) v.toNat = 0 := zNo_0 (Or.inr (by omega))
  refine ⟨z, ?_⟩
  have k := zS5_add (f := zNo (zRm n S H) (zIb ring)) (g := zOp n S V ring kd H) (k := v.toNat) (by omega) ?_ ?_
  · rw [k, show ((v.toNat : Nat) : Int) = v by omega]
  · rw [z]
    unfold zOp
    refine zNo_1 r3.2 ?_
    unfold zSil
    rw [← e]
    refine zNo_0 (Or.inr ?_)
    have : zJu v v.toNat = 1 := if_pos (by omega)
    omega
  · intro b hb hne
    unfold zOp
    have s : zSil ring (zVo ring (zWf n V kd) (zRm n S H) 5) b = zIb ring b := by
      rw [← e]
      unfold zSil
      have j0 : zJu v b = 0 := if_neg (by omega)
      unfold zNo
      rw [j0]
      unfold zIb
      by_cases c : zib ring b = 1
      · rw [if_pos hb, if_pos ⟨c, rfl⟩, c]
      · rw [if_pos hb, if_neg (fun q => c q.1)]
        have q9 : 0 ≤ zib ring b ∧ zib ring b ≤ 1 := zi_and1 (r := (ring >>> (Int32.ofNat b &&& 31)) &&& 1) (x := ring >>> (Int32.ofNat b &&& 31)) rfl
        omega
    unfold zNo
    rw [s]
/-! who waits least -/
def zKp (o : Nat → Int) (S : Nat → Int32) (lim mon : Nat → Int) (dr p a : Int) : Nat → Int := fun b => if o b = 1 then zWt S lim mon dr p a b else 100000
def zMn (f : Nat → Int) : Nat → Int
  | 0 => 100000
  | k + 1 => min (zMn f k) (f k)
def zEq (f : Nat → Int) (v : Int) : Nat → Int := fun b => if f b = v ∧ v < 100000 then 1 else 0
theorem zEq_01 {f : Nat → Int} {v : Int} : z01 (zEq f v) := fun b => by
  unfold zEq
  by_cases c : f b = v ∧ v < 100000
  · rw [if_pos c]
    exact Or.inr rfl
  · rw [if_neg c]
    exact Or.inl rfl
theorem zMn_le {f : Nat → Int} : ∀ k : Nat, zMn f k ≤ 100000 ∧ ∀ b : Nat, b < k → zMn f k ≤ f b := by
  intro k
  induction k with
  | zero => exact ⟨show (100000 : Int) ≤ 100000 from by decide, fun b hb => by omega⟩
  | succ k ih =>
    show min (zMn f k) (f k) ≤ 100000 ∧ ∀ b : Nat, b < k + 1 → min (zMn f k) (f k) ≤ f b
    refine ⟨by omega, fun b hb => ?_⟩
    by_cases e : b = k
    · rw [e]
      omega
    · have := ih.2 b (by omega)
      omega
theorem zMn_is {f : Nat → Int} : ∀ k : Nat, zMn f k = 100000 ∨ ∃ b : Nat, b < k ∧ zMn f k = f b := by
  intro k
  induction k with
  | zero => exact Or.inl rfl
  | succ k ih =>
    show min (zMn f k) (f k) = 100000 ∨ ∃ b : Nat, b < k + 1 ∧ min (zMn f k) (f k) = f b
    by_cases c : f k ≤ zMn f k
    · exact Or.inr ⟨k, by omega, by omega⟩
    · have e : min (zMn f k) (f k) = zMn f k := by omega
      rw [e]
      rcases ih with h | ⟨b, h1, h2⟩
      · exact Or.inl h
      · exact Or.inr ⟨b, by omega, h2⟩
theorem zSk_zero {f : Nat → Int} {k : Int} (h : ∀ b : Nat, (b : Int) < k → b < 5 → f b = 0) : zSk f k = 0 := by
  have key : ∀ (b : Nat) (m : Int), b < 5 → (if (b : Int) < k then m * f b else 0) = 0 := by
    intro b m hb
    by_cases c : (b : Int) < k
    · rw [if_pos c, h b c hb, Int.mul_zero]
    · rw [if_neg c]
  have k0 := key 0 1 (by omega)
  have k1 := key 1 2 (by omega)
  have k2 := key 2 4 (by omega)
  have k3 := key 3 8 (by omega)
  have k4 := key 4 16 (by omega)
  rw [Int.one_mul] at k0
  have k0 : (if 0 < k then f 0 else 0) = 0 := k0
  have k1 : (if 1 < k then 2 * f 1 else 0) = 0 := k1
  have k2 : (if 2 < k then 4 * f 2 else 0) = 0 := k2
  have k3 : (if 3 < k then 8 * f 3 else 0) = 0 := k3
  have k4 : (if 4 < k then 16 * f 4 else 0) = 0 := k4
  unfold zSk
  rw [k0, k1, k2, k3, k4]
  rfl
/-- one waits less than all ahead of him -/
theorem zLs_new {f : Nat → Int} {k v : Int} (h0 : 0 ≤ k) (h4 : k ≤ 4) (hv : v = f k.toNat) (h : v < zMn f k.toNat) : zMn f (k.toNat + 1) = v ∧ zSk (zEq f v) (k + 1) = zP2 k := by
  have m := zMn_le (f := f) k.toNat
  have e : zMn f (k.toNat + 1) = min (zMn f k.toNat) (f k.toNat) := rfl
  refine ⟨by omega, ?_⟩
  have s := zSk_1 (f := zEq f v) h0 h4 (if_pos ⟨hv.symm, by omega⟩)
  have z : zSk (zEq f v) k = 0 := zSk_zero fun b hb _ => if_neg fun q => by
    have := m.2 b (by omega)
    omega
  omega
/-- as long as the least -/
theorem zLs_eq {f : Nat → Int} {k v : Int} (h0 : 0 ≤ k) (h4 : k ≤ 4) (hm : v = zMn f k.toNat) (hv : f k.toNat = v) (hl : v < 100000) : zMn f (k.toNat + 1) = v ∧ zSk (zEq f v) (k + 1) = zSk (zEq f v) k + zP2 k := by
  have e : zMn f (k.toNat + 1) = min (zMn f k.toNat) (f k.toNat) := rfl
  exact ⟨by omega, zSk_1 h0 h4 (if_pos ⟨hv, hl⟩)⟩
/-- longer, or nobody -/
theorem zLs_no {f : Nat → Int} {k v : Int} (h0 : 0 ≤ k) (h4 : k ≤ 4) (hm : v = zMn f k.toNat) (hv : v ≤ f k.toNat) (hl : f k.toNat ≠ v ∨ 100000 ≤ v) : zMn f (k.toNat + 1) = v ∧ zSk (zEq f v) (k + 1) = zSk (zEq f v) k := by
  have e : zMn f (k.toNat + 1) = min (zMn f k.toNat) (f k.toNat) := rfl
  exact ⟨by omega, zSk_n h0 h4 (if_neg (by omega))⟩
/-- who waits least coughs first -/
theorem zKp_none {o : Nat → Int} {S : Nat → Int32} {lim mon : Nat → Int} {p a dr : Int} {i : Nat} (h1 : 1 ≤ dr) (h9 : dr ≤ 9) (h : (i : Int) < zMn (zKp o S lim mon dr p a) 5) : zS5 (zCg o S lim mon (p - (i : Int) * dr) (zAh p a dr i)) = 0 := zS5_all0 fun b hb => by
  rcases zCg_01 (o := o) (S := S) (lim := lim) (mon := mon) (p := p - (i : Int) * dr) (a := zAh p a dr i) b with c | c
  · exact c
  · exfalso
    have w := zWt_le h1 h9 c
    have m := (zMn_le (f := zKp o S lim mon dr p a) 5).2 b hb
    have e : zKp o S lim mon dr p a b = zWt S lim mon dr p a b := if_pos w.1
    omega
theorem zKp_who {o : Nat → Int} {S : Nat → Int32} {lim mon : Nat → Int} {p a dr : Int} {i : Nat} (h1 : 1 ≤ dr) (h9 : dr ≤ 9) (hl : (i : Int) < 100000) (h : (i : Int) = zMn (zKp o S lim mon dr p a) 5) : ∀ b : Nat, b < 5 → zEq (zKp o S lim mon dr p a) i b = zCg o S lim mon (p - (i : Int) * dr) (zAh p a dr i) b := by
  intro b hb
  rcases zCg_01 (o := o) (S := S) (lim := lim) (mon := mon) (p := p - (i : Int) * dr) (a := zAh p a dr i) b with c | c
  · rw [c]
    refine if_neg fun q => ?_
    have q1 := q.1
    unfold zKp at q1
    by_cases ob : o b = 1
    · rw [if_pos ob] at q1
      have := zWt_at (o := o) h1 h9 ob q1
      omega
    · rw [if_neg ob] at q1
      omega
  · rw [c]
    have w := zWt_le h1 h9 c
    have m := (zMn_le (f := zKp o S lim mon dr p a) 5).2 b hb
    have e : zKp o S lim mon dr p a b = zWt S lim mon dr p a b := if_pos w.1
    exact if_pos ⟨by omega, hl⟩
theorem zKp_is {o : Nat → Int} {S : Nat → Int32} {lim mon : Nat → Int} {p a dr v : Int} (h : v = zMn (zKp o S lim mon dr p a) 5) (hl : v < 100000) : zS5 (zEq (zKp o S lim mon dr p a) v) ≠ 0 := by
  intro e
  rcases zMn_is (f := zKp o S lim mon dr p a) 5 with k | ⟨b, hb, k⟩
  · omega
  · have z := zS5_at0 zEq_01 e hb
    have : zEq (zKp o S lim mon dr p a) v b = 1 := if_pos ⟨by omega, hl⟩
    omega
/-- the lot goes back: all would wait longer -/
theorem zLr_back {st fl dr be : Int} {o : Nat → Int} {S : Nat → Int32} {lim mon : Nat → Int} {p a br bl m v : Int} (h1 : 1 ≤ dr) (h9 : dr ≤ 9) (hf : 0 ≤ fl) (hb : bl ≤ 3) (hp : fl ≤ p) (hv : v = zMn (zKp o S lim mon dr p a) 5) (hm : m = (p - fl) / dr) (hg : m < v) : zRun st fl dr be (zCg o S lim mon) p a br bl = (-1, 0, br + m, bl) := by
  have hm0 : 0 ≤ m := by
    rw [hm]
    exact Int.ediv_nonneg (by omega) (by omega)
  have hlo : fl ≤ p - m * dr := by
    rw [hm]
    rcases z_nine (x := 0) h1 h9 with e | e | e | e | e | e | e | e | e <;> subst e <;> omega
  have hhi : p - (m + 1) * dr < fl := by
    rw [hm]
    rcases z_nine (x := 0) h1 h9 with e | e | e | e | e | e | e | e | e <;> subst e <;> omega
  have e2 : ((m.toNat + 1 : Nat) : Int) = m + 1 := by omega
  rw [zRun_leap h1 hf hb (m.toNat + 1) (fun i hi => ⟨?_, ?_⟩), e2, zRun_out hhi]
  · rw [show br + (m + 1) - 1 = br + m by omega]
  · have := z_mono (p := p) h1 (show i ≤ m.toNat by omega)
    rw [show ((m.toNat : Nat) : Int) = m by omega] at this
    omega
  · exact zKp_none h1 h9 (by omega)
/-- .. or on to the breath at which they cough -/
theorem zLr_go {st fl dr be : Int} {o : Nat → Int} {S : Nat → Int32} {lim mon : Nat → Int} {p a br bl v : Int} (h1 : 1 ≤ dr) (h9 : dr ≤ 9) (hf : 0 ≤ fl) (hb : bl ≤ 3) (hp : fl ≤ p) (h0 : 0 ≤ v) (hv : v = zMn (zKp o S lim mon dr p a) 5) (hg : v ≤ (p - fl) / dr) : zRun st fl dr be (zCg o S lim mon) p a br bl = zRun st fl dr be (zCg o S lim mon) (p - v * dr) (zAh p a dr v.toNat) (br + v) bl ∧ fl ≤ p - v * dr := by
  have hlo : fl ≤ p - v * dr := by
    rcases z_nine (x := 0) h1 h9 with e | e | e | e | e | e | e | e | e <;> subst e <;> omega
  have e2 : ((v.toNat : Nat) : Int) = v := by omega
  refine ⟨?_, hlo⟩
  rw [zRun_leap h1 hf hb v.toNat (fun i hi => ⟨?_, ?_⟩), e2]
  · have := z_mono (p := p) h1 (show i ≤ v.toNat by omega)
    rw [e2] at this
    omega
  · exact zKp_none h1 h9 (by omega)
/-- at the first breath it is enough that the price ahead was above all -/
theorem zRun_far {st fl dr be : Int} {o : Nat → Int} {S : Nat → Int32} {lim mon : Nat → Int} {p a d br bl : Int} (h : ∀ b : Nat, b < 5 → o b = 1 → lim b < a ∧ lim b < d) : zRun st fl dr be (zCg o S lim mon) p a br bl = zRun st fl dr be (zCg o S lim mon) p d br bl := by
  have e : ∀ b : Nat, b < 5 → zCg o S lim mon p a b = zCg o S lim mon p d b := by
    intro b hb
    unfold zCg
    by_cases ob : o b = 1
    · have k := h b hb ob
      by_cases c : (S b).toInt = 1
      · rw [if_pos c, if_pos c, if_neg (by omega), if_neg (by omega)]
      · rw [if_neg c, if_neg c]
    · rw [if_neg (fun q => ob q.1), if_neg (fun q => ob q.1)]
  have q := zS5_ext e
  unfold zRun
  show (if _ then _ else _) = (if _ then _ else _)
  rw [q.1, q.2.1, q.2.2]
theorem zone_one : ∀ n : Fin 32, n.val ≠ 0 → (((Int32.ofNat n.val &&& (Int32.ofNat n.val - 1)) = 0) ↔ (n.val : Int) / 1 % 2 + (n.val : Int) / 2 % 2 + (n.val : Int) / 4 % 2 + (n.val : Int) / 8 % 2 + (n.val : Int) / 16 % 2 = 1) := by decide +kernel
/-- one alone -/
theorem z_alone {x y z : Int32} {f : Nat → Int} (h : z01 f) (hx : x.toInt = zS5 f) (hn : zS5 f ≠ 0) (ey : y = x - 1) (ez : z = x &&& y) : z.toInt = 0 ↔ zC5 f = 1 := by
  have r := zS5_r h
  have q := zone_one ⟨x.toInt.toNat, by omega⟩ (show x.toInt.toNat ≠ 0 by omega)
  have e2 : ((x.toInt.toNat : Nat) : Int) = zS5 f := by omega
  have es : Int32.ofNat x.toInt.toNat = x := (z_ofn (by omega)).symm
  simp only [e2, es] at q
  have b0 : zS5 f / 1 % 2 = f 0 := zS5_bit h (b := 0) (by omega)
  have b1 : zS5 f / 2 % 2 = f 1 := zS5_bit h (b := 1) (by omega)
  have b2 : zS5 f / 4 % 2 = f 2 := zS5_bit h (b := 2) (by omega)
  have b3 : zS5 f / 8 % 2 = f 3 := zS5_bit h (b := 3) (by omega)
  have b4 : zS5 f / 16 % 2 = f 4 := zS5_bit h (b := 4) (by omega)
  rw [b0, b1, b2, b3, b4] at q
  rw [ez, ey]
  constructor
  · intro k
    exact q.mp (Int32.toInt_inj.mp (k.trans rfl))
  · intro k
    rw [q.mpr k]
    rfl
