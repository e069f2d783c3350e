/-! counting: those that owe, kinds told -/
def zOw (P : Nat → Int32) : Nat → Int
  | 0 => 0
  | k + 1 => zOw P k + (if (P k).toInt < 0 then 1 else 0)
theorem zOw_1 {P : Nat → Int32} {k : Nat} (h : (P k).toInt < 0) : zOw P (k + 1) = zOw P k + 1 := by
  show zOw P k + (if _ then _ else _) = _
  rw [if_pos h]
theorem zOw_0 {P : Nat → Int32} {k : Nat} (h : 0 ≤ (P k).toInt) : zOw P (k + 1) = zOw P k := by
  show zOw P k + (if _ then _ else _) = _
  rw [if_neg (by omega)]
  omega
/-- kind q is among the first k -/
def zKs (K : Nat → Int32) : Nat → Nat → Int
  | 0, _ => 0
  | k + 1, q => if (K k).toInt = (q : Int) then 1 else zKs K k q
theorem zKs_01 {K : Nat → Int32} : ∀ k : Nat, z01 (zKs K k) := by
  intro k
  induction k with
  | zero => exact fun _ => Or.inl rfl
  | succ k ih =>
    intro b
    show (if _ then (1 : Int) else _) = 0 ∨ (if _ then (1 : Int) else _) = 1
    by_cases c : (K k).toInt = (b : Int)
    · rw [if_pos c]
      exact Or.inr rfl
    · rw [if_neg c]
      exact ih b
theorem zor3_tab : ∀ (n : Fin 32) (k : Fin 5), (Int32.ofNat n.val ||| ((1 : Int32) <<< (Int32.ofNat k.val &&& 31))).toInt = (if (k.val : Int) = 0 then 1 else (n.val : Int) / 1 % 2) + 2 * (if (k.val : Int) = 1 then 1 else (n.val : Int) / 2 % 2) + 4 * (if (k.val : Int) = 2 then 1 else (n.val : Int) / 4 % 2) + 8 * (if (k.val : Int) = 3 then 1 else (n.val : Int) / 8 % 2) + 16 * (if (k.val : Int) = 4 then 1 else (n.val : Int) / 16 % 2) := by decide +kernel
theorem zKs_or {r s x v : Int32} {K : Nat → Int32} {k : Nat} (e : r = s ||| x) (ex : x = (1 : Int32) <<< (v &&& 31)) (hv : v.toInt = (K k).toInt) (h0 : 0 ≤ v.toInt) (h3 : v.toInt ≤ 3) (hs : s.toInt = zS5 (zKs K k)) : r.toInt = zS5 (zKs K (k + 1)) := by
  have hf := zKs_01 (K := K) k
  have rr := zS5_r hf
  have q := zor3_tab ⟨s.toInt.toNat, by omega⟩ ⟨v.toInt.toNat, by omega⟩
  have e1 : ((s.toInt.toNat : Nat) : Int) = zS5 (zKs K k) := by omega
  have e2 : ((v.toInt.toNat : Nat) : Int) = v.toInt := by omega
  have es : Int32.ofNat s.toInt.toNat = s := (z_ofn (by omega)).symm
  have ev : Int32.ofNat v.toInt.toNat = v := (z_ofn (by omega)).symm
  simp only [e1, e2, es, ev] at q
  have b0 : zS5 (zKs K k) / 1 % 2 = zKs K k 0 := zS5_bit hf (b := 0) (by omega)
  have b1 : zS5 (zKs K k) / 2 % 2 = zKs K k 1 := zS5_bit hf (b := 1) (by omega)
  have b2 : zS5 (zKs K k) / 4 % 2 = zKs K k 2 := zS5_bit hf (b := 2) (by omega)
  have b3 : zS5 (zKs K k) / 8 % 2 = zKs K k 3 := zS5_bit hf (b := 3) (by omega)
  have b4 : zS5 (zKs K k) / 16 % 2 = zKs K k 4 := zS5_bit hf (b := 4) (by omega)
  rw [b0, b1, b2, b3, b4] at q
  rw [e, ex, q, hv]
  rfl
/-- a set's first bit -/
theorem zb0_tab : ∀ n : Fin 32, (Int32.ofNat n.val &&& 1).toInt = (n.val : Int) / 1 % 2 := by decide +kernel
theorem z_b0 {s y : Int32} {f : Nat → Int} (h : z01 f) (hs : s.toInt = zS5 f) (e : y = s &&& 1) : y.toInt = f 0 := by
  have r := zS5_r h
  have q : (Int32.ofNat s.toInt.toNat &&& 1).toInt = ((s.toInt.toNat : Nat) : Int) / 1 % 2 := zb0_tab ⟨s.toInt.toNat, by omega⟩
  have e2 : ((s.toInt.toNat : Nat) : Int) = zS5 f := by omega
  have es : Int32.ofNat s.toInt.toNat = s := (z_ofn (by omega)).symm
  have b0 : zS5 f / 1 % 2 = f 0 := zS5_bit h (b := 0) (by omega)
  rw [e2, es, b0] at q
  rw [e, q]
def zAcnt (lots n held : Int) (P K : Nat → Int32) (w : Int) : Int := if w = 0 then lots else if w = 1 then n else if w = 2 then held else if w = 3 then zOw P n.toNat else if w = 4 then zC5 (zKs K lots.toNat) else -1
theorem zKs_4 {K : Nat → Int32} : ∀ k : Nat, (∀ j : Nat, j < k → (K j).toInt ≤ 3) → zKs K k 4 = 0 := by
  intro k
  induction k with
  | zero => intro _; rfl
  | succ k ih =>
    intro h
    have := h k (by omega)
    show (if (K k).toInt = ((4 : Nat) : Int) then (1 : Int) else zKs K k 4) = 0
    rw [if_neg (by omega)]
    exact ih fun j hj => h j (by omega)
/-! a ring's gain together -/
def zPw (n : Int) : Int := if n = 0 then 1 else if n = 1 then 2 else if n = 2 then 4 else if n = 3 then 8 else if n = 4 then 16 else 32
theorem zpw_tab : ∀ k : Fin 6, ((1 : Int32) <<< (Int32.ofNat k.val &&& 31)).toInt = zPw (k.val : Int) := by decide +kernel
theorem z_pw {x b : Int32} {k : Int} (ex : x = (1 : Int32) <<< (b &&& 31)) (hb : b.toInt = k) (h0 : 0 ≤ k) (h5 : k ≤ 5) : x.toInt = zPw k := by
  have q : ((1 : Int32) <<< (Int32.ofNat k.toNat &&& 31)).toInt = zPw ((k.toNat : Nat) : Int) := zpw_tab ⟨k.toNat, by omega⟩
  have e1 : ((k.toNat : Nat) : Int) = k := by omega
  have eb : Int32.ofNat k.toNat = b := by rw [← hb]; exact (z_ofn (by omega)).symm
  rw [e1, eb] at q
  rw [ex, q]
/-- what those of a set have together, of the first k -/
def zGs (f g : Nat → Int) : Nat → Int
  | 0 => 0
  | k + 1 => zGs f g k + (if f k = 1 then g k else 0)
theorem zGs_1 {f g : Nat → Int} {k : Nat} (h : f k = 1) : zGs f g (k + 1) = zGs f g k + g k := by
  show zGs f g k + (if _ then _ else _) = _
  rw [if_pos h]
theorem zGs_0 {f g : Nat → Int} {k : Nat} (h : f k ≠ 1) : zGs f g (k + 1) = zGs f g k := by
  show zGs f g k + (if _ then _ else _) = _
  rw [if_neg h]
  omega
theorem zGs_cg {f g h : Nat → Int} : ∀ k : Nat, (∀ b : Nat, b < k → f b = 1 → g b = h b) → zGs f g k = zGs f h k := by
  intro k
  induction k with
  | zero => intro _; rfl
  | succ k ih =>
    intro e
    have q := ih fun b hb => e b (by omega)
    by_cases c : f k = 1
    · rw [zGs_1 c, zGs_1 c, q, e k (by omega) c]
    · rw [zGs_0 c, zGs_0 c, q]
theorem zGs_out {f g : Nat → Int} {k : Nat} (h5 : k ≤ 5) (h : ∀ b : Nat, k ≤ b → b < 5 → f b ≠ 1) : zGs f g k = zGs f g 5 := by
  have key : ∀ d : Nat, k + d ≤ 5 → zGs f g (k + d) = zGs f g k := by
    intro d
    induction d with
    | zero => intro _; rfl
    | succ d ih =>
      intro hd
      rw [← ih (by omega)]
      exact zGs_0 (h (k + d) (by omega) (by omega))
  have := key (5 - k) (by omega)
  rw [show k + (5 - k) = 5 by omega] at this
  exact this.symm
theorem zGs_bn {f g : Nat → Int} {m : Int} (hm : 0 ≤ m) : ∀ k : Nat, (∀ b : Nat, b < k → f b = 1 → -m ≤ g b ∧ g b ≤ m) → -(m * k) ≤ zGs f g k ∧ zGs f g k ≤ m * k := by
  intro k
  induction k with
  | zero =>
    intro _
    show -(m * ((0 : Nat) : Int)) ≤ 0 ∧ 0 ≤ m * ((0 : Nat) : Int)
    rw [show ((0 : Nat) : Int) = 0 from rfl, Int.mul_zero]
    omega
  | succ k ih =>
    intro e
    have q := ih fun b hb => e b (by omega)
    have d : m * ((k + 1 : Nat) : Int) = m * (k : Int) + m := by
      rw [show ((k + 1 : Nat) : Int) = (k : Int) + 1 by omega, Int.mul_add, Int.mul_one]
    by_cases c : f k = 1
    · have := e k (by omega) c
      rw [zGs_1 c, d]
      omega
    · rw [zGs_0 c, d]
      omega
/-- who is in a set of the first n is one of the first n -/
theorem zlt_tab : ∀ (s : Fin 32) (n : Fin 6) (b : Fin 5), (s.val : Int) < zPw (n.val : Int) → zbit (Int32.ofNat s.val) (Int32.ofNat b.val) = 1 → b.val < n.val := by decide +kernel
theorem zib_n {s : Int32} {n : Int} {b : Nat} (h0 : 0 ≤ s.toInt) (n0 : 0 ≤ n) (n5 : n ≤ 5) (hs : s.toInt < zPw n) (hb : b < 5) (h : zib s b = 1) : (b : Int) < n := by
  have p : zPw n ≤ 32 := by
    unfold zPw
    repeat' split
    all_goals omega
  have e1 : ((n.toNat : Nat) : Int) = n := by omega
  have e2 : ((s.toInt.toNat : Nat) : Int) = s.toInt := by omega
  have es : Int32.ofNat s.toInt.toNat = s := (z_ofn (by omega)).symm
  have q : ((s.toInt.toNat : Nat) : Int) < zPw ((n.toNat : Nat) : Int) → zbit (Int32.ofNat s.toInt.toNat) (Int32.ofNat b) = 1 → b < n.toNat := zlt_tab ⟨s.toInt.toNat, by omega⟩ ⟨n.toNat, by omega⟩ ⟨b, hb⟩
  rw [e1, e2, es] at q
  have := q hs h
  omega
/-- two of a set at least -/
theorem ztwo_tab : ∀ s : Fin 32, ((Int32.ofNat s.val &&& (Int32.ofNat s.val - 1)) = 0 ∨ s.val = 0) ↔ (zPop (Int32.ofNat s.val)).toInt < 2 := by decide +kernel
theorem z_two {s y z : Int32} (h0 : 0 ≤ s.toInt) (h1 : s.toInt ≤ 31) (ey : y = s - 1) (ez : z = s &&& y) : (z.toInt = 0 ∨ s.toInt = 0) ↔ (zPop s).toInt < 2 := by
  have q := ztwo_tab ⟨s.toInt.toNat, by omega⟩
  have es : Int32.ofNat s.toInt.toNat = s := (z_ofn (by omega)).symm
  simp only [es] at q
  rw [ez, ey]
  constructor
  · intro k
    rcases k with k | k
    · exact q.mp (Or.inl (Int32.toInt_inj.mp (k.trans rfl)))
    · exact q.mp (Or.inr (by omega))
  · intro k
    rcases q.mpr k with c | c
    · rw [c]
      exact Or.inl rfl
    · exact Or.inr (by omega)
def zAring (n : Int) (s : Int32) (G G0 : Nat → Int) : Int := if 0 ≤ s.toInt ∧ s.toInt < zPw n ∧ 2 ≤ (zPop s).toInt then zGs (zib s) G 5 - zGs (zib s) G0 5 else -100001
/-! the best margin -/
/-- all as they are but one -/
def zAt (M : Nat → Int) (b m : Int) : Nat → Int := fun j => if (j : Int) = b then m else M j
theorem zRw_upd {n : Int} {F : Nat → Int32} {i v : Int32} {b : Int} (hi : i.toInt = b) (h0 : 0 ≤ b) (hn : b < n) : zRw n (upd F i.toNatClampNeg v) = zAt (zRw n F) b v.toInt := by
  have q := z_tn' hi h0
  funext j
  unfold zRw zAt
  by_cases c : (j : Int) = b
  · rw [if_pos (by omega), if_pos c, upd_eq (by omega)]
  · rw [if_neg c, upd_ne (by omega)]
theorem zAt_2 {M : Nat → Int} {b m q : Int} : zAt (zAt M b m) b q = zAt M b q := by
  funext j
  unfold zAt
  by_cases c : (j : Int) = b
  · rw [if_pos c, if_pos c]
  · rw [if_neg c, if_neg c, if_neg c]
/-- of the first k: the first of the greatest -/
def zBs (g : Nat → Int) : Nat → Int × Int
  | 0 => (0, 0)
  | k + 1 => if k = 0 ∨ (zBs g k).2 < g k then ((k : Int), g k) else zBs g k
theorem zBs_1 {g : Nat → Int} {k : Nat} (h : k = 0 ∨ (zBs g k).2 < g k) : zBs g (k + 1) = ((k : Int), g k) := if_pos h
theorem zBs_0 {g : Nat → Int} {k : Nat} (h : ¬ (k = 0 ∨ (zBs g k).2 < g k)) : zBs g (k + 1) = zBs g k := if_neg h
/-! by a law -/
theorem zByL_1 {L : Nat → Int32} {n : Int} {S V : Nat → Int32} {M : Nat → Int} {law kd : Int} {P H : Nat → Int} (h : law = 1) : zByL L n S V M law kd P H = zRis L n S V kd P H := if_pos h
theorem zByL_2 {L : Nat → Int32} {n : Int} {S V : Nat → Int32} {M : Nat → Int} {law kd : Int} {P H : Nat → Int} (h : law = 2) : zByL L n S V M law kd P H = zSea L n S V M kd P H := (if_neg (by omega)).trans (if_pos h)
theorem zByL_f {L : Nat → Int32} {n : Int} {S V : Nat → Int32} {M : Nat → Int} {law : Int} (h1 : law ≠ 1) (h2 : law ≠ 2) : zByL L n S V M law = zFl L n S V M 0 := by
  funext kd P H
  exact (if_neg h1).trans (if_neg h2)
theorem zGs_rw {s : Int32} {n : Int} {F : Nat → Int32} {X : Nat → Int} (h0 : 0 ≤ s.toInt) (n0 : 0 ≤ n) (n5 : n ≤ 5) (hs : s.toInt < zPw n) (hX : zRw n F = X) : zGs (zib s) (zIv F) 5 = zGs (zib s) X 5 := zGs_cg 5 fun b hb h => by
  have q := zib_n h0 n0 n5 hs hb h
  rw [← hX, zRw_at q]
  rfl
/-- what b gains by the margin m, all others as they are -/
def zBg (L : Nat → Int32) (n : Int) (S V : Nat → Int32) (M K P : Nat → Int) (lots : Nat) (b : Int) (m : Nat) : Int := (zSm L n S V (zAt M b (m : Int)) 0 K P lots).2.2.1 b.toNat
def zAbe (n b : Int) (G : Nat → Int) : Int := if b < 0 ∨ 5 ≤ b ∨ n ≤ b then -1 else (zBs G 41).1
/-- a row of margins in which b's stands for any -/
def zMb (n b : Int) (X : Nat → Int) (F : Nat → Int32) : Prop := iMa F ∧ ∀ m : Int, zAt (zRw n F) b m = zAt X b m
def zMp (n b : Int) (X : Nat → Int) (m : Int) (F : Nat → Int32) : Prop := iMa F ∧ zRw n F = zAt X b m
theorem zMb_0 {n b : Int} {X : Nat → Int} {F : Nat → Int32} (h : iMa F) (e : zRw n F = X) : zMb n b X F := ⟨h, fun m => by rw [e]⟩
theorem zMb_of {n b : Int} {X : Nat → Int} {m : Int} {F : Nat → Int32} (h : zMp n b X m F) : zMb n b X F := ⟨h.1, fun q => by rw [h.2, zAt_2]⟩
theorem zMp_put {n b : Int} {X : Nat → Int} {m : Int} {F : Nat → Int32} {i v : Int32} (h : zMb n b X F) (hI : iMa (upd F i.toNatClampNeg v)) (hi : i.toInt = b) (h0 : 0 ≤ b) (hn : b < n) (hv : v.toInt = m) : zMp n b X m (upd F i.toNatClampNeg v) := ⟨hI, by rw [zRw_upd hi h0 hn, h.2 v.toInt, hv]⟩
/-- a row's first k -/
def zEP (I : (Nat → Int32) → Prop) (X : Nat → Int) (k : Int) (F : Nat → Int32) : Prop := I F ∧ zTo X k F
theorem zEP_eq {I : (Nat → Int32) → Prop} {X : Nat → Int} {a b : Int} {F : Nat → Int32} (h : zEP I X a F) (e : a = b) : zEP I X b F := e ▸ h
theorem zEP_put {I : (Nat → Int32) → Prop} {X : Nat → Int} {k c : Int} {F : Nat → Int32} {i v : Int32} (h : zEP I X k F) (hI : I (upd F i.toNatClampNeg v)) (hi : i.toInt = k) (h0 : 0 ≤ k) (hv : v.toInt = c) (hc : c = X i.toNatClampNeg) : zEP I X (k + 1) (upd F i.toNatClampNeg v) := ⟨hI, zTo_put h.2 hi h0 hv hc⟩
