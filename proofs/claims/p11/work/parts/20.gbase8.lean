/-! sets of five as numbers -/
/-- the k-th of a set, as a number -/
def zbit (s k : Int32) : Int := ((s >>> (k &&& 31)) &&& 1).toInt
theorem zbit_eq {s k y r : Int32} (e0 : y = s >>> (k &&& 31)) (e1 : r = y &&& 1) : zbit s k = r.toInt := by
  rw [e1, e0]
  rfl
theorem z_ofn {x : Int32} (h : 0 ≤ x.toInt) : x = Int32.ofNat x.toInt.toNat := by
  have h2 := Int32.toInt_lt x
  apply Int32.toInt_inj.mp
  rw [Int32.toInt_ofNat_of_lt (by omega)]
  omega
/-- those b below 5 with f b = 1 -/
def zS5 (f : Nat → Int) : Int := f 0 + 2 * f 1 + 4 * f 2 + 8 * f 3 + 16 * f 4
/-- how many they are -/
def zC5 (f : Nat → Int) : Int := f 0 + f 1 + f 2 + f 3 + f 4
/-- the first of them -/
def zF5 (f : Nat → Int) : Int := if f 0 = 1 then 0 else if f 1 = 1 then 1 else if f 2 = 1 then 2 else if f 3 = 1 then 3 else if f 4 = 1 then 4 else -1
/-- those below k -/
def zSk (f : Nat → Int) (k : Int) : Int := (if 0 < k then f 0 else 0) + (if 1 < k then 2 * f 1 else 0) + (if 2 < k then 4 * f 2 else 0) + (if 3 < k then 8 * f 3 else 0) + (if 4 < k then 16 * f 4 else 0)
def z01 (f : Nat → Int) : Prop := ∀ b : Nat, f b = 0 ∨ f b = 1
def zP2 (k : Int) : Int := if k = 0 then 1 else if k = 1 then 2 else if k = 2 then 4 else if k = 3 then 8 else 16
theorem zS5_r {f : Nat → Int} (h : z01 f) : 0 ≤ zS5 f ∧ zS5 f ≤ 31 ∧ 0 ≤ zC5 f ∧ zC5 f ≤ 5 := by
  have h0 := h 0
  have h1 := h 1
  have h2 := h 2
  have h3 := h 3
  have h4 := h 4
  unfold zS5 zC5
  omega
theorem zS5_0 {f : Nat → Int} (h : z01 f) (e : zS5 f = 0) : f 0 = 0 ∧ f 1 = 0 ∧ f 2 = 0 ∧ f 3 = 0 ∧ f 4 = 0 := by
  have h0 := h 0
  have h1 := h 1
  have h2 := h 2
  have h3 := h 3
  have h4 := h 4
  unfold zS5 at e
  omega
theorem zS5_at0 {f : Nat → Int} (h : z01 f) (e : zS5 f = 0) {b : Nat} (hb : b < 5) : f b = 0 := by
  have q := zS5_0 h e
  have k : b = 0 ∨ b = 1 ∨ b = 2 ∨ b = 3 ∨ b = 4 := by omega
  rcases k with rfl | rfl | rfl | rfl | rfl
  · exact q.1
  · exact q.2.1
  · exact q.2.2.1
  · exact q.2.2.2.1
  · exact q.2.2.2.2
theorem zS5_all0 {f : Nat → Int} (h : ∀ b : Nat, b < 5 → f b = 0) : zS5 f = 0 := by
  unfold zS5
  rw [h 0 (by omega), h 1 (by omega), h 2 (by omega), h 3 (by omega), h 4 (by omega)]
  rfl
theorem zS5_ext {f g : Nat → Int} (h : ∀ b : Nat, b < 5 → f b = g b) : zS5 f = zS5 g ∧ zC5 f = zC5 g ∧ zF5 f = zF5 g := by
  unfold zS5 zC5 zF5
  rw [h 0 (by omega), h 1 (by omega), h 2 (by omega), h 3 (by omega), h 4 (by omega)]
  exact ⟨rfl, rfl, rfl⟩
theorem zSk_0 {f : Nat → Int} : zSk f 0 = 0 := by
  unfold zSk
  rw [if_neg (by omega), if_neg (by omega), if_neg (by omega), if_neg (by omega), if_neg (by omega)]
  rfl
theorem zSk_5 {f : Nat → Int} {k : Int} (h : 5 ≤ k) : zSk f k = zS5 f := by
  unfold zSk zS5
  rw [if_pos (by omega), if_pos (by omega), if_pos (by omega), if_pos (by omega), if_pos (by omega)]
theorem zSk_1 {f : Nat → Int} {k : Int} (h0 : 0 ≤ k) (h4 : k ≤ 4) (h : f k.toNat = 1) : zSk f (k + 1) = zSk f k + zP2 k := by
  have q : k = 0 ∨ k = 1 ∨ k = 2 ∨ k = 3 ∨ k = 4 := by omega
  rcases q with rfl | rfl | rfl | rfl | rfl
  · have h : f 0 = 1 := h
    show (f 0) + 0 + 0 + 0 + 0 = 0 + 0 + 0 + 0 + 0 + 1
    omega
  · have h : f 1 = 1 := h
    show (f 0) + 2 * f 1 + 0 + 0 + 0 = f 0 + 0 + 0 + 0 + 0 + 2
    omega
  · have h : f 2 = 1 := h
    show (f 0) + 2 * f 1 + 4 * f 2 + 0 + 0 = f 0 + 2 * f 1 + 0 + 0 + 0 + 4
    omega
  · have h : f 3 = 1 := h
    show (f 0) + 2 * f 1 + 4 * f 2 + 8 * f 3 + 0 = f 0 + 2 * f 1 + 4 * f 2 + 0 + 0 + 8
    omega
  · have h : f 4 = 1 := h
    show (f 0) + 2 * f 1 + 4 * f 2 + 8 * f 3 + 16 * f 4 = f 0 + 2 * f 1 + 4 * f 2 + 8 * f 3 + 0 + 16
    omega
theorem zSk_n {f : Nat → Int} {k : Int} (h0 : 0 ≤ k) (h4 : k ≤ 4) (h : f k.toNat = 0) : zSk f (k + 1) = zSk f k := by
  have q : k = 0 ∨ k = 1 ∨ k = 2 ∨ k = 3 ∨ k = 4 := by omega
  rcases q with rfl | rfl | rfl | rfl | rfl
  · have h : f 0 = 0 := h
    show (f 0) + 0 + 0 + 0 + 0 = 0 + 0 + 0 + 0 + 0
    omega
  · have h : f 1 = 0 := h
    show (f 0) + 2 * f 1 + 0 + 0 + 0 = f 0 + 0 + 0 + 0 + 0
    omega
  · have h : f 2 = 0 := h
    show (f 0) + 2 * f 1 + 4 * f 2 + 0 + 0 = f 0 + 2 * f 1 + 0 + 0 + 0
    omega
  · have h : f 3 = 0 := h
    show (f 0) + 2 * f 1 + 4 * f 2 + 8 * f 3 + 0 = f 0 + 2 * f 1 + 4 * f 2 + 0 + 0
    omega
  · have h : f 4 = 0 := h
    show (f 0) + 2 * f 1 + 4 * f 2 + 8 * f 3 + 16 * f 4 = f 0 + 2 * f 1 + 4 * f 2 + 8 * f 3 + 0
    omega
theorem zSk_r {f : Nat → Int} (h : z01 f) {k : Int} (h0 : 0 ≤ k) (h4 : k ≤ 4) : 0 ≤ zSk f k ∧ zSk f k < zP2 k := by
  have a0 := h 0
  have a1 := h 1
  have a2 := h 2
  have a3 := h 3
  have q : k = 0 ∨ k = 1 ∨ k = 2 ∨ k = 3 ∨ k = 4 := by omega
  rcases q with rfl | rfl | rfl | rfl | rfl
  · show 0 ≤ (0 : Int) + 0 + 0 + 0 + 0 ∧ (0 : Int) + 0 + 0 + 0 + 0 < 1
    omega
  · show 0 ≤ f 0 + 0 + 0 + 0 + 0 ∧ f 0 + 0 + 0 + 0 + 0 < 2
    omega
  · show 0 ≤ f 0 + 2 * f 1 + 0 + 0 + 0 ∧ f 0 + 2 * f 1 + 0 + 0 + 0 < 4
    omega
  · show 0 ≤ f 0 + 2 * f 1 + 4 * f 2 + 0 + 0 ∧ f 0 + 2 * f 1 + 4 * f 2 + 0 + 0 < 8
    omega
  · show 0 ≤ f 0 + 2 * f 1 + 4 * f 2 + 8 * f 3 + 0 ∧ f 0 + 2 * f 1 + 4 * f 2 + 8 * f 3 + 0 < 16
    omega
theorem zP2_r {k : Int} : 1 ≤ zP2 k ∧ zP2 k ≤ 16 := by
  unfold zP2
  repeat' split
  all_goals omega
theorem zor_tab : ∀ (k : Fin 5) (n : Fin 16), (n.val : Int) < zP2 (k.val : Int) → (Int32.ofNat n.val ||| ((1 : Int32) <<< (Int32.ofNat k.val &&& 31))).toInt = (n.val : Int) + zP2 (k.val : Int) := by decide +kernel
/-- b comes to a set of those below b -/
theorem zor_bit {r s x b : Int32} {k : Int} (e : r = s ||| x) (ex : x = (1 : Int32) <<< (b &&& 31)) (hb : b.toInt = k) (h0 : 0 ≤ k) (h4 : k ≤ 4) (hs : 0 ≤ s.toInt) (hl : s.toInt < zP2 k) : r.toInt = s.toInt + zP2 k := by
  have p := zP2_r (k := k)
  have q := zor_tab ⟨k.toNat, by omega⟩ ⟨s.toInt.toNat, by omega⟩
  have e1 : ((k.toNat : Nat) : Int) = k := by omega
  have e2 : ((s.toInt.toNat : Nat) : Int) = s.toInt := by omega
  have eb : Int32.ofNat k.toNat = b := by rw [← hb]; exact (z_ofn (by omega)).symm
  have es : Int32.ofNat s.toInt.toNat = s := (z_ofn hs).symm
  have q : (s.toInt.toNat : Int) < zP2 (k.toNat : Int) → (Int32.ofNat s.toInt.toNat ||| ((1 : Int32) <<< (Int32.ofNat k.toNat &&& 31))).toInt = (s.toInt.toNat : Int) + zP2 (k.toNat : Int) := q
  rw [e1, e2, eb, es] at q
  rw [e, ex]
  exact q hl
theorem zbit_tab : ∀ (n : Fin 32) (k : Fin 5), zbit (Int32.ofNat n.val) (Int32.ofNat k.val) = (n.val : Int) / zP2 (k.val : Int) % 2 := by decide +kernel
theorem zS5_bit {f : Nat → Int} (h : z01 f) {b : Nat} (hb : b < 5) : zS5 f / zP2 (b : Int) % 2 = f b := by
  have h0 := h 0
  have h1 := h 1
  have h2 := h 2
  have h3 := h 3
  have h4 := h 4
  have k : b = 0 ∨ b = 1 ∨ b = 2 ∨ b = 3 ∨ b = 4 := by omega
  unfold zS5
  rcases k with rfl | rfl | rfl | rfl | rfl
  · show (f 0 + 2 * f 1 + 4 * f 2 + 8 * f 3 + 16 * f 4) / 1 % 2 = f 0
    omega
  · show (f 0 + 2 * f 1 + 4 * f 2 + 8 * f 3 + 16 * f 4) / 2 % 2 = f 1
    omega
  · show (f 0 + 2 * f 1 + 4 * f 2 + 8 * f 3 + 16 * f 4) / 4 % 2 = f 2
    omega
  · show (f 0 + 2 * f 1 + 4 * f 2 + 8 * f 3 + 16 * f 4) / 8 % 2 = f 3
    omega
  · show (f 0 + 2 * f 1 + 4 * f 2 + 8 * f 3 + 16 * f 4) / 16 % 2 = f 4
    omega
/-- the k-th of a set that is told -/
theorem zbit_S {x b : Int32} {f : Nat → Int} {k : Int} (h : z01 f) (hx : x.toInt = zS5 f) (hb : b.toInt = k) (h0 : 0 ≤ k) (h4 : k ≤ 4) : zbit x b = f k.toNat := by
  have r := zS5_r h
  have q : zbit (Int32.ofNat x.toInt.toNat) (Int32.ofNat k.toNat) = ((x.toInt.toNat : Nat) : Int) / zP2 (k.toNat : Int) % 2 := zbit_tab ⟨x.toInt.toNat, by omega⟩ ⟨k.toNat, by omega⟩
  have e2 : ((x.toInt.toNat : Nat) : Int) = zS5 f := by omega
  have eb : Int32.ofNat k.toNat = b := by rw [← hb]; exact (z_ofn (by omega)).symm
  have es : Int32.ofNat x.toInt.toNat = x := (z_ofn (by omega)).symm
  rw [e2, eb, es, zS5_bit h (by omega)] at q
  exact q
theorem zandn_tab : ∀ (n m : Fin 32), (Int32.ofNat n.val &&& (Int32.ofNat m.val ^^^ -1)).toInt = (if (n.val : Int) / 1 % 2 = 1 ∧ (m.val : Int) / 1 % 2 = 0 then (1 : Int) else 0) + 2 * (if (n.val : Int) / 2 % 2 = 1 ∧ (m.val : Int) / 2 % 2 = 0 then (1 : Int) else 0) + 4 * (if (n.val : Int) / 4 % 2 = 1 ∧ (m.val : Int) / 4 % 2 = 0 then (1 : Int) else 0) + 8 * (if (n.val : Int) / 8 % 2 = 1 ∧ (m.val : Int) / 8 % 2 = 0 then (1 : Int) else 0) + 16 * (if (n.val : Int) / 16 % 2 = 1 ∧ (m.val : Int) / 16 % 2 = 0 then (1 : Int) else 0) := by decide +kernel
/-- those of f that are not of g -/
def zNo (f g : Nat → Int) : Nat → Int := fun b => if f b = 1 ∧ g b = 0 then 1 else 0
theorem zNo_01 (f g : Nat → Int) : z01 (zNo f g) := fun b => by
  unfold zNo
  split
  · exact Or.inr rfl
  · exact Or.inl rfl
theorem z_andn {r o s : Int32} {f g : Nat → Int} (e : r = o &&& (s ^^^ -1)) (hf : z01 f) (hg : z01 g) (ho : o.toInt = zS5 f) (hs : s.toInt = zS5 g) : r.toInt = zS5 (zNo f g) := by
  have rf := zS5_r hf
  have rg := zS5_r hg
  have q := zandn_tab ⟨o.toInt.toNat, by omega⟩ ⟨s.toInt.toNat, by omega⟩
  have e1 : ((o.toInt.toNat : Nat) : Int) = zS5 f := by omega
  have e2 : ((s.toInt.toNat : Nat) : Int) = zS5 g := by omega
  have eo : Int32.ofNat o.toInt.toNat = o := (z_ofn (by omega)).symm
  have es : Int32.ofNat s.toInt.toNat = s := (z_ofn (by omega)).symm
  simp only [e1, e2, eo, es] at q
  rw [e, q]
  have b0 : zS5 f / 1 % 2 = f 0 := zS5_bit hf (b := 0) (by omega)
  have b1 : zS5 f / 2 % 2 = f 1 := zS5_bit hf (b := 1) (by omega)
  have b2 : zS5 f / 4 % 2 = f 2 := zS5_bit hf (b := 2) (by omega)
  have b3 : zS5 f / 8 % 2 = f 3 := zS5_bit hf (b := 3) (by omega)
  have b4 : zS5 f / 16 % 2 = f 4 := zS5_bit hf (b := 4) (by omega)
  have c0 : zS5 g / 1 % 2 = g 0 := zS5_bit hg (b := 0) (by omega)
  have c1 : zS5 g / 2 % 2 = g 1 := zS5_bit hg (b := 1) (by omega)
  have c2 : zS5 g / 4 % 2 = g 2 := zS5_bit hg (b := 2) (by omega)
  have c3 : zS5 g / 8 % 2 = g 3 := zS5_bit hg (b := 3) (by omega)
  have c4 : zS5 g / 16 % 2 = g 4 := zS5_bit hg (b := 4) (by omega)
  rw [b0, b1, b2, b3, b4, c0, c1, c2, c3, c4]
  rfl
theorem zone_tab : ∀ (k : Fin 5), ((1 : Int32) <<< (Int32.ofNat k.val &&& 31)).toInt = zP2 (k.val : Int) := by decide +kernel
/-- b alone -/
def zJu (k : Int) : Nat → Int := fun b => if (b : Int) = k then 1 else 0
theorem zJu_01 (k : Int) : z01 (zJu k) := fun b => by
  unfold zJu
  split
  · exact Or.inr rfl
  · exact Or.inl rfl
theorem z_one {x b : Int32} {k : Int} (ex : x = (1 : Int32) <<< (b &&& 31)) (hb : b.toInt = k) (h0 : 0 ≤ k) (h4 : k ≤ 4) : x.toInt = zP2 k ∧ x.toInt = zS5 (zJu k) := by
  have q : ((1 : Int32) <<< (Int32.ofNat k.toNat &&& 31)).toInt = zP2 ((k.toNat : Nat) : Int) := zone_tab ⟨k.toNat, by omega⟩
  have e1 : ((k.toNat : Nat) : Int) = k := by omega
  have eb : Int32.ofNat k.toNat = b := by rw [← hb]; exact (z_ofn (by omega)).symm
  rw [e1, eb] at q
  rw [ex, q]
  refine ⟨rfl, ?_⟩
  have c : k = 0 ∨ k = 1 ∨ k = 2 ∨ k = 3 ∨ k = 4 := by omega
  rcases c with rfl | rfl | rfl | rfl | rfl <;> rfl
/-! a lot, breath by breath: who has it (-1: nobody), for how much, the last breath, how often the bell rings -/
abbrev zO : Type := Int × Int × Int × Int
def zRunN (st fl dr be : Int) (c : Int → Int → Nat → Int) : Nat → Int → Int → Int → Int → zO
  | 0, _, _, _, _ => (-1, 0, 0, 0)
  | f + 1, p, a, br, bl => if p < fl then (-1, 0, br - 1, bl) else if zS5 (c p a) = 0 then zRunN st fl dr be c f (p - dr) p (br + 1) bl else if zC5 (c p a) = 1 ∨ be = 0 ∨ 3 ≤ bl then (zF5 (c p a), p, br, bl) else zRunN st fl dr be c f (min st (p + 9)) p (br + 1) (bl + 1)
def zRun (st fl dr be : Int) (c : Int → Int → Nat → Int) (p a br bl : Int) : zO := zRunN st fl dr be c (((3 - bl) * 200 + p + 10).toNat + 1) p a br bl
theorem zRunN_any {st fl dr be : Int} {c : Int → Int → Nat → Int} (hd : 1 ≤ dr) (hf : 0 ≤ fl) : ∀ (f g : Nat) (p a br bl : Int), bl ≤ 3 → (3 - bl) * 200 + p + 10 < f → (3 - bl) * 200 + p + 10 < g → 0 < f → 0 < g → zRunN st fl dr be c f p a br bl = zRunN st fl dr be c g p a br bl := by
  intro f
  induction f with
  | zero => intro g p a br bl h0 h1 h2 h3; omega
  | succ f ih =>
    intro g p a br bl h0 h1 h2 h3 h4
    obtain ⟨g, rfl⟩ : ∃ k, g = k + 1 := ⟨g - 1, by omega⟩
    show (if _ then _ else _) = (if _ then _ else _)
    by_cases c1 : p < fl
    · rw [if_pos c1, if_pos c1]
    · rw [if_neg c1, if_neg c1]
      by_cases c2 : zS5 (c p a) = 0
      · rw [if_pos c2, if_pos c2]
        exact ih g _ _ _ _ h0 (by omega) (by omega) (by omega) (by omega)
      · rw [if_neg c2, if_neg c2]
        by_cases c3 : zC5 (c p a) = 1 ∨ be = 0 ∨ 3 ≤ bl
        · rw [if_pos c3, if_pos c3]
        · rw [if_neg c3, if_neg c3]
          have m := Int.min_le_right st (p + 9)
          exact ih g _ _ _ _ (by omega) (by omega) (by omega) (by omega) (by omega)
theorem zRun_out {st fl dr be : Int} {c : Int → Int → Nat → Int} {p a br bl : Int} (h : p < fl) : zRun st fl dr be c p a br bl = (-1, 0, br - 1, bl) := by
  unfold zRun
  show (if _ then _ else _) = _
  rw [if_pos h]
theorem zRun_fall {st fl dr be : Int} {c : Int → Int → Nat → Int} {p a br bl : Int} (hd : 1 ≤ dr) (hf : 0 ≤ fl) (hb : bl ≤ 3) (h : fl ≤ p) (h0 : zS5 (c p a) = 0) : zRun st fl dr be c p a br bl = zRun st fl dr be c (p - dr) p (br + 1) bl := by
  unfold zRun
  show (if _ then _ else _) = _
  rw [if_neg (by omega), if_pos h0]
  exact zRunN_any hd hf _ _ _ _ _ _ hb (by omega) (by omega) (by omega) (by omega)
theorem zRun_had {st fl dr be : Int} {c : Int → Int → Nat → Int} {p a br bl : Int} (h : fl ≤ p) (h0 : zS5 (c p a) ≠ 0) (h1 : zC5 (c p a) = 1 ∨ be = 0 ∨ 3 ≤ bl) : zRun st fl dr be c p a br bl = (zF5 (c p a), p, br, bl) := by
  unfold zRun
  show (if _ then _ else _) = _
  rw [if_neg (by omega), if_neg h0, if_pos h1]
theorem zRun_bell {st fl dr be : Int} {c : Int → Int → Nat → Int} {p a br bl : Int} (hd : 1 ≤ dr) (hf : 0 ≤ fl) (hb : bl ≤ 3) (h : fl ≤ p) (h0 : zS5 (c p a) ≠ 0) (h1 : ¬ (zC5 (c p a) = 1 ∨ be = 0 ∨ 3 ≤ bl)) : zRun st fl dr be c p a br bl = zRun st fl dr be c (min st (p + 9)) p (br + 1) (bl + 1) := by
  have m := Int.min_le_right st (p + 9)
  unfold zRun
  show (if _ then _ else _) = _
  rw [if_neg (by omega), if_neg h0, if_neg h1]
  exact zRunN_any hd hf _ _ _ _ _ _ (by omega) (by omega) (by omega) (by omega) (by omega)
/-- the price ahead, k breaths on -/
def zAh (p a dr : Int) (k : Nat) : Int := if k = 0 then a else p - ((k : Int) - 1) * dr
theorem zRun_leap {st fl dr be : Int} {c : Int → Int → Nat → Int} {p a br bl : Int} (hd : 1 ≤ dr) (hf : 0 ≤ fl) (hb : bl ≤ 3) : ∀ k : Nat, (∀ i : Nat, i < k → fl ≤ p - (i : Int) * dr ∧ zS5 (c (p - (i : Int) * dr) (zAh p a dr i)) = 0) → zRun st fl dr be c p a br bl = zRun st fl dr be c (p - (k : Int) * dr) (zAh p a dr k) (br + k) bl := by
  intro k
  induction k with
  | zero =>
    intro h
    have e1 : p - ((0 : Nat) : Int) * dr = p := by
      rw [Int.ofNat_zero, Int.zero_mul]
      omega
    have e2 : zAh p a dr 0 = a := rfl
    have e3 : br + ((0 : Nat) : Int) = br := by omega
    rw [e1, e2, e3]
  | succ k ih =>
    intro h
    rw [ih (fun i hi => h i (by omega))]
    have hk := h k (by omega)
    rw [zRun_fall hd hf hb hk.1 hk.2]
    have e0 : ((k + 1 : Nat) : Int) * dr = (k : Int) * dr + dr := by
      rw [show ((k + 1 : Nat) : Int) = (k : Int) + 1 by omega, Int.add_mul, Int.one_mul]
    have e1 : p - ((k + 1 : Nat) : Int) * dr = p - (k : Int) * dr - dr := by omega
    have e2 : zAh p a dr (k + 1) = p - (k : Int) * dr := by
      unfold zAh
      rw [if_neg (by omega), show ((k + 1 : Nat) : Int) - 1 = (k : Int) by omega]
    have e3 : br + ((k + 1 : Nat) : Int) = br + k + 1 := by omega
    rw [e1, e2, e3]
