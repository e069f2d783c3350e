/-! rows of margins 0, 8, 16, 24 by their numbers -/
def zP4 (k : Int) : Int := if k = 0 then 1 else if k = 1 then 4 else if k = 2 then 16 else if k = 3 then 64 else if k = 4 then 256 else 1024
def zDg (n r b : Int) : Int := r / zP4 (n - 1 - b) % 4
/-- the row's number with another digit for b -/
def zRd (n r b d : Int) : Int := r - zDg n r b * zP4 (n - 1 - b) + d * zP4 (n - 1 - b)
def zMr (n r : Int) : Nat → Int := fun j => if (j : Int) < n then 8 * zDg n r j else 0
def zRg (L : Nat → Int32) (n : Int) (S V : Nat → Int32) (K P : Nat → Int) (lots : Nat) (r : Int) : Nat → Int := (zSm L n S V (zMr n r) 0 K P lots).2.2.1
theorem zP4_c {k : Int} (h0 : 0 ≤ k) (h4 : k ≤ 4) : (k = 0 ∧ zP4 k = 1) ∨ (k = 1 ∧ zP4 k = 4) ∨ (k = 2 ∧ zP4 k = 16) ∨ (k = 3 ∧ zP4 k = 64) ∨ (k = 4 ∧ zP4 k = 256) := by
  have q : k = 0 ∨ k = 1 ∨ k = 2 ∨ k = 3 ∨ k = 4 := by omega
  rcases q with rfl | rfl | rfl | rfl | rfl
  · exact Or.inl ⟨rfl, rfl⟩
  · exact Or.inr (Or.inl ⟨rfl, rfl⟩)
  · exact Or.inr (Or.inr (Or.inl ⟨rfl, rfl⟩))
  · exact Or.inr (Or.inr (Or.inr (Or.inl ⟨rfl, rfl⟩)))
  · exact Or.inr (Or.inr (Or.inr (Or.inr ⟨rfl, rfl⟩)))
theorem zP4_n {n : Int} (h0 : 0 ≤ n) (h5 : n ≤ 5) : (n = 0 ∧ zP4 n = 1) ∨ (n = 1 ∧ zP4 n = 4) ∨ (n = 2 ∧ zP4 n = 16) ∨ (n = 3 ∧ zP4 n = 64) ∨ (n = 4 ∧ zP4 n = 256) ∨ (n = 5 ∧ zP4 n = 1024) := by
  by_cases c : n = 5
  · subst c
    exact Or.inr (Or.inr (Or.inr (Or.inr (Or.inr ⟨rfl, rfl⟩))))
  · have := zP4_c (k := n) h0 (by omega)
    omega
theorem zRd_r {n r b d : Int} (hb0 : 0 ≤ b) (hbn : b < n) (h5 : n ≤ 5) (hr0 : 0 ≤ r) (hr : r < zP4 n) (hd0 : 0 ≤ d) (hd : d ≤ 3) : 0 ≤ zRd n r b d ∧ zRd n r b d < zP4 n := by
  have N := zP4_n (n := n) (by omega) h5
  have q := zP4_c (k := n - 1 - b) (by omega) (by omega)
  unfold zRd zDg
  generalize zP4 n = m at N hr ⊢
  rcases q with q | q | q | q | q <;> rw [q.2] <;> omega
theorem zDg_r {n r b : Int} : 0 ≤ zDg n r b ∧ zDg n r b ≤ 3 := by
  unfold zDg
  omega
theorem z_p4 {u s : Int32} {t : Int} (eu : u = (1 : Int32) <<< (s &&& 31)) (hs : s.toInt = 2 * t) (ht0 : 0 ≤ t) (ht1 : t ≤ 5) : u.toInt = zP4 t := by
  have hq : t = 0 ∨ t = 1 ∨ t = 2 ∨ t = 3 ∨ t = 4 ∨ t = 5 := by omega
  rcases hq with w | w | w | w | w | w
  · have hz : s = 0 := Int32.toInt_inj.mp (hs.trans (by rw [w]; rfl))
    rw [eu, hz, w]
    decide
  · have hz : s = 2 := Int32.toInt_inj.mp (hs.trans (by rw [w]; rfl))
    rw [eu, hz, w]
    decide
  · have hz : s = 4 := Int32.toInt_inj.mp (hs.trans (by rw [w]; rfl))
    rw [eu, hz, w]
    decide
  · have hz : s = 6 := Int32.toInt_inj.mp (hs.trans (by rw [w]; rfl))
    rw [eu, hz, w]
    decide
  · have hz : s = 8 := Int32.toInt_inj.mp (hs.trans (by rw [w]; rfl))
    rw [eu, hz, w]
    decide
  · have hz : s = 10 := Int32.toInt_inj.mp (hs.trans (by rw [w]; rfl))
    rw [eu, hz, w]
    decide
/-- a digit of a row's number -/
theorem zdig_tab : ∀ (r : Fin 1024) (t : Fin 5), ((Int32.ofNat r.val >>> (Int32.ofNat (2 * t.val) &&& 31)) &&& 3).toInt = (r.val : Int) / zP4 (t.val : Int) % 4 := by decide +kernel
theorem z_dig {r s y z : Int32} {t : Int} (ey : y = r >>> (s &&& 31)) (ez : z = y &&& 3) (hs : s.toInt = 2 * t) (ht0 : 0 ≤ t) (ht1 : t ≤ 4) (h0 : 0 ≤ r.toInt) (h1 : r.toInt ≤ 1023) : z.toInt = r.toInt / zP4 t % 4 := by
  have q := zdig_tab ⟨r.toInt.toNat, by omega⟩ ⟨t.toNat, by omega⟩
  have e1 : ((r.toInt.toNat : Nat) : Int) = r.toInt := by omega
  have e2 : ((t.toNat : Nat) : Int) = t := by omega
  have er : Int32.ofNat r.toInt.toNat = r := (z_ofn (by omega)).symm
  have es : Int32.ofNat (2 * t.toNat) = s := by
    rw [show 2 * t.toNat = s.toInt.toNat by omega]
    exact (z_ofn (by omega)).symm
  simp only [e1, e2, er, es] at q
  rw [ez, ey]
  exact q
/-- all but a digit -/
theorem zoth_tab : ∀ (r : Fin 1024) (t : Fin 5), (Int32.ofNat r.val &&& (((3 : Int32) <<< (Int32.ofNat (2 * t.val) &&& 31)) ^^^ -1)).toInt = (r.val : Int) - (r.val : Int) / zP4 (t.val : Int) % 4 * zP4 (t.val : Int) := by decide +kernel
theorem z_oth {r s y1 y2 y3 : Int32} {t : Int} (e1 : y1 = (3 : Int32) <<< (s &&& 31)) (e2 : y2 = y1 ^^^ -1) (e3 : y3 = r &&& y2) (hs : s.toInt = 2 * t) (ht0 : 0 ≤ t) (ht1 : t ≤ 4) (h0 : 0 ≤ r.toInt) (h1 : r.toInt ≤ 1023) : y3.toInt = r.toInt - r.toInt / zP4 t % 4 * zP4 t := by
  have q := zoth_tab ⟨r.toInt.toNat, by omega⟩ ⟨t.toNat, by omega⟩
  have d1 : ((r.toInt.toNat : Nat) : Int) = r.toInt := by omega
  have d2 : ((t.toNat : Nat) : Int) = t := by omega
  have er : Int32.ofNat r.toInt.toNat = r := (z_ofn (by omega)).symm
  have es : Int32.ofNat (2 * t.toNat) = s := by
    rw [show 2 * t.toNat = s.toInt.toNat by omega]
    exact (z_ofn (by omega)).symm
  simp only [d1, d2, er, es] at q
  rw [e3, e2, e1]
  exact q
/-- .. and another in its place -/
theorem zano_tab : ∀ (t : Fin 5) (d : Fin 4) (r : Fin 1024), (Int32.ofNat r.val &&& (((3 : Int32) <<< (Int32.ofNat (2 * t.val) &&& 31)) ^^^ -1) ||| (Int32.ofNat d.val <<< (Int32.ofNat (2 * t.val) &&& 31))).toInt = (r.val : Int) - (r.val : Int) / zP4 (t.val : Int) % 4 * zP4 (t.val : Int) + (d.val : Int) * zP4 (t.val : Int) := by decide +kernel
theorem z_ano {r s y1 y2 y3 y4 y5 d : Int32} {t : Int} (e1 : y1 = (3 : Int32) <<< (s &&& 31)) (e2 : y2 = y1 ^^^ -1) (e3 : y3 = r &&& y2) (e4 : y4 = d <<< (s &&& 31)) (e5 : y5 = y3 ||| y4) (hs : s.toInt = 2 * t) (ht0 : 0 ≤ t) (ht1 : t ≤ 4) (h0 : 0 ≤ r.toInt) (h1 : r.toInt ≤ 1023) (hd0 : 0 ≤ d.toInt) (hd3 : d.toInt ≤ 3) : y5.toInt = r.toInt - r.toInt / zP4 t % 4 * zP4 t + d.toInt * zP4 t := by
  have q := zano_tab ⟨t.toNat, by omega⟩ ⟨d.toInt.toNat, by omega⟩ ⟨r.toInt.toNat, by omega⟩
  have d1 : ((r.toInt.toNat : Nat) : Int) = r.toInt := by omega
  have d2 : ((t.toNat : Nat) : Int) = t := by omega
  have d3 : ((d.toInt.toNat : Nat) : Int) = d.toInt := by omega
  have er : Int32.ofNat r.toInt.toNat = r := (z_ofn (by omega)).symm
  have ed : Int32.ofNat d.toInt.toNat = d := (z_ofn (by omega)).symm
  have es : Int32.ofNat (2 * t.toNat) = s := by
    rw [show 2 * t.toNat = s.toInt.toNat by omega]
    exact (z_ofn (by omega)).symm
  simp only [d1, d2, d3, er, ed, es] at q
  rw [e5, e4, e3, e2, e1]
  exact q
theorem z_mu4 {r m u : Int32} {t : Int} (e : r = m * u) (h0 : 0 ≤ m.toInt) (h3 : m.toInt ≤ 3) (hu : u.toInt = zP4 t) (ht0 : 0 ≤ t) (ht1 : t ≤ 4) : r.toInt = m.toInt * zP4 t ∧ 0 ≤ r.toInt ∧ r.toInt ≤ 768 := by
  have k := zP4_c ht0 ht1
  rcases k with k | k | k | k | k
  all_goals
    rw [k.2] at hu ⊢
    have hp := zi_mul e (show m.toInt = m.toInt from rfl) hu (by omega) (by omega)
    omega
/-- nobody would gain more by another one of the four -/
def zRs (n : Int) (G : Int → Nat → Int) (r : Int) : Prop := ∀ b : Nat, b < 5 → (b : Int) < n → ∀ d : Nat, d < 4 → G (zRd n r b d) b ≤ G r b
/-- .. the first b of them, and b by the first d -/
def zRp (n : Int) (G : Int → Nat → Int) (r b d : Int) : Prop := (∀ c : Nat, (c : Int) < b → (c : Int) < n → ∀ e : Nat, e < 4 → G (zRd n r c e) c ≤ G r c) ∧ ∀ e : Nat, (e : Int) < d → G (zRd n r b e) b.toNat ≤ G r b.toNat
theorem zRp_0 {n : Int} {G : Int → Nat → Int} {r : Int} : zRp n G r 0 0 := ⟨fun c h => by omega, fun e h => by omega⟩
theorem zRp_d {n : Int} {G : Int → Nat → Int} {r b d : Int} (h : zRp n G r b d) (hg : G (zRd n r b d) b.toNat ≤ G r b.toNat) : zRp n G r b (d + 1) := ⟨h.1, fun e he => by
  by_cases c : (e : Int) = d
  · rw [c]
    exact hg
  · exact h.2 e (by omega)⟩
theorem zRp_b {n : Int} {G : Int → Nat → Int} {r b d : Int} (h : zRp n G r b d) (h0 : 0 ≤ b) (hd : 4 ≤ d) : zRp n G r (b + 1) 0 := ⟨fun c hc hn e he => by
  by_cases q : (c : Int) = b
  · have k := h.2 e (by omega)
    rw [← q, Int.toNat_natCast] at k
    exact k
  · exact h.1 c (by omega) hn e he, fun e he => by omega⟩
theorem zRp_eq {n : Int} {G : Int → Nat → Int} {r b d x y : Int} (h : zRp n G r b d) (e1 : b = x) (e2 : d = y) : zRp n G r x y := e1 ▸ e2 ▸ h
theorem zRs_of {n : Int} {G : Int → Nat → Int} {r b d : Int} (h : zRp n G r b d) (hb : n ≤ b) : zRs n G r := fun c _ hn e he => h.1 c (by omega) hn e he
theorem zRs_no {n : Int} {G : Int → Nat → Int} {r b d : Int} (b0 : 0 ≤ b) (b5 : b < 5) (bn : b < n) (d0 : 0 ≤ d) (d4 : d < 4) (h : G r b.toNat < G (zRd n r b d) b.toNat) : ¬ zRs n G r := fun q => by
  have k := q b.toNat (by omega) (by omega) d.toNat (by omega)
  rw [show ((b.toNat : Nat) : Int) = b by omega, show ((d.toNat : Nat) : Int) = d by omega] at k
  omega
def zRf (n : Int) (G : Int → Nat → Int) (r : Nat) : Int := if (∀ b : Nat, b < 5 → (b : Int) < n → ∀ d : Nat, d < 4 → G (zRd n (r : Int) b d) b ≤ G (r : Int) b) then 1 else 0
theorem zRf_1 {n : Int} {G : Int → Nat → Int} {r : Nat} (h : zRs n G r) : zRf n G r = 1 := if_pos h
theorem zRf_0 {n : Int} {G : Int → Nat → Int} {r : Nat} (h : ¬ zRs n G r) : zRf n G r = 0 := if_neg h
/-- of the first k: how many, the first -/
def zCn (f : Nat → Int) : Nat → Int × Int
  | 0 => (0, -1)
  | k + 1 => if f k = 1 then ((zCn f k).1 + 1, if (zCn f k).1 = 0 then (k : Int) else (zCn f k).2) else zCn f k
theorem zCn_1 {f : Nat → Int} {k : Nat} (h : f k = 1) : zCn f (k + 1) = ((zCn f k).1 + 1, if (zCn f k).1 = 0 then (k : Int) else (zCn f k).2) := if_pos h
theorem zCn_0 {f : Nat → Int} {k : Nat} (h : f k ≠ 1) : zCn f (k + 1) = zCn f k := if_neg h
theorem zCn_r {f : Nat → Int} : ∀ k : Nat, 0 ≤ (zCn f k).1 ∧ (zCn f k).1 ≤ k ∧ -1 ≤ (zCn f k).2 ∧ (zCn f k).2 < k ∧ ((zCn f k).1 = 0 → (zCn f k).2 = -1) ∧ (1 ≤ (zCn f k).1 → 0 ≤ (zCn f k).2) := by
  intro k
  induction k with
  | zero => exact ⟨show (0 : Int) ≤ 0 by decide, show (0 : Int) ≤ ((0 : Nat) : Int) by decide, show (-1 : Int) ≤ -1 by decide, show (-1 : Int) < ((0 : Nat) : Int) by decide, fun _ => rfl, fun h => absurd (show (1 : Int) ≤ 0 from h) (by decide)⟩
  | succ k ih =>
    by_cases c : f k = 1
    · rw [zCn_1 c]
      by_cases d : (zCn f k).1 = 0
      · rw [if_pos d]
        exact ⟨show 0 ≤ (zCn f k).1 + 1 by omega, show (zCn f k).1 + 1 ≤ ((k + 1 : Nat) : Int) by omega, show -1 ≤ (k : Int) by omega, show (k : Int) < ((k + 1 : Nat) : Int) by omega, fun h => absurd (show (zCn f k).1 + 1 = 0 from h) (by omega), fun _ => show 0 ≤ (k : Int) by omega⟩
      · rw [if_neg d]
        exact ⟨show 0 ≤ (zCn f k).1 + 1 by omega, show (zCn f k).1 + 1 ≤ ((k + 1 : Nat) : Int) by omega, show -1 ≤ (zCn f k).2 by omega, show (zCn f k).2 < ((k + 1 : Nat) : Int) by omega, fun h => absurd (show (zCn f k).1 + 1 = 0 from h) (by omega), fun _ => show 0 ≤ (zCn f k).2 by omega⟩
    · rw [zCn_0 c]
      omega
def zArst (n a : Int) (f : Nat → Int) : Int := if a < -1 ∨ 5 ≤ a then -1 else if n ≤ 0 then -2 else if n ≤ a then -4 else if a < 0 then (zCn f (zP4 n).toNat).1 else if (zCn f (zP4 n).toNat).2 < 0 then -4 else 8 * zDg n (zCn f (zP4 n).toNat).2 a
/-- the gains of the first k rows -/
def zTb (n : Int) (G : Int → Nat → Int) (k : Int) (F : Nat → Int32) : Prop := ∀ r b : Nat, (r : Int) < k → b < 5 → (b : Int) < n → (F (5 * r + b)).toInt = G (r : Int) b
theorem zTb_0 {n : Int} {G : Int → Nat → Int} {F : Nat → Int32} : zTb n G 0 F := fun r b h => by omega
theorem zTb_eq {n : Int} {G : Int → Nat → Int} {a b : Int} {F : Nat → Int32} (h : zTb n G a F) (e : a = b) : zTb n G b F := e ▸ h
theorem zTb_at {n : Int} {G : Int → Nat → Int} {k r b : Int} {F : Nat → Int32} {i y : Int32} (h : zTb n G k F) (e : y = F i.toNatClampNeg) (hi : i.toInt = 5 * r + b) (h0 : 0 ≤ r) (hk : r < k) (b0 : 0 ≤ b) (b5 : b < 5) (bn : b < n) : y.toInt = G r b.toNat := by
  have q := z_tn' hi (by omega)
  have k := h r.toNat b.toNat (by omega) (by omega) (by omega)
  rw [show ((r.toNat : Nat) : Int) = r by omega, show 5 * r.toNat + b.toNat = i.toNatClampNeg by omega, ← e] at k
  exact k
theorem zTb_cpy {n : Int} {G : Int → Nat → Int} {k : Int} {F Z : Nat → Int32} {i : Int32} (h : zTb n G k Z) (hi : i.toInt = 5 * k) (h0 : 0 ≤ k) (hG : zRw n F = G k) : zTb n G (k + 1) (va_cpy F Z 0 i.toNatClampNeg 5) := by
  have q := z_tn' hi (by omega)
  intro r b hr hb hn
  show (if i.toNatClampNeg ≤ 5 * r + b ∧ 5 * r + b < i.toNatClampNeg + 5 then F (0 + (5 * r + b - i.toNatClampNeg)) else Z (5 * r + b)).toInt = G (r : Int) b
  by_cases c : (r : Int) = k
  · rw [if_pos ⟨by omega, by omega⟩, show 0 + (5 * r + b - i.toNatClampNeg) = b by omega, c, ← hG, zRw_at hn]
  · rw [if_neg (by omega)]
    exact h r b (by omega) hb hn
theorem zMr_i {n r : Int} {i : Int32} (h0 : 0 ≤ i.toInt) (hn : i.toInt < n) : zMr n r i.toNatClampNeg = 8 * zDg n r i.toInt := by
  have q := z_tn' (i := i) rfl h0
  unfold zMr
  rw [if_pos (by omega), q]
/-- .. and of the next row's the first b -/
def zTc (n : Int) (G : Int → Nat → Int) (r k : Int) (F : Nat → Int32) : Prop := zTb n G r F ∧ ∀ b : Nat, (b : Int) < k → b < 5 → (F (5 * r.toNat + b)).toInt = G r b
theorem zTc_0 {n : Int} {G : Int → Nat → Int} {r : Int} {F : Nat → Int32} (h : zTb n G r F) : zTc n G r 0 F := ⟨h, fun b hb => by omega⟩
theorem zTc_eq {n : Int} {G : Int → Nat → Int} {r a b : Int} {F : Nat → Int32} (h : zTc n G r a F) (e : a = b) : zTc n G r b F := e ▸ h
theorem zTc_put {n : Int} {G : Int → Nat → Int} {r k : Int} {F : Nat → Int32} {i v : Int32} (h : zTc n G r k F) (hi : i.toInt = 5 * r + k) (h0 : 0 ≤ r) (k0 : 0 ≤ k) (k5 : k < 5) (hv : v.toInt = G r k.toNat) : zTc n G r (k + 1) (upd F i.toNatClampNeg v) := by
  have q := z_tn' hi (by omega)
  refine ⟨fun c b hc hb hn => ?_, fun b hb h5 => ?_⟩
  · rw [upd_ne (by omega)]
    exact h.1 c b hc hb hn
  · by_cases c : (b : Int) = k
    · rw [upd_eq (by omega), hv, show k.toNat = b by omega]
    · rw [upd_ne (by omega)]
      exact h.2 b (by omega) h5
theorem zTc_end {n : Int} {G : Int → Nat → Int} {r k : Int} {F : Nat → Int32} (h : zTc n G r k F) (e : n ≤ k) (h0 : 0 ≤ r) : zTb n G (r + 1) F := fun c b hc hb hn => by
  by_cases q : (c : Int) = r
  · rw [show c = r.toNat by omega, show ((r.toNat : Nat) : Int) = r by omega]
    exact h.2 b (by omega) hb
  · exact h.1 c b (by omega) hb hn
