/-! the kinds that a text of lots tells -/
/-- place n of a row of numbers becomes v -/
def zPt (T : Nat → Int) (n v : Int) : Nat → Int := fun j => if (j : Int) = n then v else T j
def zLoKN (F : Nat → Int32) (len : Int) : Nat → Int → Int → (Nat → Int) → (Nat → Int)
  | 0, _, _, T => T
  | f + 1, p, n, T => if p < len ∧ 48 ≤ zc F p ∧ zc F p ≤ 51 ∧ n < 6 then (if zsk F len (p + 1) < len then zLoKN F len f (zsk F len (p + 1)) (n + 1) (zPt T n (zc F p - 48)) else zPt T n (zc F p - 48)) else T
def zLoK (F : Nat → Int32) (len p n : Int) (T : Nat → Int) : Nat → Int := zLoKN F len (7 - n).toNat p n T
theorem zLoK_last {F : Nat → Int32} {len p n : Int} {T : Nat → Int} (hb : p < len ∧ 48 ≤ zc F p ∧ zc F p ≤ 51 ∧ n < 6) (hl : len ≤ zsk F len (p + 1)) : zLoK F len p n T = zPt T n (zc F p - 48) := by
  unfold zLoK
  rw [show (7 - n).toNat = (7 - (n + 1)).toNat + 1 by omega]
  show (if _ then _ else _) = _
  rw [if_pos hb, if_neg (by omega)]
theorem zLoK_more {F : Nat → Int32} {len p n : Int} {T : Nat → Int} (hb : p < len ∧ 48 ≤ zc F p ∧ zc F p ≤ 51 ∧ n < 6) (hl : zsk F len (p + 1) < len) : zLoK F len p n T = zLoK F len (zsk F len (p + 1)) (n + 1) (zPt T n (zc F p - 48)) := by
  unfold zLoK
  rw [show (7 - n).toNat = (7 - (n + 1)).toNat + 1 by omega]
  show (if _ then _ else _) = _
  rw [if_pos hb, if_pos hl]
theorem zLoK_bad {F : Nat → Int32} {len p n : Int} {T : Nat → Int} (h : n ≤ 6) (hb : ¬ (p < len ∧ 48 ≤ zc F p ∧ zc F p ≤ 51 ∧ n < 6)) : zLoK F len p n T = T := by
  unfold zLoK
  rw [show (7 - n).toNat = (7 - (n + 1)).toNat + 1 by omega]
  show (if _ then _ else _) = _
  rw [if_neg hb]
theorem zLoK_congr {F G : Nat → Int32} {len : Int} (e : ∀ a : Int, 0 ≤ a → a < len → zc F a = zc G a) : ∀ (f : Nat) (p n : Int) (T : Nat → Int), 7 - n ≤ f → 0 ≤ p → n ≤ 6 → zLoK F len p n T = zLoK G len p n T := by
  intro f
  induction f with
  | zero => intro p n T h; omega
  | succ f ih =>
    intro p n T h h0 h6
    by_cases q : p < len ∧ 48 ≤ zc F p ∧ zc F p ≤ 51 ∧ n < 6
    · have q2 : p < len ∧ 48 ≤ zc G p ∧ zc G p ≤ 51 ∧ n < 6 := by rw [← e p h0 q.1]; exact q
      have sk := zsk_congr e (len - (p + 1)).toNat (p + 1) (by omega) (by omega)
      have r := zsk_r (F := F) (show p + 1 ≤ len by omega)
      by_cases g : zsk F len (p + 1) < len
      · rw [zLoK_more q g, zLoK_more q2 (by omega), sk, e p h0 q.1]
        exact ih _ _ _ (by omega) (by omega) (by omega)
      · rw [zLoK_last q (by omega), zLoK_last q2 (by omega), e p h0 q.1]
    · have q2 : ¬ (p < len ∧ 48 ≤ zc G p ∧ zc G p ≤ 51 ∧ n < 6) := fun q2 => q (by rw [e p h0 q2.1]; exact q2)
      rw [zLoK_bad h6 q, zLoK_bad h6 q2]
/-- the kinds -/
def zLotK (F : Nat → Int32) (len : Int) : Nat → Int := zLoK F len (zsk F len 0) 0 (fun _ => 0)
theorem zLotK_congr {F G : Nat → Int32} {len : Int} (h : 0 ≤ len) (e : ∀ a : Int, 0 ≤ a → a < len → zc F a = zc G a) : zLotK F len = zLotK G len := by
  unfold zLotK
  have sk := zsk_congr e len.toNat 0 (by omega) (by omega)
  have r := zsk_r (F := G) h
  rw [sk]
  exact zLoK_congr e 7 _ _ _ (by omega) (by omega) (by omega)
/-- at most six -/
theorem zLo_r {F : Nat → Int32} {len : Int} : ∀ (f : Nat) (p n : Int), 7 - n ≤ f → 0 ≤ p → n ≤ 6 → 0 ≤ n → zLo F len p n ≤ 6 ∧ (zLo F len p n ≤ -20 ∨ n + 1 ≤ zLo F len p n) := by
  intro f
  induction f with
  | zero => intro p n h; omega
  | succ f ih =>
    intro p n h h0 h6 hn
    by_cases q : p < len ∧ 48 ≤ zc F p ∧ zc F p ≤ 51 ∧ n < 6
    · have r := zsk_r (F := F) (show p + 1 ≤ len by omega)
      by_cases g : zsk F len (p + 1) < len
      · rw [zLo_more q g]
        have := ih (zsk F len (p + 1)) (n + 1) (by omega) (by omega) (by omega) (by omega)
        omega
      · rw [zLo_last q (by omega)]
        omega
    · rw [zLo_bad h6 q]
      omega
theorem zLots_r {F : Nat → Int32} {len : Int} (h : 0 ≤ len) : zLots F len ≤ 6 ∧ (zLots F len ≤ -20 ∨ 1 ≤ zLots F len) := by
  have r := zsk_r (F := F) h
  have := zLo_r (F := F) (len := len) 7 (zsk F len 0) 0 (by omega) (by omega) (by omega) (by omega)
  unfold zLots
  omega
/-- the first n of a row, as numbers -/
def zRw (n : Int) (F : Nat → Int32) : Nat → Int := fun b => if (b : Int) < n then (F b).toInt else 0
theorem zRw_0 {F : Nat → Int32} : zRw 0 F = fun _ => 0 := by
  funext b
  unfold zRw
  rw [if_neg (by omega)]
theorem zRw_at {n : Int} {F : Nat → Int32} {b : Nat} (h : (b : Int) < n) : zRw n F b = (F b).toInt := by
  unfold zRw
  rw [if_pos h]
theorem zRw_ext {n : Int} {F G : Nat → Int32} (h : ∀ j : Nat, (j : Int) < n → F j = G j) : zRw n F = zRw n G := by
  funext b
  unfold zRw
  by_cases q : (b : Int) < n
  · rw [if_pos q, if_pos q, h b q]
  · rw [if_neg q, if_neg q]
theorem zRw_more {n : Int} {F : Nat → Int32} {i v : Int32} {c : Int} (hi : i.toInt = n) (h0 : 0 ≤ n) (hv : v.toInt = c) : zRw (n + 1) (upd F i.toNatClampNeg v) = zPt (zRw n F) n c := by
  have q := z_tn' hi h0
  funext b
  unfold zRw zPt
  by_cases g : (b : Int) = n
  · rw [if_pos (by omega), if_pos g, upd_eq (by omega), hv]
  · rw [if_neg g, upd_ne (by omega)]
    show _ = (if (b : Int) < n then (F b).toInt else 0)
    by_cases c : (b : Int) < n
    · rw [if_pos c, if_pos (by omega)]
    · rw [if_neg c, if_neg (by omega)]
/-- at a place of a text of lots, n told in a row: what is to come is the text's -/
def zKR (Z : Nat → Int32) (len p n : Int) (T : Nat → Int32) : Prop := zLoK Z len p n (zRw n T) = zLotK Z len
theorem zKR_0 {Z T : Nat → Int32} {len p : Int} (e : p = zsk Z len 0) : zKR Z len p 0 T := by
  unfold zKR zLotK
  rw [zRw_0, e]
theorem zKR_eq {Z T : Nat → Int32} {len p q n k : Int} (h : zKR Z len p n T) (e : p = q) (e2 : n = k) : zKR Z len q k T := e ▸ e2 ▸ h
/-- behind a lot: as zKR at the next place, or all is told -/
def zKQ (Z : Nat → Int32) (len p n : Int) (T : Nat → Int32) : Prop := (zsk Z len (p + 1) < len → zKR Z len (zsk Z len (p + 1)) (n + 1) T) ∧ (len ≤ zsk Z len (p + 1) → zRw (n + 1) T = zLotK Z len)
theorem zKR_put {Z T : Nat → Int32} {len p n : Int} {i v : Int32} (h : zKR Z len p n T) (hb : p < len ∧ 48 ≤ zc Z p ∧ zc Z p ≤ 51 ∧ n < 6) (hi : i.toInt = n) (h0 : 0 ≤ n) (hv : v.toInt = zc Z p - 48) : zKQ Z len p n (upd T i.toNatClampNeg v) := by
  have e := zRw_more (F := T) hi h0 hv
  unfold zKR at h
  refine ⟨fun hl => ?_, fun hl => ?_⟩
  · unfold zKR
    rw [e, ← h, zLoK_more hb hl]
  · rw [e, ← h, zLoK_last hb hl]
theorem zKQ_eq {Z T : Nat → Int32} {len p q n k : Int} (h : zKQ Z len p n T) (e : p = q) (e2 : n = k) : zKQ Z len q k T := e ▸ e2 ▸ h
/-- told: the row's first are the text's kinds, if it is one -/
def zKT (Z : Nat → Int32) (len : Int) (T : Nat → Int32) : Prop := 1 ≤ zLots Z len → zRw (zLots Z len) T = zLotK Z len
theorem zKT_neg {Z T : Nat → Int32} {len : Int} (h : zLots Z len ≤ 0) : zKT Z len T := fun q => by omega
theorem zKT_of {Z T : Nat → Int32} {len p n : Int} (h : zKQ Z len p n T) (hl : len ≤ zsk Z len (p + 1)) (e : n + 1 = zLots Z len) : zKT Z len T := fun _ => by
  rw [← e]
  exact h.2 hl
theorem zKT_at {Z T : Nat → Int32} {len : Int} {j : Nat} (h : zKT Z len T) (h1 : 1 ≤ zLots Z len) (hj : (j : Int) < zLots Z len) : (T j).toInt = zLotK Z len j := by
  rw [← h h1, zRw_at hj]
/-- the row of kinds behind a text -/
def zKdP (Z : Nat → Int32) (len : Int) (O F : Nat → Int32) : Prop := (1 ≤ zLots Z len → ∀ j : Nat, (j : Int) < zLots Z len → (F j).toInt = zLotK Z len j) ∧ (zLots Z len ≤ 0 → F = O)
theorem zKdP_same {Z O : Nat → Int32} {len : Int} (h : zLots Z len ≤ 0) : zKdP Z len O O := ⟨fun q => by omega, fun _ => rfl⟩
theorem zKdP_cpy {Z T O : Nat → Int32} {len : Int} (h : zKT Z len T) (h1 : 1 ≤ zLots Z len) (h0 : 0 ≤ len) : zKdP Z len O (va_cpy T O 0 0 6) := ⟨fun q j hj => by
  have := zLots_r (F := Z) h0
  rw [z_cpy (by omega)]
  exact zKT_at h h1 hj, fun q => by omega⟩
/-! the books -/
/-- RULES, how many LOTS, their KINDS, how many BUYERS, their SORTS, PURSES, MARGINS, WORTHS (nothing behind the last buyer), how many MORNINGS were held -/
abbrev zBk : Type := (Nat → Int32) × Int × (Nat → Int32) × Int × (Nat → Int32) × (Nat → Int32) × (Nat → Int32) × (Nat → Int32) × Int
def zBk.mk (L : Nat → Int32) (lots : Int) (K : Nat → Int32) (n : Int) (S P M V : Nat → Int32) (held : Int) : zBk := (L, lots, K, n, S, P, M, V, held)
def zBk.L (B : zBk) : Nat → Int32 := B.1
def zBk.lots (B : zBk) : Int := B.2.1
def zBk.K (B : zBk) : Nat → Int32 := B.2.2.1
def zBk.n (B : zBk) : Int := B.2.2.2.1
def zBk.S (B : zBk) : Nat → Int32 := B.2.2.2.2.1
def zBk.P (B : zBk) : Nat → Int32 := B.2.2.2.2.2.1
def zBk.M (B : zBk) : Nat → Int32 := B.2.2.2.2.2.2.1
def zBk.V (B : zBk) : Nat → Int32 := B.2.2.2.2.2.2.2.1
def zBk.held (B : zBk) : Int := B.2.2.2.2.2.2.2.2
/-- kinds of lots, as they are told -/
def iKd (F : Nat → Int32) : Prop := ∀ j : Nat, j < 6 → 0 ≤ (F j).toInt ∧ (F j).toInt ≤ 3
theorem iKd_at {F : Nat → Int32} {i y : Int32} {a : Int} (h : iKd F) (hi : i.toInt = a) (h0 : 0 ≤ a) (h1 : a ≤ 5) (e : y = F i.toNatClampNeg) : 0 ≤ y.toInt ∧ y.toInt ≤ 3 := by
  have q := z_tn' hi h0
  rw [e]
  exact h _ (by omega)
theorem iKd_put {F : Nat → Int32} {k : Nat} {v : Int32} (h : iKd F) (h0 : 0 ≤ v.toInt) (h1 : v.toInt ≤ 3) : iKd (upd F k v) := by
  intro j hj
  by_cases q : j = k
  · rw [upd_eq q]
    exact ⟨h0, h1⟩
  · rw [upd_ne q]
    exact h j hj
theorem iKd_cpy {F G : Nat → Int32} (h : iKd F) : iKd (va_cpy F G 0 0 6) := fun j hj => by
  rw [z_cpy hj]
  exact h j hj
theorem iLaw_n {F : Nat → Int32} {i y : Int32} {a lo hi : Int} (h : iLaw F) (hi1 : i.toInt = a) (ha : 0 ≤ a) (h4 : a ≤ 4) (e : y = F i.toNatClampNeg) (e1 : zlo a = lo) (e2 : zhi a = hi) : lo ≤ y.toInt ∧ y.toInt ≤ hi := by
  rw [← e1, ← e2]
  exact iLaw_at h hi1 ha h4 e
/-- what rule answers -/
def zAr (L : Nat → Int32) (a v : Int) : Int := if zfI a v = 1 then (L a.toNat).toInt else -1
theorem zLwP_of0 {Z T L F : Nat → Int32} {len : Int} (h : zNL T 0 L F) (h0 : zLaw Z len ≤ 0) : zLwP Z len L F := fun j hj => by
  rw [h j hj]
  unfold zNLF zLwF
  rw [if_neg (by omega), if_neg (by omega)]
def zKI (Z : Nat → Int32) (len p n : Int) (T : Nat → Int32) : Prop := iKd T ∧ zKR Z len p n T
def zKH (Z : Nat → Int32) (len p n : Int) (T : Nat → Int32) : Prop := iKd T ∧ zKQ Z len p n T
def zKJ (Z : Nat → Int32) (len : Int) (T : Nat → Int32) : Prop := iKd T ∧ zKT Z len T
def zKdQ (Z : Nat → Int32) (len : Int) (O F : Nat → Int32) : Prop := iKd F ∧ zKdP Z len O F
theorem zKI_eq {Z T : Nat → Int32} {len p q n k : Int} (h : zKI Z len p n T) (e : p = q) (e2 : n = k) : zKI Z len q k T := ⟨h.1, zKR_eq h.2 e e2⟩
theorem zKI_put {Z T : Nat → Int32} {len p n : Int} {i v : Int32} (h : zKI Z len p n T) (hb : p < len ∧ 48 ≤ zc Z p ∧ zc Z p ≤ 51 ∧ n < 6) (hi : i.toInt = n) (h0 : 0 ≤ n) (hv : v.toInt = zc Z p - 48) (v0 : 0 ≤ v.toInt) (v3 : v.toInt ≤ 3) : zKH Z len p n (upd T i.toNatClampNeg v) := ⟨iKd_put h.1 v0 v3, zKR_put h.2 hb hi h0 hv⟩
/-- at the head of a law's loop, the place behind the last rule's number, n told -/
def zRH (Z : Nat → Int32) (len A n : Int) (T : Nat → Int32) : Prop := (n = 0 → zRL Z len (zsk Z len A) 0 T) ∧ (1 ≤ n → zCt T = n ∧ (zsk Z len A < len → zRL Z len (zsk Z len A) n T) ∧ (len ≤ zsk Z len A → zLaw Z len = n ∧ ∀ j : Nat, j < 5 → T j = zLawT Z len j))
theorem zRH_0 {Z F : Nat → Int32} {len : Int} (h : zFilK (-1) 5 F) (h0 : 0 ≤ zsk Z len 0) : zRH Z len 0 0 F := ⟨fun _ => zRL_0 h rfl h0, fun q => by omega⟩
theorem zRH_eq {Z T : Nat → Int32} {len A D n k : Int} (h : zRH Z len A n T) (e : A = D) (e2 : n = k) : zRH Z len D k T := e ▸ e2 ▸ h
theorem zRH_of {Z T : Nat → Int32} {len p A n : Int} (h : zRQ Z len p n T) (he : A = ze Z len p) (h0 : 0 ≤ n) : zRH Z len A (n + 1) T := by
  rw [he]
  exact ⟨fun q => by omega, fun _ => ⟨h.1, h.2.1, h.2.2⟩⟩
/-- how many of the first k rules are told -/
def zCk (T : Nat → Int32) (k : Int) : Int := (if 0 < k ∧ 0 ≤ (T 0).toInt then 1 else 0) + (if 1 < k ∧ 0 ≤ (T 1).toInt then 1 else 0) + (if 2 < k ∧ 0 ≤ (T 2).toInt then 1 else 0) + (if 3 < k ∧ 0 ≤ (T 3).toInt then 1 else 0) + (if 4 < k ∧ 0 ≤ (T 4).toInt then 1 else 0)
theorem zCk_0 {T : Nat → Int32} : zCk T 0 = 0 := by
  unfold zCk
  rw [if_neg (by omega), if_neg (by omega), if_neg (by omega), if_neg (by omega), if_neg (by omega)]
  rfl
theorem zc1_all {a k x : Int} (h : a < k) : (if a < k ∧ 0 ≤ x then (1 : Int) else 0) = if 0 ≤ x then 1 else 0 := by
  by_cases c : 0 ≤ x
  · rw [if_pos ⟨h, c⟩, if_pos c]
  · rw [if_neg (fun q => c q.2), if_neg c]
theorem zCk_5 {T : Nat → Int32} {k : Int} (h : 5 ≤ k) : zCk T k = zCt T := by
  unfold zCk zCt
  rw [zc1_all (show 0 < k by omega), zc1_all (show 1 < k by omega), zc1_all (show 2 < k by omega), zc1_all (show 3 < k by omega), zc1_all (show 4 < k by omega)]
theorem zc1_ne {a k x : Int} (h : a ≠ k) : (if a < k + 1 ∧ 0 ≤ x then (1 : Int) else 0) = if a < k ∧ 0 ≤ x then 1 else 0 := by
  by_cases c : a < k ∧ 0 ≤ x
  · rw [if_pos c, if_pos ⟨by omega, c.2⟩]
  · rw [if_neg c, if_neg (by omega)]
theorem zc1_neg {a k x : Int} (h : x < 0) : (if a < k ∧ 0 ≤ x then (1 : Int) else 0) = 0 := if_neg (by omega)
theorem zc1_eq {a k x : Int} (h : a = k) (hx : 0 ≤ x) : (if a < k + 1 ∧ 0 ≤ x then (1 : Int) else 0) = (if a < k ∧ 0 ≤ x then 1 else 0) + 1 := by
  rw [if_pos ⟨by omega, hx⟩, if_neg (by omega)]
  rfl
theorem zCk_pos {T : Nat → Int32} {k : Int} (h0 : 0 ≤ k) (h4 : k ≤ 4) (h : 0 ≤ (T k.toNat).toInt) : zCk T (k + 1) = zCk T k + 1 := by
  have q : k = 0 ∨ k = 1 ∨ k = 2 ∨ k = 3 ∨ k = 4 := by omega
  unfold zCk
  rcases q with rfl | rfl | rfl | rfl | rfl
  · have h : 0 ≤ (T 0).toInt := h
    rw [zc1_eq rfl h, zc1_ne (show (1 : Int) ≠ 0 by omega), zc1_ne (show (2 : Int) ≠ 0 by omega), zc1_ne (show (3 : Int) ≠ 0 by omega), zc1_ne (show (4 : Int) ≠ 0 by omega)]
    omega
  · have h : 0 ≤ (T 1).toInt := h
    rw [zc1_ne (show (0 : Int) ≠ 1 by omega), zc1_eq rfl h, zc1_ne (show (2 : Int) ≠ 1 by omega), zc1_ne (show (3 : Int) ≠ 1 by omega), zc1_ne (show (4 : Int) ≠ 1 by omega)]
    omega
  · have h : 0 ≤ (T 2).toInt := h
    rw [zc1_ne (show (0 : Int) ≠ 2 by omega), zc1_ne (show (1 : Int) ≠ 2 by omega), zc1_eq rfl h, zc1_ne (show (3 : Int) ≠ 2 by omega), zc1_ne (show (4 : Int) ≠ 2 by omega)]
    omega
  · have h : 0 ≤ (T 3).toInt := h
    rw [zc1_ne (show (0 : Int) ≠ 3 by omega), zc1_ne (show (1 : Int) ≠ 3 by omega), zc1_ne (show (2 : Int) ≠ 3 by omega), zc1_eq rfl h, zc1_ne (show (4 : Int) ≠ 3 by omega)]
    omega
  · have h : 0 ≤ (T 4).toInt := h
    rw [zc1_ne (show (0 : Int) ≠ 4 by omega), zc1_ne (show (1 : Int) ≠ 4 by omega), zc1_ne (show (2 : Int) ≠ 4 by omega), zc1_ne (show (3 : Int) ≠ 4 by omega), zc1_eq rfl h]
    omega
theorem zCk_neg {T : Nat → Int32} {k : Int} (h0 : 0 ≤ k) (h4 : k ≤ 4) (h : (T k.toNat).toInt < 0) : zCk T (k + 1) = zCk T k := by
  have q : k = 0 ∨ k = 1 ∨ k = 2 ∨ k = 3 ∨ k = 4 := by omega
  unfold zCk
  rcases q with rfl | rfl | rfl | rfl | rfl
  · rw [zc1_neg (x := (T 0).toInt) h, zc1_neg (x := (T 0).toInt) h, zc1_ne (show (1 : Int) ≠ 0 by omega), zc1_ne (show (2 : Int) ≠ 0 by omega), zc1_ne (show (3 : Int) ≠ 0 by omega), zc1_ne (show (4 : Int) ≠ 0 by omega)]
  · rw [zc1_neg (x := (T 1).toInt) h, zc1_neg (x := (T 1).toInt) h, zc1_ne (show (0 : Int) ≠ 1 by omega), zc1_ne (show (2 : Int) ≠ 1 by omega), zc1_ne (show (3 : Int) ≠ 1 by omega), zc1_ne (show (4 : Int) ≠ 1 by omega)]
  · rw [zc1_neg (x := (T 2).toInt) h, zc1_neg (x := (T 2).toInt) h, zc1_ne (show (0 : Int) ≠ 2 by omega), zc1_ne (show (1 : Int) ≠ 2 by omega), zc1_ne (show (3 : Int) ≠ 2 by omega), zc1_ne (show (4 : Int) ≠ 2 by omega)]
  · rw [zc1_neg (x := (T 3).toInt) h, zc1_neg (x := (T 3).toInt) h, zc1_ne (show (0 : Int) ≠ 3 by omega), zc1_ne (show (1 : Int) ≠ 3 by omega), zc1_ne (show (2 : Int) ≠ 3 by omega), zc1_ne (show (4 : Int) ≠ 3 by omega)]
  · rw [zc1_neg (x := (T 4).toInt) h, zc1_neg (x := (T 4).toInt) h, zc1_ne (show (0 : Int) ≠ 4 by omega), zc1_ne (show (1 : Int) ≠ 4 by omega), zc1_ne (show (2 : Int) ≠ 4 by omega), zc1_ne (show (3 : Int) ≠ 4 by omega)]
/-- the row of kinds at the head of the loop over a text of lots: behind a place, n told, g: good so far -/
def zKM (Z : Nat → Int32) (len A n g : Int) (T : Nat → Int32) : Prop := iKd T ∧ (g = 1 → (n = 0 ∨ zsk Z len A < len) → zKR Z len (zsk Z len A) n T) ∧ (g = 1 → 1 ≤ n → len ≤ zsk Z len A → zRw n T = zLotK Z len)
theorem zKM_0 {Z T : Nat → Int32} {len : Int} (h : iKd T) : zKM Z len 0 0 1 T := ⟨h, fun _ _ => zKR_0 rfl, fun _ q => by omega⟩
theorem zKM_eq {Z T : Nat → Int32} {len A D n k g : Int} (h : zKM Z len A n g T) (e : A = D) (e2 : n = k) : zKM Z len D k g T := e ▸ e2 ▸ h
theorem zKM_of {Z T : Nat → Int32} {len p n : Int} (h : zKH Z len p n T) (h0 : 0 ≤ n) : zKM Z len (p + 1) (n + 1) 1 T := ⟨h.1, fun _ q => h.2.1 (by omega), fun _ _ q => h.2.2 q⟩
theorem zKM_bad {Z T : Nat → Int32} {len a n : Int} (h : iKd T) : zKM Z len a n 0 T := ⟨h, fun q => absurd q (by decide), fun q => absurd q (by decide)⟩
theorem zKM_end {Z T : Nat → Int32} {len a n g : Int} (h : zKM Z len a n g T) (hg : g = 1) (h1 : 1 ≤ n) (hl : len ≤ zsk Z len a) (e : n = zLots Z len) : zKT Z len T := fun _ => by
  rw [← e]
  exact h.2.2 hg h1 hl
theorem iLaw_new : iLaw (zA [60, 1, 1, 0, 0]) := fun j hj => by
  have q : j = 0 ∨ j = 1 ∨ j = 2 ∨ j = 3 ∨ j = 4 := by omega
  rcases q with rfl | rfl | rfl | rfl | rfl <;> exact ⟨by decide, by decide⟩
theorem iKd_0 : iKd (fun _ => 0) := fun _ _ => ⟨show (0 : Int) ≤ (0 : Int32).toInt from by decide, show (0 : Int32).toInt ≤ 3 from by decide⟩
