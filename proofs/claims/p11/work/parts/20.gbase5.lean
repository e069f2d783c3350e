theorem upd_ne {F : Nat → Int32} {k j : Nat} {v : Int32} (h : j ≠ k) : upd F k v j = F j := by
  show (if j = k then v else F j) = F j
  rw [if_neg h]
theorem upd_eq {F : Nat → Int32} {k j : Nat} {v : Int32} (h : j = k) : upd F k v j = v := by
  show (if j = k then v else F j) = v
  rw [if_pos h]
theorem z_cpy {F G : Nat → Int32} {n j : Nat} (h : j < n) : va_cpy F G 0 0 n j = F j := by
  show (if 0 ≤ j ∧ j < 0 + n then F (0 + (j - 0)) else G j) = F j
  rw [if_pos ⟨by omega, by omega⟩, Nat.zero_add, Nat.sub_zero]
/-! a tape read as a law -/
/-- the place behind digits -/
def zdgN (F : Nat → Int32) : Nat → Int → Int
  | 0, a => a
  | f + 1, a => if 48 ≤ zc F a ∧ zc F a ≤ 57 then zdgN F f (a + 1) else a
def zdg (F : Nat → Int32) (len a : Int) : Int := zdgN F (len - a).toNat a
theorem zdg_end {F : Nat → Int32} {len a : Int} (h : len ≤ a) : zdg F len a = a := by
  unfold zdg
  rw [show (len - a).toNat = 0 by omega]
  rfl
theorem zdg_dig {F : Nat → Int32} {len a : Int} (h : a < len) (hb : 48 ≤ zc F a ∧ zc F a ≤ 57) : zdg F len a = zdg F len (a + 1) := by
  unfold zdg
  rw [show (len - a).toNat = (len - (a + 1)).toNat + 1 by omega]
  show (if 48 ≤ zc F a ∧ zc F a ≤ 57 then zdgN F (len - (a + 1)).toNat (a + 1) else a) = _
  rw [if_pos hb]
theorem zdg_stop {F : Nat → Int32} {len a : Int} (h : a < len) (hb : ¬ (48 ≤ zc F a ∧ zc F a ≤ 57)) : zdg F len a = a := by
  unfold zdg
  rw [show (len - a).toNat = (len - (a + 1)).toNat + 1 by omega]
  show (if 48 ≤ zc F a ∧ zc F a ≤ 57 then zdgN F (len - (a + 1)).toNat (a + 1) else a) = _
  rw [if_neg hb]
theorem zdg_rng {F : Nat → Int32} {len : Int} : ∀ (n : Nat) (a : Int), len - a ≤ n → a ≤ len → a ≤ zdg F len a ∧ zdg F len a ≤ len := by
  intro n
  induction n with
  | zero =>
    intro a h1 h2
    rw [zdg_end (by omega)]
    omega
  | succ n ih =>
    intro a h1 h2
    by_cases q : a < len
    · by_cases g : 48 ≤ zc F a ∧ zc F a ≤ 57
      · rw [zdg_dig q g]
        have := ih (a + 1) (by omega) (by omega)
        omega
      · rw [zdg_stop q g]
        omega
    · rw [zdg_end (by omega)]
      omega
theorem zdg_r {F : Nat → Int32} {len a : Int} (h : a ≤ len) : a ≤ zdg F len a ∧ zdg F len a ≤ len := zdg_rng (len - a).toNat a (by omega) h
theorem zdg_congr {F G : Nat → Int32} {len : Int} (e : ∀ a : Int, 0 ≤ a → a < len → zc F a = zc G a) : ∀ (n : Nat) (a : Int), len - a ≤ n → 0 ≤ a → zdg F len a = zdg G len a := by
  intro n
  induction n with
  | zero =>
    intro a h1 h2
    rw [zdg_end (by omega), zdg_end (by omega)]
  | succ n ih =>
    intro a h1 h2
    by_cases q : a < len
    · by_cases g : 48 ≤ zc F a ∧ zc F a ≤ 57
      · rw [zdg_dig q g, zdg_dig q (by rw [← e a h2 q]; exact g)]
        exact ih (a + 1) (by omega) (by omega)
      · rw [zdg_stop q g, zdg_stop q (by rw [← e a h2 q]; exact g)]
    · rw [zdg_end (by omega), zdg_end (by omega)]
/-- the number that stands from a to b, v read ahead of it (1000: all above) -/
def zNuN (F : Nat → Int32) : Nat → Int → Int → Int
  | 0, _, v => v
  | f + 1, a, v => zNuN F f (a + 1) (min 1000 (10 * v + zc F a - 48))
def zNu (F : Nat → Int32) (b a v : Int) : Int := zNuN F (b - a).toNat a v
theorem zNu_end {F : Nat → Int32} {b a v : Int} (h : b ≤ a) : zNu F b a v = v := by
  unfold zNu
  rw [show (b - a).toNat = 0 by omega]
  rfl
theorem zNu_s {F : Nat → Int32} {b a v : Int} (h : a < b) : zNu F b a v = zNu F b (a + 1) (min 1000 (10 * v + zc F a - 48)) := by
  unfold zNu
  rw [show (b - a).toNat = (b - (a + 1)).toNat + 1 by omega]
  rfl
theorem zNu_congr {F G : Nat → Int32} {b : Int} (e : ∀ a : Int, 0 ≤ a → a < b → zc F a = zc G a) : ∀ (n : Nat) (a v : Int), b - a ≤ n → 0 ≤ a → zNu F b a v = zNu G b a v := by
  intro n
  induction n with
  | zero =>
    intro a v h1 h2
    rw [zNu_end (by omega), zNu_end (by omega)]
  | succ n ih =>
    intro a v h1 h2
    by_cases q : a < b
    · rw [zNu_s q, zNu_s q, e a h2 q]
      exact ih (a + 1) _ (by omega) (by omega)
    · rw [zNu_end (by omega), zNu_end (by omega)]
/-- which rule a letter names -/
def zrl (c : Int) : Int := if c = 115 then 0 else if c = 100 then 1 else if c = 102 then 2 else if c = 98 then 3 else if c = 99 then 4 else -1
/-- whether a number is in a rule's range -/
def zlo (r : Int) : Int := if r < 2 then 1 else 0
def zhi (r : Int) : Int := if r = 1 then 9 else if r = 3 then 1 else 99
abbrev zft (r v : Int) : Prop := zlo r ≤ v ∧ v ≤ zhi r
theorem zlo_r (r : Int) : 0 ≤ zlo r ∧ zlo r ≤ 1 := by
  unfold zlo
  split <;> omega
theorem zhi_r (r : Int) : 1 ≤ zhi r ∧ zhi r ≤ 99 := by
  unfold zhi
  repeat' split
  all_goals omega
/-- 1: v may be rule r's number -/
def zfI (r v : Int) : Int := if 0 ≤ r ∧ r ≤ 4 ∧ zlo r ≤ v ∧ v ≤ zhi r then 1 else 0
theorem zfI_1 {r v : Int} (h0 : 0 ≤ r) (h4 : r ≤ 4) (h1 : zlo r ≤ v) (h2 : v ≤ zhi r) : zfI r v = 1 := if_pos ⟨h0, h4, h1, h2⟩
theorem zfI_0 {r v : Int} (h : r < 0 ∨ 4 < r ∨ v < zlo r ∨ zhi r < v) : zfI r v = 0 := if_neg fun q => by omega
theorem zfI_yes {r v a b : Int} (h : zfI r v = 1) (e : r = a) (e2 : v = b) : zft a b := by
  rw [← e, ← e2]
  unfold zfI at h
  split at h
  · rename_i q
    exact ⟨q.2.2.1, q.2.2.2⟩
  · omega
theorem zfI_yes4 {r v : Int} (h : zfI r v = 1) : 0 ≤ r ∧ r ≤ 4 ∧ 0 ≤ v ∧ v ≤ 99 ∧ zft r v := by
  unfold zfI at h
  split at h
  · rename_i q
    have := zlo_r r
    have := zhi_r r
    exact ⟨q.1, q.2.1, by omega, by omega, q.2.2.1, q.2.2.2⟩
  · omega
theorem zfI_not {r v a b : Int} (h : zfI r v = 0) (h0 : 0 ≤ r) (h4 : r ≤ 4) (e : r = a) (e2 : v = b) : ¬ zft a b := by
  rw [← e, ← e2]
  intro q
  rw [zfI_1 h0 h4 q.1 q.2] at h
  omega
theorem zf2_at {i y : Int32} (h0 : 0 ≤ i.toInt) (h4 : i.toInt ≤ 4) (e : y = zf2 i.toNatClampNeg) : y.toInt = zlo i.toInt := by
  have q : i.toInt = 0 ∨ i.toInt = 1 ∨ i.toInt = 2 ∨ i.toInt = 3 ∨ i.toInt = 4 := by omega
  have e0 : i.toNatClampNeg = i.toInt.toNat := rfl
  rw [e, e0]
  rcases q with q | q | q | q | q <;> rw [q] <;> decide
theorem zf3_at {i y : Int32} (h0 : 0 ≤ i.toInt) (h4 : i.toInt ≤ 4) (e : y = zf3 i.toNatClampNeg) : y.toInt = zhi i.toInt := by
  have q : i.toInt = 0 ∨ i.toInt = 1 ∨ i.toInt = 2 ∨ i.toInt = 3 ∨ i.toInt = 4 := by omega
  have e0 : i.toNatClampNeg = i.toInt.toNat := rfl
  rw [e, e0]
  rcases q with q | q | q | q | q <;> rw [q] <;> decide
/-- how many rules are told -/
def zCt (T : Nat → Int32) : Int := (if 0 ≤ (T 0).toInt then 1 else 0) + (if 0 ≤ (T 1).toInt then 1 else 0) + (if 0 ≤ (T 2).toInt then 1 else 0) + (if 0 ≤ (T 3).toInt then 1 else 0) + (if 0 ≤ (T 4).toInt then 1 else 0)
theorem zCt_le (T : Nat → Int32) : 0 ≤ zCt T ∧ zCt T ≤ 5 := by
  unfold zCt
  repeat' split
  all_goals omega
theorem zCt_put {T : Nat → Int32} {r : Nat} {v : Int32} (hr : r < 5) (h : (T r).toInt < 0) (hv : 0 ≤ v.toInt) : zCt (upd T r v) = zCt T + 1 := by
  have q : r = 0 ∨ r = 1 ∨ r = 2 ∨ r = 3 ∨ r = 4 := by omega
  have k : ∀ j, upd T r v j = if j = r then v else T j := fun j => rfl
  unfold zCt
  rw [k 0, k 1, k 2, k 3, k 4]
  rcases q with rfl | rfl | rfl | rfl | rfl
  · rw [if_pos rfl, if_neg (show ¬ 1 = 0 by omega), if_neg (show ¬ 2 = 0 by omega), if_neg (show ¬ 3 = 0 by omega), if_neg (show ¬ 4 = 0 by omega), if_pos hv, if_neg (show ¬ 0 ≤ (T 0).toInt by omega)]
    omega
  · rw [if_pos rfl, if_neg (show ¬ 0 = 1 by omega), if_neg (show ¬ 2 = 1 by omega), if_neg (show ¬ 3 = 1 by omega), if_neg (show ¬ 4 = 1 by omega), if_pos hv, if_neg (show ¬ 0 ≤ (T 1).toInt by omega)]
    omega
  · rw [if_pos rfl, if_neg (show ¬ 0 = 2 by omega), if_neg (show ¬ 1 = 2 by omega), if_neg (show ¬ 3 = 2 by omega), if_neg (show ¬ 4 = 2 by omega), if_pos hv, if_neg (show ¬ 0 ≤ (T 2).toInt by omega)]
    omega
  · rw [if_pos rfl, if_neg (show ¬ 0 = 3 by omega), if_neg (show ¬ 1 = 3 by omega), if_neg (show ¬ 2 = 3 by omega), if_neg (show ¬ 4 = 3 by omega), if_pos hv, if_neg (show ¬ 0 ≤ (T 3).toInt by omega)]
    omega
  · rw [if_pos rfl, if_neg (show ¬ 0 = 4 by omega), if_neg (show ¬ 1 = 4 by omega), if_neg (show ¬ 2 = 4 by omega), if_neg (show ¬ 3 = 4 by omega), if_pos hv, if_neg (show ¬ 0 ≤ (T 4).toInt by omega)]
    omega
/-- a rule of a law at a place: which, where its number stands, the number -/
def zr (F : Nat → Int32) (len p : Int) : Int := zrl (if p < len then zc F p else 0)
def zq (F : Nat → Int32) (len p : Int) : Int := zsk F len (p + 1)
def ze (F : Nat → Int32) (len p : Int) : Int := zdg F len (zq F len p)
def zv (F : Nat → Int32) (len p : Int) : Int := zNu F (ze F len p) (zq F len p) 0
def zT (F : Nat → Int32) (len p : Int) (T : Nat → Int32) : Nat → Int32 := upd T (zr F len p).toNat (Int32.ofInt (zv F len p))
/-- what a text of law comes to from a place on, with what is told by then: the answer, what is told -/
def zLaN (F : Nat → Int32) (len : Int) : Nat → Int → (Nat → Int32) → Int × (Nat → Int32)
  | 0, _, T => (0, T)
  | f + 1, p, T =>
    if zr F len p < 0 ∨ 0 ≤ (T (zr F len p).toNat).toInt then (-20 - p, T)
    else if ze F len p = zq F len p ∨ ¬ zft (zr F len p) (zv F len p) then (-20 - zq F len p, T)
    else if zsk F len (ze F len p) < len then zLaN F len f (zsk F len (ze F len p)) (zT F len p T) else (zCt (zT F len p T), zT F len p T)
def zLa (F : Nat → Int32) (len p : Int) (T : Nat → Int32) : Int × (Nat → Int32) := zLaN F len ((len - p).toNat + 1) p T
theorem zr_lt {F : Nat → Int32} {len p : Int} (h : ¬ zr F len p < 0) : p < len := by
  by_cases q : p < len
  · exact q
  · exfalso
    apply h
    unfold zr
    rw [if_neg q]
    decide
theorem zr_rng {F : Nat → Int32} {len p : Int} : -1 ≤ zr F len p ∧ zr F len p ≤ 4 := by
  unfold zr zrl
  repeat' split
  all_goals omega
theorem zstep {F : Nat → Int32} {len p : Int} (h : p < len) : p + 1 ≤ zq F len p ∧ zq F len p ≤ ze F len p ∧ ze F len p ≤ len ∧ ze F len p ≤ zsk F len (ze F len p) ∧ zsk F len (ze F len p) ≤ len := by
  have h1 := zsk_r (F := F) (show p + 1 ≤ len by omega)
  have h2 := zdg_r (F := F) (len := len) (a := zq F len p) (by unfold zq; omega)
  have h3 := zsk_r (F := F) (len := len) (a := ze F len p) (by unfold ze; omega)
  refine ⟨?_, ?_, ?_, ?_, ?_⟩
  · unfold zq
    omega
  · unfold ze
    omega
  · unfold ze
    omega
  · omega
  · omega
theorem zLaN_any {F : Nat → Int32} {len : Int} : ∀ (f g : Nat) (p : Int) (T : Nat → Int32), len - p < f → len - p < g → 0 < f → 0 < g → zLaN F len f p T = zLaN F len g p T := by
  intro f
  induction f with
  | zero => intro g p T h1 h2 h3; omega
  | succ f ih =>
    intro g p T h1 h2 h3 h4
    obtain ⟨g, rfl⟩ : ∃ k, g = k + 1 := ⟨g - 1, by omega⟩
    show (if _ then _ else _) = (if _ then _ else _)
    by_cases c1 : zr F len p < 0 ∨ 0 ≤ (T (zr F len p).toNat).toInt
    · rw [if_pos c1, if_pos c1]
    · rw [if_neg c1, if_neg c1]
      by_cases c2 : ze F len p = zq F len p ∨ ¬ zft (zr F len p) (zv F len p)
      · rw [if_pos c2, if_pos c2]
      · rw [if_neg c2, if_neg c2]
        by_cases c3 : zsk F len (ze F len p) < len
        · rw [if_pos c3, if_pos c3]
          have hp := zr_lt (F := F) (len := len) (p := p) (fun q => c1 (Or.inl q))
          have hs := zstep (F := F) hp
          exact ih g _ _ (by omega) (by omega) (by omega) (by omega)
        · rw [if_neg c3, if_neg c3]
theorem zLa_bad1 {F : Nat → Int32} {len p : Int} {T : Nat → Int32} (c1 : zr F len p < 0 ∨ 0 ≤ (T (zr F len p).toNat).toInt) : zLa F len p T = (-20 - p, T) := by
  unfold zLa
  show (if _ then _ else _) = _
  rw [if_pos c1]
theorem zLa_bad2 {F : Nat → Int32} {len p : Int} {T : Nat → Int32} (c1 : ¬ (zr F len p < 0 ∨ 0 ≤ (T (zr F len p).toNat).toInt)) (c2 : ze F len p = zq F len p ∨ ¬ zft (zr F len p) (zv F len p)) : zLa F len p T = (-20 - zq F len p, T) := by
  unfold zLa
  show (if _ then _ else _) = _
  rw [if_neg c1, if_pos c2]
theorem zLa_last {F : Nat → Int32} {len p : Int} {T : Nat → Int32} (c1 : ¬ (zr F len p < 0 ∨ 0 ≤ (T (zr F len p).toNat).toInt)) (c2 : ¬ (ze F len p = zq F len p ∨ ¬ zft (zr F len p) (zv F len p))) (c3 : len ≤ zsk F len (ze F len p)) : zLa F len p T = (zCt (zT F len p T), zT F len p T) := by
  unfold zLa
  show (if _ then _ else _) = _
  rw [if_neg c1, if_neg c2, if_neg (by omega)]
theorem zLa_more {F : Nat → Int32} {len p : Int} {T : Nat → Int32} (c1 : ¬ (zr F len p < 0 ∨ 0 ≤ (T (zr F len p).toNat).toInt)) (c2 : ¬ (ze F len p = zq F len p ∨ ¬ zft (zr F len p) (zv F len p))) (c3 : zsk F len (ze F len p) < len) : zLa F len p T = zLa F len (zsk F len (ze F len p)) (zT F len p T) := by
  have hp := zr_lt (F := F) (len := len) (p := p) (fun q => c1 (Or.inl q))
  have hs := zstep (F := F) hp
  unfold zLa
  show (if _ then _ else _) = _
  rw [if_neg c1, if_neg c2, if_pos c3]
  exact zLaN_any _ _ _ _ (by omega) (by omega) (by omega) (by omega)
theorem zCt_congr {T U : Nat → Int32} (h : ∀ j : Nat, j < 5 → T j = U j) : zCt T = zCt U := by
  unfold zCt
  rw [h 0 (by omega), h 1 (by omega), h 2 (by omega), h 3 (by omega), h 4 (by omega)]
theorem zLaN_s {F : Nat → Int32} {len : Int} {f : Nat} {p : Int} {T : Nat → Int32} : zLaN F len (f + 1) p T = if zr F len p < 0 ∨ 0 ≤ (T (zr F len p).toNat).toInt then (-20 - p, T) else if ze F len p = zq F len p ∨ ¬ zft (zr F len p) (zv F len p) then (-20 - zq F len p, T) else if zsk F len (ze F len p) < len then zLaN F len f (zsk F len (ze F len p)) (zT F len p T) else (zCt (zT F len p T), zT F len p T) := rfl
theorem zLaN_congr {F G : Nat → Int32} {len : Int} (e : ∀ a : Int, 0 ≤ a → a < len → zc F a = zc G a) : ∀ (f : Nat) (p : Int) (T U : Nat → Int32), 0 ≤ p → (∀ j : Nat, j < 5 → T j = U j) → (zLaN F len f p T).1 = (zLaN G len f p U).1 ∧ ∀ j : Nat, j < 5 → (zLaN F len f p T).2 j = (zLaN G len f p U).2 j := by
  intro f
  induction f with
  | zero => intro p T U h0 h; exact ⟨rfl, h⟩
  | succ f ih =>
    intro p T U h0 h
    have er : zr F len p = zr G len p := by
      unfold zr
      by_cases q : p < len
      · rw [if_pos q, if_pos q, e p h0 q]
      · rw [if_neg q, if_neg q]
    have eq : zq F len p = zq G len p := zsk_congr e (len - (p + 1)).toNat (p + 1) (by omega) (by omega)
    have hr := zr_rng (F := G) (len := len) (p := p)
    rw [zLaN_s, zLaN_s]
    rw [er]
    by_cases c0 : zr G len p < 0
    · rw [if_pos (Or.inl c0), if_pos (Or.inl c0)]
      exact ⟨rfl, h⟩
    · have eT : T (zr G len p).toNat = U (zr G len p).toNat := h _ (by omega)
      rw [eT]
      by_cases c1 : zr G len p < 0 ∨ 0 ≤ (U (zr G len p).toNat).toInt
      · rw [if_pos c1, if_pos c1]
        exact ⟨rfl, h⟩
      · rw [if_neg c1, if_neg c1]
        have hp := zr_lt (F := G) c0
        have hs := zstep (F := G) hp
        have ee : ze F len p = ze G len p := by
          unfold ze
          rw [eq]
          exact zdg_congr e (len - zq G len p).toNat _ (by omega) (by omega)
        have ev : zv F len p = zv G len p := by
          unfold zv
          rw [ee, eq]
          exact zNu_congr (fun a h1 h2 => e a h1 (by omega)) (ze G len p - zq G len p).toNat _ _ (by omega) (by omega)
        have eU : ∀ j : Nat, j < 5 → zT F len p T j = zT G len p U j := by
          intro j hj
          unfold zT
          rw [er, ev]
          show (if _ then _ else _) = (if _ then _ else _)
          rw [h j hj]
        have es : zsk F len (ze G len p) = zsk G len (ze G len p) := zsk_congr e (len - ze G len p).toNat _ (by omega) (by omega)
        rw [ee, eq, ev]
        by_cases c2 : ze G len p = zq G len p ∨ ¬ zft (zr G len p) (zv G len p)
        · rw [if_pos c2, if_pos c2]
          exact ⟨rfl, h⟩
        · rw [if_neg c2, if_neg c2, es]
          by_cases c3 : zsk G len (ze G len p) < len
          · rw [if_pos c3, if_pos c3]
            exact ih _ _ _ (by omega) eU
          · rw [if_neg c3, if_neg c3]
            exact ⟨zCt_congr eU, eU⟩
/-- what rules answers, and what it tells -/
def zLaw (F : Nat → Int32) (len : Int) : Int := (zLa F len (zsk F len 0) (fun _ => -1)).1
def zLawT (F : Nat → Int32) (len : Int) : Nat → Int32 := (zLa F len (zsk F len 0) (fun _ => -1)).2
theorem zLaw_congr {F G : Nat → Int32} {len : Int} (h : 0 ≤ len) (e : ∀ a : Int, 0 ≤ a → a < len → zc F a = zc G a) : zLaw F len = zLaw G len ∧ ∀ j : Nat, j < 5 → zLawT F len j = zLawT G len j := by
  have sk := zsk_congr e len.toNat 0 (by omega) (by omega)
  have r := zsk_r (F := G) h
  unfold zLaw zLawT zLa
  rw [sk]
  exact zLaN_congr e _ _ _ _ (by omega) (fun _ _ => rfl)
/-- digits from a to b -/
noncomputable def zDi (F : Nat → Int32) (a b : Int) : Int := @ite Int (∀ j : Int, a ≤ j → j < b → 48 ≤ zc F j ∧ zc F j ≤ 57) (Classical.propDecidable _) 1 0
theorem zDi_at {F : Nat → Int32} {a b : Int} (h : zDi F a b = 1) (j : Int) (h0 : a ≤ j) (h1 : j < b) : 48 ≤ zc F j ∧ zc F j ≤ 57 := by
  unfold zDi at h
  by_cases g : ∀ j : Int, a ≤ j → j < b → 48 ≤ zc F j ∧ zc F j ≤ 57
  · exact g j h0 h1
  · rw [if_neg g] at h
    omega
theorem zDi_zdg {F : Nat → Int32} {len : Int} : ∀ (n : Nat) (a : Int), len - a ≤ n → ∀ j : Int, a ≤ j → j < zdg F len a → 48 ≤ zc F j ∧ zc F j ≤ 57 := by
  intro n
  induction n with
  | zero =>
    intro a h j h0 h1
    rw [zdg_end (by omega)] at h1
    omega
  | succ n ih =>
    intro a h j h0 h1
    by_cases q : a < len
    · by_cases g : 48 ≤ zc F a ∧ zc F a ≤ 57
      · rw [zdg_dig q g] at h1
        by_cases e : j = a
        · rw [e]
          exact g
        · exact ih (a + 1) (by omega) j (by omega) h1
      · rw [zdg_stop q g] at h1
        omega
    · rw [zdg_end (by omega)] at h1
      omega
theorem zDi_1 {F : Nat → Int32} {len a : Int} : zDi F a (zdg F len a) = 1 := by
  unfold zDi
  exact if_pos (zDi_zdg (len - a).toNat a (by omega))
/-- filled so far -/
def zFilK (v : Int32) (k : Int) (F : Nat → Int32) : Prop := ∀ j : Nat, (j : Int) < k → F j = v
theorem zFilK_0 {v : Int32} {F : Nat → Int32} : zFilK v 0 F := fun j h => by omega
theorem zFilK_eq {v : Int32} {a b : Int} {F : Nat → Int32} (h : zFilK v a F) (e : a = b) : zFilK v b F := e ▸ h
theorem zFilK_put {v : Int32} {a : Int} {F : Nat → Int32} {i : Int32} (h : zFilK v a F) (hi : i.toInt = a) : zFilK v (a + 1) (upd F i.toNatClampNeg v) := by
  intro j hj
  have e0 : i.toNatClampNeg = i.toInt.toNat := rfl
  show (if j = i.toNatClampNeg then v else F j) = v
  by_cases q : j = i.toNatClampNeg
  · rw [if_pos q]
  · rw [if_neg q]
    exact h j (by omega)
theorem zCt_new {F : Nat → Int32} (h : zFilK (-1) 5 F) : zCt F = 0 := by
  unfold zCt
  rw [h 0 (by omega), h 1 (by omega), h 2 (by omega), h 3 (by omega), h 4 (by omega)]
  decide
theorem zLa_tell {F : Nat → Int32} {len p : Int} {T U : Nat → Int32} (h0 : 0 ≤ p) (h : ∀ j : Nat, j < 5 → T j = U j) : (zLa F len p T).1 = (zLa F len p U).1 ∧ ∀ j : Nat, j < 5 → (zLa F len p T).2 j = (zLa F len p U).2 j := zLaN_congr (fun _ _ _ => rfl) _ _ _ _ h0 h
/-- at a place of a law's text: n rules are told, what is to come is the text's answer -/
def zRL (Z : Nat → Int32) (len p n : Int) (T : Nat → Int32) : Prop := zCt T = n ∧ (zLa Z len p T).1 = zLaw Z len ∧ ∀ j : Nat, j < 5 → (zLa Z len p T).2 j = zLawT Z len j
/-- behind a rule: as zRL at the next place, or all is told -/
def zRQ (Z : Nat → Int32) (len p n : Int) (T : Nat → Int32) : Prop := zCt T = n + 1 ∧ (zsk Z len (ze Z len p) < len → zRL Z len (zsk Z len (ze Z len p)) (n + 1) T) ∧ (len ≤ zsk Z len (ze Z len p) → zLaw Z len = n + 1 ∧ ∀ j : Nat, j < 5 → T j = zLawT Z len j)
def zTold (Z : Nat → Int32) (len : Int) (T : Nat → Int32) : Prop := 0 < zLaw Z len → ∀ j : Nat, j < 5 → T j = zLawT Z len j
theorem zRL_0 {Z F : Nat → Int32} {len p : Int} (h : zFilK (-1) 5 F) (e : p = zsk Z len 0) (h0 : 0 ≤ p) : zRL Z len p 0 F := by
  have c := zLa_tell (F := Z) (len := len) (p := p) (T := F) (U := fun _ => -1) h0 (fun j hj => h j (by omega))
  refine ⟨zCt_new h, ?_, fun j hj => ?_⟩
  · rw [c.1, e]
    rfl
  · rw [c.2 j hj, e]
    rfl
theorem zRL_eq {Z T : Nat → Int32} {len p q n k : Int} (h : zRL Z len p n T) (e : p = q) (e2 : n = k) : zRL Z len q k T := e ▸ e2 ▸ h
theorem zRL_bad1 {Z T : Nat → Int32} {len p n : Int} (h : zRL Z len p n T) (c1 : zr Z len p < 0 ∨ 0 ≤ (T (zr Z len p).toNat).toInt) : zLaw Z len = -20 - p := by
  rw [← h.2.1, zLa_bad1 c1]
theorem zRL_bad2 {Z T : Nat → Int32} {len p n : Int} (h : zRL Z len p n T) (c1 : ¬ (zr Z len p < 0 ∨ 0 ≤ (T (zr Z len p).toNat).toInt)) (c2 : ze Z len p = zq Z len p ∨ ¬ zft (zr Z len p) (zv Z len p)) : zLaw Z len = -20 - zq Z len p := by
  rw [← h.2.1, zLa_bad2 c1 c2]
theorem zRL_put {Z T : Nat → Int32} {len p n : Int} {r v : Int32} (h : zRL Z len p n T) (c1 : ¬ (zr Z len p < 0 ∨ 0 ≤ (T (zr Z len p).toNat).toInt)) (c2 : ¬ (ze Z len p = zq Z len p ∨ ¬ zft (zr Z len p) (zv Z len p))) (hr : r.toInt = zr Z len p) (hv : v.toInt = zv Z len p) (hv0 : 0 ≤ v.toInt) : zRQ Z len p n (upd T r.toNatClampNeg v) := by
  have e : upd T r.toNatClampNeg v = zT Z len p T := by
    unfold zT
    rw [← hr, ← hv, Int32.ofInt_toInt]
    rfl
  have hz := zr_rng (F := Z) (len := len) (p := p)
  have hc : zCt (upd T r.toNatClampNeg v) = n + 1 := by
    rw [← h.1]
    have e0 : r.toNatClampNeg = (zr Z len p).toNat := by rw [← hr]; rfl
    rw [e0]
    exact zCt_put (by omega) (by omega) hv0
  refine ⟨hc, fun hl => ?_, fun hl => ?_⟩
  · have hm := zLa_more (T := T) c1 c2 hl
    refine ⟨hc, ?_, fun j hj => ?_⟩
    · rw [e, ← hm]
      exact h.2.1
    · rw [e, ← hm]
      exact h.2.2 j hj
  · have hm := zLa_last (T := T) c1 c2 hl
    refine ⟨?_, fun j hj => ?_⟩
    · rw [← h.2.1, hm, ← e]
      exact hc
    · rw [← h.2.2 j hj, hm, e]
theorem zTold_neg {Z T : Nat → Int32} {len : Int} (h : zLaw Z len ≤ 0) : zTold Z len T := fun q => by omega
theorem zfil5_of {F : Nat → Int32} (h0 : (F 0).toInt = -1) (h1 : (F 1).toInt = -1) (h2 : (F 2).toInt = -1) (h3 : (F 3).toInt = -1) (h4 : (F 4).toInt = -1) : zFilK (-1) 5 F := by
  intro j hj
  have q : j = 0 ∨ j = 1 ∨ j = 2 ∨ j = 3 ∨ j = 4 := by omega
  rcases q with rfl | rfl | rfl | rfl | rfl
  · exact Int32.toInt_inj.mp (h0.trans rfl)
  · exact Int32.toInt_inj.mp (h1.trans rfl)
  · exact Int32.toInt_inj.mp (h2.trans rfl)
  · exact Int32.toInt_inj.mp (h3.trans rfl)
  · exact Int32.toInt_inj.mp (h4.trans rfl)
/-- what is told of a rule is in its range -/
def zTok (T : Nat → Int32) : Prop := ∀ j : Nat, j < 5 → (T j).toInt = -1 ∨ (0 ≤ (T j).toInt ∧ zft j (T j).toInt)
theorem zTok_new : zTok (fun _ => -1) := fun _ _ => Or.inl (show (-1 : Int32).toInt = -1 from by decide)
theorem zTok_T {F : Nat → Int32} {len p : Int} {T : Nat → Int32} (h : zTok T) (c1 : ¬ (zr F len p < 0 ∨ 0 ≤ (T (zr F len p).toNat).toInt)) (c2 : ¬ (ze F len p = zq F len p ∨ ¬ zft (zr F len p) (zv F len p))) : zTok (zT F len p T) := by
  have hr := zr_rng (F := F) (len := len) (p := p)
  have hf : zft (zr F len p) (zv F len p) := by
    by_cases q : zft (zr F len p) (zv F len p)
    · exact q
    · exact absurd (Or.inr q) c2
  have := zlo_r (zr F len p)
  have := zhi_r (zr F len p)
  have hv : (Int32.ofInt (zv F len p)).toInt = zv F len p := Int32.toInt_ofInt_of_le (by omega) (by omega)
  intro j hj
  unfold zT
  by_cases q : j = (zr F len p).toNat
  · have e : upd T (zr F len p).toNat (Int32.ofInt (zv F len p)) j = Int32.ofInt (zv F len p) := upd_eq q
    rw [e, hv]
    have e2 : (j : Int) = zr F len p := by omega
    rw [e2]
    exact Or.inr ⟨by omega, hf⟩
  · have e : upd T (zr F len p).toNat (Int32.ofInt (zv F len p)) j = T j := upd_ne q
    rw [e]
    exact h j hj
theorem zLaN_ok {F : Nat → Int32} {len : Int} : ∀ (f : Nat) (p : Int) (T : Nat → Int32), zTok T → zTok (zLaN F len f p T).2 ∧ (0 < (zLaN F len f p T).1 → 0 ≤ p → (zLaN F len f p T).1 = zCt (zLaN F len f p T).2) := by
  intro f
  induction f with
  | zero =>
    intro p T h
    refine ⟨h, fun q => ?_⟩
    have q : (0 : Int) < 0 := q
    omega
  | succ f ih =>
    intro p T h
    rw [zLaN_s]
    by_cases c1 : zr F len p < 0 ∨ 0 ≤ (T (zr F len p).toNat).toInt
    · rw [if_pos c1]
      refine ⟨h, fun q q2 => ?_⟩
      have q : 0 < -20 - p := q
      omega
    · rw [if_neg c1]
      have hp := zr_lt (F := F) (len := len) (p := p) (fun q => c1 (Or.inl q))
      have hs := zstep (F := F) hp
      by_cases c2 : ze F len p = zq F len p ∨ ¬ zft (zr F len p) (zv F len p)
      · rw [if_pos c2]
        refine ⟨h, fun q q2 => ?_⟩
        have q : 0 < -20 - zq F len p := q
        omega
      · rw [if_neg c2]
        have ht := zTok_T h c1 c2
        by_cases c3 : zsk F len (ze F len p) < len
        · rw [if_pos c3]
          have k := ih (zsk F len (ze F len p)) (zT F len p T) ht
          exact ⟨k.1, fun q q2 => k.2 q (by omega)⟩
        · rw [if_neg c3]
          exact ⟨ht, fun _ _ => rfl⟩
theorem zLawT_ok {F : Nat → Int32} {len : Int} : zTok (zLawT F len) := (zLaN_ok _ _ _ zTok_new).1
theorem zLaw_ct {F : Nat → Int32} {len : Int} (h0 : 0 ≤ len) (h : 0 < zLaw F len) : zLaw F len = zCt (zLawT F len) := (zLaN_ok _ _ _ zTok_new).2 h (zsk_r h0).1
/-- RULES behind a law's text -/
def zLwF (Z : Nat → Int32) (len : Int) (L : Nat → Int32) : Nat → Int32 := fun j => if 0 < zLaw Z len ∧ 0 ≤ (zLawT Z len j).toInt then zLawT Z len j else L j
theorem zLwF_congr {F G : Nat → Int32} {len : Int} {L : Nat → Int32} (h : 0 ≤ len) (e : ∀ a : Int, 0 ≤ a → a < len → zc F a = zc G a) : ∀ j : Nat, j < 5 → zLwF F len L j = zLwF G len L j := by
  intro j hj
  have k := zLaw_congr h e
  unfold zLwF
  rw [k.1, k.2 j hj]
/-- so far: the first k rules are taken over -/
def zNLF (T : Nat → Int32) (k : Int) (L : Nat → Int32) : Nat → Int32 := fun j => if (j : Int) < k ∧ 0 ≤ (T j).toInt then T j else L j
def zNL (T : Nat → Int32) (k : Int) (L F : Nat → Int32) : Prop := ∀ j : Nat, j < 5 → F j = zNLF T k L j
theorem zNL_0 {T L : Nat → Int32} : zNL T 0 L L := fun j _ => by
  unfold zNLF
  rw [if_neg (by omega)]
theorem zNL_eq {T L F : Nat → Int32} {a b : Int} (h : zNL T a L F) (e : a = b) : zNL T b L F := e ▸ h
theorem zNL_put {T L F : Nat → Int32} {k : Int} {i v : Int32} (h : zNL T k L F) (hi : i.toInt = k) (h0 : 0 ≤ k) (e : v = T i.toNatClampNeg) (hv : 0 ≤ v.toInt) : zNL T (k + 1) L (upd F i.toNatClampNeg v) := by
  have q := z_tn' hi h0
  intro j hj
  unfold zNLF
  by_cases g : j = i.toNatClampNeg
  · have e2 : upd F i.toNatClampNeg v j = v := upd_eq g
    rw [e2, e, ← g, if_pos ⟨by omega, by rw [g, ← e]; exact hv⟩]
  · have e2 : upd F i.toNatClampNeg v j = F j := upd_ne g
    rw [e2, h j hj]
    unfold zNLF
    by_cases c : (j : Int) < k ∧ 0 ≤ (T j).toInt
    · rw [if_pos c, if_pos ⟨by omega, c.2⟩]
    · rw [if_neg c, if_neg (by omega)]
theorem zNL_not {T L F : Nat → Int32} {k : Int} {i : Int32} (h : zNL T k L F) (hi : i.toInt = k) (h0 : 0 ≤ k) (hv : (T i.toNatClampNeg).toInt < 0) : zNL T (k + 1) L F := by
  have q := z_tn' hi h0
  intro j hj
  rw [h j hj]
  unfold zNLF
  by_cases g : j = i.toNatClampNeg
  · rw [g, if_neg (by omega), if_neg (by omega)]
  · by_cases c : (j : Int) < k ∧ 0 ≤ (T j).toInt
    · rw [if_pos c, if_pos ⟨by omega, c.2⟩]
    · rw [if_neg c, if_neg (by omega)]
/-- the row of rules behind a text -/
def zLwP (Z : Nat → Int32) (len : Int) (L F : Nat → Int32) : Prop := ∀ j : Nat, j < 5 → F j = zLwF Z len L j
theorem zLwP_same {Z L : Nat → Int32} {len : Int} (h : zLaw Z len ≤ 0) : zLwP Z len L L := fun j _ => by
  unfold zLwF
  rw [if_neg (by omega)]
theorem zLwP_of {Z T L F : Nat → Int32} {len k : Int} (h : zNL T k L F) (ht : zTold Z len T) (h0 : 0 < zLaw Z len) (hk : 5 ≤ k) : zLwP Z len L F := fun j hj => by
  rw [h j hj]
  unfold zNLF zLwF
  rw [ht h0 j hj]
  by_cases c : 0 ≤ (zLawT Z len j).toInt
  · rw [if_pos ⟨by omega, c⟩, if_pos ⟨h0, c⟩]
  · rw [if_neg (by omega), if_neg (by omega)]
theorem zTold_rng {Z T : Nat → Int32} {len : Int} {i y : Int32} {a : Int} (h : zTold Z len T) (h0 : 0 < zLaw Z len) (hi : i.toInt = a) (ha : 0 ≤ a) (h4 : a ≤ 4) (e : y = T i.toNatClampNeg) : y.toInt = -1 ∨ (0 ≤ y.toInt ∧ zft a y.toInt) := by
  have q := z_tn' hi ha
  have k := h h0 i.toNatClampNeg (by omega)
  rw [e, k, ← q]
  exact zLawT_ok _ (by omega)
/-- RULES are in their ranges -/
def iLaw (F : Nat → Int32) : Prop := ∀ j : Nat, j < 5 → zft j (F j).toInt
theorem iLaw_at {F : Nat → Int32} {i y : Int32} {a : Int} (h : iLaw F) (hi : i.toInt = a) (ha : 0 ≤ a) (h4 : a ≤ 4) (e : y = F i.toNatClampNeg) : zlo a ≤ y.toInt ∧ y.toInt ≤ zhi a := by
  have q := z_tn' hi ha
  have k := h i.toNatClampNeg (by omega)
  rw [e, ← q]
  exact k
theorem iLaw_put {F : Nat → Int32} {i v : Int32} {a b : Int} (h : iLaw F) (hi : i.toInt = a) (hv : v.toInt = b) (ha : 0 ≤ a) (c : zfI a b = 1) : iLaw (upd F i.toNatClampNeg v) := by
  have q := z_tn' hi ha
  intro j hj
  by_cases g : j = i.toNatClampNeg
  · have e2 : upd F i.toNatClampNeg v j = v := upd_eq g
    rw [e2, hv]
    exact zfI_yes c (by omega) rfl
  · have e2 : upd F i.toNatClampNeg v j = F j := upd_ne g
    rw [e2]
    exact h j hj
theorem iLaw_cpy {F G : Nat → Int32} (h : iLaw F) : iLaw (va_cpy F G 0 0 5) := fun j hj => by
  have e : va_cpy F G 0 0 5 j = F j := z_cpy hj
  rw [e]
  exact h j hj
theorem iLaw_P {Z L F : Nat → Int32} {len : Int} (h : iLaw L) (p : zLwP Z len L F) : iLaw F := fun j hj => by
  rw [p j hj]
  unfold zLwF
  by_cases c : 0 < zLaw Z len ∧ 0 ≤ (zLawT Z len j).toInt
  · rw [if_pos c]
    have k := zLawT_ok (F := Z) (len := len) j hj
    rcases k with k | k
    · omega
    · exact k.2
  · rw [if_neg c]
    exact h j hj
