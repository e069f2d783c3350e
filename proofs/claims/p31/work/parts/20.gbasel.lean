/-! a desk as one value: books, image, whether there is one, tape, its length, lanes, sizes, items -/
abbrev zQS : Type := zQB × zQB × Int32 × (Nat → Int32) × Int32 × (Nat → Int32) × (Nat → Int32) × (Nat → Int64)
abbrev sB (s : zQS) : zQB := s.1
abbrev sC (s : zQS) : zQB := s.2.1
abbrev sg (s : zQS) : Int32 := s.2.2.1
abbrev sY (s : zQS) : Nat → Int32 := s.2.2.2.1
abbrev sl (s : zQS) : Int32 := s.2.2.2.2.1
abbrev sa (s : zQS) : Nat → Int32 := s.2.2.2.2.2.1
abbrev sz (s : zQS) : Nat → Int32 := s.2.2.2.2.2.2.1
abbrev si (s : zQS) : Nat → Int64 := s.2.2.2.2.2.2.2
def zYe (n : Int) (Z F : Nat → Int32) : Prop := ∀ a : Int, 0 ≤ a → a < n → zc F a = zc Z a
def sE (s q : zQS) : Prop := qE (sB s) (sB q) ∧ qE (sC s) (sC q) ∧ sg s = sg q ∧ sl s = sl q ∧ (∀ a : Int, 0 ≤ a → a < (sl s).toInt → zc (sY s) a = zc (sY q) a) ∧ sa s = sa q ∧ sz s = sz q ∧ si s = si q
theorem sE_refl (s : zQS) : sE s s := ⟨qE_refl _, qE_refl _, rfl, rfl, fun _ _ _ => rfl, rfl, rfl, rfl⟩
theorem sE_b {s q : zQS} {b d : zQB} (h : sE s q) (e : qE b d) : sE (b, s.2) (d, q.2) := ⟨e, h.2⟩
/-! the calls: what each answers and leaves -/
def aRule (a v : Int32) (s t : zQS) (r : Int) : Prop := r = zAr (qL (sB s)) a.toInt v.toInt ∧ t = ((if zfI a.toInt v.toInt = 1 then upd (qL (sB s)) a.toNatClampNeg v else qL (sB s), (sB s).2), s.2)
theorem aRule_d {a v : Int32} {s q t u : zQS} {r w : Int} (e : sE s q) (h : aRule a v s t r) (g : aRule a v q u w) : sE t u ∧ r = w := by
  obtain ⟨h1, h2⟩ := h
  obtain ⟨g1, g2⟩ := g
  subst h2
  subst g2
  refine ⟨sE_b e (zd_law e.1 (zd_upd e.1.1)), ?_⟩
  rw [h1, g1]
  unfold zAr
  by_cases c : zfI a.toInt v.toInt = 1
  · rw [if_pos c, if_pos c]
    have k := zfI_yes4 c
    rw [e.1.1 a.toInt.toNat (by omega)]
  · rw [if_neg c, if_neg c]
abbrev zBok (a p n : Int) : Prop := 0 ≤ a ∧ a ≤ 4 ∧ 0 ≤ p ∧ p ≤ 999 ∧ 0 ≤ n ∧ n < 5
def aBuy (a p : Int32) (s t : zQS) (r : Int) : Prop := ((a.toInt < 0 ∨ 4 < a.toInt ∨ p.toInt < 0 ∨ 999 < p.toInt → r = -1) ∧ (0 ≤ a.toInt → a.toInt ≤ 4 → 0 ≤ p.toInt → p.toInt ≤ 999 → ((qn (sB s)).toInt < 0 ∨ 5 ≤ (qn (sB s)).toInt) → r = -3) ∧ (0 ≤ a.toInt → a.toInt ≤ 4 → 0 ≤ p.toInt → p.toInt ≤ 999 → 0 ≤ (qn (sB s)).toInt → (qn (sB s)).toInt < 5 → r = (qn (sB s)).toInt)) ∧ t = ((qL (sB s), qt (sB s), qK (sB s), (if zBok a.toInt p.toInt (qn (sB s)).toInt then qn (sB s) + 1 else qn (sB s)), (if zBok a.toInt p.toInt (qn (sB s)).toInt then upd (qS (sB s)) (qn (sB s)).toInt.toNat a else qS (sB s)), (if zBok a.toInt p.toInt (qn (sB s)).toInt then upd (qP (sB s)) (qn (sB s)).toInt.toNat p else qP (sB s)), qM (sB s), qV (sB s), qA (sB s), qZ (sB s), qh (sB s)), s.2)
theorem aBuy_d {a p : Int32} {s q t u : zQS} {r w : Int} (e : sE s q) (h : aBuy a p s t r) (g : aBuy a p q u w) : sE t u ∧ r = w := by
  obtain ⟨⟨h1, h2, h3⟩, ht⟩ := h
  obtain ⟨⟨g1, g2, g3⟩, gt⟩ := g
  have en := e.1.2.2.2.1
  rw [← en] at g2 g3 gt
  subst ht
  subst gt
  refine ⟨sE_b e ⟨e.1.1, e.1.2.1, e.1.2.2.1, rfl, ?_, ?_, e.1.2.2.2.2.2.2⟩, ?_⟩
  · show (if _ then upd (qS (sB s)) _ a else qS (sB s)) = (if _ then upd (qS (sB q)) _ a else qS (sB q))
    rw [e.1.2.2.2.2.1]
  · show zRw (if zBok a.toInt p.toInt (qn (sB s)).toInt then qn (sB s) + 1 else qn (sB s)).toInt (if zBok a.toInt p.toInt (qn (sB s)).toInt then upd (qP (sB s)) (qn (sB s)).toInt.toNat p else qP (sB s)) = zRw (if zBok a.toInt p.toInt (qn (sB s)).toInt then qn (sB s) + 1 else qn (sB s)).toInt (if zBok a.toInt p.toInt (qn (sB s)).toInt then upd (qP (sB q)) (qn (sB s)).toInt.toNat p else qP (sB q))
    by_cases c : zBok a.toInt p.toInt (qn (sB s)).toInt
    · rw [if_pos c, if_pos c, if_pos c]
      have k : (qn (sB s) + 1).toInt = (qn (sB s)).toInt + 1 := zi_add (b := 1) rfl rfl rfl (by have := c.2.2.2.2; omega) (by have := c.2.2.2.2; omega)
      refine zd_rwe fun j hj => ?_
      by_cases d : j = (qn (sB s)).toInt.toNat
      · rw [upd_eq d, upd_eq d]
      · rw [upd_ne d, upd_ne d]
        exact qE_P e.1 (by have := c.2.2.2.2; omega)
    · rw [if_neg c, if_neg c, if_neg c]
      exact e.1.2.2.2.2.2.1
  · by_cases c : a.toInt < 0 ∨ 4 < a.toInt ∨ p.toInt < 0 ∨ 999 < p.toInt
    · rw [h1 c, g1 c]
    · by_cases d : (qn (sB s)).toInt < 0 ∨ 5 ≤ (qn (sB s)).toInt
      · rw [h2 (by omega) (by omega) (by omega) (by omega) d, g2 (by omega) (by omega) (by omega) (by omega) d]
      · rw [h3 (by omega) (by omega) (by omega) (by omega) (by omega) (by omega), g3 (by omega) (by omega) (by omega) (by omega) (by omega) (by omega)]
abbrev zWok (i k v n : Int) : Prop := 0 ≤ i ∧ i < 5 ∧ i < n ∧ 0 ≤ k ∧ k ≤ 3 ∧ 0 ≤ v ∧ v ≤ 99
def aWor (i k v : Int32) (s t : zQS) (r : Int) : Prop := ((i.toInt < 0 ∨ 5 ≤ i.toInt ∨ (qn (sB s)).toInt ≤ i.toInt ∨ k.toInt < 0 ∨ 3 < k.toInt ∨ v.toInt < 0 ∨ 99 < v.toInt → r = -1) ∧ (0 ≤ i.toInt → i.toInt < 5 → i.toInt < (qn (sB s)).toInt → 0 ≤ k.toInt → k.toInt ≤ 3 → 0 ≤ v.toInt → v.toInt ≤ 99 → r = (qV (sB s) (4 * i.toInt + k.toInt).toNat).toInt)) ∧ t = ((qL (sB s), qt (sB s), qK (sB s), qn (sB s), qS (sB s), qP (sB s), qM (sB s), (if zWok i.toInt k.toInt v.toInt (qn (sB s)).toInt then upd (qV (sB s)) (4 * i.toInt + k.toInt).toNat v else qV (sB s)), qA (sB s), qZ (sB s), qh (sB s)), s.2)
theorem aWor_d {i k v : Int32} {s q t u : zQS} {r w : Int} (e : sE s q) (h : aWor i k v s t r) (g : aWor i k v q u w) : sE t u ∧ r = w := by
  obtain ⟨⟨h1, h2⟩, ht⟩ := h
  obtain ⟨⟨g1, g2⟩, gt⟩ := g
  have en := e.1.2.2.2.1
  have eV := e.1.2.2.2.2.2.2.2.1
  rw [← en] at g1 g2 gt
  rw [← eV] at g2 gt
  subst ht
  subst gt
  refine ⟨sE_b e ⟨e.1.1, e.1.2.1, e.1.2.2.1, rfl, e.1.2.2.2.2.1, e.1.2.2.2.2.2.1, e.1.2.2.2.2.2.2.1, rfl, e.1.2.2.2.2.2.2.2.2⟩, ?_⟩
  by_cases c : i.toInt < 0 ∨ 5 ≤ i.toInt ∨ (qn (sB s)).toInt ≤ i.toInt ∨ k.toInt < 0 ∨ 3 < k.toInt ∨ v.toInt < 0 ∨ 99 < v.toInt
  · rw [h1 c, g1 c]
  · rw [h2 (by omega) (by omega) (by omega) (by omega) (by omega) (by omega) (by omega), g2 (by omega) (by omega) (by omega) (by omega) (by omega) (by omega) (by omega)]
abbrev zMok (i v n : Int) : Prop := 0 ≤ i ∧ i < 5 ∧ i < n ∧ 0 ≤ v ∧ v ≤ 40
def aMar (i v : Int32) (s t : zQS) (r : Int) : Prop := ((i.toInt < 0 ∨ 5 ≤ i.toInt ∨ (qn (sB s)).toInt ≤ i.toInt ∨ v.toInt < 0 ∨ 40 < v.toInt → r = -1) ∧ (0 ≤ i.toInt → i.toInt < 5 → i.toInt < (qn (sB s)).toInt → 0 ≤ v.toInt → v.toInt ≤ 40 → r = (qM (sB s) i.toNatClampNeg).toInt)) ∧ t = ((qL (sB s), qt (sB s), qK (sB s), qn (sB s), qS (sB s), qP (sB s), (if zMok i.toInt v.toInt (qn (sB s)).toInt then upd (qM (sB s)) i.toNatClampNeg v else qM (sB s)), qV (sB s), qA (sB s), qZ (sB s), qh (sB s)), s.2)
theorem aMar_d {i v : Int32} {s q t u : zQS} {r w : Int} (e : sE s q) (h : aMar i v s t r) (g : aMar i v q u w) : sE t u ∧ r = w := by
  obtain ⟨⟨h1, h2⟩, ht⟩ := h
  obtain ⟨⟨g1, g2⟩, gt⟩ := g
  have en := e.1.2.2.2.1
  have eM := e.1.2.2.2.2.2.2.1
  rw [← en] at g1 g2 gt
  rw [← eM] at g2 gt
  subst ht
  subst gt
  refine ⟨sE_b e ⟨e.1.1, e.1.2.1, e.1.2.2.1, rfl, e.1.2.2.2.2.1, e.1.2.2.2.2.2.1, rfl, e.1.2.2.2.2.2.2.2⟩, ?_⟩
  by_cases c : i.toInt < 0 ∨ 5 ≤ i.toInt ∨ (qn (sB s)).toInt ≤ i.toInt ∨ v.toInt < 0 ∨ 40 < v.toInt
  · rw [h1 c, g1 c]
  · rw [h2 (by omega) (by omega) (by omega) (by omega) (by omega), g2 (by omega) (by omega) (by omega) (by omega) (by omega)]
abbrev zEok (i v n p : Int) : Prop := 0 ≤ i ∧ i < 5 ∧ i < n ∧ 1 ≤ v ∧ v ≤ 999 ∧ p + v ≤ 9999
def aEarn (i v : Int32) (s t : zQS) (r : Int) : Prop := r = zAearn (qn (sB s)).toInt (qP (sB s)) i.toInt v.toInt ∧ t = ((qL (sB s), qt (sB s), qK (sB s), qn (sB s), qS (sB s), (if zEok i.toInt v.toInt (qn (sB s)).toInt (qP (sB s) i.toInt.toNat).toInt then upd (qP (sB s)) i.toNatClampNeg (qP (sB s) i.toNatClampNeg + v) else qP (sB s)), (sB s).2.2.2.2.2.2), s.2)
theorem aEarn_d {i v : Int32} {s q t u : zQS} {r w : Int} (e : sE s q) (h : aEarn i v s t r) (g : aEarn i v q u w) : sE t u ∧ r = w := by
  obtain ⟨h1, ht⟩ := h
  obtain ⟨g1, gt⟩ := g
  have z := zd_earn e.1 i.toInt v.toInt
  subst ht
  subst gt
  refine ⟨sE_b e ⟨e.1.1, e.1.2.1, e.1.2.2.1, e.1.2.2.2.1, e.1.2.2.2.2.1, ?_, e.1.2.2.2.2.2.2⟩, by rw [h1, g1, z]⟩
  show zRw (qn (sB s)).toInt (if zEok i.toInt v.toInt (qn (sB s)).toInt (qP (sB s) i.toInt.toNat).toInt then upd (qP (sB s)) i.toNatClampNeg (qP (sB s) i.toNatClampNeg + v) else qP (sB s)) = zRw (qn (sB s)).toInt (if zEok i.toInt v.toInt (qn (sB q)).toInt (qP (sB q) i.toInt.toNat).toInt then upd (qP (sB q)) i.toNatClampNeg (qP (sB q) i.toNatClampNeg + v) else qP (sB q))
  rw [← e.1.2.2.2.1]
  by_cases c : 0 ≤ i.toInt ∧ i.toInt < (qn (sB s)).toInt
  · have k := z_tn (i := i) rfl c.1
    have p := zd_rwx (j := i.toInt.toNat) e.1.2.2.2.2.2.1 (by omega)
    rw [k, p]
    by_cases d : zEok i.toInt v.toInt (qn (sB s)).toInt (qP (sB q) i.toInt.toNat).toInt
    · rw [if_pos d, if_pos d]
      exact zd_rwu e.1.2.2.2.2.2.1
    · rw [if_neg d, if_neg d]
      exact e.1.2.2.2.2.2.1
  · rw [if_neg fun d => c ⟨d.1, d.2.2.1⟩, if_neg fun d => c ⟨d.1, d.2.2.1⟩]
    exact e.1.2.2.2.2.2.1
/-! the tape's calls -/
def aType (v : Int64) (n : Int32) (s t : zQS) (r : Int) : Prop := ∃ (Y : Nat → Int32) (l : Int32), r = zTR v n.toInt (sl s).toInt ∧ l.toInt = zTL v n.toInt (sl s).toInt ∧ zTy v n.toInt (sl s).toInt l.toInt (sY s) Y ∧ t = (sB s, sC s, sg s, Y, l, sa s, sz s, si s)
theorem aType_d {v : Int64} {n : Int32} {s q t u : zQS} {r w : Int} (e : sE s q) (h : aType v n s t r) (g : aType v n q u w) : sE t u ∧ r = w := by
  obtain ⟨Y, l, h1, h2, h3, ht⟩ := h
  obtain ⟨X, m, g1, g2, g3, gt⟩ := g
  have el := e.2.2.2.1
  rw [← el] at g1 g2 g3
  have ee : l = m := Int32.toInt_inj.mp (h2.trans g2.symm)
  subst ee
  subst ht
  subst gt
  exact ⟨⟨e.1, e.2.1, e.2.2.1, rfl, zTy_rel h3 g3 rfl rfl e.2.2.2.2.1, e.2.2.2.2.2⟩, h1.trans g1.symm⟩
def aLots (s t : zQS) (r : Int) : Prop := ∃ (Y : Nat → Int32) (l : Int32) (K : Nat → Int32), r = zLots (sY s) (sl s).toInt ∧ l.toInt = 0 ∧ zKdQ (sY s) (sl s).toInt (qK (sB s)) K ∧ t = ((qL (sB s), (if 1 ≤ zLots (sY s) (sl s).toInt then Int32.ofInt (zLots (sY s) (sl s).toInt) else qt (sB s)), K, (sB s).2.2.2), sC s, sg s, Y, l, sa s, sz s, si s)
theorem aLots_d {s q t u : zQS} {r w : Int} (e : sE s q) (h0 : 0 ≤ (sl s).toInt) (h6 : (sl s).toInt ≤ 60) (h : aLots s t r) (g : aLots q u w) : sE t u ∧ r = w := by
  obtain ⟨Y, l, K, h1, h2, h3, ht⟩ := h
  obtain ⟨X, m, J, g1, g2, g3, gt⟩ := g
  have el := e.2.2.2.1
  have ez : zLots (sY s) (sl s).toInt = zLots (sY q) (sl s).toInt := zLots_congr h0 e.2.2.2.2.1
  have ek : zLotK (sY s) (sl s).toInt = zLotK (sY q) (sl s).toInt := zLotK_congr h0 e.2.2.2.2.1
  have hr := zLots_r (F := sY s) (len := (sl s).toInt) h0
  rw [← el] at g1 g3 gt
  rw [← ez] at g1 gt
  have ee : l = m := Int32.toInt_inj.mp (h2.trans g2.symm)
  subst ee
  subst ht
  subst gt
  refine ⟨⟨⟨e.1.1, ?_, ?_, e.1.2.2.2⟩, e.2.1, e.2.2.1, rfl, fun a a0 a1 => ?_, e.2.2.2.2.2⟩, h1.trans g1.symm⟩
  · show (if _ then _ else qt (sB s)) = (if _ then _ else qt (sB q))
    rw [e.1.2.1]
  · intro j hj
    have hj : (j : Int) < (if 1 ≤ zLots (sY s) (sl s).toInt then Int32.ofInt (zLots (sY s) (sl s).toInt) else qt (sB s)).toInt := hj
    show K j = J j
    by_cases c : 1 ≤ zLots (sY s) (sl s).toInt
    · rw [if_pos c, Int32.toInt_ofInt_of_le (by omega) (by omega)] at hj
      have p := h3.2.1 c j hj
      have x := g3.2.1 (by omega) j (by omega)
      rw [← ek] at x
      exact Int32.toInt_inj.mp (p.trans x.symm)
    · rw [if_neg c] at hj
      rw [h3.2.2 (by omega), g3.2.2 (by omega)]
      exact e.1.2.2.1 j hj
  · have a1 : a < l.toInt := a1
    omega
def aLaw (s t : zQS) (r : Int) : Prop := ∃ (Y : Nat → Int32) (l : Int32) (L : Nat → Int32), r = zLaw (sY s) (sl s).toInt ∧ l.toInt = 0 ∧ zLwP (sY s) (sl s).toInt (qL (sB s)) L ∧ t = ((L, (sB s).2), sC s, sg s, Y, l, sa s, sz s, si s)
theorem aLaw_d {s q t u : zQS} {r w : Int} (e : sE s q) (h0 : 0 ≤ (sl s).toInt) (h : aLaw s t r) (g : aLaw q u w) : sE t u ∧ r = w := by
  obtain ⟨Y, l, L, h1, h2, h3, ht⟩ := h
  obtain ⟨X, m, D, g1, g2, g3, gt⟩ := g
  have el := e.2.2.2.1
  have ez := (zLaw_congr h0 e.2.2.2.2.1).1
  rw [← el] at g1 g3
  have ee : l = m := Int32.toInt_inj.mp (h2.trans g2.symm)
  subst ee
  subst ht
  subst gt
  refine ⟨⟨zd_law e.1 fun j hj => ?_, e.2.1, e.2.2.1, rfl, fun a a0 a1 => ?_, e.2.2.2.2.2⟩, h1.trans (ez.trans g1.symm)⟩
  · have c := (zLaw_congr h0 e.2.2.2.2.1).2 j hj
    rw [h3 j hj, g3 j hj]
    unfold zLwF
    rw [ez, c, e.1.1 j hj]
  · have a1 : a < l.toInt := a1
    omega
/-! a morning -/
def aMor (s t : zQS) (r : Int) : Prop := ∃ (P A Z : Nat → Int32), r = zAmor (qt (sB s)).toInt (qh (sB s)).toInt (qFs (sB s) 0 (qt (sB s)).toInt.toNat).2.2.2 ∧ zPuM (qt (sB s)).toInt (qh (sB s)).toInt (qn (sB s)).toInt (qFs (sB s) 0 (qt (sB s)).toInt.toNat).1 (qP (sB s)) P ∧ zSqL (qt (sB s)).toInt (qh (sB s)).toInt (qL (sB s)) (qn (sB s)).toInt (qS (sB s)) (qV (sB s)) (zRw (qn (sB s)).toInt (qM (sB s))) (zIv (qK (sB s))) (zRw (qn (sB s)).toInt (qP (sB s))) (qA (sB s)) (qZ (sB s)) A ∧ zSqM (qt (sB s)).toInt (qh (sB s)).toInt (qL (sB s)) (qn (sB s)).toInt (qS (sB s)) (qV (sB s)) (zRw (qn (sB s)).toInt (qM (sB s))) (zIv (qK (sB s))) (zRw (qn (sB s)).toInt (qP (sB s))) (qA (sB s)) (qZ (sB s)) Z ∧ t = ((qL (sB s), qt (sB s), qK (sB s), qn (sB s), qS (sB s), P, qM (sB s), qV (sB s), A, Z, (if 0 < (qt (sB s)).toInt ∧ (qh (sB s)).toInt < 9999 then qh (sB s) + 1 else qh (sB s))), s.2)
theorem aMor_d {s q t u : zQS} {r w : Int} (e : sE s q) (h : aMor s t r) (g : aMor q u w) : sE t u ∧ r = w := by
  obtain ⟨P, A, Z, h1, h2, h3, h4, ht⟩ := h
  obtain ⟨Q, B, X, g1, g2, g3, g4, gt⟩ := g
  have er := zd_mor e.1
  have f := zd_fs e.1 (ring := 0) (k := (qt (sB s)).toInt.toNat) (by omega)
  have sp : zSpn (qL (sB s)) (qn (sB s)).toInt (qS (sB s)) (qV (sB s)) (zRw (qn (sB s)).toInt (qM (sB s))) (zIv (qK (sB s))) (zRw (qn (sB s)).toInt (qP (sB s))) (zIv (qA (sB s))) (zIv (qZ (sB s))) (qt (sB s)).toInt.toNat = zSpn (qL (sB q)) (qn (sB q)).toInt (qS (sB q)) (qV (sB q)) (zRw (qn (sB q)).toInt (qM (sB q))) (zIv (qK (sB q))) (zRw (qn (sB q)).toInt (qP (sB q))) (zIv (qA (sB q))) (zIv (qZ (sB q))) (qt (sB s)).toInt.toNat := by
    obtain ⟨eL, et, eK, en, eS, eP, eM, eV, eA, eZ, eh⟩ := e.1
    rw [eP, zSpn_cg (K := zIv (qK (sB s))) (J := zIv (qK (sB q))) eL (qt (sB s)).toInt.toNat fun j hj => ?_, en, eS, eM, eV, eA, eZ]
    show (qK (sB s) j).toInt = (qK (sB q) j).toInt
    rw [eK j (by omega)]
  have et := e.1.2.1
  have en := e.1.2.2.2.1
  have eh := e.1.2.2.2.2.2.2.2.2.2.2
  rw [← et, ← eh, ← en, ← f] at g2
  rw [← et, ← eh] at g3 g4 gt
  subst ht
  subst gt
  refine ⟨sE_b e ⟨e.1.1, rfl, e.1.2.2.1, e.1.2.2.2.1, e.1.2.2.2.2.1, ?_, e.1.2.2.2.2.2.2.1, e.1.2.2.2.2.2.2.2.1, ?_, ?_, rfl⟩, by rw [h1, g1, er]⟩
  · show zRw (qn (sB s)).toInt P = zRw (qn (sB s)).toInt Q
    by_cases c : 0 < (qt (sB s)).toInt ∧ (qh (sB s)).toInt < 9999
    · rw [h2.2.1 c.1 c.2, g2.2.1 c.1 c.2]
    · rw [h2.2.2 (by omega), g2.2.2 (by omega)]
      exact e.1.2.2.2.2.2.1
  · show A = B
    by_cases c : 0 < (qt (sB s)).toInt ∧ (qh (sB s)).toInt < 9999
    · funext j
      have a := h3.1 c j
      have b := g3.1 c j
      rw [← sp] at b
      exact Int32.toInt_inj.mp (a.trans b.symm)
    · rw [h3.2 c, g3.2 c]
      exact e.1.2.2.2.2.2.2.2.2.1
  · show Z = X
    by_cases c : 0 < (qt (sB s)).toInt ∧ (qh (sB s)).toInt < 9999
    · funext j
      have a := h4.1 c j
      have b := g4.1 c j
      rw [← sp] at b
      exact Int32.toInt_inj.mp (a.trans b.symm)
    · rw [h4.2 c, g4.2 c]
      exact e.1.2.2.2.2.2.2.2.2.2.1
/-! images -/
abbrev qCp (b d : zQB) : zQB := (va_cpy (qL b) (qL d) 0 0 5, qt b, va_cpy (qK b) (qK d) 0 0 6, qn b, va_cpy (qS b) (qS d) 0 0 5, va_cpy (qP b) (qP d) 0 0 5, va_cpy (qM b) (qM d) 0 0 5, va_cpy (qV b) (qV d) 0 0 20, va_cpy (qA b) (qA d) 0 0 20, va_cpy (qZ b) (qZ d) 0 0 20, qh b)
theorem z_cpy2 {F G : Nat → Int32} {n j : Nat} : va_cpy F G 0 0 n j = if j < n then F j else G j := by
  by_cases c : j < n
  · rw [if_pos c, z_cpy c]
  · rw [if_neg c]
    unfold va_cpy
    exact if_neg (by omega)
theorem z_cpyE {F G A B : Nat → Int32} {n : Nat} (h : F = A) (g : G = B) : va_cpy F G 0 0 n = va_cpy A B 0 0 n := by rw [h, g]
theorem qCp_d {b d x y : zQB} (e : qE b d) (g : qE x y) (ht : (qt b).toInt ≤ 6) (hn : (qn b).toInt ≤ 5) : qE (qCp b x) (qCp d y) := by
  obtain ⟨eL, et, eK, en, eS, eP, eM, eV, eA, eZ, eh⟩ := e
  obtain ⟨fL, ft, fK, fn, fS, fP, fM, fV, fA, fZ, fh⟩ := g
  refine ⟨fun j hj => ?_, et, fun j hj => ?_, en, z_cpyE eS fS, ?_, z_cpyE eM fM, z_cpyE eV fV, z_cpyE eA fA, z_cpyE eZ fZ, eh⟩
  · show va_cpy (qL b) (qL x) 0 0 5 j = va_cpy (qL d) (qL y) 0 0 5 j
    rw [z_cpy hj, z_cpy hj]
    exact eL j hj
  · have hj : (j : Int) < (qt b).toInt := hj
    show va_cpy (qK b) (qK x) 0 0 6 j = va_cpy (qK d) (qK y) 0 0 6 j
    rw [z_cpy (by omega), z_cpy (by omega)]
    exact eK j hj
  · show zRw (qn b).toInt (va_cpy (qP b) (qP x) 0 0 5) = zRw (qn b).toInt (va_cpy (qP d) (qP y) 0 0 5)
    rw [zRw_cpy hn, zRw_cpy hn]
    exact eP
def aImg (s t : zQS) (r : Int) : Prop := r = 1 ∧ t = (sB s, qCp (sB s) (sC s), 1, s.2.2.2)
theorem aImg_d {s q t u : zQS} {r w : Int} (e : sE s q) (ht : (qt (sB s)).toInt ≤ 6) (hn : (qn (sB s)).toInt ≤ 5) (h : aImg s t r) (g : aImg q u w) : sE t u ∧ r = w := by
  obtain ⟨h1, h2⟩ := h
  obtain ⟨g1, g2⟩ := g
  subst h2
  subst g2
  exact ⟨⟨e.1, qCp_d e.1 e.2.1 ht hn, rfl, e.2.2.2⟩, h1.trans g1.symm⟩
def aRes (s t : zQS) (r : Int) : Prop := (((sg s).toInt = 0 → r = -4) ∧ ((sg s).toInt ≠ 0 → r = 1)) ∧ t = ((if (sg s).toInt ≠ 0 then qCp (sC s) (sB s) else sB s), s.2)
theorem aRes_d {s q t u : zQS} {r w : Int} (e : sE s q) (ht : (qt (sC s)).toInt ≤ 6) (hn : (qn (sC s)).toInt ≤ 5) (h : aRes s t r) (g : aRes q u w) : sE t u ∧ r = w := by
  obtain ⟨⟨h1, h2⟩, h3⟩ := h
  obtain ⟨⟨g1, g2⟩, g3⟩ := g
  have eg := e.2.2.1
  rw [← eg] at g1 g2 g3
  subst h3
  subst g3
  by_cases c : (sg s).toInt = 0
  · rw [h1 c, g1 c, if_neg (by omega), if_neg (by omega)]
    exact ⟨e, rfl⟩
  · rw [h2 c, g2 c, if_pos c, if_pos c]
    exact ⟨⟨qCp_d e.2.1 e.1 ht hn, e.2⟩, rfl⟩
/-! the sheets' calls -/
def aShe (a l n : Int32) (s t : zQS) (r : Int) : Prop := ((0 ≤ a.toInt → a.toInt ≤ 3 → 0 ≤ l.toInt → l.toInt ≤ 2 → 0 ≤ n.toInt → n.toInt ≤ 16 → r = n.toInt) ∧ (0 ≤ a.toInt → a.toInt ≤ 3 → 0 ≤ l.toInt → l.toInt ≤ 2 → n.toInt < 0 → r = -14) ∧ (a.toInt < 0 ∨ 3 < a.toInt ∨ l.toInt < 0 ∨ 2 < l.toInt ∨ 16 < n.toInt → r = -1)) ∧ t = (sB s, sC s, sg s, sY s, sl s, (if 0 ≤ a.toInt ∧ a.toInt ≤ 3 ∧ 0 ≤ l.toInt ∧ l.toInt ≤ 2 ∧ 0 ≤ n.toInt ∧ n.toInt ≤ 16 then upd (sa s) a.toNatClampNeg l else sa s), (if 0 ≤ a.toInt ∧ a.toInt ≤ 3 ∧ 0 ≤ l.toInt ∧ l.toInt ≤ 2 ∧ 0 ≤ n.toInt ∧ n.toInt ≤ 16 then upd (sz s) a.toNatClampNeg n else sz s), zSht a.toInt l.toInt n.toInt (si s))
theorem aShe_d {a l n : Int32} {s q t u : zQS} {r w : Int} (e : sE s q) (h : aShe a l n s t r) (g : aShe a l n q u w) : sE t u ∧ r = w := by
  obtain ⟨⟨h1, h2, h3⟩, ht⟩ := h
  obtain ⟨⟨g1, g2, g3⟩, gt⟩ := g
  subst ht
  subst gt
  refine ⟨⟨e.1, e.2.1, e.2.2.1, e.2.2.2.1, e.2.2.2.2.1, ?_, ?_, ?_⟩, ?_⟩
  · show (if _ then upd (sa s) _ l else sa s) = (if _ then upd (sa q) _ l else sa q)
    rw [e.2.2.2.2.2.1]
  · show (if _ then upd (sz s) _ n else sz s) = (if _ then upd (sz q) _ n else sz q)
    rw [e.2.2.2.2.2.2.1]
  · show zSht a.toInt l.toInt n.toInt (si s) = zSht a.toInt l.toInt n.toInt (si q)
    rw [e.2.2.2.2.2.2.2]
  · by_cases c : a.toInt < 0 ∨ 3 < a.toInt ∨ l.toInt < 0 ∨ 2 < l.toInt ∨ 16 < n.toInt
    · rw [h3 c, g3 c]
    · by_cases d : n.toInt < 0
      · rw [h2 (by omega) (by omega) (by omega) (by omega) d, g2 (by omega) (by omega) (by omega) (by omega) d]
      · rw [h1 (by omega) (by omega) (by omega) (by omega) (by omega) (by omega), g1 (by omega) (by omega) (by omega) (by omega) (by omega) (by omega)]
def aDrop (a : Int32) (s t : zQS) (r : Int) : Prop := ((a.toInt < 0 ∨ 3 < a.toInt → r = -1) ∧ (0 ≤ a.toInt → a.toInt ≤ 3 → (sa s a.toNatClampNeg).toInt < 0 → r = -11) ∧ (0 ≤ a.toInt → a.toInt ≤ 3 → 0 ≤ (sa s a.toNatClampNeg).toInt → r = (sz s a.toNatClampNeg).toInt)) ∧ t = (sB s, sC s, sg s, sY s, sl s, (if 0 ≤ a.toInt ∧ a.toInt ≤ 3 ∧ 0 ≤ (sa s a.toNatClampNeg).toInt then upd (sa s) a.toNatClampNeg (-1) else sa s), sz s, si s)
theorem aDrop_d {a : Int32} {s q t u : zQS} {r w : Int} (e : sE s q) (h : aDrop a s t r) (g : aDrop a q u w) : sE t u ∧ r = w := by
  obtain ⟨⟨h1, h2, h3⟩, ht⟩ := h
  obtain ⟨⟨g1, g2, g3⟩, gt⟩ := g
  have ea := e.2.2.2.2.2.1
  have ez := e.2.2.2.2.2.2.1
  rw [← ea] at g2 g3 gt
  rw [← ez] at g3
  subst ht
  subst gt
  refine ⟨⟨e.1, e.2.1, e.2.2.1, e.2.2.2.1, e.2.2.2.2.1, rfl, e.2.2.2.2.2.2⟩, ?_⟩
  by_cases c : a.toInt < 0 ∨ 3 < a.toInt
  · rw [h1 c, g1 c]
  · by_cases d : (sa s a.toNatClampNeg).toInt < 0
    · rw [h2 (by omega) (by omega) d, g2 (by omega) (by omega) d]
    · rw [h3 (by omega) (by omega) (by omega), g3 (by omega) (by omega) (by omega)]
def aHus (s t : zQS) (r : Int) : Prop := ∃ (A Z : Nat → Int32), r = zWi (zIv (qA (sB s))) (zIv (qZ (sB s))) 20 ∧ zFr 0 20 (qA (sB s)) A ∧ zFr 99 20 (qZ (sB s)) Z ∧ t = ((qL (sB s), qt (sB s), qK (sB s), qn (sB s), qS (sB s), qP (sB s), qM (sB s), qV (sB s), A, Z, qh (sB s)), s.2)
theorem aHus_d {s q t u : zQS} {r w : Int} (e : sE s q) (h : aHus s t r) (g : aHus q u w) : sE t u ∧ r = w := by
  obtain ⟨A, Z, h1, h2, h3, ht⟩ := h
  obtain ⟨B, X, g1, g2, g3, gt⟩ := g
  have eA := e.1.2.2.2.2.2.2.2.2.1
  have eZ := e.1.2.2.2.2.2.2.2.2.2.1
  rw [← eA, ← eZ] at g1
  rw [← eA] at g2
  rw [← eZ] at g3
  subst ht
  subst gt
  refine ⟨sE_b e ⟨e.1.1, e.1.2.1, e.1.2.2.1, e.1.2.2.2.1, e.1.2.2.2.2.1, e.1.2.2.2.2.2.1, e.1.2.2.2.2.2.2.1, e.1.2.2.2.2.2.2.2.1, ?_, ?_, e.1.2.2.2.2.2.2.2.2.2.2⟩, h1.trans g1.symm⟩
  · funext j
    exact (h2 j).trans (g2 j).symm
  · funext j
    exact (h3 j).trans (g3 j).symm
abbrev zFok (a l i T L S : Int) : Prop := 0 ≤ a ∧ a ≤ 3 ∧ 0 ≤ l ∧ l ≤ 2 ∧ L = l ∧ 0 ≤ i ∧ i + 2 * T ≤ S ∧ 0 < T
def aFilm (a l i : Int32) (s t : zQS) (r : Int) : Prop := ∃ (I : Nat → Int64), ((a.toInt < 0 ∨ 3 < a.toInt ∨ l.toInt < 0 ∨ 2 < l.toInt → r = -1) ∧ (0 ≤ a.toInt → a.toInt ≤ 3 → 0 ≤ l.toInt → l.toInt ≤ 2 → (sa s a.toNatClampNeg).toInt < 0 → r = -11) ∧ (0 ≤ a.toInt → a.toInt ≤ 3 → 0 ≤ l.toInt → l.toInt ≤ 2 → 0 ≤ (sa s a.toNatClampNeg).toInt → (sa s a.toNatClampNeg).toInt ≠ l.toInt → r = -12) ∧ (0 ≤ a.toInt → a.toInt ≤ 3 → 0 ≤ l.toInt → l.toInt ≤ 2 → (sa s a.toNatClampNeg).toInt = l.toInt → (i.toInt < 0 ∨ (2 * (qt (sB s)).toInt) < 0 ∨ (sz s a.toNatClampNeg).toInt < i.toInt + (2 * (qt (sB s)).toInt)) → r = -13) ∧ (0 ≤ a.toInt → a.toInt ≤ 3 → 0 ≤ l.toInt → l.toInt ≤ 2 → (sa s a.toNatClampNeg).toInt = l.toInt → 0 ≤ i.toInt → i.toInt + (2 * (qt (sB s)).toInt) ≤ (sz s a.toNatClampNeg).toInt → (qt (sB s)).toInt ≤ 0 → r = -2) ∧ (0 ≤ a.toInt → a.toInt ≤ 3 → 0 ≤ l.toInt → l.toInt ≤ 2 → (sa s a.toNatClampNeg).toInt = l.toInt → 0 ≤ i.toInt → i.toInt + (2 * (qt (sB s)).toInt) ≤ (sz s a.toNatClampNeg).toInt → 0 < (qt (sB s)).toInt → r = 2 * (qt (sB s)).toInt)) ∧ zFil (zFok a.toInt l.toInt i.toInt (qt (sB s)).toInt (sa s a.toNatClampNeg).toInt (sz s a.toNatClampNeg).toInt) (fun j => (qFo (sB s) 0 j).1) (fun j => (qFo (sB s) 0 j).2.1) (16 * a.toInt + i.toInt) (qt (sB s)).toInt.toNat (si s) I ∧ t = (sB s, sC s, sg s, sY s, sl s, sa s, sz s, I)
theorem aFilm_d {a l i : Int32} {s q t u : zQS} {r w : Int} (e : sE s q) (h0 : 0 ≤ (qt (sB s)).toInt) (h : aFilm a l i s t r) (g : aFilm a l i q u w) : sE t u ∧ r = w := by
  obtain ⟨I, ⟨h1, h2, h3, h4, h5, h6⟩, h7, ht⟩ := h
  obtain ⟨J, ⟨g1, g2, g3, g4, g5, g6⟩, g7, gt⟩ := g
  have ea := e.2.2.2.2.2.1
  have ez := e.2.2.2.2.2.2.1
  have et := e.1.2.1
  rw [← ea] at g2 g3 g4 g5 g6 g7
  rw [← ez] at g4 g5 g6 g7
  rw [← et] at g4 g5 g6 g7
  have ef := zFm_cg (W := fun j => (qFo (sB s) 0 j).1) (P := fun j => (qFo (sB s) 0 j).2.1) (W2 := fun j => (qFo (sB q) 0 j).1) (P2 := fun j => (qFo (sB q) 0 j).2.1) (b := 16 * a.toInt + i.toInt) (Z := si s) (qt (sB s)).toInt.toNat fun j hj => by
    have f := zd_fo e.1 (ring := 0) (k := j) (by omega)
    exact ⟨congrArg (fun o : zO => o.1) f, congrArg (fun o : zO => o.2.1) f⟩
  rw [← e.2.2.2.2.2.2.2] at g7
  subst ht
  subst gt
  refine ⟨⟨e.1, e.2.1, e.2.2.1, e.2.2.2.1, e.2.2.2.2.1, ea, ez, ?_⟩, ?_⟩
  · show I = J
    by_cases c : zFok a.toInt l.toInt i.toInt (qt (sB s)).toInt (sa s a.toNatClampNeg).toInt (sz s a.toNatClampNeg).toInt
    · rw [h7.1 c, g7.1 c, ef]
    · rw [h7.2 c, g7.2 c]
  · by_cases c1 : a.toInt < 0 ∨ 3 < a.toInt ∨ l.toInt < 0 ∨ 2 < l.toInt
    · rw [h1 c1, g1 c1]
    · by_cases c2 : (sa s a.toNatClampNeg).toInt < 0
      · rw [h2 (by omega) (by omega) (by omega) (by omega) c2, g2 (by omega) (by omega) (by omega) (by omega) c2]
      · by_cases c3 : (sa s a.toNatClampNeg).toInt = l.toInt
        · by_cases c4 : i.toInt < 0 ∨ (2 * (qt (sB s)).toInt) < 0 ∨ (sz s a.toNatClampNeg).toInt < i.toInt + (2 * (qt (sB s)).toInt)
          · rw [h4 (by omega) (by omega) (by omega) (by omega) c3 c4, g4 (by omega) (by omega) (by omega) (by omega) c3 c4]
          · by_cases c5 : (qt (sB s)).toInt ≤ 0
            · rw [h5 (by omega) (by omega) (by omega) (by omega) c3 (by omega) (by omega) c5, g5 (by omega) (by omega) (by omega) (by omega) c3 (by omega) (by omega) c5]
            · rw [h6 (by omega) (by omega) (by omega) (by omega) c3 (by omega) (by omega) (by omega), g6 (by omega) (by omega) (by omega) (by omega) c3 (by omega) (by omega) (by omega)]
        · rw [h3 (by omega) (by omega) (by omega) (by omega) (by omega) c3, g3 (by omega) (by omega) (by omega) (by omega) (by omega) c3]
def aWhi (a l i w : Int32) (s t : zQS) (r : Int) : Prop := r = zAwh (sa s) (sz s) a l i.toInt w.toInt (qt (sB s)).toInt (zCn (zRs9 (qn (sB s)).toInt (fun k => zAf (fun j => (qFo (sB s) (Int32.ofNat k) j).1) (fun j => (qFo (sB s) (Int32.ofNat k) j).2.1) (si s) (16 * a.toInt + i.toInt) (qt (sB s)).toInt.toNat)) 32) ∧ t = s
theorem aWhi_d {a l i w : Int32} {s q t u : zQS} {r z : Int} (e : sE s q) (h : aWhi a l i w s t r) (g : aWhi a l i w q u z) : sE t u ∧ r = z := by
  obtain ⟨h1, h2⟩ := h
  obtain ⟨g1, g2⟩ := g
  subst h2
  subst g2
  refine ⟨e, ?_⟩
  have f : (fun k : Nat => zAf (fun j => (qFo (sB t) (Int32.ofNat k) j).1) (fun j => (qFo (sB t) (Int32.ofNat k) j).2.1) (si t) (16 * a.toInt + i.toInt) (qt (sB t)).toInt.toNat) = (fun k : Nat => zAf (fun j => (qFo (sB u) (Int32.ofNat k) j).1) (fun j => (qFo (sB u) (Int32.ofNat k) j).2.1) (si t) (16 * a.toInt + i.toInt) (qt (sB t)).toInt.toNat) := by
    funext k
    refine zAf_cg _ fun j hj => ?_
    have f := zd_fo e.1 (ring := Int32.ofNat k) (k := j) (by omega)
    exact ⟨congrArg (fun o : zO => o.1) f, fun _ => congrArg (fun o : zO => o.2.1) f⟩
  rw [h1, g1, f, e.1.2.1, e.1.2.2.2.1, e.2.2.2.2.2.1, e.2.2.2.2.2.2.1, e.2.2.2.2.2.2.2]
