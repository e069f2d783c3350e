/-! calls one after another -/
abbrev zRel : Type := zQS → zQS → Int → Prop
def sOk (s : zQS) : Prop := (0 ≤ (sl s).toInt ∧ (sl s).toInt ≤ 60) ∧ (0 ≤ (qt (sB s)).toInt ∧ (qt (sB s)).toInt ≤ 6) ∧ (qn (sB s)).toInt ≤ 5 ∧ (qt (sC s)).toInt ≤ 6 ∧ (qn (sC s)).toInt ≤ 5 ∧ iLaw (qL (sB s))
def zDet (F : zRel) : Prop := ∀ (s q t u : zQS) (r w : Int), sE s q → sOk s → F s t r → F q u w → sE t u ∧ r = w
def dRun : List zRel → zQS → zQS → Prop
  | [], s, t => s = t
  | F :: fs, s, t => ∃ (m : zQS) (r : Int), F s m r ∧ sOk m ∧ dRun fs m t
theorem dRun_d : ∀ (fs : List zRel), (∀ F ∈ fs, zDet F) → ∀ {s q t u : zQS}, sE s q → sOk s → dRun fs s t → dRun fs q u → sE t u := by
  intro fs
  induction fs with
  | nil =>
    intro _ s q t u e _ h g
    have h : s = t := h
    have g : q = u := g
    rw [← h, ← g]
    exact e
  | cons F fs ih =>
    intro hd s q t u e k h g
    obtain ⟨m, r, h1, h2, h3⟩ := h
    obtain ⟨n, w, g1, g2, g3⟩ := g
    exact ih (fun F hF => hd F (List.mem_cons.mpr (Or.inr hF))) (hd F (List.mem_cons.mpr (Or.inl rfl)) s q m n r w e k h1 g1).1 h2 h3 g3
theorem dRun_app : ∀ (fs : List zRel) {gs : List zRel} {s m t : zQS}, dRun fs s m → dRun gs m t → dRun (fs ++ gs) s t := by
  intro fs
  induction fs with
  | nil =>
    intro gs s m t h g
    have h : s = m := h
    rw [h]
    exact g
  | cons F fs ih =>
    intro gs s m t h g
    obtain ⟨k, r, h1, h2, h3⟩ := h
    exact ⟨k, r, h1, h2, ih h3 g⟩
theorem dRun_one {F : zRel} {s t : zQS} {r : Int} (h : F s t r) (k : sOk t) : dRun [F] s t := ⟨t, r, h, k, rfl⟩
theorem dRun_snoc {fs : List zRel} {F : zRel} {s m t : zQS} {r : Int} (h : dRun fs s m) (g : F m t r) (k : sOk t) : dRun (fs ++ [F]) s t := dRun_app fs h (dRun_one g k)
theorem dRun_eq {fs gs : List zRel} {s t : zQS} (h : dRun fs s t) (e : fs = gs) : dRun gs s t := e ▸ h
theorem dRun_nil {s : zQS} : dRun [] s s := rfl
theorem det_rule {a v : Int32} : zDet (aRule a v) := fun _ _ _ _ _ _ e _ h g => aRule_d e h g
theorem det_buy {a v : Int32} : zDet (aBuy a v) := fun _ _ _ _ _ _ e _ h g => aBuy_d e h g
theorem det_wor {a k v : Int32} : zDet (aWor a k v) := fun _ _ _ _ _ _ e _ h g => aWor_d e h g
theorem det_mar {a v : Int32} : zDet (aMar a v) := fun _ _ _ _ _ _ e _ h g => aMar_d e h g
theorem det_earn {a v : Int32} : zDet (aEarn a v) := fun _ _ _ _ _ _ e _ h g => aEarn_d e h g
theorem det_type {v : Int64} {n : Int32} : zDet (aType v n) := fun _ _ _ _ _ _ e _ h g => aType_d e h g
theorem det_lots : zDet aLots := fun _ _ _ _ _ _ e k h g => aLots_d e k.1.1 k.1.2 h g
theorem det_law : zDet aLaw := fun _ _ _ _ _ _ e k h g => aLaw_d e k.1.1 h g
theorem det_mor : zDet aMor := fun _ _ _ _ _ _ e _ h g => aMor_d e h g
theorem det_img : zDet aImg := fun _ _ _ _ _ _ e k h g => aImg_d e k.2.1.2 k.2.2.1 h g
theorem det_res : zDet aRes := fun _ _ _ _ _ _ e k h g => aRes_d e k.2.2.2.1 k.2.2.2.2.1 h g
theorem det_she {a l n : Int32} : zDet (aShe a l n) := fun _ _ _ _ _ _ e _ h g => aShe_d e h g
theorem det_drop {a : Int32} : zDet (aDrop a) := fun _ _ _ _ _ _ e _ h g => aDrop_d e h g
theorem det_hus : zDet aHus := fun _ _ _ _ _ _ e _ h g => aHus_d e h g
theorem det_film {a l i : Int32} : zDet (aFilm a l i) := fun _ _ _ _ _ _ e k h g => aFilm_d e k.2.1.1 h g
theorem det_whi {a l i w : Int32} : zDet (aWhi a l i w) := fun _ _ _ _ _ _ e _ h g => aWhi_d e h g
/-! what one of the sixteen does, by the script's number -/
def dA (x : Int32) : Int32 := zlow (x >>> ((4 : Int32) &&& 31)) 6
def dB (x : Int32) : Int32 := zlow (x >>> ((7 : Int32) &&& 31)) 5
def dV (x : Int32) : Int32 := zlow (x >>> ((10 : Int32) &&& 31)) 100
def dQ1 (x : Int32) : Int32 := x >>> ((17 : Int32) &&& 31) &&& 1
def dQ3 (x : Int32) : Int32 := x >>> ((17 : Int32) &&& 31) &&& 3
/-- a number typed, and then perhaps read -/
def dTwo (c : Int64) (n : Int32) (F : zRel) (q : Int32) : zRel := fun s t r => ∃ (m : zQS) (y z : Int32), aType c n s m y.toInt ∧ sOk m ∧ ((q.toInt = 0 → F m t z.toInt) ∧ (q.toInt ≠ 0 → m = t ∧ z = 0)) ∧ r = (y + 100 * z).toInt
theorem det_two {c : Int64} {n q : Int32} {F : zRel} (hF : zDet F) : zDet (dTwo c n F q) := fun s k t u r w e o h g => by
  obtain ⟨m, y, z, h1, h2, h3, h4⟩ := h
  obtain ⟨m2, y2, z2, g1, g2, g3, g4⟩ := g
  have d := aType_d e h1 g1
  have ey : y = y2 := Int32.toInt_inj.mp d.2
  by_cases c : q.toInt = 0
  · have f := hF m m2 t u _ _ d.1 h2 (h3.1 c) (g3.1 c)
    have ez : z = z2 := Int32.toInt_inj.mp f.2
    exact ⟨f.1, by rw [h4, g4, ey, ez]⟩
  · have a := h3.2 c
    have b := g3.2 c
    refine ⟨?_, by rw [h4, g4, ey, a.2, b.2]⟩
    rw [← a.1, ← b.1]
    exact d.1
def dIf (c : Prop) [Decidable c] (F G : zRel) : zRel := fun s t r => (c → F s t r) ∧ (¬ c → G s t r)
theorem det_if {c : Prop} [Decidable c] {F G : zRel} (hF : zDet F) (hG : zDet G) : zDet (dIf c F G) := fun s q t u r w e o h g => by
  by_cases d : c
  · exact hF s q t u r w e o (h.1 d) (g.1 d)
  · exact hG s q t u r w e o (h.2 d) (g.2 d)
def zActN (x : Int32) : Nat → zRel
  | 0 => aRule (dB x) (dV x)
  | 1 => aBuy (dB x) (9 * dV x)
  | 2 => aWor (dA x) (dB x) (dV x)
  | 3 => aWor (dA x) (dB x) (dV x)
  | 4 => aMar (dA x) (dV x / 2)
  | 5 => aEarn (dA x) (1 + dV x)
  | 6 => dTwo (48 + (dA x - dA x / 5 * 5).toInt64) 1 aLots (dQ1 x)
  | 7 => dTwo (126663788618803 + ((dV x - dV x / 10 * 10) <<< ((24 : Int32) &&& 31)).toInt64) 6 aLaw (dQ1 x)
  | 8 => aMor
  | 9 => aMor
  | 10 => aMor
  | 11 => dIf ((dQ3 x).toInt = 0) aRes aImg
  | 12 => aShe (dA x) (dB x - dB x / 3 * 3) (dV x / 5)
  | 13 => aFilm (dA x) (dB x - dB x / 3 * 3) (dV x - dV x / 4 * 4)
  | 14 => aWhi (dA x) (dB x - dB x / 3 * 3) (dV x - dV x / 4 * 4) (dQ1 x)
  | _ + 15 => dIf ((dQ3 x).toInt = 0) aHus (aDrop (dA x))
theorem det_act (x : Int32) : ∀ k : Nat, zDet (zActN x k)
  | 0 => det_rule
  | 1 => det_buy
  | 2 => det_wor
  | 3 => det_wor
  | 4 => det_mar
  | 5 => det_earn
  | 6 => det_two det_lots
  | 7 => det_two det_law
  | 8 => det_mor
  | 9 => det_mor
  | 10 => det_mor
  | 11 => det_if det_res det_img
  | 12 => det_she
  | 13 => det_film
  | 14 => det_whi
  | _ + 15 => det_if det_hus det_drop
def zAct (x : Int32) : zRel := zActN x (x &&& 15).toInt.toNat
theorem zAct_d {x : Int32} : zDet (zAct x) := det_act x _
theorem zAct_at {x n : Int32} {k : Nat} {s t : zQS} {r : Int} (e : x &&& 15 = n) (h : n.toInt.toNat = k) (g : zActN x k s t r) : zAct x s t r := by
  unfold zAct
  rw [e, h]
  exact g
/-! what is refused -/
theorem zAr_no {L : Nat → Int32} {a v : Int} (h : zfI a v ≠ 1) : zAr L a v = -1 := if_neg h
theorem zfI_n1 {r v : Int} (h : r < 0 ∨ 4 < r) : zfI r v ≠ 1 := by
  rw [zfI_0 (h.elim Or.inl fun q => Or.inr (Or.inl q))]
  decide
theorem zfI_110 : zfI 1 10 ≠ 1 := by decide
theorem zOK_00 : zOK 0 1 = 0 := by
  unfold zOK
  refine if_neg fun h => ?_
  have k := (h 0 (by decide) (by decide)).1
  revert k
  decide +kernel
theorem zT_00 {l : Int} : zTR 0 1 l = -1 ∧ zTL 0 1 l = l := by
  unfold zTR zTL
  rw [zOK_00]
  exact ⟨if_pos (Or.inr (Or.inr rfl)), if_neg fun h => absurd h.2.2.1 (by decide)⟩
theorem zAcnt_no {lots n held : Int} {P K : Nat → Int32} {w : Int} (h : w < 0 ∨ 4 < w) : zAcnt lots n held P K w = -1 := by
  unfold zAcnt
  rw [if_neg (by omega), if_neg (by omega), if_neg (by omega), if_neg (by omega), if_neg (by omega)]
theorem zAlot_no {lots : Int} {K : Nat → Int32} {O : Nat → zO} {a w : Int} (h : a < 0 ∨ 6 ≤ a) : zAlot lots K O a w = -1 := if_pos (by omega)
theorem zAgain_no {n : Int} {G : Nat → Int} {a : Int} (h : a < 0 ∨ 5 ≤ a) : zAgain n G a = -100001 := if_pos (by omega)
theorem zAtold_no {n : Int} {S M P V : Nat → Int32} {a w : Int} (h : a < 0 ∨ 5 ≤ a) : zAtold n S M P V a w = -100001 := if_pos (by omega)
theorem zAearn_no {n : Int} {P : Nat → Int32} {a v : Int} (h : v < 1) : zAearn n P a v = -100001 := if_pos (by omega)
theorem zAti_no {L : Nat → Int32} {lots : Int} {K : Nat → Int32} {n : Int} {S P M V : Nat → Int32} {a : Int} (h : a < 0 ∨ 2 < a) : zAti L lots K n S P M V a = -1 := if_pos h
theorem zAspn_no {n : Int} {lo hi : Nat → Int32} {a k w : Int} (h : a < 0 ∨ 5 ≤ a) : zAspn n lo hi a k w = -1 := if_pos (by omega)
theorem zAbe_no {n a : Int} {G : Nat → Int} (h : a < 0 ∨ 5 ≤ a) : zAbe n a G = -1 := if_pos (by omega)
theorem zArst_no {n a : Int} {f : Nat → Int} (h : a < -1 ∨ 5 ≤ a) : zArst n a f = -1 := if_pos h
theorem zAord_no {lots i : Int} {N : Nat} {f : Nat → Int} (h : i < -1 ∨ 6 ≤ i) : zAord lots i N f = -1 := if_pos h
theorem zPw_le {n : Int} : zPw n ≤ 32 := by
  unfold zPw
  by_cases c0 : n = 0
  · rw [if_pos c0]
    omega
  · by_cases c1 : n = 1
    · rw [if_neg c0, if_pos c1]
      omega
    · by_cases c2 : n = 2
      · rw [if_neg c0, if_neg c1, if_pos c2]
        omega
      · by_cases c3 : n = 3
        · rw [if_neg c0, if_neg c1, if_neg c2, if_pos c3]
          omega
        · by_cases c4 : n = 4
          · rw [if_neg c0, if_neg c1, if_neg c2, if_neg c3, if_pos c4]
            omega
          · rw [if_neg c0, if_neg c1, if_neg c2, if_neg c3, if_neg c4]
            omega
theorem zAring_64 {n : Int} {G G0 : Nat → Int} : zAring n 64 G G0 = -100001 := if_neg fun h => by
  have k := zPw_le (n := n)
  have q : (64 : Int32).toInt = 64 := rfl
  have r := h.2.1
  rw [q] at r
  omega
theorem zPop_1 : (zPop 1).toInt = 1 := by decide +kernel
theorem zAring_1 {n : Int} {G G0 : Nat → Int} : zAring n 1 G G0 = -100001 := if_neg fun h => by
  have r := h.2.2
  rw [zPop_1] at r
  omega
theorem zAwh_no {L S : Nat → Int32} {s la : Int32} {i w lots : Int} {c : Int × Int} (h : w < 0 ∨ 1 < w) : zAwh L S s la i w lots c = -1 := if_pos (by omega)
theorem zShtn_no {s la n : Int} {Z : Nat → Int64} (h : s < 0 ∨ 3 < s ∨ la < 0 ∨ 2 < la ∨ n < 0 ∨ 16 < n) : zSht s la n Z = Z := if_neg (by omega)
theorem zItmn_no {L S : Nat → Int32} {s la : Int32} {k : Int} {w : Int64} {Z : Nat → Int64} (h : s.toInt < 0 ∨ 3 < s.toInt) : zItm L S s la k w Z = Z := if_neg fun q => by omega
theorem zCopn_no {L S : Nat → Int32} {f t : Int32} {i j n : Int} {Z : Nat → Int64} (h : f.toInt < 0 ∨ 3 < f.toInt) : zCop L S f t i j n Z = Z := if_neg fun q => by omega
/-! what is asked -/
theorem r_till {L : Nat → Int32} {lots : Int} {K : Nat → Int32} {n : Int} {S P M V : Nat → Int32} {a : Int} (hL : iLaw L) (hV : iWo V) (hP : iPu P) (hM : iMa M) (h5 : n ≤ 5) (h6 : lots ≤ 6) (h0 : 0 ≤ a) (h2 : a ≤ 2) : 0 ≤ zAti L lots K n S P M V a ∧ zAti L lots K n S P M V a ≤ 594 := by
  unfold zAti
  rw [if_neg (by omega)]
  have k := (zMo_bn (K := zIv K) (zByL_way (S := S) (law := a) hL hV h5 (zRw_ma0 hM h5)) hV h5 (zRw_pu hP h5) lots.toNat).2
  omega
theorem zBs_b (g : Nat → Int) : ∀ k : Nat, 0 ≤ (zBs g k).1 ∧ (zBs g k).1 ≤ (k : Int) := by
  intro k
  induction k with
  | zero => exact ⟨show (0 : Int) ≤ 0 from by decide, show (0 : Int) ≤ ((0 : Nat) : Int) from by decide⟩
  | succ k ih =>
    by_cases c : k = 0 ∨ (zBs g k).2 < g k
    · rw [zBs_1 c]
      exact ⟨show (0 : Int) ≤ (k : Int) from by omega, show (k : Int) ≤ ((k + 1 : Nat) : Int) from by omega⟩
    · rw [zBs_0 c]
      omega
theorem r_best {n a : Int} {G : Nat → Int} : -1 ≤ zAbe n a G ∧ zAbe n a G ≤ 41 := by
  have k := zBs_b G 41
  unfold zAbe
  by_cases c : a < 0 ∨ 5 ≤ a ∨ n ≤ a
  · rw [if_pos c]
    omega
  · rw [if_neg c]
    omega
theorem zOw_b (P : Nat → Int32) : ∀ k : Nat, 0 ≤ zOw P k ∧ zOw P k ≤ (k : Int) := by
  intro k
  induction k with
  | zero => exact ⟨show (0 : Int) ≤ 0 from by decide, show (0 : Int) ≤ ((0 : Nat) : Int) from by decide⟩
  | succ k ih =>
    by_cases c : (P k).toInt < 0
    · rw [zOw_1 c]
      omega
    · rw [zOw_0 (by omega)]
      omega
theorem r_cnt3 {lots n held : Int} {P K : Nat → Int32} (h5 : n ≤ 5) : 0 ≤ zAcnt lots n held P K 3 ∧ zAcnt lots n held P K 3 ≤ 5 := by
  have k := zOw_b P n.toNat
  unfold zAcnt
  rw [if_neg (by decide), if_neg (by decide), if_neg (by decide), if_pos rfl]
  omega
theorem zoPd_b (n t k : Nat) : -6 ≤ zoPd n t k ∧ zoPd n t k ≤ 7 := by
  have h := Nat.mod_lt (zoT6 / 2 ^ (18 * t + 3 * (k + 6 - n))) (show 8 > 0 by decide)
  have e : zoPd n t k = ((zoT6 / 2 ^ (18 * t + 3 * (k + 6 - n)) % 8 : Nat) : Int) - ((6 - n : Nat) : Int) := rfl
  rw [e]
  generalize zoT6 / 2 ^ (18 * t + 3 * (k + 6 - n)) % 8 = x at h ⊢
  omega
theorem r_ord0 {lots : Int} {N : Nat} {f : Nat → Int} : -6 ≤ zAord lots 0 N f ∧ zAord lots 0 N f ≤ 7 := by
  unfold zAord
  rw [if_neg (by omega)]
  by_cases c : lots ≤ 0
  · rw [if_pos c]
    omega
  · rw [if_neg c, if_neg (by omega), if_neg (by omega)]
    exact zoPd_b _ _ _
theorem r_lot2 {lots : Int} {K : Nat → Int32} {L : Nat → Int32} {n : Int} {S V : Nat → Int32} {M : Nat → Int} {ring : Int32} {X P : Nat → Int} (hL : iLaw L) : -4 ≤ zAlot lots K (zOu L n S V M ring X P) 0 2 ∧ zAlot lots K (zOu L n S V M ring X P) 0 2 ≤ 99 := by
  unfold zAlot
  by_cases c : lots ≤ 0
  · rw [if_pos (by omega)]
    omega
  · rw [if_neg (by omega), if_neg (by decide), if_neg (by decide), if_pos rfl]
    generalize (0 : Int).toNat = j
    have w := zFl_way (n := n) (S := S) (V := V) (M := M) (ring := ring) hL (X j) (zSm L n S V M ring X P j).1 (zSm L n S V M ring X P j).2.1
    have w : (zOu L n S V M ring X P j).1 = -1 ∨ (0 ≤ (zOu L n S V M ring X P j).1 ∧ (zOu L n S V M ring X P j).1 < n ∧ (zOu L n S V M ring X P j).1 ≤ 4 ∧ 0 ≤ (zOu L n S V M ring X P j).2.1 ∧ (zOu L n S V M ring X P j).2.1 ≤ 99 ∧ (zOu L n S V M ring X P j).2.1 ≤ (zSm L n S V M ring X P j).1 (zOu L n S V M ring X P j).1.toNat + 99) := w
    unfold zSp
    by_cases d : (zOu L n S V M ring X P j).1 < 0
    · rw [if_pos d]
      omega
    · rw [if_neg d]
      omega
/-! a desk as the script tells it -/
theorem z_ofN {v : Int32} (h : 0 ≤ v.toInt) : Int32.ofNat v.toInt.toNat = v := by
  have r := (z_rng v).2
  refine Int32.toInt_inj.mp ?_
  rw [Int32.toInt_ofNat_of_lt (by omega)]
  omega
theorem z_ifne {c : Prop} [Decidable c] {F : Nat → Int32} {i j : Nat} {v : Int32} (h : j ≠ i) : (if c then upd F i v else F) j = F j := by
  by_cases q : c
  · rw [if_pos q, upd_ne h]
  · rw [if_neg q]
theorem zAr_yes {L : Nat → Int32} {a v : Int} (h : zfI a v = 1) : zAr L a v = (L a.toNat).toInt := if_pos h
theorem zOK_d {v : Int64} (h0 : 48 ≤ v.toInt) (h1 : v.toInt ≤ 51) : zOK v 1 = 1 ∧ 48 ≤ zbI v 0 ∧ zbI v 0 ≤ 51 := by
  have k : v = 48 ∨ v = 49 ∨ v = 50 ∨ v = 51 := by
    have q : v.toInt = 48 ∨ v.toInt = 49 ∨ v.toInt = 50 ∨ v.toInt = 51 := by omega
    rcases q with q | q | q | q
    · exact Or.inl (Int64.toInt_inj.mp (q.trans rfl))
    · exact Or.inr (Or.inl (Int64.toInt_inj.mp (q.trans rfl)))
    · exact Or.inr (Or.inr (Or.inl (Int64.toInt_inj.mp (q.trans rfl))))
    · exact Or.inr (Or.inr (Or.inr (Int64.toInt_inj.mp (q.trans rfl))))
  have e : ∀ w : Int64, 32 ≤ zb8 w 0 ∧ zb8 w 0 ≤ 126 → zOK w 1 = 1 := fun w hw => by
    unfold zOK
    refine if_pos fun j a c => ?_
    have z : j = 0 := Int32.toInt_inj.mp ((show j.toInt = 0 from by omega).trans rfl)
    rw [z]
    exact hw
  rcases k with rfl | rfl | rfl | rfl
  · exact ⟨e _ (by decide +kernel), by decide +kernel, by decide +kernel⟩
  · exact ⟨e _ (by decide +kernel), by decide +kernel, by decide +kernel⟩
  · exact ⟨e _ (by decide +kernel), by decide +kernel, by decide +kernel⟩
  · exact ⟨e _ (by decide +kernel), by decide +kernel, by decide +kernel⟩
theorem zT_d {v : Int64} {l : Int} (h0 : 48 ≤ v.toInt) (h1 : v.toInt ≤ 51) (h : l < 60) : zTR v 1 l = l + 1 ∧ zTL v 1 l = l + 1 := by
  have k := (zOK_d h0 h1).1
  unfold zTR zTL
  rw [k]
  refine ⟨?_, if_pos ⟨by omega, by omega, rfl, by omega⟩⟩
  rw [if_neg (by omega), if_neg (by omega)]
theorem zTy_d {v : Int64} {n m : Int} {Z F : Nat → Int32} (h : zTy v 1 n m Z F) (ht : ∀ a : Int, 0 ≤ a → a < n → 48 ≤ zc Z a ∧ zc Z a ≤ 51) (h0 : 48 ≤ v.toInt) (h1 : v.toInt ≤ 51) (e : m = n + 1) : ∀ a : Int, 0 ≤ a → a < m → 48 ≤ zc F a ∧ zc F a ≤ 51 := by
  intro a a0 a1
  by_cases c : a < n
  · rw [h.1 a a0 c]
    exact ht a a0 c
  · have k := h.2 a (by omega) a1
    rw [show n + 1 - 1 - a = 0 by omega] at k
    rw [k]
    exact (zOK_d h0 h1).2
theorem zLots_d {F : Nat → Int32} {n : Int} (h0 : 0 ≤ n) (h6 : n ≤ 6) (h : ∀ a : Int, 0 ≤ a → a < n → 48 ≤ zc F a ∧ zc F a ≤ 51) : zLots F n = if n = 0 then -20 else n := by
  have sk : ∀ a : Int, 0 ≤ a → a ≤ n → zsk F n a = a := fun a a0 a1 => by
    by_cases c : a < n
    · exact zsk_stop c (by have := h a a0 c; omega)
    · exact zsk_end (by omega)
  have key : ∀ (f : Nat) (p : Int), n - p ≤ f → 0 ≤ p → p < n → zLo F n p p = n := by
    intro f
    induction f with
    | zero => intro p a b c; omega
    | succ f ih =>
      intro p a b c
      have q := h p b c
      have s := sk (p + 1) (by omega) (by omega)
      by_cases d : p + 1 < n
      · rw [zLo_more ⟨c, q.1, q.2, by omega⟩ (by omega), s]
        exact ih (p + 1) (by omega) (by omega) d
      · rw [zLo_last ⟨c, q.1, q.2, by omega⟩ (by omega)]
        omega
  unfold zLots
  rw [sk 0 (by omega) h0]
  by_cases c : n = 0
  · rw [if_pos c, zLo_bad (by omega) (fun q => absurd q.1 (by omega))]
    all_goals omega
  · rw [if_neg c]
    exact key n.toNat 0 (by omega) (by omega) (by omega)
def sNew (s : zQS) : Prop := ((qL (sB s) 0).toInt = 60 ∧ (qL (sB s) 1).toInt = 1 ∧ (qL (sB s) 2).toInt = 1 ∧ (qL (sB s) 3).toInt = 0 ∧ (qL (sB s) 4).toInt = 0) ∧ (qn (sB s)).toInt = 0 ∧ (∀ j : Nat, (qM (sB s) j).toInt = 0) ∧ (∀ j : Nat, (qV (sB s) j).toInt = 0) ∧ (sl s).toInt = 0
theorem sNew_E {s q : zQS} (e : sE s q) (h : sNew s) : sNew q := by
  obtain ⟨⟨a, b, c, d, f⟩, n, m, v, l⟩ := h
  have eL := e.1.1
  have en := e.1.2.2.2.1
  have eM := e.1.2.2.2.2.2.2.1
  have eV := e.1.2.2.2.2.2.2.2.1
  have el := e.2.2.2.1
  refine ⟨⟨?_, ?_, ?_, ?_, ?_⟩, ?_, fun j => ?_, fun j => ?_, ?_⟩
  · rw [← eL 0 (by omega)]
    exact a
  · rw [← eL 1 (by omega)]
    exact b
  · rw [← eL 2 (by omega)]
    exact c
  · rw [← eL 3 (by omega)]
    exact d
  · rw [← eL 4 (by omega)]
    exact f
  · rw [← en]
    exact n
  · rw [← eM]
    exact m j
  · rw [← eV]
    exact v j
  · rw [← el]
    exact l
def dR2 (x : Int32) : Int32 := if zlow (x >>> ((11 : Int32) &&& 31)) 5 = 0 then zlow (x >>> ((14 : Int32) &&& 31)) 100 else zlow (x >>> ((14 : Int32) &&& 31)) 20
def dR4 (x : Int32) : Int32 := if zlow (x >>> ((22 : Int32) &&& 31)) 3 = 0 then 0 else zlow (x >>> ((24 : Int32) &&& 31)) 60
def dR (x : Int32) : List zRel := [aRule 0 (15 + zlow x 85), aRule 1 (1 + zlow (x >>> ((7 : Int32) &&& 31)) 9 / 2), aRule 2 (dR2 x), aRule 3 (zlow (x >>> ((21 : Int32) &&& 31)) 2), aRule 4 (dR4 x)]
def dT (c : Int32) (l : Nat) : zRel := aType (48 + (zlow (c >>> ((3 + 2 * Int32.ofNat l) &&& 31)) 4).toInt64) 1
def dTs (c : Int32) : Nat → List zRel
  | 0 => []
  | k + 1 => dTs c k ++ [dT c k]
def dP (y : Int32) : Int32 := if zlow (y >>> ((3 : Int32) &&& 31)) 9 = 0 then zlow (y >>> ((7 : Int32) &&& 31)) 1000 else zlow (y >>> ((7 : Int32) &&& 31)) 130
def dW (xs : Nat → Int32) (L b k : Nat) : zRel := aWor (Int32.ofNat b) (Int32.ofNat k) (zlow (zCell xs L (8 + Int32.ofNat b) >>> ((7 * Int32.ofNat k) &&& 31)) 100)
def dWs (xs : Nat → Int32) (L b : Nat) : Nat → List zRel
  | 0 => []
  | k + 1 => dWs xs L b k ++ [dW xs L b k]
def dB1 (xs : Nat → Int32) (L b : Nat) : zRel := aBuy (zlow (zCell xs L (3 + Int32.ofNat b)) 5) (dP (zCell xs L (3 + Int32.ofNat b)))
def dB2 (xs : Nat → Int32) (L b : Nat) : zRel := aMar (Int32.ofNat b) (zlow (zCell xs L (3 + Int32.ofNat b) >>> ((17 : Int32) &&& 31)) 41)
def dBs (xs : Nat → Int32) (L : Nat) : Nat → List zRel
  | 0 => []
  | b + 1 => ((dBs xs L b ++ [dB1 xs L b]) ++ [dB2 xs L b]) ++ dWs xs L b 4
def dHd (xs : Nat → Int32) (L : Nat) : List zRel := (dR (zCell xs L 0) ++ dTs (zCell xs L 1) (zlow (zCell xs L 1) 7).toInt.toNat) ++ [aLots]
def dAll (xs : Nat → Int32) (L : Nat) : List zRel := (dHd xs L ++ dBs xs L (zlow (zCell xs L 2) 6).toInt.toNat) ++ (if (zlow (zCell xs L 2) 6).toInt < 5 then [] else [aBuy 0 0])
def dDets (fs : List zRel) : Prop := ∀ F ∈ fs, zDet F
theorem dDets_nil : dDets [] := fun F h => by cases h
theorem dDets_one {F : zRel} (h : zDet F) : dDets [F] := fun G g => by
  rcases List.mem_cons.mp g with q | q
  · rw [q]
    exact h
  · cases q
theorem dDets_app {fs gs : List zRel} (h : dDets fs) (g : dDets gs) : dDets (fs ++ gs) := fun F q => by
  rcases List.mem_append.mp q with a | a
  · exact h F a
  · exact g F a
theorem dTs_d {c : Int32} : ∀ k : Nat, dDets (dTs c k) := by
  intro k
  induction k with
  | zero => exact dDets_nil
  | succ k ih => exact dDets_app ih (dDets_one det_type)
theorem dWs_d {xs : Nat → Int32} {L b : Nat} : ∀ k : Nat, dDets (dWs xs L b k) := by
  intro k
  induction k with
  | zero => exact dDets_nil
  | succ k ih => exact dDets_app ih (dDets_one det_wor)
theorem dBs_d {xs : Nat → Int32} {L : Nat} : ∀ k : Nat, dDets (dBs xs L k) := by
  intro k
  induction k with
  | zero => exact dDets_nil
  | succ k ih => exact dDets_app (dDets_app (dDets_app ih (dDets_one det_buy)) (dDets_one det_mar)) (dWs_d 4)
theorem dR_d {x : Int32} : dDets (dR x) := dDets_app (fs := [aRule 0 (15 + zlow x 85)]) (dDets_one det_rule) (dDets_app (fs := [_]) (dDets_one det_rule) (dDets_app (fs := [_]) (dDets_one det_rule) (dDets_app (fs := [_]) (dDets_one det_rule) (dDets_one det_rule))))
theorem dAll_d {xs : Nat → Int32} {L : Nat} : dDets (dAll xs L) := by
  refine dDets_app (dDets_app (dDets_app (dDets_app dR_d (dTs_d _)) (dDets_one det_lots)) (dBs_d _)) ?_
  by_cases c : (zlow (zCell xs L 2) 6).toInt < 5
  · rw [if_pos c]
    exact dDets_nil
  · rw [if_neg c]
    exact dDets_one det_buy
theorem dL_t {A : List zRel} {c : Int32} {n m : Nat} {s t u : zQS} {r : Int} (h : dRun (A ++ dTs c n) s t) (g : dT c n t u r) (k : sOk u) (e : m = n + 1) : dRun (A ++ dTs c m) s u := by
  subst e
  show dRun (A ++ (dTs c n ++ [dT c n])) s u
  rw [← List.append_assoc]
  exact dRun_snoc h g k
theorem dL_w {A : List zRel} {xs : Nat → Int32} {L b n m : Nat} {s t u : zQS} {r : Int} (h : dRun (A ++ dWs xs L b n) s t) (g : dW xs L b n t u r) (k : sOk u) (e : m = n + 1) : dRun (A ++ dWs xs L b m) s u := by
  subst e
  show dRun (A ++ (dWs xs L b n ++ [dW xs L b n])) s u
  rw [← List.append_assoc]
  exact dRun_snoc h g k
theorem dL_b {A : List zRel} {xs : Nat → Int32} {L b n k : Nat} {s t : zQS} (h : dRun ((((A ++ dBs xs L b) ++ [dB1 xs L b]) ++ [dB2 xs L b]) ++ dWs xs L b k) s t) (e4 : k = 4) (e : n = b + 1) : dRun (A ++ dBs xs L n) s t := by
  subst e
  subst e4
  show dRun (A ++ (((dBs xs L b ++ [dB1 xs L b]) ++ [dB2 xs L b]) ++ dWs xs L b 4)) s t
  rw [← List.append_assoc, ← List.append_assoc, ← List.append_assoc]
  exact h
theorem dL_nil {A B : List zRel} {s t : zQS} (h : dRun A s t) (e : B = []) : dRun (A ++ B) s t := by
  rw [e, List.append_nil]
  exact h
theorem dL_c {A B D : List zRel} {s t : zQS} (h : dRun (A ++ B) s t) (e : D = B) : dRun (A ++ D) s t := by
  rw [e]
  exact h
/-! purses stay small -/
theorem sE_tr {s q t : zQS} (h : sE s q) (g : sE q t) : sE s t := by
  obtain ⟨a, b, c, d, f, i, j, k⟩ := h
  obtain ⟨a2, b2, c2, d2, f2, i2, j2, k2⟩ := g
  refine ⟨qE_tr a a2, qE_tr b b2, c.trans c2, d.trans d2, fun x x0 x1 => (f x x0 x1).trans (f2 x x0 (by rw [← d]; exact x1)), i.trans i2, j.trans j2, k.trans k2⟩
def pBd (B : Int) (s : zQS) : Prop := (∀ j : Nat, (j : Int) < (qn (sB s)).toInt → (qP (sB s) j).toInt ≤ B) ∧ ∀ j : Nat, (j : Int) < (qn (sC s)).toInt → (qP (sC s) j).toInt ≤ B
def zGr (d : Int) (F : zRel) : Prop := ∀ (s t : zQS) (r B : Int), 1000 ≤ B → sOk s → F s t r → pBd B s → pBd (B + d) t
theorem pBd_le {B D : Int} {s : zQS} (h : pBd B s) (e : B ≤ D) : pBd D s := ⟨fun j hj => Int.le_trans (h.1 j hj) e, fun j hj => Int.le_trans (h.2 j hj) e⟩
theorem pBd_E {B : Int} {s q : zQS} (e : sE s q) (h : pBd B s) : pBd B q := by
  have n1 := e.1.2.2.2.1
  have n2 := e.2.1.2.2.2.1
  refine ⟨fun j hj => ?_, fun j hj => ?_⟩
  · rw [← n1] at hj
    rw [← qE_P e.1 hj]
    exact h.1 j hj
  · rw [← n2] at hj
    rw [← qE_P e.2.1 hj]
    exact h.2 j hj
theorem gr_up {F : zRel} {a b : Int} (h : zGr a F) (e : a ≤ b) : zGr b F := fun s t r B hB o f p => pBd_le (h s t r B hB o f p) (by omega)
theorem gr_of {F : zRel} (h : ∀ (s t : zQS) (r : Int), F s t r → qn (sB t) = qn (sB s) ∧ qP (sB t) = qP (sB s) ∧ sC t = sC s) : zGr 0 F := fun s t r B _ _ f p => by
  obtain ⟨a, b, c⟩ := h s t r f
  refine ⟨fun j hj => ?_, fun j hj => ?_⟩
  · rw [a] at hj
    rw [b]
    have k := p.1 j hj
    omega
  · rw [c] at hj ⊢
    have k := p.2 j hj
    omega
theorem gr_rule {a v : Int32} : zGr 0 (aRule a v) := gr_of fun s t r h => by
  obtain ⟨_, h⟩ := h
  subst h
  exact ⟨rfl, rfl, rfl⟩
theorem gr_wor {a k v : Int32} : zGr 0 (aWor a k v) := gr_of fun s t r h => by
  obtain ⟨_, h⟩ := h
  subst h
  exact ⟨rfl, rfl, rfl⟩
theorem gr_mar {a v : Int32} : zGr 0 (aMar a v) := gr_of fun s t r h => by
  obtain ⟨_, h⟩ := h
  subst h
  exact ⟨rfl, rfl, rfl⟩
theorem gr_type {v : Int64} {n : Int32} : zGr 0 (aType v n) := gr_of fun s t r h => by
  obtain ⟨_, _, _, _, _, h⟩ := h
  subst h
  exact ⟨rfl, rfl, rfl⟩
theorem gr_lots : zGr 0 aLots := gr_of fun s t r h => by
  obtain ⟨_, _, _, _, _, _, h⟩ := h
  subst h
  exact ⟨rfl, rfl, rfl⟩
theorem gr_law : zGr 0 aLaw := gr_of fun s t r h => by
  obtain ⟨_, _, _, _, _, _, h⟩ := h
  subst h
  exact ⟨rfl, rfl, rfl⟩
theorem gr_she {a l n : Int32} : zGr 0 (aShe a l n) := gr_of fun s t r h => by
  obtain ⟨_, h⟩ := h
  subst h
  exact ⟨rfl, rfl, rfl⟩
theorem gr_drop {a : Int32} : zGr 0 (aDrop a) := gr_of fun s t r h => by
  obtain ⟨_, h⟩ := h
  subst h
  exact ⟨rfl, rfl, rfl⟩
theorem gr_hus : zGr 0 aHus := gr_of fun s t r h => by
  obtain ⟨_, _, _, _, _, h⟩ := h
  subst h
  exact ⟨rfl, rfl, rfl⟩
theorem gr_film {a l i : Int32} : zGr 0 (aFilm a l i) := gr_of fun s t r h => by
  obtain ⟨_, _, _, h⟩ := h
  subst h
  exact ⟨rfl, rfl, rfl⟩
theorem gr_whi {a l i v : Int32} : zGr 0 (aWhi a l i v) := gr_of fun s t r h => by
  obtain ⟨_, h⟩ := h
  subst h
  exact ⟨rfl, rfl, rfl⟩
theorem gr_buy {a p : Int32} (hp : p.toInt ≤ 999) : zGr 0 (aBuy a p) := fun s t r B hB _ f b => by
  obtain ⟨_, h⟩ := f
  subst h
  refine ⟨fun j hj => ?_, fun j hj => by have k := b.2 j hj; show (qP (sC s) j).toInt ≤ B + 0; omega⟩
  have hj : (j : Int) < (if zBok a.toInt p.toInt (qn (sB s)).toInt then qn (sB s) + 1 else qn (sB s)).toInt := hj
  show ((if zBok a.toInt p.toInt (qn (sB s)).toInt then upd (qP (sB s)) (qn (sB s)).toInt.toNat p else qP (sB s)) j).toInt ≤ B + 0
  by_cases c : zBok a.toInt p.toInt (qn (sB s)).toInt
  · rw [if_pos c]
    rw [if_pos c] at hj
    have k : (qn (sB s) + 1).toInt = (qn (sB s)).toInt + 1 := zi_add (b := 1) rfl rfl rfl (by have := c.2.2.2.2; omega) (by have := c.2.2.2.2; omega)
    by_cases d : j = (qn (sB s)).toInt.toNat
    · rw [upd_eq d]
      omega
    · rw [upd_ne d]
      have q := b.1 j (by have := c.2.2.2.2; omega)
      omega
  · rw [if_neg c]
    rw [if_neg c] at hj
    have q := b.1 j hj
    omega
theorem gr_earn {i v : Int32} (h0 : v.toInt ≤ 100) : zGr 100 (aEarn i v) := fun s t r B hB _ f b => by
  obtain ⟨_, h⟩ := f
  subst h
  refine ⟨fun j hj => ?_, fun j hj => by have k := b.2 j hj; show (qP (sC s) j).toInt ≤ B + 100; omega⟩
  have q := b.1 j hj
  show ((if zEok i.toInt v.toInt (qn (sB s)).toInt (qP (sB s) i.toInt.toNat).toInt then upd (qP (sB s)) i.toNatClampNeg (qP (sB s) i.toNatClampNeg + v) else qP (sB s)) j).toInt ≤ B + 100
  by_cases c : zEok i.toInt v.toInt (qn (sB s)).toInt (qP (sB s) i.toInt.toNat).toInt
  · rw [if_pos c]
    by_cases d : j = i.toNatClampNeg
    · rw [upd_eq d, ← d]
      have e : i.toInt.toNat = j := d.symm
      have c5 := c.2.2.2.2.2
      rw [e] at c5
      have lo := (z_rng (qP (sB s) j)).1
      have k : (qP (sB s) j + v).toInt = (qP (sB s) j).toInt + v.toInt := zi_add rfl rfl rfl (by have := c.2.2.2.1; omega) (by omega)
      omega
    · rw [upd_ne d]
      omega
  · rw [if_neg c]
    omega
theorem zMo_dn {n : Int} {w : Int → Nat → Int} {f : Int → (Nat → Int) → (Nat → Int) → Int × Int} {K P : Nat → Int} (hf : zWay n f) : ∀ (k j : Nat), (zMo w f K P k).1 j ≤ P j := by
  intro k
  induction k with
  | zero => intro j; exact Int.le_refl _
  | succ k ih =>
    intro j
    have q := hf (K k) (zMo w f K P k).1 (zMo w f K P k).2.1
    have i := ih j
    rw [zMo_P]
    have q : (zOf w f K P k).1 = -1 ∨ (0 ≤ (zOf w f K P k).1 ∧ (zOf w f K P k).1 < n ∧ (zOf w f K P k).1 ≤ 4 ∧ 0 ≤ (zOf w f K P k).2 ∧ (zOf w f K P k).2 ≤ 99 ∧ (zOf w f K P k).2 ≤ (zMo w f K P k).1 (zOf w f K P k).1.toNat + 99) := q
    by_cases c : (j : Int) = (zOf w f K P k).1
    · rw [zAdd_at c]
      omega
    · rw [zAdd_ne c]
      exact i
theorem gr_mor : zGr 0 aMor := fun s t r B hB o f b => by
  obtain ⟨P, A, Z, _, h2, _, _, h⟩ := f
  subst h
  refine ⟨fun j hj => ?_, fun j hj => by have k := b.2 j hj; show (qP (sC s) j).toInt ≤ B + 0; omega⟩
  have hj : (j : Int) < (qn (sB s)).toInt := hj
  have q := b.1 j hj
  show (P j).toInt ≤ B + 0
  by_cases c : 0 < (qt (sB s)).toInt ∧ (qh (sB s)).toInt < 9999
  · have e := congrFun (h2.2.1 c.1 c.2) j
    rw [zRw_at hj] at e
    have d := zMo_dn (w := zWf (qn (sB s)).toInt (qV (sB s))) (K := zIv (qK (sB s))) (P := zRw (qn (sB s)).toInt (qP (sB s))) (zFl_way (n := (qn (sB s)).toInt) (S := qS (sB s)) (V := qV (sB s)) (M := zRw (qn (sB s)).toInt (qM (sB s))) (ring := 0) o.2.2.2.2.2) (qt (sB s)).toInt.toNat j
    rw [zRw_at hj] at d
    have e : (P j).toInt = (zMo (zWf (qn (sB s)).toInt (qV (sB s))) (zFl (qL (sB s)) (qn (sB s)).toInt (qS (sB s)) (qV (sB s)) (zRw (qn (sB s)).toInt (qM (sB s))) 0) (zIv (qK (sB s))) (zRw (qn (sB s)).toInt (qP (sB s))) (qt (sB s)).toInt.toNat).1 j := e
    omega
  · rw [h2.2.2 (by omega)]
    omega
theorem gr_img : zGr 0 aImg := fun s t r B hB o f b => by
  obtain ⟨_, h⟩ := f
  subst h
  refine ⟨fun j hj => by have k := b.1 j hj; show (qP (sB s) j).toInt ≤ B + 0; omega, fun j hj => ?_⟩
  have hj : (j : Int) < (qn (sB s)).toInt := hj
  have n5 := o.2.2.1
  show (va_cpy (qP (sB s)) (qP (sC s)) 0 0 5 j).toInt ≤ B + 0
  rw [z_cpy (by omega)]
  have k := b.1 j hj
  omega
theorem gr_res : zGr 0 aRes := fun s t r B hB o f b => by
  obtain ⟨_, h⟩ := f
  subst h
  by_cases c : (sg s).toInt ≠ 0
  · rw [if_pos c]
    refine ⟨fun j hj => ?_, fun j hj => by have k := b.2 j hj; show (qP (sC s) j).toInt ≤ B + 0; omega⟩
    have hj : (j : Int) < (qn (sC s)).toInt := hj
    have n5 := o.2.2.2.2.1
    show (va_cpy (qP (sC s)) (qP (sB s)) 0 0 5 j).toInt ≤ B + 0
    rw [z_cpy (by omega)]
    have k := b.2 j hj
    omega
  · rw [if_neg c]
    exact pBd_le b (by omega)
theorem gr_two {v : Int64} {n q : Int32} {F : zRel} (hF : zGr 0 F) : zGr 0 (dTwo v n F q) := fun s t r B hB o f b => by
  obtain ⟨m, y, z, h1, h2, h3, _⟩ := f
  have k := gr_type s m _ B hB o h1 b
  by_cases c : q.toInt = 0
  · exact pBd_le (hF m t _ (B + 0) (by omega) h2 (h3.1 c) k) (by omega)
  · rw [← (h3.2 c).1]
    exact k
theorem gr_if {c : Prop} [Decidable c] {F G : zRel} (hF : zGr 0 F) (hG : zGr 0 G) : zGr 0 (dIf c F G) := fun s t r B hB o f b => by
  by_cases d : c
  · exact hF s t r B hB o (f.1 d) b
  · exact hG s t r B hB o (f.2 d) b
theorem dV_r (x : Int32) : 0 ≤ (dV x).toInt ∧ (dV x).toInt < 100 := z_low (v := x >>> ((10 : Int32) &&& 31)) (n := 100) rfl (by decide)
theorem dV_9 (x : Int32) : (9 * dV x).toInt ≤ 999 := by
  have r := dV_r x
  have k : (9 * dV x).toInt = 9 * (dV x).toInt := zi_mul (a := 9) rfl rfl rfl (by omega) (by omega)
  omega
theorem dV_1 (x : Int32) : (1 + dV x).toInt ≤ 100 := by
  have r := dV_r x
  have k : (1 + dV x).toInt = 1 + (dV x).toInt := zi_add (a := 1) rfl rfl rfl (by omega) (by omega)
  omega
theorem gr_act (x : Int32) : ∀ k : Nat, zGr 100 (zActN x k)
  | 0 => gr_up gr_rule (by decide)
  | 1 => gr_up (gr_buy (dV_9 x)) (by decide)
  | 2 => gr_up gr_wor (by decide)
  | 3 => gr_up gr_wor (by decide)
  | 4 => gr_up gr_mar (by decide)
  | 5 => gr_earn (dV_1 x)
  | 6 => gr_up (gr_two gr_lots) (by decide)
  | 7 => gr_up (gr_two gr_law) (by decide)
  | 8 => gr_up gr_mor (by decide)
  | 9 => gr_up gr_mor (by decide)
  | 10 => gr_up gr_mor (by decide)
  | 11 => gr_up (gr_if gr_res gr_img) (by decide)
  | 12 => gr_up gr_she (by decide)
  | 13 => gr_up gr_film (by decide)
  | 14 => gr_up gr_whi (by decide)
  | _ + 15 => gr_up (gr_if gr_hus gr_drop) (by decide)
theorem zAct_gr {x : Int32} : zGr 100 (zAct x) := gr_act x _
theorem gr_run : ∀ (fs : List zRel), (∀ F ∈ fs, zGr 0 F) → ∀ {s t : zQS} {B : Int}, 1000 ≤ B → sOk s → dRun fs s t → pBd B s → pBd B t := by
  intro fs
  induction fs with
  | nil =>
    intro _ s t B _ _ h p
    have h : s = t := h
    rw [← h]
    exact p
  | cons F fs ih =>
    intro hd s t B hB o h p
    obtain ⟨m, r, h1, h2, h3⟩ := h
    exact ih (fun F hF => hd F (List.mem_cons.mpr (Or.inr hF))) hB h2 h3 (pBd_le (hd F (List.mem_cons.mpr (Or.inl rfl)) s m r B hB o h1 p) (by omega))
def dGrs (fs : List zRel) : Prop := ∀ F ∈ fs, zGr 0 F
theorem dGrs_nil : dGrs [] := fun F h => by cases h
theorem dGrs_one {F : zRel} (h : zGr 0 F) : dGrs [F] := fun G g => by
  rcases List.mem_cons.mp g with q | q
  · rw [q]
    exact h
  · cases q
theorem dGrs_app {fs gs : List zRel} (h : dGrs fs) (g : dGrs gs) : dGrs (fs ++ gs) := fun F q => by
  rcases List.mem_append.mp q with a | a
  · exact h F a
  · exact g F a
theorem dTs_g {c : Int32} : ∀ k : Nat, dGrs (dTs c k) := by
  intro k
  induction k with
  | zero => exact dGrs_nil
  | succ k ih => exact dGrs_app ih (dGrs_one gr_type)
theorem dWs_g {xs : Nat → Int32} {L b : Nat} : ∀ k : Nat, dGrs (dWs xs L b k) := by
  intro k
  induction k with
  | zero => exact dGrs_nil
  | succ k ih => exact dGrs_app ih (dGrs_one gr_wor)
theorem dP_r (y : Int32) : (dP y).toInt ≤ 999 := by
  have a := (z_low (v := y >>> ((7 : Int32) &&& 31)) (n := 1000) (b := 1000) rfl (by decide)).2
  have b := (z_low (v := y >>> ((7 : Int32) &&& 31)) (n := 130) (b := 130) rfl (by decide)).2
  unfold dP
  by_cases c : zlow (y >>> ((3 : Int32) &&& 31)) 9 = 0
  · rw [if_pos c]
    omega
  · rw [if_neg c]
    omega
theorem dBs_g {xs : Nat → Int32} {L : Nat} : ∀ k : Nat, dGrs (dBs xs L k) := by
  intro k
  induction k with
  | zero => exact dGrs_nil
  | succ k ih => exact dGrs_app (dGrs_app (dGrs_app ih (dGrs_one (gr_buy (dP_r _)))) (dGrs_one gr_mar)) (dWs_g 4)
theorem dR_g {x : Int32} : dGrs (dR x) := dGrs_app (fs := [aRule 0 (15 + zlow x 85)]) (dGrs_one gr_rule) (dGrs_app (fs := [_]) (dGrs_one gr_rule) (dGrs_app (fs := [_]) (dGrs_one gr_rule) (dGrs_app (fs := [_]) (dGrs_one gr_rule) (dGrs_one gr_rule))))
theorem dAll_g {xs : Nat → Int32} {L : Nat} : dGrs (dAll xs L) := by
  refine dGrs_app (dGrs_app (dGrs_app (dGrs_app dR_g (dTs_g _)) (dGrs_one gr_lots)) (dBs_g _)) ?_
  by_cases c : (zlow (zCell xs L 2) 6).toInt < 5
  · rw [if_pos c]
    exact dGrs_nil
  · rw [if_neg c]
    exact dGrs_one (gr_buy (by decide))
/-! brought back -/
def zBack (b : zQB) (s : zQS) : Prop := qE b (qCp (sC s) (sB s)) ∧ (sg s).toInt ≠ 0
theorem cpy_upd {F G : Nat → Int32} {n i : Nat} {v : Int32} (h : i < n) : va_cpy F (upd G i v) 0 0 n = va_cpy F G 0 0 n := by
  funext j
  rw [z_cpy2, z_cpy2]
  by_cases c : j < n
  · rw [if_pos c, if_pos c]
  · rw [if_neg c, if_neg c, upd_ne (by omega)]
theorem cpy_ifu {F G : Nat → Int32} {n i : Nat} {v : Int32} {c : Prop} [Decidable c] (h : c → i < n) : va_cpy F (if c then upd G i v else G) 0 0 n = va_cpy F G 0 0 n := by
  by_cases d : c
  · rw [if_pos d, cpy_upd (h d)]
  · rw [if_neg d]
theorem cpy_back {F G : Nat → Int32} {n : Nat} : va_cpy (va_cpy F G 0 0 n) F 0 0 n = F := by
  funext j
  rw [z_cpy2]
  by_cases c : j < n
  · rw [if_pos c, z_cpy c]
  · rw [if_neg c]
theorem cpy_fr {F Z A : Nat → Int32} {v : Int32} (h : zFr v 20 Z A) : va_cpy F A 0 0 20 = va_cpy F Z 0 0 20 := by
  funext j
  rw [z_cpy2, z_cpy2]
  by_cases c : j < 20
  · rw [if_pos c, if_pos c]
  · rw [if_neg c, if_neg c]
    exact zFr_at h (by omega)
theorem bk_img {s t : zQS} {r : Int} (o : sOk s) (h : aImg s t r) : zBack (sB s) t := by
  obtain ⟨_, h⟩ := h
  subst h
  refine ⟨⟨fun j hj => ?_, rfl, fun j hj => ?_, rfl, cpy_back.symm, ?_, cpy_back.symm, cpy_back.symm, cpy_back.symm, cpy_back.symm, rfl⟩, show (1 : Int32).toInt ≠ 0 from by decide⟩
  · show qL (sB s) j = va_cpy (va_cpy (qL (sB s)) (qL (sC s)) 0 0 5) (qL (sB s)) 0 0 5 j
    rw [cpy_back]
  · show qK (sB s) j = va_cpy (va_cpy (qK (sB s)) (qK (sC s)) 0 0 6) (qK (sB s)) 0 0 6 j
    rw [cpy_back]
  · show zRw (qn (sB s)).toInt (qP (sB s)) = zRw (qn (sB s)).toInt (va_cpy (va_cpy (qP (sB s)) (qP (sC s)) 0 0 5) (qP (sB s)) 0 0 5)
    rw [cpy_back]
theorem bk_rule {b : zQB} {a v : Int32} {s t : zQS} {r : Int} (k : zBack b s) (h : aRule a v s t r) : zBack b t := by
  obtain ⟨_, h⟩ := h
  subst h
  obtain ⟨⟨q1, q2⟩, q3⟩ := k
  refine ⟨⟨fun j hj => ?_, q2⟩, q3⟩
  rw [q1 j hj]
  show va_cpy (qL (sC s)) (qL (sB s)) 0 0 5 j = va_cpy (qL (sC s)) _ 0 0 5 j
  rw [z_cpy hj, z_cpy hj]
theorem bk_hus {b : zQB} {s t : zQS} {r : Int} (k : zBack b s) (h : aHus s t r) : zBack b t := by
  obtain ⟨A, Z, _, h1, h2, h⟩ := h
  subst h
  obtain ⟨⟨q1, q2, q3, q4, q5, q6, q7, q8, q9, q10, q11⟩, q⟩ := k
  exact ⟨⟨q1, q2, q3, q4, q5, q6, q7, q8, q9.trans (cpy_fr h1).symm, q10.trans (cpy_fr h2).symm, q11⟩, q⟩
theorem bk_mar {b : zQB} {a v : Int32} {s t : zQS} {r : Int} (k : zBack b s) (h : aMar a v s t r) : zBack b t := by
  obtain ⟨_, h⟩ := h
  subst h
  obtain ⟨⟨q1, q2, q3, q4, q5, q6, q7, q8, q9, q10, q11⟩, q⟩ := k
  exact ⟨⟨q1, q2, q3, q4, q5, q6, q7.trans (cpy_ifu (fun c => show a.toInt.toNat < 5 from by have := c.1; have := c.2.1; omega)).symm, q8, q9, q10, q11⟩, q⟩
theorem bk_wor {b : zQB} {a i v : Int32} {s t : zQS} {r : Int} (k : zBack b s) (h : aWor a i v s t r) : zBack b t := by
  obtain ⟨_, h⟩ := h
  subst h
  obtain ⟨⟨q1, q2, q3, q4, q5, q6, q7, q8, q9, q10, q11⟩, q⟩ := k
  exact ⟨⟨q1, q2, q3, q4, q5, q6, q7, q8.trans (cpy_ifu (fun c => by have := c.1; have := c.2.1; have := c.2.2.2.1; have := c.2.2.2.2.1; omega)).symm, q9, q10, q11⟩, q⟩
theorem bk_earn {b : zQB} {i v : Int32} {s t : zQS} {r : Int} (k : zBack b s) (n5 : (qn (sC s)).toInt ≤ 5) (h : aEarn i v s t r) : zBack b t := by
  obtain ⟨_, h⟩ := h
  subst h
  obtain ⟨⟨q1, q2, q3, q4, q5, q6, q7, q8, q9, q10, q11⟩, q⟩ := k
  refine ⟨⟨q1, q2, q3, q4, q5, q6.trans ?_, q7, q8, q9, q10, q11⟩, q⟩
  have e : qn b = qn (sC s) := q4
  rw [e]
  show zRw (qn (sC s)).toInt (va_cpy (qP (sC s)) (qP (sB s)) 0 0 5) = zRw (qn (sC s)).toInt (va_cpy (qP (sC s)) _ 0 0 5)
  rw [zRw_cpy n5, zRw_cpy n5]
theorem bk_res {b : zQB} {s t : zQS} {r : Int} (k : zBack b s) (h : aRes s t r) : qE b (sB t) ∧ r = 1 := by
  obtain ⟨⟨_, h1⟩, h⟩ := h
  subst h
  refine ⟨?_, h1 k.2⟩
  show qE b (if (sg s).toInt ≠ 0 then qCp (sC s) (sB s) else sB s)
  rw [if_pos k.2]
  exact k.1
theorem zWi_b (lo hi : Nat → Int) : ∀ k : Nat, 0 ≤ zWi lo hi k := by
  intro k
  induction k with
  | zero => exact Int.le_refl _
  | succ k ih =>
    by_cases c : lo k = 0 ∧ hi k = 99
    · rw [zWi_0 c]
      exact ih
    · rw [zWi_1 c]
      omega
theorem r_earn {n : Int} {P : Nat → Int32} {a v B : Int} (h : ∀ j : Nat, (j : Int) < n → (P j).toInt ≤ B) (hP : iPu P) (hB : B + v ≤ 9999) (h0 : 0 ≤ a) (h1 : a < n) (h5 : a < 5) (hv : 1 ≤ v) (hv2 : v ≤ 999) : -98 ≤ zAearn n P a v := by
  have k := h a.toNat (by omega)
  have p := (hP a.toNat (by omega)).1
  unfold zAearn
  rw [if_neg (by omega), if_neg (by omega)]
  omega
