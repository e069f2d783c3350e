/-! books and desks as one value each; two that are told alike -/
abbrev zQB : Type := (Nat → Int32) × Int32 × (Nat → Int32) × Int32 × (Nat → Int32) × (Nat → Int32) × (Nat → Int32) × (Nat → Int32) × (Nat → Int32) × (Nat → Int32) × Int32
abbrev qL (b : zQB) : Nat → Int32 := b.1
abbrev qt (b : zQB) : Int32 := b.2.1
abbrev qK (b : zQB) : Nat → Int32 := b.2.2.1
abbrev qn (b : zQB) : Int32 := b.2.2.2.1
abbrev qS (b : zQB) : Nat → Int32 := b.2.2.2.2.1
abbrev qP (b : zQB) : Nat → Int32 := b.2.2.2.2.2.1
abbrev qM (b : zQB) : Nat → Int32 := b.2.2.2.2.2.2.1
abbrev qV (b : zQB) : Nat → Int32 := b.2.2.2.2.2.2.2.1
abbrev qA (b : zQB) : Nat → Int32 := b.2.2.2.2.2.2.2.2.1
abbrev qZ (b : zQB) : Nat → Int32 := b.2.2.2.2.2.2.2.2.2.1
abbrev qh (b : zQB) : Int32 := b.2.2.2.2.2.2.2.2.2.2
def qE (b d : zQB) : Prop := (∀ j : Nat, j < 5 → qL b j = qL d j) ∧ qt b = qt d ∧ (∀ j : Nat, (j : Int) < (qt b).toInt → qK b j = qK d j) ∧ qn b = qn d ∧ qS b = qS d ∧ zRw (qn b).toInt (qP b) = zRw (qn b).toInt (qP d) ∧ qM b = qM d ∧ qV b = qV d ∧ qA b = qA d ∧ qZ b = qZ d ∧ qh b = qh d
theorem qE_refl (b : zQB) : qE b b := ⟨fun _ _ => rfl, rfl, fun _ _ => rfl, rfl, rfl, rfl, rfl, rfl, rfl, rfl, rfl⟩
theorem qE_tr {b d f : zQB} (h : qE b d) (g : qE d f) : qE b f := by
  obtain ⟨eL, et, eK, en, eS, eP, eM, eV, eA, eZ, eh⟩ := h
  obtain ⟨fL, ft, fK, fn, fS, fP, fM, fV, fA, fZ, fh⟩ := g
  refine ⟨fun j hj => (eL j hj).trans (fL j hj), et.trans ft, fun j hj => (eK j hj).trans (fK j (by rw [← et]; exact hj)), en.trans fn, eS.trans fS, ?_, eM.trans fM, eV.trans fV, eA.trans fA, eZ.trans fZ, eh.trans fh⟩
  rw [← en] at fP
  exact eP.trans fP
theorem qE_sy {b d : zQB} (h : qE b d) : qE d b := by
  obtain ⟨eL, et, eK, en, eS, eP, eM, eV, eA, eZ, eh⟩ := h
  refine ⟨fun j hj => (eL j hj).symm, et.symm, fun j hj => (eK j (by rw [et]; exact hj)).symm, en.symm, eS.symm, ?_, eM.symm, eV.symm, eA.symm, eZ.symm, eh.symm⟩
  rw [← en]
  exact eP.symm
/-! the law's rules by their first five -/
theorem zLot_L {L D : Nat → Int32} {n : Int} {S V : Nat → Int32} {M : Nat → Int} {ring : Int32} {kd : Int} {P H : Nat → Int} (h : ∀ j : Nat, j < 5 → L j = D j) : zLot L n S V M ring kd P H = zLot D n S V M ring kd P H := by
  have hm : zMon L n S P = zMon D n S P := by
    funext b
    unfold zMon
    rw [h 4 (by omega)]
  unfold zLot zCo
  rw [hm, h 0 (by omega), h 1 (by omega), h 2 (by omega), h 3 (by omega)]
theorem zMon_L {L D : Nat → Int32} {n : Int} {S : Nat → Int32} {P : Nat → Int} (h : ∀ j : Nat, j < 5 → L j = D j) : zMon L n S P = zMon D n S P := by
  funext b
  unfold zMon
  rw [h 4 (by omega)]
theorem zFl_L {L D : Nat → Int32} {n : Int} {S V : Nat → Int32} {M : Nat → Int} {ring : Int32} (h : ∀ j : Nat, j < 5 → L j = D j) : zFl L n S V M ring = zFl D n S V M ring := by
  funext kd P H
  unfold zFl
  rw [zLot_L h]
theorem zRis_L {L D : Nat → Int32} {n : Int} {S V : Nat → Int32} (h : ∀ j : Nat, j < 5 → L j = D j) : zRis L n S V = zRis D n S V := by
  funext kd P H
  unfold zRis
  rw [zMon_L h, h 2 (by omega)]
theorem zSea_L {L D : Nat → Int32} {n : Int} {S V : Nat → Int32} {M : Nat → Int} (h : ∀ j : Nat, j < 5 → L j = D j) : zSea L n S V M = zSea D n S V M := by
  funext kd P H
  unfold zSea
  rw [zMon_L h, h 2 (by omega)]
theorem zByL_L {L D : Nat → Int32} {n : Int} {S V : Nat → Int32} {M : Nat → Int} {a : Int} (h : ∀ j : Nat, j < 5 → L j = D j) : zByL L n S V M a = zByL D n S V M a := by
  funext kd P H
  unfold zByL
  rw [zRis_L h, zSea_L h, zFl_L h]
theorem zHeL_L {L D : Nat → Int32} {n : Int} {S V : Nat → Int32} {M : Nat → Int} {ring : Int32} {kd : Int} {P H : Nat → Int} (h : ∀ j : Nat, j < 5 → L j = D j) : zHeL L n S V M ring kd P H = zHeL D n S V M ring kd P H := by
  unfold zHeL zCo
  rw [zMon_L h, h 0 (by omega), h 1 (by omega), h 2 (by omega), h 3 (by omega)]
theorem zSm_L {L D : Nat → Int32} {n : Int} {S V : Nat → Int32} {M : Nat → Int} {ring : Int32} {K P : Nat → Int} {k : Nat} (h : ∀ j : Nat, j < 5 → L j = D j) : zSm L n S V M ring K P k = zSm D n S V M ring K P k := by
  unfold zSm
  rw [zFl_L h]
theorem zOu_L {L D : Nat → Int32} {n : Int} {S V : Nat → Int32} {M : Nat → Int} {ring : Int32} {K P : Nat → Int} {k : Nat} (h : ∀ j : Nat, j < 5 → L j = D j) : zOu L n S V M ring K P k = zOu D n S V M ring K P k := by
  unfold zOu
  rw [zLot_L h, zSm_L h]
theorem zMo_KK {w : Int → Nat → Int} {f : Int → (Nat → Int) → (Nat → Int) → Int × Int} {K J P : Nat → Int} : ∀ k : Nat, (∀ j : Nat, j < k → K j = J j) → zMo w f K P k = zMo w f J P k := by
  intro k
  induction k with
  | zero => intro _; rfl
  | succ k ih =>
    intro h
    rw [zMo_s, zMo_s, ih (fun j hj => h j (by omega)), h k (by omega)]
theorem zOu_KK {L : Nat → Int32} {n : Int} {S V : Nat → Int32} {M : Nat → Int} {ring : Int32} {K J P : Nat → Int} {k : Nat} (h : ∀ j : Nat, j ≤ k → K j = J j) : zOu L n S V M ring K P k = zOu L n S V M ring J P k := by
  have e := zoSm_K (L := L) (n := n) (S := S) (V := V) (M := M) (ring := ring) (P := P) k (fun j hj => h j (by omega))
  unfold zOu
  rw [e, h k (by omega)]
theorem zSpn_cg {L D : Nat → Int32} {n : Int} {S V : Nat → Int32} {M : Nat → Int} {K J P lo hi : Nat → Int} (h : ∀ j : Nat, j < 5 → L j = D j) : ∀ k : Nat, (∀ j : Nat, j < k → K j = J j) → zSpn L n S V M K P lo hi k = zSpn D n S V M J P lo hi k := by
  intro k
  induction k with
  | zero => intro _; rfl
  | succ k ih =>
    intro hK
    have e1 := ih fun j hj => hK j (by omega)
    have e2 : zOu L n S V M 0 K P k = zOu D n S V M 0 J P k := (zOu_L h).trans (zOu_KK fun j hj => hK j (by omega))
    have e3 : zSm L n S V M 0 K P k = zSm D n S V M 0 J P k := (zSm_L h).trans (zoSm_K k fun j hj => hK j (by omega))
    unfold zSpn
    rw [e1, e2, e3, hK k (by omega), zMon_L h, zHeL_L h]
theorem zOw_cg {P Q : Nat → Int32} : ∀ k : Nat, (∀ j : Nat, j < k → (P j).toInt = (Q j).toInt) → zOw P k = zOw Q k := by
  intro k
  induction k with
  | zero => intro _; rfl
  | succ k ih =>
    intro h
    have e := h k (by omega)
    have i := ih fun j hj => h j (by omega)
    by_cases c : (P k).toInt < 0
    · rw [zOw_1 c, zOw_1 (by omega), i]
    · rw [zOw_0 (by omega), zOw_0 (by omega), i]
theorem zKs_cg {K J : Nat → Int32} : ∀ k : Nat, (∀ j : Nat, j < k → K j = J j) → zKs K k = zKs J k := by
  intro k
  induction k with
  | zero => intro _; rfl
  | succ k ih =>
    intro h
    funext q
    unfold zKs
    rw [h k (by omega), ih fun j hj => h j (by omega)]
/-! what two such books answer -/
theorem qE_P {b d : zQB} (e : qE b d) {j : Nat} (h : (j : Int) < (qn b).toInt) : (qP b j).toInt = (qP d j).toInt := by
  have q := congrFun e.2.2.2.2.2.1 j
  rw [zRw_at h, zRw_at h] at q
  exact q
abbrev qFs (b : zQB) (ring : Int32) (k : Nat) : zMs := zSm (qL b) (qn b).toInt (qS b) (qV b) (zRw (qn b).toInt (qM b)) ring (zIv (qK b)) (zRw (qn b).toInt (qP b)) k
abbrev qFo (b : zQB) (ring : Int32) (k : Nat) : zO := zOu (qL b) (qn b).toInt (qS b) (qV b) (zRw (qn b).toInt (qM b)) ring (zIv (qK b)) (zRw (qn b).toInt (qP b)) k
theorem zd_fs {b d : zQB} (e : qE b d) {ring : Int32} {k : Nat} (hk : (k : Int) ≤ (qt b).toInt ∨ k = 0) : qFs b ring k = qFs d ring k := by
  obtain ⟨eL, et, eK, en, eS, eP, eM, eV, eA, eZ, eh⟩ := e
  show zSm (qL b) (qn b).toInt (qS b) (qV b) (zRw (qn b).toInt (qM b)) ring (zIv (qK b)) (zRw (qn b).toInt (qP b)) k = zSm (qL d) (qn d).toInt (qS d) (qV d) (zRw (qn d).toInt (qM d)) ring (zIv (qK d)) (zRw (qn d).toInt (qP d)) k
  rw [zSm_L eL, eP, en, eS, eV, eM]
  refine zoSm_K k fun j hj => ?_
  show (qK b j).toInt = (qK d j).toInt
  rw [eK j (by omega)]
theorem zd_fo {b d : zQB} (e : qE b d) {ring : Int32} {k : Nat} (hk : (k : Int) < (qt b).toInt) : qFo b ring k = qFo d ring k := by
  obtain ⟨eL, et, eK, en, eS, eP, eM, eV, eA, eZ, eh⟩ := e
  show zOu (qL b) (qn b).toInt (qS b) (qV b) (zRw (qn b).toInt (qM b)) ring (zIv (qK b)) (zRw (qn b).toInt (qP b)) k = zOu (qL d) (qn d).toInt (qS d) (qV d) (zRw (qn d).toInt (qM d)) ring (zIv (qK d)) (zRw (qn d).toInt (qP d)) k
  rw [zOu_L eL, eP, en, eS, eV, eM]
  refine zOu_KK fun j hj => ?_
  show (qK b j).toInt = (qK d j).toInt
  rw [eK j (by omega)]
theorem zd_cnt {b d : zQB} (e : qE b d) (w : Int) : zAcnt (qt b).toInt (qn b).toInt (qh b).toInt (qP b) (qK b) w = zAcnt (qt d).toInt (qn d).toInt (qh d).toInt (qP d) (qK d) w := by
  have p := zOw_cg (P := qP b) (Q := qP d) (qn b).toInt.toNat fun j hj => qE_P e (by omega)
  obtain ⟨eL, et, eK, en, eS, eP, eM, eV, eA, eZ, eh⟩ := e
  have k := zKs_cg (K := qK b) (J := qK d) (qt b).toInt.toNat fun j hj => eK j (by omega)
  unfold zAcnt
  rw [p, k, et, en, eh]
theorem zd_told {b d : zQB} (e : qE b d) (i w : Int) : zAtold (qn b).toInt (qS b) (qM b) (qP b) (qV b) i w = zAtold (qn d).toInt (qS d) (qM d) (qP d) (qV d) i w := by
  by_cases c : i < 0 ∨ 5 ≤ i ∨ (qn b).toInt ≤ i ∨ w < 0 ∨ 6 < w
  · obtain ⟨eL, et, eK, en, eS, eP, eM, eV, eA, eZ, eh⟩ := e
    unfold zAtold
    rw [if_pos c, if_pos (by rw [← en]; exact c)]
  · have p := qE_P e (j := i.toNat) (by omega)
    obtain ⟨eL, et, eK, en, eS, eP, eM, eV, eA, eZ, eh⟩ := e
    unfold zAtold
    rw [p, en, eS, eM, eV]
theorem zd_earn {b d : zQB} (e : qE b d) (i w : Int) : zAearn (qn b).toInt (qP b) i w = zAearn (qn d).toInt (qP d) i w := by
  by_cases c : i < 0 ∨ 5 ≤ i ∨ (qn b).toInt ≤ i ∨ w < 1 ∨ 999 < w
  · obtain ⟨eL, et, eK, en, eS, eP, eM, eV, eA, eZ, eh⟩ := e
    unfold zAearn
    rw [if_pos c, if_pos (by rw [← en]; exact c)]
  · have p := qE_P e (j := i.toNat) (by omega)
    obtain ⟨eL, et, eK, en, eS, eP, eM, eV, eA, eZ, eh⟩ := e
    unfold zAearn
    rw [p, en]
theorem zd_gain {b d : zQB} (e : qE b d) (i : Int) : zAgain (qn b).toInt (qFs b 0 (qt b).toInt.toNat).2.2.1 i = zAgain (qn d).toInt (qFs d 0 (qt d).toInt.toNat).2.2.1 i := by
  have f := zd_fs e (ring := 0) (k := (qt b).toInt.toNat) (by omega)
  rw [f, e.2.1, e.2.2.2.1]
theorem zd_lot {b d : zQB} (e : qE b d) (a w : Int) : zAlot (qt b).toInt (qK b) (qFo b 0) a w = zAlot (qt d).toInt (qK d) (qFo d 0) a w := by
  unfold zAlot
  by_cases c : a < 0 ∨ 6 ≤ a ∨ (qt b).toInt ≤ a ∨ w < 0 ∨ 4 < w
  · rw [if_pos c, if_pos (by rw [← e.2.1]; exact c)]
  · have f := zd_fo e (ring := 0) (k := a.toNat) (by omega)
    rw [f, e.2.2.1 a.toNat (by omega), e.2.1]
theorem zd_till {b d : zQB} (e : qE b d) (a : Int) : zAti (qL b) (qt b).toInt (qK b) (qn b).toInt (qS b) (qP b) (qM b) (qV b) a = zAti (qL d) (qt d).toInt (qK d) (qn d).toInt (qS d) (qP d) (qM d) (qV d) a := by
  obtain ⟨eL, et, eK, en, eS, eP, eM, eV, eA, eZ, eh⟩ := e
  unfold zAti
  rw [zByL_L eL, eP, en, eS, eV, eM, zMo_KK (K := zIv (qK b)) (J := zIv (qK d)) (qt b).toInt.toNat fun j hj => ?_, et]
  show (qK b j).toInt = (qK d j).toInt
  rw [eK j (by omega)]
theorem zd_spn {b d : zQB} (e : qE b d) (i k w : Int) : zAspn (qn b).toInt (qA b) (qZ b) i k w = zAspn (qn d).toInt (qA d) (qZ d) i k w := by
  obtain ⟨eL, et, eK, en, eS, eP, eM, eV, eA, eZ, eh⟩ := e
  rw [en, eA, eZ]
theorem zd_mor {b d : zQB} (e : qE b d) : zAmor (qt b).toInt (qh b).toInt (qFs b 0 (qt b).toInt.toNat).2.2.2 = zAmor (qt d).toInt (qh d).toInt (qFs d 0 (qt d).toInt.toNat).2.2.2 := by
  have f := zd_fs e (ring := 0) (k := (qt b).toInt.toNat) (by omega)
  rw [f, e.2.1, e.2.2.2.2.2.2.2.2.2.2]
/-! .. and how they go on -/
theorem zd_law {b d : zQB} (e : qE b d) {L D : Nat → Int32} (h : ∀ j : Nat, j < 5 → L j = D j) : qE (L, b.2) (D, d.2) := ⟨h, e.2.1, e.2.2.1, e.2.2.2.1, e.2.2.2.2.1, e.2.2.2.2.2.1, e.2.2.2.2.2.2.1, e.2.2.2.2.2.2.2.1, e.2.2.2.2.2.2.2.2.1, e.2.2.2.2.2.2.2.2.2.1, e.2.2.2.2.2.2.2.2.2.2⟩
theorem zd_upd {L D : Nat → Int32} {c : Prop} [Decidable c] {i : Nat} {v : Int32} (h : ∀ j : Nat, j < 5 → L j = D j) : ∀ j : Nat, j < 5 → (if c then upd L i v else L) j = (if c then upd D i v else D) j := by
  intro j hj
  by_cases q : c
  · rw [if_pos q, if_pos q]
    by_cases g : j = i
    · rw [upd_eq g, upd_eq g]
    · rw [upd_ne g, upd_ne g, h j hj]
  · rw [if_neg q, if_neg q, h j hj]
theorem zd_rwe {n : Int} {P Q : Nat → Int32} (h : ∀ j : Nat, (j : Int) < n → (P j).toInt = (Q j).toInt) : zRw n P = zRw n Q := by
  funext j
  unfold zRw
  by_cases c : (j : Int) < n
  · rw [if_pos c, if_pos c, h j c]
  · rw [if_neg c, if_neg c]
theorem zd_rwx {n : Int} {P Q : Nat → Int32} (h : zRw n P = zRw n Q) {j : Nat} (c : (j : Int) < n) : P j = Q j := by
  have q := congrFun h j
  rw [zRw_at c, zRw_at c] at q
  exact Int32.toInt_inj.mp q
theorem zd_rwu {n : Int} {P Q : Nat → Int32} {i : Nat} {v : Int32} (h : zRw n P = zRw n Q) : zRw n (upd P i v) = zRw n (upd Q i v) := zd_rwe fun j hj => by
  by_cases g : j = i
  · rw [upd_eq g, upd_eq g]
  · rw [upd_ne g, upd_ne g, zd_rwx h hj]
