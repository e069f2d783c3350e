/-! any way to sell, lot by lot -/
def zOf (w : Int → Nat → Int) (f : Int → (Nat → Int) → (Nat → Int) → Int × Int) (K P : Nat → Int) (k : Nat) : Int × Int := f (K k) (zMo w f K P k).1 (zMo w f K P k).2.1
theorem zMo_P {w : Int → Nat → Int} {f : Int → (Nat → Int) → (Nat → Int) → Int × Int} {K P : Nat → Int} {k : Nat} : (zMo w f K P (k + 1)).1 = zAdd (zMo w f K P k).1 (zOf w f K P k).1 (-(zOf w f K P k).2) := rfl
theorem zMo_H {w : Int → Nat → Int} {f : Int → (Nat → Int) → (Nat → Int) → Int × Int} {K P : Nat → Int} {k : Nat} : (zMo w f K P (k + 1)).2.1 = zAdd (zMo w f K P k).2.1 (zOf w f K P k).1 1 := rfl
theorem zMo_G {w : Int → Nat → Int} {f : Int → (Nat → Int) → (Nat → Int) → Int × Int} {K P : Nat → Int} {k : Nat} : (zMo w f K P (k + 1)).2.2.1 = zAdd (zMo w f K P k).2.2.1 (zOf w f K P k).1 (w (K k) (zOf w f K P k).1.toNat - (zOf w f K P k).2) := rfl
theorem zMo_T {w : Int → Nat → Int} {f : Int → (Nat → Int) → (Nat → Int) → Int × Int} {K P : Nat → Int} {k : Nat} : (zMo w f K P (k + 1)).2.2.2 = (zMo w f K P k).2.2.2 + (if (zOf w f K P k).1 < 0 then 0 else (zOf w f K P k).2) := rfl
theorem zF_pre {n : Int} {V : Nat → Int32} {f : Int → (Nat → Int) → (Nat → Int) → Int × Int} {K P : Nat → Int} {k : Nat} {Pr Hr Gr : Nat → Int32} (hf : zWay n f) (hV : iWo V) (h0 : 0 ≤ n) (h5 : n ≤ 5) (hP : ∀ b : Nat, (b : Int) < n → -99 ≤ P b ∧ P b ≤ 9999) (hk : k ≤ 5) (iP : zRw n Pr = (zMo (zWf n V) f K P k).1) (iH : zRw n Hr = (zMo (zWf n V) f K P k).2.1) (iG : zRw n Gr = (zMo (zWf n V) f K P k).2.2.1) {W : Int} (hW : W = (zOf (zWf n V) f K P k).1) :
    -1 ≤ W ∧ W < n ∧ W ≤ 4 ∧ (0 ≤ W → 0 ≤ (zOf (zWf n V) f K P k).2) ∧ (0 ≤ W → (zOf (zWf n V) f K P k).2 ≤ 99) ∧ (0 ≤ W → (zOf (zWf n V) f K P k).2 ≤ (Pr W.toNat).toInt + 99) ∧ (0 ≤ W → (Hr W.toNat).toInt ≤ 5) ∧ (0 ≤ W → -900 ≤ (Gr W.toNat).toInt) ∧ (0 ≤ W → (Gr W.toNat).toInt ≤ 900) := by
  have w := hf (K k) (zMo (zWf n V) f K P k).1 (zMo (zWf n V) f K P k).2.1
  have w : (zOf (zWf n V) f K P k).1 = -1 ∨ (0 ≤ (zOf (zWf n V) f K P k).1 ∧ (zOf (zWf n V) f K P k).1 < n ∧ (zOf (zWf n V) f K P k).1 ≤ 4 ∧ 0 ≤ (zOf (zWf n V) f K P k).2 ∧ (zOf (zWf n V) f K P k).2 ≤ 99 ∧ (zOf (zWf n V) f K P k).2 ≤ (zMo (zWf n V) f K P k).1 (zOf (zWf n V) f K P k).1.toNat + 99) := w
  rw [← hW] at w
  by_cases c : W < 0
  · refine ⟨by omega, by omega, by omega, ?_, ?_, ?_, ?_, ?_, ?_⟩ <;> intro q <;> omega
  · have w2 : 0 ≤ W ∧ W < n ∧ W ≤ 4 ∧ 0 ≤ (zOf (zWf n V) f K P k).2 ∧ (zOf (zWf n V) f K P k).2 ≤ 99 ∧ (zOf (zWf n V) f K P k).2 ≤ (zMo (zWf n V) f K P k).1 W.toNat + 99 := by
      rcases w with w | w
      · omega
      · exact w
    have b := (zMo_bn (K := K) hf hV h5 hP k).1 W.toNat (by omega)
    rw [← iP, ← iH, ← iG, zRw_at (by omega), zRw_at (by omega), zRw_at (by omega)] at b
    rw [← iP, zRw_at (by omega)] at w2
    refine ⟨by omega, by omega, by omega, ?_, ?_, ?_, ?_, ?_, ?_⟩ <;> intro q <;> omega
theorem zF_P {n : Int} {w : Int → Nat → Int} {f : Int → (Nat → Int) → (Nat → Int) → Int × Int} {K P : Nat → Int} {k : Nat} {Z F : Nat → Int32} {I : (Nat → Int32) → Prop} {W p : Int} (h : zU I n W (-p) Z F) (i : zRw n Z = (zMo w f K P k).1) (hW : W = (zOf w f K P k).1) (hp : 0 ≤ W → p = (zOf w f K P k).2) : zE I n (zMo w f K P (k + 1)).1 F := ⟨h.1, by
  rw [h.2, i, zMo_P, ← hW]
  exact zAdd_same fun q => by rw [hp q]⟩
theorem zF_H {n : Int} {w : Int → Nat → Int} {f : Int → (Nat → Int) → (Nat → Int) → Int × Int} {K P : Nat → Int} {k : Nat} {Z F : Nat → Int32} {I : (Nat → Int32) → Prop} {W : Int} (h : zU I n W 1 Z F) (i : zRw n Z = (zMo w f K P k).2.1) (hW : W = (zOf w f K P k).1) : zE I n (zMo w f K P (k + 1)).2.1 F := ⟨h.1, by
  rw [h.2, i, zMo_H, ← hW]⟩
theorem zF_G {n : Int} {V : Nat → Int32} {f : Int → (Nat → Int) → (Nat → Int) → Int × Int} {K P : Nat → Int} {k : Nat} {Z F : Nat → Int32} {I : (Nat → Int32) → Prop} {W p kd : Int} (h : zU I n W (zWq n V W kd - p) Z F) (i : zRw n Z = (zMo (zWf n V) f K P k).2.2.1) (hW : W = (zOf (zWf n V) f K P k).1) (hp : 0 ≤ W → p = (zOf (zWf n V) f K P k).2) (hk : kd = K k) : zE I n (zMo (zWf n V) f K P (k + 1)).2.2.1 F := ⟨h.1, by
  rw [h.2, i, zMo_G, ← hW]
  refine zAdd_same fun q => ?_
  rw [hp q, hk]
  unfold zWf
  rw [show ((W.toNat : Nat) : Int) = W by omega]⟩
/-! rising -/
/-- of those that may have it: who has the greatest worth, that worth, the second greatest -/
def zRi (o w mon : Nat → Int) (fl : Int) : Nat → Int × Int × Int
  | 0 => (-1, -1, -1)
  | k + 1 => if o k = 1 ∧ fl ≤ mon k ∧ fl ≤ w k then (if (zRi o w mon fl k).2.1 < w k then ((k : Int), w k, (zRi o w mon fl k).2.1) else ((zRi o w mon fl k).1, (zRi o w mon fl k).2.1, max (zRi o w mon fl k).2.2 (w k))) else zRi o w mon fl k
theorem zRi_new {o w mon : Nat → Int} {fl : Int} {k : Nat} (h : o k = 1 ∧ fl ≤ mon k ∧ fl ≤ w k) (h2 : (zRi o w mon fl k).2.1 < w k) : zRi o w mon fl (k + 1) = ((k : Int), w k, (zRi o w mon fl k).2.1) := by
  show (if _ then _ else _) = _
  rw [if_pos h, if_pos h2]
theorem zRi_old {o w mon : Nat → Int} {fl : Int} {k : Nat} (h : o k = 1 ∧ fl ≤ mon k ∧ fl ≤ w k) (h2 : ¬ (zRi o w mon fl k).2.1 < w k) : zRi o w mon fl (k + 1) = ((zRi o w mon fl k).1, (zRi o w mon fl k).2.1, max (zRi o w mon fl k).2.2 (w k)) := by
  show (if _ then _ else _) = _
  rw [if_pos h, if_neg h2]
theorem zRi_no {o w mon : Nat → Int} {fl : Int} {k : Nat} (h : ¬ (o k = 1 ∧ fl ≤ mon k ∧ fl ≤ w k)) : zRi o w mon fl (k + 1) = zRi o w mon fl k := by
  show (if _ then _ else _) = _
  rw [if_neg h]
theorem zRi_r {o w mon : Nat → Int} {fl : Int} (hf : 0 ≤ fl) (hw : ∀ b, w b ≤ 99) : ∀ k : Nat, -1 ≤ (zRi o w mon fl k).1 ∧ (zRi o w mon fl k).1 < k ∧ -1 ≤ (zRi o w mon fl k).2.1 ∧ (zRi o w mon fl k).2.1 ≤ 99 ∧ -1 ≤ (zRi o w mon fl k).2.2 ∧ (zRi o w mon fl k).2.2 ≤ 99 ∧ ((zRi o w mon fl k).1 < 0 → (zRi o w mon fl k).2.1 = -1) ∧ (0 ≤ (zRi o w mon fl k).1 → o (zRi o w mon fl k).1.toNat = 1 ∧ fl ≤ mon (zRi o w mon fl k).1.toNat ∧ fl ≤ (zRi o w mon fl k).2.1 ∧ (zRi o w mon fl k).2.1 = w (zRi o w mon fl k).1.toNat) := by
  intro k
  induction k with
  | zero => exact ⟨show (-1 : Int) ≤ -1 from by decide, show (-1 : Int) < ((0 : Nat) : Int) from by decide, show (-1 : Int) ≤ -1 from by decide, show (-1 : Int) ≤ 99 from by decide, show (-1 : Int) ≤ -1 from by decide, show (-1 : Int) ≤ 99 from by decide, fun _ => rfl, fun h => absurd (show (0 : Int) ≤ -1 from h) (by decide)⟩
  | succ k ih =>
    have q := hw k
    by_cases h : o k = 1 ∧ fl ≤ mon k ∧ fl ≤ w k
    · by_cases h2 : (zRi o w mon fl k).2.1 < w k
      · rw [zRi_new h h2]
        refine ⟨show (-1 : Int) ≤ (k : Int) by omega, show (k : Int) < ((k + 1 : Nat) : Int) by omega, show -1 ≤ w k by omega, show w k ≤ 99 from q, show -1 ≤ (zRi o w mon fl k).2.1 by omega, show (zRi o w mon fl k).2.1 ≤ 99 by omega, fun c => ?_, fun c => ?_⟩
        · have c : (k : Int) < 0 := c
          exfalso
          omega
        · show o (k : Int).toNat = 1 ∧ fl ≤ mon (k : Int).toNat ∧ fl ≤ w k ∧ w k = w (k : Int).toNat
          rw [Int.toNat_natCast]
          exact ⟨h.1, h.2.1, h.2.2, rfl⟩
      · rw [zRi_old h h2]
        refine ⟨show -1 ≤ (zRi o w mon fl k).1 by omega, show (zRi o w mon fl k).1 < ((k + 1 : Nat) : Int) by omega, show -1 ≤ (zRi o w mon fl k).2.1 by omega, show (zRi o w mon fl k).2.1 ≤ 99 by omega, show -1 ≤ max (zRi o w mon fl k).2.2 (w k) by omega, show max (zRi o w mon fl k).2.2 (w k) ≤ 99 by omega, ih.2.2.2.2.2.2.1, ih.2.2.2.2.2.2.2⟩
    · rw [zRi_no h]
      exact ⟨ih.1, by omega, ih.2.2⟩
/-- by the law RISING -/
def zRis (L : Nat → Int32) (n : Int) (S V : Nat → Int32) : Int → (Nat → Int) → (Nat → Int) → Int × Int := fun kd P H =>
  ((zRi (zRm n S H) (zWf n V kd) (zMon L n S P) (L 2).toInt 5).1, if 0 ≤ (zRi (zRm n S H) (zWf n V kd) (zMon L n S P) (L 2).toInt 5).1 ∧ 0 ≤ (zRi (zRm n S H) (zWf n V kd) (zMon L n S P) (L 2).toInt 5).2.2 then min (max (L 2).toInt ((zRi (zRm n S H) (zWf n V kd) (zMon L n S P) (L 2).toInt 5).2.2 + 1)) (min (zRi (zRm n S H) (zWf n V kd) (zMon L n S P) (L 2).toInt 5).2.1 (zMon L n S P (zRi (zRm n S H) (zWf n V kd) (zMon L n S P) (L 2).toInt 5).1.toNat)) else (L 2).toInt)
theorem zMon_p {L : Nat → Int32} {n : Int} {S : Nat → Int32} {P : Nat → Int} {b : Nat} (hL : iLaw L) (hb : (b : Int) < n) : zMon L n S P b ≤ P b + 99 := by
  have r := iLaw_r hL
  unfold zMon
  rw [if_pos hb]
  by_cases c : (S b).toInt = 4
  · rw [if_pos c]
    omega
  · rw [if_neg c]
    omega
theorem zRis_way {L : Nat → Int32} {n : Int} {S V : Nat → Int32} (hL : iLaw L) (hV : iWo V) (h5 : n ≤ 5) : zWay n (zRis L n S V) := by
  intro kd P H
  have r := iLaw_r hL
  have t := zRi_r (o := zRm n S H) (w := zWf n V kd) (mon := zMon L n S P) (fl := (L 2).toInt) (by omega) (fun b => (zWq_r hV h5 (b : Int) kd).2) 5
  unfold zRis
  obtain ⟨x, hx⟩ : ∃ x, x = zRi (zRm n S H) (zWf n V kd) (zMon L n S P) (L 2).toInt 5 := ⟨_, rfl⟩
  rw [← hx] at t ⊢
  show x.1 = -1 ∨ (0 ≤ x.1 ∧ x.1 < n ∧ x.1 ≤ 4 ∧ 0 ≤ (if 0 ≤ x.1 ∧ 0 ≤ x.2.2 then min (max (L 2).toInt (x.2.2 + 1)) (min x.2.1 (zMon L n S P x.1.toNat)) else (L 2).toInt) ∧ (if 0 ≤ x.1 ∧ 0 ≤ x.2.2 then min (max (L 2).toInt (x.2.2 + 1)) (min x.2.1 (zMon L n S P x.1.toNat)) else (L 2).toInt) ≤ 99 ∧ (if 0 ≤ x.1 ∧ 0 ≤ x.2.2 then min (max (L 2).toInt (x.2.2 + 1)) (min x.2.1 (zMon L n S P x.1.toNat)) else (L 2).toInt) ≤ P x.1.toNat + 99)
  by_cases c : x.1 < 0
  · exact Or.inl (by omega)
  · have u := t.2.2.2.2.2.2.2 (by omega)
    have m := (zRm_n u.1).1
    have p := zMon_p (S := S) (P := P) hL m
    have t1 := t.2.1
    by_cases d : 0 ≤ x.1 ∧ 0 ≤ x.2.2
    · rw [if_pos d]
      exact Or.inr ⟨by omega, by omega, by omega, by omega, by omega, by omega⟩
    · rw [if_neg d]
      exact Or.inr ⟨by omega, by omega, by omega, by omega, by omega, by omega⟩
/-! sealed -/
/-- who has the greatest limit, and for how much -/
def zSl (o lim mon : Nat → Int) (fl : Int) : Nat → Int × Int
  | 0 => (-1, fl)
  | k + 1 => if o k = 1 ∧ ((zSl o lim mon fl k).1 < 0 ∧ (zSl o lim mon fl k).2 ≤ lim k ∨ 0 ≤ (zSl o lim mon fl k).1 ∧ (zSl o lim mon fl k).2 < lim k) ∧ lim k ≤ mon k then ((k : Int), lim k) else zSl o lim mon fl k
theorem zSl_1 {o lim mon : Nat → Int} {fl : Int} {k : Nat} (h : o k = 1 ∧ ((zSl o lim mon fl k).1 < 0 ∧ (zSl o lim mon fl k).2 ≤ lim k ∨ 0 ≤ (zSl o lim mon fl k).1 ∧ (zSl o lim mon fl k).2 < lim k) ∧ lim k ≤ mon k) : zSl o lim mon fl (k + 1) = ((k : Int), lim k) := if_pos h
theorem zSl_n {o lim mon : Nat → Int} {fl : Int} {k : Nat} (h : ¬ (o k = 1 ∧ ((zSl o lim mon fl k).1 < 0 ∧ (zSl o lim mon fl k).2 ≤ lim k ∨ 0 ≤ (zSl o lim mon fl k).1 ∧ (zSl o lim mon fl k).2 < lim k) ∧ lim k ≤ mon k)) : zSl o lim mon fl (k + 1) = zSl o lim mon fl k := if_neg h
theorem zSl_r {o lim mon : Nat → Int} {fl : Int} (hf : 0 ≤ fl) (h99 : fl ≤ 99) (hl : ∀ b, lim b ≤ 99) : ∀ k : Nat, -1 ≤ (zSl o lim mon fl k).1 ∧ (zSl o lim mon fl k).1 < k ∧ fl ≤ (zSl o lim mon fl k).2 ∧ (zSl o lim mon fl k).2 ≤ 99 ∧ (0 ≤ (zSl o lim mon fl k).1 → o (zSl o lim mon fl k).1.toNat = 1 ∧ (zSl o lim mon fl k).2 ≤ mon (zSl o lim mon fl k).1.toNat) ∧ ((zSl o lim mon fl k).1 < 0 → (zSl o lim mon fl k).2 = fl) := by
  intro k
  induction k with
  | zero => exact ⟨show (-1 : Int) ≤ -1 from by decide, show (-1 : Int) < ((0 : Nat) : Int) from by decide, show fl ≤ fl by omega, h99, fun h => absurd (show (0 : Int) ≤ -1 from h) (by decide), fun _ => rfl⟩
  | succ k ih =>
    have q := hl k
    by_cases h : o k = 1 ∧ ((zSl o lim mon fl k).1 < 0 ∧ (zSl o lim mon fl k).2 ≤ lim k ∨ 0 ≤ (zSl o lim mon fl k).1 ∧ (zSl o lim mon fl k).2 < lim k) ∧ lim k ≤ mon k
    · rw [zSl_1 h]
      have h2 := h.2.1
      refine ⟨show (-1 : Int) ≤ (k : Int) by omega, show (k : Int) < ((k + 1 : Nat) : Int) by omega, show fl ≤ lim k by omega, show lim k ≤ 99 from q, fun c => ?_, fun c => ?_⟩
      · show o (k : Int).toNat = 1 ∧ lim k ≤ mon (k : Int).toNat
        rw [Int.toNat_natCast]
        exact ⟨h.1, h.2.2⟩
      · have c : (k : Int) < 0 := c
        exfalso
        omega
    · rw [zSl_n h]
      exact ⟨ih.1, by omega, ih.2.2⟩
/-- by the law SEALED -/
def zSea (L : Nat → Int32) (n : Int) (S V : Nat → Int32) (M : Nat → Int) : Int → (Nat → Int) → (Nat → Int) → Int × Int := fun kd P H => zSl (zRm n S H) (zLim n S V M kd) (zMon L n S P) (L 2).toInt 5
theorem zCh_0' {S : Nat → Int32} {M : Nat → Int} {b : Nat} (h : 0 ≤ M b) : 0 ≤ zCh S M b := by
  unfold zCh
  split <;> omega
theorem zLim_99 {n : Int} {S V : Nat → Int32} {M : Nat → Int} {kd : Int} (hV : iWo V) (h5 : n ≤ 5) (hM : ∀ b : Nat, 0 ≤ M b) (b : Nat) : zLim n S V M kd b ≤ 99 := by
  have q := zWq_r hV h5 (b : Int) kd
  have c := zCh_0' (S := S) (hM b)
  unfold zLim
  split <;> omega
theorem zSea_way {L : Nat → Int32} {n : Int} {S V : Nat → Int32} {M : Nat → Int} (hL : iLaw L) (hV : iWo V) (h5 : n ≤ 5) (hM : ∀ b : Nat, 0 ≤ M b) : zWay n (zSea L n S V M) := by
  intro kd P H
  have r := iLaw_r hL
  have t := zSl_r (o := zRm n S H) (lim := zLim n S V M kd) (mon := zMon L n S P) (fl := (L 2).toInt) (by omega) (by omega) (zLim_99 hV h5 hM) 5
  unfold zSea
  obtain ⟨x, hx⟩ : ∃ x, x = zSl (zRm n S H) (zLim n S V M kd) (zMon L n S P) (L 2).toInt 5 := ⟨_, rfl⟩
  rw [← hx] at t ⊢
  by_cases c : x.1 < 0
  · exact Or.inl (by omega)
  · have u := t.2.2.2.2.1 (by omega)
    have m := (zRm_n u.1).1
    have p := zMon_p (S := S) (P := P) hL m
    have t1 := t.2.1
    exact Or.inr ⟨by omega, by omega, by omega, by omega, by omega, by omega⟩
/-- by a law: 0 FALLING, 1 RISING, 2 SEALED -/
def zByL (L : Nat → Int32) (n : Int) (S V : Nat → Int32) (M : Nat → Int) (law : Int) : Int → (Nat → Int) → (Nat → Int) → Int × Int := fun kd P H => if law = 1 then zRis L n S V kd P H else if law = 2 then zSea L n S V M kd P H else zFl L n S V M 0 kd P H
theorem zByL_way {L : Nat → Int32} {n : Int} {S V : Nat → Int32} {M : Nat → Int} {law : Int} (hL : iLaw L) (hV : iWo V) (h5 : n ≤ 5) (hM : ∀ b : Nat, 0 ≤ M b) : zWay n (zByL L n S V M law) := by
  intro kd P H
  unfold zByL
  by_cases c : law = 1
  · rw [if_pos c]
    exact zRis_way hL hV h5 kd P H
  · rw [if_neg c]
    by_cases d : law = 2
    · rw [if_pos d]
      exact zSea_way hL hV h5 hM kd P H
    · rw [if_neg d]
      exact zFl_way hL kd P H
/-- kinds in the order of a row -/
def zKr (K : Nat → Int32) (R : Nat → Int32) : Nat → Int := fun j => (K (R j).toNatClampNeg).toInt
/-- a row of places 0 to 5 -/
def iRw (F : Nat → Int32) : Prop := ∀ j : Nat, j < 6 → 0 ≤ (F j).toInt ∧ (F j).toInt ≤ 5
/-- TILL by a law -/
def zAti (L : Nat → Int32) (lots : Int) (K : Nat → Int32) (n : Int) (S P M V : Nat → Int32) (a : Int) : Int := if a < 0 ∨ 2 < a then -1 else (zMo (zWf n V) (zByL L n S V (zRw n M) a) (zIv K) (zRw n P) lots.toNat).2.2.2
/-- what a morning answers, and what the purses are then -/
def zAmor (lots held T : Int) : Int := if lots ≤ 0 then -2 else if 9999 ≤ held then -3 else T
def zPuM (lots held n : Int) (X : Nat → Int) (Z F : Nat → Int32) : Prop := iPu F ∧ (0 < lots → held < 9999 → zRw n F = X) ∧ (lots ≤ 0 ∨ 9999 ≤ held → F = Z)
theorem zPuM_no {lots held n : Int} {X : Nat → Int} {F : Nat → Int32} (h : iPu F) (c : lots ≤ 0 ∨ 9999 ≤ held) : zPuM lots held n X F F := ⟨h, fun a b => by omega, fun _ => rfl⟩
theorem zPuM_so {lots held n : Int} {X : Nat → Int} {Z F : Nat → Int32} (h : iPu F) (hx : zRw n F = X) (a : 0 < lots) (b : held < 9999) : zPuM lots held n X Z F := ⟨h, fun _ _ => hx, fun c => by omega⟩
theorem zRw_ma0 {n : Int} {F : Nat → Int32} (h : iMa F) (h5 : n ≤ 5) (b : Nat) : 0 ≤ zRw n F b := by
  unfold zRw
  by_cases c : (b : Int) < n
  · rw [if_pos c]
    exact (h b (by omega)).1
  · rw [if_neg c]
    omega
