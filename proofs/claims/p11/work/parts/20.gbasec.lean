/-! a lot's end, a morning's bounds -/
theorem zF5_is {f : Nat → Int} (h : z01 f) (e : zS5 f ≠ 0) : 0 ≤ zF5 f ∧ zF5 f ≤ 4 ∧ f (zF5 f).toNat = 1 := by
  have h0 := h 0
  have h1 := h 1
  have h2 := h 2
  have h3 := h 3
  have h4 := h 4
  unfold zS5 at e
  unfold zF5
  by_cases c0 : f 0 = 1
  · rw [if_pos c0]
    exact ⟨by decide, by decide, c0⟩
  · rw [if_neg c0]
    by_cases c1 : f 1 = 1
    · rw [if_pos c1]
      exact ⟨by decide, by decide, c1⟩
    · rw [if_neg c1]
      by_cases c2 : f 2 = 1
      · rw [if_pos c2]
        exact ⟨by decide, by decide, c2⟩
      · rw [if_neg c2]
        by_cases c3 : f 3 = 1
        · rw [if_pos c3]
          exact ⟨by decide, by decide, c3⟩
        · rw [if_neg c3]
          by_cases c4 : f 4 = 1
          · rw [if_pos c4]
            exact ⟨by decide, by decide, c4⟩
          · exfalso
            omega
/-- what a lot may come to -/
def zGo (st fl : Int) (o : Nat → Int) (mon : Nat → Int) (r : zO) : Prop := r.1 = -1 ∨ (0 ≤ r.1 ∧ r.1 ≤ 4 ∧ o r.1.toNat = 1 ∧ fl ≤ r.2.1 ∧ r.2.1 ≤ st ∧ r.2.1 ≤ mon r.1.toNat)
theorem zRunN_go {st fl dr be : Int} {o : Nat → Int} {S : Nat → Int32} {lim mon : Nat → Int} (hd : 0 ≤ dr) : ∀ (f : Nat) (p a br bl : Int), p ≤ st → zGo st fl o mon (zRunN st fl dr be (zCg o S lim mon) f p a br bl) := by
  intro f
  induction f with
  | zero => intro p a br bl _; exact Or.inl rfl
  | succ f ih =>
    intro p a br bl hp
    show zGo st fl o mon (if _ then _ else _)
    by_cases c1 : p < fl
    · rw [if_pos c1]
      exact Or.inl rfl
    · rw [if_neg c1]
      by_cases c2 : zS5 (zCg o S lim mon p a) = 0
      · rw [if_pos c2]
        exact ih _ _ _ _ (by omega)
      · rw [if_neg c2]
        by_cases c3 : zC5 (zCg o S lim mon p a) = 1 ∨ be = 0 ∨ 3 ≤ bl
        · rw [if_pos c3]
          have k := zF5_is (zCg_01 (o := o) (S := S) (lim := lim) (mon := mon) (p := p) (a := a)) c2
          have y := zCg_yes k.2.2
          exact Or.inr ⟨k.1, k.2.1, y.1, show fl ≤ p by omega, hp, y.2.1⟩
        · rw [if_neg c3]
          have m := Int.min_le_left st (p + 9)
          exact ih _ _ _ _ m
theorem zLot_go {L : Nat → Int32} {n : Int} {S V : Nat → Int32} {M : Nat → Int} {ring : Int32} {kd : Int} {P H : Nat → Int} (hL : iLaw L) : zGo (L 0).toInt (L 2).toInt (zOp n S V ring kd H) (zMon L n S P) (zLot L n S V M ring kd P H) := by
  have h1 := (hL 1 (by omega)).1
  have z := zlo_r ((1 : Nat) : Int)
  exact zRunN_go (by omega) _ _ _ _ _ (Int.le_refl _)
theorem zib_of {x : Int32} {f : Nat → Int} (hx : x.toInt = zS5 f) (h : z01 f) {b : Nat} (hb : b < 5) : zib x b = f b := by
  have k : (Int32.ofNat b).toInt = (b : Int) := Int32.toInt_ofNat_of_lt (by omega)
  have z := zbit_S h hx k (by omega) (by omega)
  rw [Int.toNat_natCast] at z
  exact z
theorem zSil_01 (ring : Int32) (v : Int) : z01 (zSil ring v) := zNo_01 _ _
theorem zSil_neg {ring : Int32} {v : Int} {b : Nat} (h0 : 0 ≤ ring.toInt) (h1 : ring.toInt ≤ 31) (hv : v < 0) (hb : b < 5) : zIb ring b = zSil ring v b := by
  have z := zIb_01 h0 h1 b
  have e : zJu v b = 0 := if_neg (by omega)
  unfold zSil zNo
  rw [e]
  by_cases c : zIb ring b = 1
  · rw [if_pos ⟨c, rfl⟩, c]
  · rw [if_neg (fun q => c q.1)]
    omega
theorem zLot_of {L : Nat → Int32} {n : Int} {S V : Nat → Int32} {M : Nat → Int} {ring : Int32} {kd : Int} {P H : Nat → Int} {x : Int32} {Lm Mn : Nat → Int32} (hx : x.toInt = zS5 (zOp n S V ring kd H)) (hl : zRw n Lm = zLim n S V M kd) (hm : zRw n Mn = zMon L n S P) : zLot L n S V M ring kd P H = zRun (L 0).toInt (L 2).toInt (L 1).toInt (L 3).toInt (zCg (zib x) S (zIv Lm) (zIv Mn)) (L 0).toInt 1000 0 0 := (zRun_ext (zCo_of hx hl hm) _ _ _ _).symm
/-! a morning, falling -/
def zFl (L : Nat → Int32) (n : Int) (S V : Nat → Int32) (M : Nat → Int) (ring : Int32) : Int → (Nat → Int) → (Nat → Int) → Int × Int := fun kd P H => ((zLot L n S V M ring kd P H).1, (zLot L n S V M ring kd P H).2.1)
def zSm (L : Nat → Int32) (n : Int) (S V : Nat → Int32) (M : Nat → Int) (ring : Int32) (K P : Nat → Int) (k : Nat) : zMs := zMo (zWf n V) (zFl L n S V M ring) K P k
/-- how lot j goes -/
def zOu (L : Nat → Int32) (n : Int) (S V : Nat → Int32) (M : Nat → Int) (ring : Int32) (K P : Nat → Int) (j : Nat) : zO := zLot L n S V M ring (K j) (zSm L n S V M ring K P j).1 (zSm L n S V M ring K P j).2.1
/-- what stands after k lots is within bounds -/
def zBn (n k : Int) (s : zMs) : Prop := (∀ b : Nat, (b : Int) < n → -99 ≤ s.1 b ∧ s.1 b ≤ 9999 ∧ 0 ≤ s.2.1 b ∧ s.2.1 b ≤ k ∧ -99 * k ≤ s.2.2.1 b ∧ s.2.2.1 b ≤ 99 * k) ∧ 0 ≤ s.2.2.2 ∧ s.2.2.2 ≤ 99 * k
/-- a way to sell that keeps them -/
def zWay (n : Int) (f : Int → (Nat → Int) → (Nat → Int) → Int × Int) : Prop := ∀ (kd : Int) (P H : Nat → Int), (f kd P H).1 = -1 ∨ (0 ≤ (f kd P H).1 ∧ (f kd P H).1 < n ∧ (f kd P H).1 ≤ 4 ∧ 0 ≤ (f kd P H).2 ∧ (f kd P H).2 ≤ 99 ∧ (f kd P H).2 ≤ P (f kd P H).1.toNat + 99)
theorem zAdd_at {F : Nat → Int} {b v : Int} {j : Nat} (h : (j : Int) = b) : zAdd F b v j = F j + v := if_pos h
theorem zAdd_ne {F : Nat → Int} {b v : Int} {j : Nat} (h : (j : Int) ≠ b) : zAdd F b v j = F j := if_neg h
theorem zWq_r {n : Int} {V : Nat → Int32} (hV : iWo V) (h5 : n ≤ 5) (b kd : Int) : 0 ≤ zWq n V b kd ∧ zWq n V b kd ≤ 99 := by
  unfold zWq
  by_cases c : 0 ≤ b ∧ b < 5 ∧ b < n ∧ 0 ≤ kd ∧ kd ≤ 3
  · rw [if_pos c]
    exact hV _ (by omega)
  · rw [if_neg c]
    omega
theorem zMo_bn {n : Int} {V : Nat → Int32} {f : Int → (Nat → Int) → (Nat → Int) → Int × Int} {K P : Nat → Int} (hf : zWay n f) (hV : iWo V) (h5 : n ≤ 5) (hP : ∀ b : Nat, (b : Int) < n → -99 ≤ P b ∧ P b ≤ 9999) : ∀ k : Nat, zBn n k (zMo (zWf n V) f K P k) := by
  intro k
  induction k with
  | zero =>
    refine ⟨fun b hb => ?_, show (0 : Int) ≤ 0 from by decide, show (0 : Int) ≤ 99 * ((0 : Nat) : Int) from by omega⟩
    have := hP b hb
    show -99 ≤ P b ∧ P b ≤ 9999 ∧ (0 : Int) ≤ 0 ∧ (0 : Int) ≤ ((0 : Nat) : Int) ∧ -99 * ((0 : Nat) : Int) ≤ 0 ∧ (0 : Int) ≤ 99 * ((0 : Nat) : Int)
    omega
  | succ k ih =>
    rw [zMo_s]
    have w := hf (K k) (zMo (zWf n V) f K P k).1 (zMo (zWf n V) f K P k).2.1
    obtain ⟨o, ho⟩ : ∃ o, o = f (K k) (zMo (zWf n V) f K P k).1 (zMo (zWf n V) f K P k).2.1 := ⟨_, rfl⟩
    obtain ⟨s, hs⟩ : ∃ s, s = zMo (zWf n V) f K P k := ⟨_, rfl⟩
    rw [← ho, ← hs] at w ⊢
    rw [← hs] at ih
    by_cases c : o.1 < 0
    · rw [zPay_neg c]
      refine ⟨fun b hb => ?_, by have := ih.2; omega, by have := ih.2; omega⟩
      have := ih.1 b hb
      omega
    · have w2 : 0 ≤ o.1 ∧ o.1 < n ∧ o.1 ≤ 4 ∧ 0 ≤ o.2 ∧ o.2 ≤ 99 ∧ o.2 ≤ s.1 o.1.toNat + 99 := by
        rcases w with w | w
        · omega
        · exact w
      have q := zWq_r hV h5 (o.1.toNat : Int) (K k)
      have q : 0 ≤ zWf n V (K k) o.1.toNat ∧ zWf n V (K k) o.1.toNat ≤ 99 := q
      refine ⟨fun b hb => ?_, ?_, ?_⟩
      · have i := ih.1 b hb
        show -99 ≤ zAdd s.1 o.1 (-o.2) b ∧ zAdd s.1 o.1 (-o.2) b ≤ 9999 ∧ 0 ≤ zAdd s.2.1 o.1 1 b ∧ zAdd s.2.1 o.1 1 b ≤ ((k + 1 : Nat) : Int) ∧ -99 * ((k + 1 : Nat) : Int) ≤ zAdd s.2.2.1 o.1 (zWf n V (K k) o.1.toNat - o.2) b ∧ zAdd s.2.2.1 o.1 (zWf n V (K k) o.1.toNat - o.2) b ≤ 99 * ((k + 1 : Nat) : Int)
        by_cases e : (b : Int) = o.1
        · rw [zAdd_at e, zAdd_at e, zAdd_at e]
          have e2 : o.1.toNat = b := by omega
          rw [e2] at w2 q
          rw [e2]
          omega
        · rw [zAdd_ne e, zAdd_ne e, zAdd_ne e]
          omega
      · show 0 ≤ s.2.2.2 + (if o.1 < 0 then 0 else o.2)
        rw [if_neg c]
        have := ih.2
        omega
      · show s.2.2.2 + (if o.1 < 0 then 0 else o.2) ≤ 99 * ((k + 1 : Nat) : Int)
        rw [if_neg c]
        have := ih.2
        omega
theorem iLaw_r {L : Nat → Int32} (h : iLaw L) : (1 ≤ (L 0).toInt ∧ (L 0).toInt ≤ 99) ∧ (1 ≤ (L 1).toInt ∧ (L 1).toInt ≤ 9) ∧ (0 ≤ (L 2).toInt ∧ (L 2).toInt ≤ 99) ∧ (0 ≤ (L 3).toInt ∧ (L 3).toInt ≤ 1) ∧ (0 ≤ (L 4).toInt ∧ (L 4).toInt ≤ 99) := ⟨h 0 (by omega), h 1 (by omega), h 2 (by omega), h 3 (by omega), h 4 (by omega)⟩
theorem zFl_way {L : Nat → Int32} {n : Int} {S V : Nat → Int32} {M : Nat → Int} {ring : Int32} (hL : iLaw L) : zWay n (zFl L n S V M ring) := by
  intro kd P H
  have g := zLot_go (n := n) (S := S) (V := V) (M := M) (ring := ring) (kd := kd) (P := P) (H := H) hL
  have r := iLaw_r hL
  unfold zFl
  obtain ⟨o, ho⟩ : ∃ o, o = zLot L n S V M ring kd P H := ⟨_, rfl⟩
  rw [← ho] at g ⊢
  show o.1 = -1 ∨ (0 ≤ o.1 ∧ o.1 < n ∧ o.1 ≤ 4 ∧ 0 ≤ o.2.1 ∧ o.2.1 ≤ 99 ∧ o.2.1 ≤ P o.1.toNat + 99)
  rcases g with g | g
  · exact Or.inl g
  · have m := (zRm_n (zOp_rm g.2.2.1)).1
    have k := g.2.2.2.2.2
    unfold zMon at k
    rw [if_pos m] at k
    refine Or.inr ⟨g.1, by omega, g.2.1, by omega, by omega, ?_⟩
    by_cases c : (S o.1.toNat).toInt = 4
    · rw [if_pos c] at k
      omega
    · rw [if_neg c] at k
      omega
theorem zSm_bn {L : Nat → Int32} {n : Int} {S V : Nat → Int32} {M : Nat → Int} {ring : Int32} {K P : Nat → Int} (hL : iLaw L) (hV : iWo V) (h5 : n ≤ 5) (hP : ∀ b : Nat, (b : Int) < n → -99 ≤ P b ∧ P b ≤ 9999) (k : Nat) : zBn n k (zSm L n S V M ring K P k) := zMo_bn (zFl_way hL) hV h5 hP k
theorem zRw_pu {n : Int} {F : Nat → Int32} (h : iPu F) (h5 : n ≤ 5) : ∀ b : Nat, (b : Int) < n → -99 ≤ zRw n F b ∧ zRw n F b ≤ 9999 := fun b hb => by
  rw [zRw_at hb]
  exact h b (by omega)
/-- a row and its first n, as numbers; what it is by an adding -/
def zE (I : (Nat → Int32) → Prop) (n : Int) (X : Nat → Int) (F : Nat → Int32) : Prop := I F ∧ zRw n F = X
def zU (I : (Nat → Int32) → Prop) (n b c : Int) (Z F : Nat → Int32) : Prop := I F ∧ zRw n F = zAdd (zRw n Z) b c
theorem zU_no {I : (Nat → Int32) → Prop} {n b c : Int} {F : Nat → Int32} (h : I F) (hb : b < 0) : zU I n b c F F := ⟨h, (zAdd_neg hb).symm⟩
theorem zU_put {I : (Nat → Int32) → Prop} {n b c : Int} {F : Nat → Int32} {i v : Int32} (h : I (upd F i.toNatClampNeg v)) (hi : i.toInt = b) (h0 : 0 ≤ b) (hn : b < n) (hv : v.toInt = (F i.toNatClampNeg).toInt + c) : zU I n b c F (upd F i.toNatClampNeg v) := ⟨h, zRw_add hi h0 hn hv⟩
theorem zTo_nr {X : Nat → Int} {k : Int} {Z F : Nat → Int32} (h : zTo X k Z) (hn : zNr k Z F) (h0 : 0 ≤ k) (hx : (F k.toNat).toInt = X k.toNat) : zTo X (k + 1) F := by
  intro j hj
  by_cases c : (j : Int) = k
  · have e : k.toNat = j := by omega
    rw [e] at hx
    exact hx
  · rw [hn j c]
    exact h j (by omega)
/-- as zTo, where somebody has it -/
def zTp2 (W X : Nat → Int) (k : Int) (F : Nat → Int32) : Prop := ∀ j : Nat, (j : Int) < k → 0 ≤ W j → (F j).toInt = X j
theorem zTp2_0 {W X : Nat → Int} {F : Nat → Int32} : zTp2 W X 0 F := fun j h => by omega
theorem zTp2_eq {W X : Nat → Int} {a b : Int} {F : Nat → Int32} (h : zTp2 W X a F) (e : a = b) : zTp2 W X b F := e ▸ h
theorem zTp2_nr {W X : Nat → Int} {k : Int} {Z F : Nat → Int32} (h : zTp2 W X k Z) (hn : zNr k Z F) (h0 : 0 ≤ k) (hx : 0 ≤ W k.toNat → (F k.toNat).toInt = X k.toNat) : zTp2 W X (k + 1) F := by
  intro j hj
  by_cases c : (j : Int) = k
  · have e : k.toNat = j := by omega
    rw [e] at hx
    exact hx
  · rw [hn j c]
    exact h j (by omega)
