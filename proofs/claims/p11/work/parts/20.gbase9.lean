/-! who coughs -/
/-- one that may cough (o), by his limit (of a deaf one: at the price ahead) and what he can pay -/
def zCg (o : Nat → Int) (S : Nat → Int32) (lim mon : Nat → Int) (p a : Int) : Nat → Int := fun b => if o b = 1 ∧ p ≤ mon b ∧ (if (S b).toInt = 1 then a else p) ≤ lim b then 1 else 0
theorem zCg_01 {o : Nat → Int} {S : Nat → Int32} {lim mon : Nat → Int} {p a : Int} : z01 (zCg o S lim mon p a) := fun b => by
  unfold zCg
  by_cases c : o b = 1 ∧ p ≤ mon b ∧ (if (S b).toInt = 1 then a else p) ≤ lim b
  · rw [if_pos c]
    exact Or.inr rfl
  · rw [if_neg c]
    exact Or.inl rfl
theorem zCg_yes {o : Nat → Int} {S : Nat → Int32} {lim mon : Nat → Int} {p a : Int} {b : Nat} (h : zCg o S lim mon p a b = 1) : o b = 1 ∧ p ≤ mon b ∧ (if (S b).toInt = 1 then a else p) ≤ lim b := by
  unfold zCg at h
  by_cases c : o b = 1 ∧ p ≤ mon b ∧ (if (S b).toInt = 1 then a else p) ≤ lim b
  · exact c
  · rw [if_neg c] at h
    omega
theorem zCg_ext {o o2 : Nat → Int} {S : Nat → Int32} {lim lim2 mon mon2 : Nat → Int} (h : ∀ b : Nat, b < 5 → o b = o2 b ∧ (o b = 1 → lim b = lim2 b ∧ mon b = mon2 b)) (p a : Int) : ∀ b : Nat, b < 5 → zCg o S lim mon p a b = zCg o2 S lim2 mon2 p a b := by
  intro b hb
  have q := h b hb
  unfold zCg
  by_cases c : o b = 1
  · have e := q.2 c
    rw [← q.1, e.1, e.2]
  · rw [if_neg (fun k => c k.1), if_neg (fun k => c (q.1.trans k.1))]
/-- up to which price one coughs, of prices that come by drops alone -/
def zTp (S : Nat → Int32) (lim mon : Nat → Int) (dr : Int) (b : Nat) : Int := min (mon b) (lim b - (if (S b).toInt = 1 then dr else 0))
theorem zCg_on {o : Nat → Int} {S : Nat → Int32} {lim mon : Nat → Int} {q dr : Int} {b : Nat} : zCg o S lim mon q (q + dr) b = if o b = 1 ∧ q ≤ zTp S lim mon dr b then 1 else 0 := by
  unfold zCg zTp
  by_cases d : (S b).toInt = 1
  · rw [if_pos d, if_pos d]
    by_cases c : o b = 1 ∧ q ≤ mon b ∧ q + dr ≤ lim b
    · rw [if_pos c, if_pos ⟨c.1, by omega⟩]
    · rw [if_neg c, if_neg (by omega)]
  · rw [if_neg d, if_neg d]
    by_cases c : o b = 1 ∧ q ≤ mon b ∧ q ≤ lim b
    · rw [if_pos c, if_pos ⟨c.1, by omega⟩]
    · rw [if_neg c, if_neg (by omega)]
/-- the greatest of these, -1 at least -/
def zTk (o t : Nat → Int) : Nat → Int
  | 0 => -1
  | k + 1 => if o k = 1 then max (zTk o t k) (t k) else zTk o t k
theorem zTk_ge {o t : Nat → Int} : ∀ k : Nat, -1 ≤ zTk o t k ∧ ∀ b : Nat, b < k → o b = 1 → t b ≤ zTk o t k := by
  intro k
  induction k with
  | zero => exact ⟨show (-1 : Int) ≤ -1 from by decide, fun b hb => by omega⟩
  | succ k ih =>
    show -1 ≤ (if o k = 1 then max (zTk o t k) (t k) else zTk o t k) ∧ ∀ b : Nat, b < k + 1 → o b = 1 → t b ≤ (if o k = 1 then max (zTk o t k) (t k) else zTk o t k)
    by_cases c : o k = 1
    · rw [if_pos c]
      refine ⟨by omega, fun b hb ob => ?_⟩
      by_cases e : b = k
      · rw [e]
        omega
      · have := ih.2 b (by omega) ob
        omega
    · rw [if_neg c]
      refine ⟨ih.1, fun b hb ob => ?_⟩
      by_cases e : b = k
      · exact absurd (e ▸ ob) c
      · exact ih.2 b (by omega) ob
theorem zTk_is {o t : Nat → Int} : ∀ k : Nat, zTk o t k = -1 ∨ ∃ b : Nat, b < k ∧ o b = 1 ∧ zTk o t k = t b := by
  intro k
  induction k with
  | zero => exact Or.inl rfl
  | succ k ih =>
    show (if o k = 1 then max (zTk o t k) (t k) else zTk o t k) = -1 ∨ ∃ b : Nat, b < k + 1 ∧ o b = 1 ∧ (if o k = 1 then max (zTk o t k) (t k) else zTk o t k) = t b
    by_cases c : o k = 1
    · rw [if_pos c]
      by_cases m : zTk o t k ≤ t k
      · exact Or.inr ⟨k, by omega, c, by omega⟩
      · have e : max (zTk o t k) (t k) = zTk o t k := by omega
        rw [e]
        rcases ih with h | ⟨b, h1, h2, h3⟩
        · exact Or.inl h
        · exact Or.inr ⟨b, by omega, h2, h3⟩
    · rw [if_neg c]
      rcases ih with h | ⟨b, h1, h2, h3⟩
      · exact Or.inl h
      · exact Or.inr ⟨b, by omega, h2, h3⟩
theorem zTk_1 {o t : Nat → Int} {k : Nat} (h : o k = 1) : zTk o t (k + 1) = max (zTk o t k) (t k) := if_pos h
theorem zTk_n {o t : Nat → Int} {k : Nat} (h : o k ≠ 1) : zTk o t (k + 1) = zTk o t k := if_neg h
/-- a later breath is one drop below the one ahead -/
theorem zAh_on {p a dr : Int} {i : Nat} (h : 1 ≤ i) : zAh p a dr i = p - (i : Int) * dr + dr := by
  unfold zAh
  rw [if_neg (by omega), Int.sub_mul, Int.one_mul]
  omega
theorem zNone {o : Nat → Int} {S : Nat → Int32} {lim mon : Nat → Int} {p a dr : Int} {i : Nat} (h : 1 ≤ i) (ht : zTk o (zTp S lim mon dr) 5 < p - (i : Int) * dr) : zS5 (zCg o S lim mon (p - (i : Int) * dr) (zAh p a dr i)) = 0 := by
  refine zS5_all0 fun b hb => ?_
  rw [zAh_on h, zCg_on]
  refine if_neg fun q => ?_
  have := (zTk_ge (o := o) (t := zTp S lim mon dr) 5).2 b hb q.1
  omega
theorem zSome {o : Nat → Int} {S : Nat → Int32} {lim mon : Nat → Int} {p a dr : Int} {i : Nat} (h : 1 ≤ i) (h0 : 0 ≤ p - (i : Int) * dr) (ht : p - (i : Int) * dr ≤ zTk o (zTp S lim mon dr) 5) : zS5 (zCg o S lim mon (p - (i : Int) * dr) (zAh p a dr i)) ≠ 0 := by
  intro e
  rcases zTk_is (o := o) (t := zTp S lim mon dr) 5 with k | ⟨b, hb, ob, k⟩
  · omega
  · have z := zS5_at0 zCg_01 e hb
    rw [zAh_on h, zCg_on, if_pos ⟨ob, by omega⟩] at z
    omega
/-- how many breaths till somebody coughs: k is that number, by the greatest price t -/
def zDn (p t dr : Int) (k : Nat) : Prop := 1 ≤ k ∧ (∀ i : Nat, 1 ≤ i → i < k → t < p - (i : Int) * dr) ∧ p - (k : Int) * dr ≤ t
theorem z_nine {x d : Int} (h1 : 1 ≤ d) (h9 : d ≤ 9) : d = 1 ∨ d = 2 ∨ d = 3 ∨ d = 4 ∨ d = 5 ∨ d = 6 ∨ d = 7 ∨ d = 8 ∨ d = 9 := by omega
theorem zDn_of {p t dr : Int} (h1 : 1 ≤ dr) (h9 : dr ≤ 9) : zDn p t dr (max 1 (Int.tdiv (p - t + dr - 1) dr)).toNat := by
  have key : ∀ y : Int, (0 ≤ p - t + dr - 1 → y = (p - t + dr - 1) / dr) → (p - t + dr - 1 < 0 → y ≤ 0) → zDn p t dr (max 1 y).toNat := by
    intro y hy hn
    have ek : (((max 1 y).toNat : Nat) : Int) = max 1 y := by omega
    refine ⟨by omega, fun i hi hik => ?_, ?_⟩
    · have hik2 : (i : Int) < max 1 y := by omega
      rcases z_nine (x := 0) h1 h9 with e | e | e | e | e | e | e | e | e <;> subst e <;> omega
    · rw [ek]
      rcases z_nine (x := 0) h1 h9 with e | e | e | e | e | e | e | e | e <;> subst e <;> omega
  refine key _ (fun h => Int.tdiv_eq_ediv_of_nonneg h) (fun h => ?_)
  have e : p - t + dr - 1 = -(-(p - t + dr - 1)) := by omega
  rw [e, Int.neg_tdiv, Int.tdiv_eq_ediv_of_nonneg (by omega)]
  have := Int.ediv_nonneg (a := -(p - t + dr - 1)) (b := dr) (by omega) (by omega)
  omega
theorem z_mono {p dr : Int} {i k : Nat} (h1 : 1 ≤ dr) (h : i ≤ k) : p - (k : Int) * dr ≤ p - (i : Int) * dr := by
  have := Int.mul_le_mul_of_nonneg_right (a := (i : Int)) (b := (k : Int)) (c := dr) (by omega) (by omega)
  omega
/-- nobody coughs here: on to the breath at which somebody does -/
theorem zLp_go {st fl dr be : Int} {o : Nat → Int} {S : Nat → Int32} {lim mon : Nat → Int} {p a br bl : Int} {k : Nat} (h1 : 1 ≤ dr) (hf : 0 ≤ fl) (hb : bl ≤ 3) (h0 : zS5 (zCg o S lim mon p a) = 0) (hk : zDn p (zTk o (zTp S lim mon dr) 5) dr k) (hg : fl ≤ p - (k : Int) * dr) : zRun st fl dr be (zCg o S lim mon) p a br bl = zRun st fl dr be (zCg o S lim mon) (p - (k : Int) * dr) (p - (k : Int) * dr + dr) (br + k) bl ∧ zS5 (zCg o S lim mon (p - (k : Int) * dr) (p - (k : Int) * dr + dr)) ≠ 0 := by
  have z := zSome (a := a) hk.1 (by omega) hk.2.2
  rw [zAh_on hk.1] at z
  refine ⟨?_, z⟩
  rw [zRun_leap h1 hf hb k (fun i hi => ⟨?_, ?_⟩), zAh_on hk.1]
  · have := z_mono (p := p) h1 (show i ≤ k by omega)
    omega
  · by_cases c : 1 ≤ i
    · exact zNone c (hk.2.1 i c hi)
    · have e : i = 0 := by omega
      subst e
      have e1 : p - ((0 : Nat) : Int) * dr = p := by
        rw [Int.ofNat_zero, Int.zero_mul]
        omega
      rw [e1]
      exact h0
/-- .. or till the lot goes back -/
theorem zLp_back {st fl dr be : Int} {o : Nat → Int} {S : Nat → Int32} {lim mon : Nat → Int} {p a br bl m : Int} {k : Nat} (h1 : 1 ≤ dr) (h9 : dr ≤ 9) (hf : 0 ≤ fl) (hb : bl ≤ 3) (hp : fl ≤ p) (h0 : zS5 (zCg o S lim mon p a) = 0) (hk : zDn p (zTk o (zTp S lim mon dr) 5) dr k) (hg : p - (k : Int) * dr < fl) (hm : m = (p - fl) / dr) : zRun st fl dr be (zCg o S lim mon) p a br bl = (-1, 0, br + m, bl) := by
  have hm0 : 0 ≤ m := by
    rw [hm]
    exact Int.ediv_nonneg (by omega) (by omega)
  have hlo : fl ≤ p - m * dr := by
    rw [hm]
    rcases z_nine (x := 0) h1 h9 with e | e | e | e | e | e | e | e | e <;> subst e <;> omega
  have hhi : p - (m + 1) * dr < fl := by
    rw [hm]
    rcases z_nine (x := 0) h1 h9 with e | e | e | e | e | e | e | e | e <;> subst e <;> omega
  have hmk : m.toNat < k := by
    by_cases c : m.toNat < k
    · exact c
    · have := z_mono (p := p) h1 (show k ≤ m.toNat by omega)
      rw [show ((m.toNat : Nat) : Int) = m by omega] at this
      omega
  have e2 : ((m.toNat + 1 : Nat) : Int) = m + 1 := by omega
  rw [zRun_leap h1 hf hb (m.toNat + 1) (fun i hi => ⟨?_, ?_⟩), e2, zRun_out hhi]
  · rw [show br + (m + 1) - 1 = br + m by omega]
  · have := z_mono (p := p) h1 (show i ≤ m.toNat by omega)
    rw [show ((m.toNat : Nat) : Int) = m by omega] at this
    omega
  · by_cases c : 1 ≤ i
    · exact zNone c (hk.2.1 i c (by omega))
    · have e : i = 0 := by omega
      subst e
      have e1 : p - ((0 : Nat) : Int) * dr = p := by
        rw [Int.ofNat_zero, Int.zero_mul]
        omega
      rw [e1]
      exact h0
/-! how long one waits -/
def zUp (v by_ : Int) : Int := if v ≤ 0 then 0 else (v + by_ - 1) / by_
/-- in how many breaths one coughs -/
def zWt (S : Nat → Int32) (lim mon : Nat → Int) (dr p a : Int) (b : Nat) : Int := if (S b).toInt ≠ 1 then max (zUp (p - mon b) dr) (zUp (p - lim b) dr) else if a ≤ lim b ∧ zUp (p - mon b) dr = 0 then 0 else max (zUp (p - mon b) dr) (1 + zUp (p - lim b) dr)
theorem zUp_le {v dr : Int} {i : Nat} (h1 : 1 ≤ dr) (h9 : dr ≤ 9) : zUp v dr ≤ i ↔ v - (i : Int) * dr ≤ 0 := by
  unfold zUp
  by_cases c : v ≤ 0
  · rw [if_pos c]
    have := Int.mul_nonneg (a := (i : Int)) (b := dr) (by omega) (by omega)
    omega
  · rw [if_neg c]
    rcases z_nine (x := 0) h1 h9 with e | e | e | e | e | e | e | e | e <;> subst e <;> omega
theorem zUp_0 {v dr : Int} (h1 : 1 ≤ dr) : 0 ≤ zUp v dr := by
  unfold zUp
  split
  · omega
  · exact Int.ediv_nonneg (by omega) (by omega)
theorem zUp_z {v dr : Int} (h1 : 1 ≤ dr) (h9 : dr ≤ 9) : zUp v dr = 0 ↔ v ≤ 0 := by
  have h := zUp_le (v := v) (i := 0) h1 h9
  have h0 := zUp_0 (v := v) h1
  rw [Int.ofNat_zero, Int.zero_mul] at h
  omega
theorem zWt_0 {S : Nat → Int32} {lim mon : Nat → Int} {dr p a : Int} {b : Nat} (h1 : 1 ≤ dr) : 0 ≤ zWt S lim mon dr p a b := by
  have := zUp_0 (v := p - mon b) h1
  have := zUp_0 (v := p - lim b) h1
  unfold zWt
  repeat' split
  all_goals omega
/-- one that coughs at breath i has waited so long -/
theorem zWt_le {o : Nat → Int} {S : Nat → Int32} {lim mon : Nat → Int} {dr p a : Int} {b i : Nat} (h1 : 1 ≤ dr) (h9 : dr ≤ 9) (h : zCg o S lim mon (p - (i : Int) * dr) (zAh p a dr i) b = 1) : o b = 1 ∧ zWt S lim mon dr p a b ≤ i := by
  have hm := zUp_le (v := p - mon b) (i := i) h1 h9
  by_cases c : 1 ≤ i
  · rw [zAh_on c, zCg_on] at h
    split at h
    · rename_i q
      refine ⟨q.1, ?_⟩
      have q2 := q.2
      unfold zTp at q2
      by_cases d : (S b).toInt = 1
      · rw [if_pos d] at q2
        have hl := zUp_le (v := p - lim b) (i := i - 1) h1 h9
        rw [show ((i - 1 : Nat) : Int) = (i : Int) - 1 by omega, Int.sub_mul, Int.one_mul] at hl
        unfold zWt
        rw [if_neg (fun k => k d)]
        split <;> omega
      · rw [if_neg d] at q2
        have hl := zUp_le (v := p - lim b) (i := i) h1 h9
        unfold zWt
        rw [if_pos d]
        omega
    · omega
  · have e : i = 0 := by omega
    subst e
    have e1 : p - ((0 : Nat) : Int) * dr = p := by
      rw [Int.ofNat_zero, Int.zero_mul]
      omega
    rw [e1] at h
    have h : zCg o S lim mon p a b = 1 := h
    have q := zCg_yes h
    refine ⟨q.1, ?_⟩
    have q2 := q.2
    have z1 := zUp_z (v := p - mon b) h1 h9
    have z2 := zUp_z (v := p - lim b) h1 h9
    unfold zWt
    by_cases d : (S b).toInt = 1
    · rw [if_pos d] at q2
      rw [if_neg (fun k => k d), if_pos ⟨q2.2, by omega⟩]
      omega
    · rw [if_neg d] at q2
      rw [if_pos d]
      omega
/-- who waits so long coughs then -/
theorem zWt_at {o : Nat → Int} {S : Nat → Int32} {lim mon : Nat → Int} {dr p a : Int} {b i : Nat} (h1 : 1 ≤ dr) (h9 : dr ≤ 9) (ob : o b = 1) (h : zWt S lim mon dr p a b = i) : zCg o S lim mon (p - (i : Int) * dr) (zAh p a dr i) b = 1 := by
  have hm := zUp_le (v := p - mon b) (i := i) h1 h9
  have u1 := zUp_0 (v := p - mon b) h1
  have u2 := zUp_0 (v := p - lim b) h1
  have z1 := zUp_z (v := p - mon b) h1 h9
  have z2 := zUp_z (v := p - lim b) h1 h9
  unfold zWt at h
  by_cases c : 1 ≤ i
  · rw [zAh_on c, zCg_on]
    refine if_pos ⟨ob, ?_⟩
    unfold zTp
    by_cases d : (S b).toInt = 1
    · rw [if_neg (fun k => k d)] at h
      rw [if_pos d]
      have hl := zUp_le (v := p - lim b) (i := i - 1) h1 h9
      rw [show ((i - 1 : Nat) : Int) = (i : Int) - 1 by omega, Int.sub_mul, Int.one_mul] at hl
      split at h <;> omega
    · rw [if_pos d] at h
      rw [if_neg d]
      have hl := zUp_le (v := p - lim b) (i := i) h1 h9
      omega
  · have e : i = 0 := by omega
    subst e
    have e1 : p - ((0 : Nat) : Int) * dr = p := by
      rw [Int.ofNat_zero, Int.zero_mul]
      omega
    rw [e1]
    show zCg o S lim mon p a b = 1
    unfold zCg
    by_cases d : (S b).toInt = 1
    · rw [if_neg (fun k => k d)] at h
      rw [if_pos d]
      split at h
      · rename_i q
        exact if_pos ⟨ob, by omega, q.1⟩
      · exfalso
        omega
    · rw [if_pos d] at h
      rw [if_neg d]
      exact if_pos ⟨ob, by omega, by omega⟩
