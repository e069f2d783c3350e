/-! what is heard of a lot: its last price, and who coughed there, by the way that the steps go -/
def zHeN (st fl dr be : Int) (c : Int → Int → Nat → Int) (top : Int) : Nat → Int → Int → Int → Int × Int
  | 0 => fun p _ _ => (p, 0)
  | f + 1 => fun p a rg => if zS5 (c p a) = 0 then (if p - max 1 (Int.tdiv (p - top + dr - 1) dr) * dr < fl then (p - (p - fl) / dr * dr, 0) else if zC5 (c (p - max 1 (Int.tdiv (p - top + dr - 1) dr) * dr) (p - max 1 (Int.tdiv (p - top + dr - 1) dr) * dr + dr)) = 1 ∨ be = 0 ∨ rg = 3 then (p - max 1 (Int.tdiv (p - top + dr - 1) dr) * dr, zS5 (c (p - max 1 (Int.tdiv (p - top + dr - 1) dr) * dr) (p - max 1 (Int.tdiv (p - top + dr - 1) dr) * dr + dr))) else zHeN st fl dr be c top f (min st (p - max 1 (Int.tdiv (p - top + dr - 1) dr) * dr + 9)) (p - max 1 (Int.tdiv (p - top + dr - 1) dr) * dr) (rg + 1)) else if zC5 (c p a) = 1 ∨ be = 0 ∨ rg = 3 then (p, zS5 (c p a)) else zHeN st fl dr be c top f (min st (p + 9)) p (rg + 1)
theorem zHe_s {st fl dr be : Int} {c : Int → Int → Nat → Int} {top p a rg : Int} (h3 : rg ≤ 3) : zHeN st fl dr be c top (4 - rg).toNat p a rg = if zS5 (c p a) = 0 then (if p - max 1 (Int.tdiv (p - top + dr - 1) dr) * dr < fl then (p - (p - fl) / dr * dr, 0) else if zC5 (c (p - max 1 (Int.tdiv (p - top + dr - 1) dr) * dr) (p - max 1 (Int.tdiv (p - top + dr - 1) dr) * dr + dr)) = 1 ∨ be = 0 ∨ rg = 3 then (p - max 1 (Int.tdiv (p - top + dr - 1) dr) * dr, zS5 (c (p - max 1 (Int.tdiv (p - top + dr - 1) dr) * dr) (p - max 1 (Int.tdiv (p - top + dr - 1) dr) * dr + dr))) else zHeN st fl dr be c top (4 - (rg + 1)).toNat (min st (p - max 1 (Int.tdiv (p - top + dr - 1) dr) * dr + 9)) (p - max 1 (Int.tdiv (p - top + dr - 1) dr) * dr) (rg + 1)) else if zC5 (c p a) = 1 ∨ be = 0 ∨ rg = 3 then (p, zS5 (c p a)) else zHeN st fl dr be c top (4 - (rg + 1)).toNat (min st (p + 9)) p (rg + 1) := by
  rw [show (4 - rg).toNat = (4 - (rg + 1)).toNat + 1 by omega]
  rfl
theorem zHe_back {st fl dr be : Int} {c : Int → Int → Nat → Int} {top p a rg d m : Int} (h3 : rg ≤ 3) (h0 : zS5 (c p a) = 0) (hd : max 1 (Int.tdiv (p - top + dr - 1) dr) = d) (hb : p - d * dr < fl) (hm : m = (p - fl) / dr) : zHeN st fl dr be c top (4 - rg).toNat p a rg = (p - m * dr, 0) := by
  rw [zHe_s h3, if_pos h0, hd, if_pos hb, hm]
theorem zHe_had {st fl dr be : Int} {c : Int → Int → Nat → Int} {top p a rg : Int} (h3 : rg ≤ 3) (h0 : zS5 (c p a) ≠ 0) (hl : zC5 (c p a) = 1 ∨ be = 0 ∨ rg = 3) : zHeN st fl dr be c top (4 - rg).toNat p a rg = (p, zS5 (c p a)) := by
  rw [zHe_s h3, if_neg h0, if_pos hl]
theorem zHe_bell {st fl dr be : Int} {c : Int → Int → Nat → Int} {top p a rg : Int} (h3 : rg ≤ 3) (h0 : zS5 (c p a) ≠ 0) (hl : ¬ (zC5 (c p a) = 1 ∨ be = 0 ∨ rg = 3)) : zHeN st fl dr be c top (4 - rg).toNat p a rg = zHeN st fl dr be c top (4 - (rg + 1)).toNat (min st (p + 9)) p (rg + 1) := by
  rw [zHe_s h3, if_neg h0, if_neg hl]
theorem zHe_had1 {st fl dr be : Int} {c : Int → Int → Nat → Int} {top p a rg d q : Int} (h3 : rg ≤ 3) (h0 : zS5 (c p a) = 0) (hd : max 1 (Int.tdiv (p - top + dr - 1) dr) = d) (hb : ¬ p - d * dr < fl) (hq : q = p - d * dr) (hl : zC5 (c q (q + dr)) = 1 ∨ be = 0 ∨ rg = 3) : zHeN st fl dr be c top (4 - rg).toNat p a rg = (q, zS5 (c q (q + dr))) := by
  rw [zHe_s h3, if_pos h0, hd, if_neg hb, ← hq, if_pos hl]
theorem zHe_bell1 {st fl dr be : Int} {c : Int → Int → Nat → Int} {top p a rg d q : Int} (h3 : rg ≤ 3) (h0 : zS5 (c p a) = 0) (hd : max 1 (Int.tdiv (p - top + dr - 1) dr) = d) (hb : ¬ p - d * dr < fl) (hq : q = p - d * dr) (hl : ¬ (zC5 (c q (q + dr)) = 1 ∨ be = 0 ∨ rg = 3)) : zHeN st fl dr be c top (4 - rg).toNat p a rg = zHeN st fl dr be c top (4 - (rg + 1)).toNat (min st (q + 9)) q (rg + 1) := by
  rw [zHe_s h3, if_pos h0, hd, if_neg hb, ← hq, if_neg hl]
theorem zHe_ext {st fl dr be top : Int} {c d : Int → Int → Nat → Int} (h : ∀ p a : Int, zS5 (c p a) = zS5 (d p a) ∧ zC5 (c p a) = zC5 (d p a) ∧ zF5 (c p a) = zF5 (d p a)) : ∀ (f : Nat) (p a rg : Int), zHeN st fl dr be c top f p a rg = zHeN st fl dr be d top f p a rg := by
  intro f
  induction f with
  | zero => exact fun _ _ _ => rfl
  | succ f ih =>
    intro p a rg
    unfold zHeN
    rw [(h p a).1, (h p a).2.1, (h (p - max 1 (Int.tdiv (p - top + dr - 1) dr) * dr) (p - max 1 (Int.tdiv (p - top + dr - 1) dr) * dr + dr)).1, (h (p - max 1 (Int.tdiv (p - top + dr - 1) dr) * dr) (p - max 1 (Int.tdiv (p - top + dr - 1) dr) * dr + dr)).2.1, ih, ih]
theorem zTk_cg {o o2 t t2 : Nat → Int} : ∀ k : Nat, (∀ b : Nat, b < k → o b = o2 b ∧ (o b = 1 → t b = t2 b)) → zTk o t k = zTk o2 t2 k := by
  intro k
  induction k with
  | zero => intro _; rfl
  | succ k ih =>
    intro h
    have e := ih fun b hb => h b (by omega)
    have q := h k (by omega)
    by_cases c : o k = 1
    · rw [zTk_1 c, zTk_1 (q.1 ▸ c), e, q.2 c]
    · rw [zTk_n c, zTk_n (q.1 ▸ c), e]
/-- of a lot, by what the books tell -/
def zHeL (L : Nat → Int32) (n : Int) (S V : Nat → Int32) (M : Nat → Int) (ring : Int32) (kd : Int) (P H : Nat → Int) : Int × Int := zHeN (L 0).toInt (L 2).toInt (L 1).toInt (L 3).toInt (zCo L n S V M ring kd P H) (zTk (zOp n S V ring kd H) (zTp S (zLim n S V M kd) (zMon L n S P) (L 1).toInt) 5) 4 (L 0).toInt 1000 0
theorem zHe_of {L : Nat → Int32} {n : Int} {S V : Nat → Int32} {M : Nat → Int} {ring : Int32} {kd : Int} {P H : Nat → Int} {x : Int32} {Lm Mn : Nat → Int32} (hx : x.toInt = zS5 (zOp n S V ring kd H)) (hl : zRw n Lm = zLim n S V M kd) (hm : zRw n Mn = zMon L n S P) : zHeN (L 0).toInt (L 2).toInt (L 1).toInt (L 3).toInt (zCg (zib x) S (zIv Lm) (zIv Mn)) (zTk (zib x) (zTp S (zIv Lm) (zIv Mn) (L 1).toInt) 5) 4 (L 0).toInt 1000 0 = zHeL L n S V M ring kd P H := by
  have e : zTk (zib x) (zTp S (zIv Lm) (zIv Mn) (L 1).toInt) 5 = zTk (zOp n S V ring kd H) (zTp S (zLim n S V M kd) (zMon L n S P) (L 1).toInt) 5 := by
    refine zTk_cg 5 fun b hb => ?_
    have q := zib_of hx zOp_01 hb
    refine ⟨q, fun c => ?_⟩
    have r := (zRm_n (zOp_rm (q.symm.trans c))).1
    have h1 : zIv Lm b = zLim n S V M kd b := by
      rw [← hl, zRw_at r]
      rfl
    have h2 : zIv Mn b = zMon L n S P b := by
      rw [← hm, zRw_at r]
      rfl
    unfold zTp
    rw [h1, h2]
  unfold zHeL
  rw [e]
  exact zHe_ext (zCo_of hx hl hm) _ _ _ _
theorem z_dml {x d m : Int} (h0 : 0 ≤ x) (h1 : 1 ≤ d) (h9 : d ≤ 9) (e : m = x / d) : 0 ≤ m * d ∧ m * d ≤ x := by
  rw [e]
  rcases z_nine (x := 0) h1 h9 with q | q | q | q | q | q | q | q | q <;> subst q <;> omega
/-! spans, narrowed by what was heard -/
def zEqI (X : Nat → Int) (F : Nat → Int32) : Prop := ∀ j : Nat, (F j).toInt = X j
def zNaL (n b kd v q : Int) (Z F : Nat → Int32) : Prop := ∀ j : Nat, (F j).toInt = if 0 ≤ b ∧ b < 5 ∧ b < n ∧ 0 ≤ kd ∧ kd ≤ 3 ∧ q ≠ 0 ∧ (j : Int) = 4 * b + kd then max (Z j).toInt v else (Z j).toInt
def zNaM (n b kd v q : Int) (Z F : Nat → Int32) : Prop := ∀ j : Nat, (F j).toInt = if 0 ≤ b ∧ b < 5 ∧ b < n ∧ 0 ≤ kd ∧ kd ≤ 3 ∧ q = 0 ∧ (j : Int) = 4 * b + kd then min (Z j).toInt (v - 1) else (Z j).toInt
theorem zNaL_no {n b kd v q : Int} {Z : Nat → Int32} (h : ¬ (0 ≤ b ∧ b < 5 ∧ b < n ∧ 0 ≤ kd ∧ kd ≤ 3 ∧ q ≠ 0)) : zNaL n b kd v q Z Z := fun j => (if_neg fun c => h ⟨c.1, c.2.1, c.2.2.1, c.2.2.2.1, c.2.2.2.2.1, c.2.2.2.2.2.1⟩).symm
theorem zNaM_no {n b kd v q : Int} {Z : Nat → Int32} (h : ¬ (0 ≤ b ∧ b < 5 ∧ b < n ∧ 0 ≤ kd ∧ kd ≤ 3 ∧ q = 0)) : zNaM n b kd v q Z Z := fun j => (if_neg fun c => h ⟨c.1, c.2.1, c.2.2.1, c.2.2.2.1, c.2.2.2.2.1, c.2.2.2.2.2.1⟩).symm
theorem zNaL_put {n b kd v q : Int} {Z : Nat → Int32} {i x : Int32} (h : 0 ≤ b ∧ b < 5 ∧ b < n ∧ 0 ≤ kd ∧ kd ≤ 3 ∧ q ≠ 0) (hi : i.toInt = 4 * b + kd) (hx : x.toInt = max (Z i.toNatClampNeg).toInt v) : zNaL n b kd v q Z (upd Z i.toNatClampNeg x) := by
  intro j
  have k := z_tn' hi (by omega)
  by_cases c : j = i.toNatClampNeg
  · rw [upd_eq c, if_pos ⟨h.1, h.2.1, h.2.2.1, h.2.2.2.1, h.2.2.2.2.1, h.2.2.2.2.2, by omega⟩, c]
    exact hx
  · rw [upd_ne c, if_neg fun d => c (by have := d.2.2.2.2.2.2; omega)]
theorem zNaM_put {n b kd v q : Int} {Z : Nat → Int32} {i x : Int32} (h : 0 ≤ b ∧ b < 5 ∧ b < n ∧ 0 ≤ kd ∧ kd ≤ 3 ∧ q = 0) (hi : i.toInt = 4 * b + kd) (hx : x.toInt = min (Z i.toNatClampNeg).toInt (v - 1)) : zNaM n b kd v q Z (upd Z i.toNatClampNeg x) := by
  intro j
  have k := z_tn' hi (by omega)
  by_cases c : j = i.toNatClampNeg
  · rw [upd_eq c, if_pos ⟨h.1, h.2.1, h.2.2.1, h.2.2.2.1, h.2.2.2.2.1, h.2.2.2.2.2, by omega⟩, c]
    exact hx
  · rw [upd_ne c, if_neg fun d => c (by have := d.2.2.2.2.2.2; omega)]
/-- the spans behind the first k buyers, of one lot -/
abbrev zHuC (n : Int) (o : Nat → Int) (S : Nat → Int32) (mon : Nat → Int) (p kd : Int) (b : Nat) : Prop := b < 5 ∧ (b : Int) < n ∧ o b = 1 ∧ (S b).toInt ≠ 1 ∧ p ≤ mon b
def zHuL (n : Int) (o : Nat → Int) (S : Nat → Int32) (mon : Nat → Int) (p kd : Int) (cg ch : Nat → Int) (k : Nat) (X : Nat → Int) : Nat → Int := fun j => if (j / 4 < k ∧ ((j % 4 : Nat) : Int) = kd) ∧ zHuC n o S mon p kd (j / 4) ∧ cg (j / 4) = 1 then max (X j) (min 99 (p + ch (j / 4))) else X j
def zHuM (n : Int) (o : Nat → Int) (S : Nat → Int32) (mon : Nat → Int) (p kd : Int) (cg ch : Nat → Int) (k : Nat) (X : Nat → Int) : Nat → Int := fun j => if (j / 4 < k ∧ ((j % 4 : Nat) : Int) = kd) ∧ zHuC n o S mon p kd (j / 4) ∧ cg (j / 4) ≠ 1 then min (X j) (min 99 (p + ch (j / 4)) - 1) else X j
def zHaL (n : Int) (o : Nat → Int) (S : Nat → Int32) (mon : Nat → Int) (p kd : Int) (cg ch : Nat → Int) (Z : Nat → Int32) (k : Int) (F : Nat → Int32) : Prop := zEqI (zHuL n o S mon p kd cg ch k.toNat (zIv Z)) F
def zHaM (n : Int) (o : Nat → Int) (S : Nat → Int32) (mon : Nat → Int) (p kd : Int) (cg ch : Nat → Int) (Z : Nat → Int32) (k : Int) (F : Nat → Int32) : Prop := zEqI (zHuM n o S mon p kd cg ch k.toNat (zIv Z)) F
theorem zHaL_eq {n : Int} {o : Nat → Int} {S : Nat → Int32} {mon : Nat → Int} {p kd : Int} {cg ch : Nat → Int} {Z F : Nat → Int32} {a b : Int} (h : zHaL n o S mon p kd cg ch Z a F) (e : a = b) : zHaL n o S mon p kd cg ch Z b F := e ▸ h
theorem zHaM_eq {n : Int} {o : Nat → Int} {S : Nat → Int32} {mon : Nat → Int} {p kd : Int} {cg ch : Nat → Int} {Z F : Nat → Int32} {a b : Int} (h : zHaM n o S mon p kd cg ch Z a F) (e : a = b) : zHaM n o S mon p kd cg ch Z b F := e ▸ h
theorem zHaL_0 {n : Int} {o : Nat → Int} {S : Nat → Int32} {mon : Nat → Int} {p kd : Int} {cg ch : Nat → Int} {Z : Nat → Int32} : zHaL n o S mon p kd cg ch Z 0 Z := fun j => (if_neg fun c => by have q := c.1.1; rw [show (0 : Int).toNat = 0 from rfl] at q; omega).symm
theorem zHaM_0 {n : Int} {o : Nat → Int} {S : Nat → Int32} {mon : Nat → Int} {p kd : Int} {cg ch : Nat → Int} {Z : Nat → Int32} : zHaM n o S mon p kd cg ch Z 0 Z := fun j => (if_neg fun c => by have q := c.1.1; rw [show (0 : Int).toNat = 0 from rfl] at q; omega).symm
theorem zHaL_no {n : Int} {o : Nat → Int} {S : Nat → Int32} {mon : Nat → Int} {p kd : Int} {cg ch : Nat → Int} {Z F : Nat → Int32} {k : Int} (h : zHaL n o S mon p kd cg ch Z k F) (h0 : 0 ≤ k) (c : ¬ (o k.toNat = 1 ∧ (S k.toNat).toInt ≠ 1 ∧ p ≤ mon k.toNat)) : zHaL n o S mon p kd cg ch Z (k + 1) F := by
  intro j
  rw [h j]
  unfold zHuL
  by_cases e : j / 4 = k.toNat
  · rw [if_neg fun d => by have := d.1.1; omega, if_neg fun d => c (by rw [← e]; exact d.2.1.2.2)]
  · by_cases d : (j / 4 < k.toNat ∧ ((j % 4 : Nat) : Int) = kd) ∧ zHuC n o S mon p kd (j / 4) ∧ cg (j / 4) = 1
    · rw [if_pos d, if_pos ⟨⟨by have := d.1.1; omega, d.1.2⟩, d.2⟩]
    · rw [if_neg d, if_neg fun f => d ⟨⟨by have := f.1.1; omega, f.1.2⟩, f.2⟩]
theorem zHaM_no {n : Int} {o : Nat → Int} {S : Nat → Int32} {mon : Nat → Int} {p kd : Int} {cg ch : Nat → Int} {Z F : Nat → Int32} {k : Int} (h : zHaM n o S mon p kd cg ch Z k F) (h0 : 0 ≤ k) (c : ¬ (o k.toNat = 1 ∧ (S k.toNat).toInt ≠ 1 ∧ p ≤ mon k.toNat)) : zHaM n o S mon p kd cg ch Z (k + 1) F := by
  intro j
  rw [h j]
  unfold zHuM
  by_cases e : j / 4 = k.toNat
  · rw [if_neg fun d => by have := d.1.1; omega, if_neg fun d => c (by rw [← e]; exact d.2.1.2.2)]
  · by_cases d : (j / 4 < k.toNat ∧ ((j % 4 : Nat) : Int) = kd) ∧ zHuC n o S mon p kd (j / 4) ∧ cg (j / 4) ≠ 1
    · rw [if_pos d, if_pos ⟨⟨by have := d.1.1; omega, d.1.2⟩, d.2⟩]
    · rw [if_neg d, if_neg fun f => d ⟨⟨by have := f.1.1; omega, f.1.2⟩, f.2⟩]
theorem zHaL_s {n : Int} {o : Nat → Int} {S : Nat → Int32} {mon : Nat → Int} {p kd : Int} {cg ch : Nat → Int} {Z H F : Nat → Int32} {k b kd2 v q : Int} (h : zHaL n o S mon p kd cg ch Z k H) (hn : zNaL n b kd2 v q H F) (hb : b = k) (h0 : 0 ≤ k) (h4 : k ≤ 4) (hk : kd2 = kd) (k0 : 0 ≤ kd) (k3 : kd ≤ 3) (ho : o k.toNat = 1) (hs : (S k.toNat).toInt ≠ 1) (hm : p ≤ mon k.toNat) (hv : v = min 99 (p + ch k.toNat)) (hq : (q ≠ 0 ∧ cg k.toNat = 1) ∨ (q = 0 ∧ cg k.toNat ≠ 1)) : zHaL n o S mon p kd cg ch Z (k + 1) F := by
  intro j
  rw [hn j, h j]
  unfold zHuL
  by_cases e : j / 4 = k.toNat ∧ ((j % 4 : Nat) : Int) = kd
  · rw [if_neg (c := (j / 4 < k.toNat ∧ ((j % 4 : Nat) : Int) = kd) ∧ zHuC n o S mon p kd (j / 4) ∧ cg (j / 4) = 1) fun d => by have := d.1.1; omega, e.1]
    by_cases g : k < n ∧ q ≠ 0
    · rw [if_pos ⟨by omega, by omega, by omega, by omega, by omega, g.2, by omega⟩, if_pos ⟨⟨by omega, e.2⟩, ⟨by omega, by omega, ho, hs, hm⟩, by rcases hq with r | r; exact r.2; exact absurd r.1 g.2⟩, hv]
    · rw [if_neg fun d => g ⟨by have := d.2.2.1; omega, d.2.2.2.2.2.1⟩, if_neg fun d => g ⟨by have := d.2.1.2.1; omega, by rcases hq with r | r; exact r.1; exact absurd d.2.2 r.2⟩]
  · rw [if_neg fun d => e (by have := d.2.2.2.2.2.2; omega)]
    by_cases d : (j / 4 < k.toNat ∧ ((j % 4 : Nat) : Int) = kd) ∧ zHuC n o S mon p kd (j / 4) ∧ cg (j / 4) = 1
    · rw [if_pos d, if_pos ⟨⟨by have := d.1.1; omega, d.1.2⟩, d.2⟩]
    · rw [if_neg d, if_neg fun f => d ⟨⟨by have := f.1.1; have := f.1.2; omega, f.1.2⟩, f.2⟩]
theorem zHaM_s {n : Int} {o : Nat → Int} {S : Nat → Int32} {mon : Nat → Int} {p kd : Int} {cg ch : Nat → Int} {Z H F : Nat → Int32} {k b kd2 v q : Int} (h : zHaM n o S mon p kd cg ch Z k H) (hn : zNaM n b kd2 v q H F) (hb : b = k) (h0 : 0 ≤ k) (h4 : k ≤ 4) (hk : kd2 = kd) (k0 : 0 ≤ kd) (k3 : kd ≤ 3) (ho : o k.toNat = 1) (hs : (S k.toNat).toInt ≠ 1) (hm : p ≤ mon k.toNat) (hv : v = min 99 (p + ch k.toNat)) (hq : (q ≠ 0 ∧ cg k.toNat = 1) ∨ (q = 0 ∧ cg k.toNat ≠ 1)) : zHaM n o S mon p kd cg ch Z (k + 1) F := by
  intro j
  rw [hn j, h j]
  unfold zHuM
  by_cases e : j / 4 = k.toNat ∧ ((j % 4 : Nat) : Int) = kd
  · rw [if_neg (c := (j / 4 < k.toNat ∧ ((j % 4 : Nat) : Int) = kd) ∧ zHuC n o S mon p kd (j / 4) ∧ cg (j / 4) ≠ 1) fun d => by have := d.1.1; omega, e.1]
    by_cases g : k < n ∧ q = 0
    · rw [if_pos ⟨by omega, by omega, by omega, by omega, by omega, g.2, by omega⟩, if_pos ⟨⟨by omega, e.2⟩, ⟨by omega, by omega, ho, hs, hm⟩, by rcases hq with r | r; exact absurd g.2 r.1; exact r.2⟩, hv]
    · rw [if_neg fun d => g ⟨by have := d.2.2.1; omega, d.2.2.2.2.2.1⟩, if_neg fun d => g ⟨by have := d.2.1.2.1; omega, by rcases hq with r | r; exact absurd r.2 d.2.2; exact r.1⟩]
  · rw [if_neg fun d => e (by have := d.2.2.2.2.2.2; omega)]
    by_cases d : (j / 4 < k.toNat ∧ ((j % 4 : Nat) : Int) = kd) ∧ zHuC n o S mon p kd (j / 4) ∧ cg (j / 4) ≠ 1
    · rw [if_pos d, if_pos ⟨⟨by have := d.1.1; omega, d.1.2⟩, d.2⟩]
    · rw [if_neg d, if_neg fun f => d ⟨⟨by have := f.1.1; have := f.1.2; omega, f.1.2⟩, f.2⟩]
/-- a lot that was cried, or not even at its first breath -/
def zHqL (br n : Int) (o : Nat → Int) (S : Nat → Int32) (mon : Nat → Int) (p kd : Int) (cg ch : Nat → Int) (Z F : Nat → Int32) : Prop := (0 ≤ br → zHaL n o S mon p kd cg ch Z 5 F) ∧ (br < 0 → F = Z)
def zHqM (br n : Int) (o : Nat → Int) (S : Nat → Int32) (mon : Nat → Int) (p kd : Int) (cg ch : Nat → Int) (Z F : Nat → Int32) : Prop := (0 ≤ br → zHaM n o S mon p kd cg ch Z 5 F) ∧ (br < 0 → F = Z)
theorem zHqL_no {br n : Int} {o : Nat → Int} {S : Nat → Int32} {mon : Nat → Int} {p kd : Int} {cg ch : Nat → Int} {Z : Nat → Int32} (h : br < 0) : zHqL br n o S mon p kd cg ch Z Z := ⟨fun g => by omega, fun _ => rfl⟩
theorem zHqM_no {br n : Int} {o : Nat → Int} {S : Nat → Int32} {mon : Nat → Int} {p kd : Int} {cg ch : Nat → Int} {Z : Nat → Int32} (h : br < 0) : zHqM br n o S mon p kd cg ch Z Z := ⟨fun g => by omega, fun _ => rfl⟩
theorem zHqL_so {br n : Int} {o : Nat → Int} {S : Nat → Int32} {mon : Nat → Int} {p kd : Int} {cg ch : Nat → Int} {Z F : Nat → Int32} {k : Int} (h : 0 ≤ br) (q : zHaL n o S mon p kd cg ch Z k F) (e : k = 5) : zHqL br n o S mon p kd cg ch Z F := ⟨fun _ => e ▸ q, fun g => by omega⟩
theorem zHqM_so {br n : Int} {o : Nat → Int} {S : Nat → Int32} {mon : Nat → Int} {p kd : Int} {cg ch : Nat → Int} {Z F : Nat → Int32} {k : Int} (h : 0 ≤ br) (q : zHaM n o S mon p kd cg ch Z k F) (e : k = 5) : zHqM br n o S mon p kd cg ch Z F := ⟨fun _ => e ▸ q, fun g => by omega⟩
theorem zHuL_cg {n : Int} {o o2 : Nat → Int} {S : Nat → Int32} {mon mon2 : Nat → Int} {p kd : Int} {cg ch ch2 : Nat → Int} {k : Nat} {X Y : Nat → Int} (h : ∀ b : Nat, b < 5 → (b : Int) < n → o b = o2 b ∧ mon b = mon2 b ∧ ch b = ch2 b) (hX : ∀ j, X j = Y j) (j : Nat) : zHuL n o S mon p kd cg ch k X j = zHuL n o2 S mon2 p kd cg ch2 k Y j := by
  unfold zHuL
  rw [hX j]
  by_cases c : j / 4 < 5 ∧ ((j / 4 : Nat) : Int) < n
  · have q := h (j / 4) c.1 c.2
    rw [q.2.2]
    by_cases d : (j / 4 < k ∧ ((j % 4 : Nat) : Int) = kd) ∧ zHuC n o S mon p kd (j / 4) ∧ cg (j / 4) = 1
    · rw [if_pos d, if_pos ⟨d.1, ⟨d.2.1.1, d.2.1.2.1, q.1 ▸ d.2.1.2.2.1, d.2.1.2.2.2.1, q.2.1 ▸ d.2.1.2.2.2.2⟩, d.2.2⟩]
    · rw [if_neg d, if_neg fun f => d ⟨f.1, ⟨f.2.1.1, f.2.1.2.1, q.1.symm ▸ f.2.1.2.2.1, f.2.1.2.2.2.1, q.2.1.symm ▸ f.2.1.2.2.2.2⟩, f.2.2⟩]
  · rw [if_neg fun d => c ⟨d.2.1.1, d.2.1.2.1⟩, if_neg fun d => c ⟨d.2.1.1, d.2.1.2.1⟩]
theorem zHuM_cg {n : Int} {o o2 : Nat → Int} {S : Nat → Int32} {mon mon2 : Nat → Int} {p kd : Int} {cg ch ch2 : Nat → Int} {k : Nat} {X Y : Nat → Int} (h : ∀ b : Nat, b < 5 → (b : Int) < n → o b = o2 b ∧ mon b = mon2 b ∧ ch b = ch2 b) (hX : ∀ j, X j = Y j) (j : Nat) : zHuM n o S mon p kd cg ch k X j = zHuM n o2 S mon2 p kd cg ch2 k Y j := by
  unfold zHuM
  rw [hX j]
  by_cases c : j / 4 < 5 ∧ ((j / 4 : Nat) : Int) < n
  · have q := h (j / 4) c.1 c.2
    rw [q.2.2]
    by_cases d : (j / 4 < k ∧ ((j % 4 : Nat) : Int) = kd) ∧ zHuC n o S mon p kd (j / 4) ∧ cg (j / 4) ≠ 1
    · rw [if_pos d, if_pos ⟨d.1, ⟨d.2.1.1, d.2.1.2.1, q.1 ▸ d.2.1.2.2.1, d.2.1.2.2.2.1, q.2.1 ▸ d.2.1.2.2.2.2⟩, d.2.2⟩]
    · rw [if_neg d, if_neg fun f => d ⟨f.1, ⟨f.2.1.1, f.2.1.2.1, q.1.symm ▸ f.2.1.2.2.1, f.2.1.2.2.2.1, q.2.1.symm ▸ f.2.1.2.2.2.2⟩, f.2.2⟩]
  · rw [if_neg fun d => c ⟨d.2.1.1, d.2.1.2.1⟩, if_neg fun d => c ⟨d.2.1.1, d.2.1.2.1⟩]
/-- the spans behind the first k lots of a morning -/
def zSpn (L : Nat → Int32) (n : Int) (S V : Nat → Int32) (M : Nat → Int) (K P lo hi : Nat → Int) : Nat → (Nat → Int) × (Nat → Int)
  | 0 => (lo, hi)
  | k + 1 => if 0 ≤ (zOu L n S V M 0 K P k).2.2.1 then (zHuL n (zOp n S V 0 (K k) (zSm L n S V M 0 K P k).2.1) S (zMon L n S (zSm L n S V M 0 K P k).1) (zHeL L n S V M 0 (K k) (zSm L n S V M 0 K P k).1 (zSm L n S V M 0 K P k).2.1).1 (K k) (zib (Int32.ofInt (zHeL L n S V M 0 (K k) (zSm L n S V M 0 K P k).1 (zSm L n S V M 0 K P k).2.1).2)) (zCh S M) 5 (zSpn L n S V M K P lo hi k).1, zHuM n (zOp n S V 0 (K k) (zSm L n S V M 0 K P k).2.1) S (zMon L n S (zSm L n S V M 0 K P k).1) (zHeL L n S V M 0 (K k) (zSm L n S V M 0 K P k).1 (zSm L n S V M 0 K P k).2.1).1 (K k) (zib (Int32.ofInt (zHeL L n S V M 0 (K k) (zSm L n S V M 0 K P k).1 (zSm L n S V M 0 K P k).2.1).2)) (zCh S M) 5 (zSpn L n S V M K P lo hi k).2) else zSpn L n S V M K P lo hi k
def zSpL (L : Nat → Int32) (n : Int) (S V : Nat → Int32) (M : Nat → Int) (K P : Nat → Int) (ZL ZM : Nat → Int32) (k : Int) (F : Nat → Int32) : Prop := zEqI (zSpn L n S V M K P (zIv ZL) (zIv ZM) k.toNat).1 F
def zSpM (L : Nat → Int32) (n : Int) (S V : Nat → Int32) (M : Nat → Int) (K P : Nat → Int) (ZL ZM : Nat → Int32) (k : Int) (F : Nat → Int32) : Prop := zEqI (zSpn L n S V M K P (zIv ZL) (zIv ZM) k.toNat).2 F
theorem zSpL_eq {L : Nat → Int32} {n : Int} {S V : Nat → Int32} {M : Nat → Int} {K P : Nat → Int} {ZL ZM F : Nat → Int32} {a b : Int} (h : zSpL L n S V M K P ZL ZM a F) (e : a = b) : zSpL L n S V M K P ZL ZM b F := e ▸ h
theorem zSpM_eq {L : Nat → Int32} {n : Int} {S V : Nat → Int32} {M : Nat → Int} {K P : Nat → Int} {ZL ZM F : Nat → Int32} {a b : Int} (h : zSpM L n S V M K P ZL ZM a F) (e : a = b) : zSpM L n S V M K P ZL ZM b F := e ▸ h
theorem zSpL_0 {L : Nat → Int32} {n : Int} {S V : Nat → Int32} {M : Nat → Int} {K P : Nat → Int} {ZL ZM : Nat → Int32} : zSpL L n S V M K P ZL ZM 0 ZL := fun _ => rfl
theorem zSpM_0 {L : Nat → Int32} {n : Int} {S V : Nat → Int32} {M : Nat → Int} {K P : Nat → Int} {ZL ZM : Nat → Int32} : zSpM L n S V M K P ZL ZM 0 ZM := fun _ => rfl
theorem zSp_par {L : Nat → Int32} {n : Int} {S V : Nat → Int32} {M : Nat → Int} {kd : Int} {P H : Nat → Int} {x : Int32} {Mn Mg : Nat → Int32} (hx : x.toInt = zS5 (zOp n S V 0 kd H)) (hm : zRw n Mn = zMon L n S P) (hg : zRw n Mg = M) : ∀ b : Nat, b < 5 → (b : Int) < n → zib x b = zOp n S V 0 kd H b ∧ zIv Mn b = zMon L n S P b ∧ zCh S (zIv Mg) b = zCh S M b := fun b hb hn => ⟨zib_of hx zOp_01 hb, by
  rw [← hm, zRw_at hn]
  rfl, by
  unfold zCh
  rw [← hg, zRw_at hn]
  rfl⟩
theorem zSpL_s {L : Nat → Int32} {n : Int} {S V : Nat → Int32} {M : Nat → Int} {K P : Nat → Int} {ZL ZM Z F Mn Mg : Nat → Int32} {k br p kd : Int} {x y : Int32} (h : zSpL L n S V M K P ZL ZM k Z) (q : zHqL br n (zib x) S (zIv Mn) p kd (zib y) (zCh S (zIv Mg)) Z F) (h0 : 0 ≤ k) (hb : br = (zOu L n S V M 0 K P k.toNat).2.2.1) (hk : kd = K k.toNat) (hx : x.toInt = zS5 (zOp n S V 0 (K k.toNat) (zSm L n S V M 0 K P k.toNat).2.1)) (hm : zRw n Mn = zMon L n S (zSm L n S V M 0 K P k.toNat).1) (hg : zRw n Mg = M) (hp : 0 ≤ br → p = (zHeL L n S V M 0 (K k.toNat) (zSm L n S V M 0 K P k.toNat).1 (zSm L n S V M 0 K P k.toNat).2.1).1) (hy : 0 ≤ br → y.toInt = (zHeL L n S V M 0 (K k.toNat) (zSm L n S V M 0 K P k.toNat).1 (zSm L n S V M 0 K P k.toNat).2.1).2) : zSpL L n S V M K P ZL ZM (k + 1) F := by
  intro j
  rw [show (k + 1).toNat = k.toNat + 1 by omega]
  unfold zSpn
  by_cases c : 0 ≤ br
  · rw [if_pos (by omega)]
    have a := q.1 c j
    rw [a, ← hp c, ← hy c, Int32.ofInt_toInt, hk]
    exact zHuL_cg (zSp_par hx hm hg) (fun i => h i) j
  · rw [if_neg (by omega), q.2 (by omega)]
    exact h j
theorem zSpM_s {L : Nat → Int32} {n : Int} {S V : Nat → Int32} {M : Nat → Int} {K P : Nat → Int} {ZL ZM Z F Mn Mg : Nat → Int32} {k br p kd : Int} {x y : Int32} (h : zSpM L n S V M K P ZL ZM k Z) (q : zHqM br n (zib x) S (zIv Mn) p kd (zib y) (zCh S (zIv Mg)) Z F) (h0 : 0 ≤ k) (hb : br = (zOu L n S V M 0 K P k.toNat).2.2.1) (hk : kd = K k.toNat) (hx : x.toInt = zS5 (zOp n S V 0 (K k.toNat) (zSm L n S V M 0 K P k.toNat).2.1)) (hm : zRw n Mn = zMon L n S (zSm L n S V M 0 K P k.toNat).1) (hg : zRw n Mg = M) (hp : 0 ≤ br → p = (zHeL L n S V M 0 (K k.toNat) (zSm L n S V M 0 K P k.toNat).1 (zSm L n S V M 0 K P k.toNat).2.1).1) (hy : 0 ≤ br → y.toInt = (zHeL L n S V M 0 (K k.toNat) (zSm L n S V M 0 K P k.toNat).1 (zSm L n S V M 0 K P k.toNat).2.1).2) : zSpM L n S V M K P ZL ZM (k + 1) F := by
  intro j
  rw [show (k + 1).toNat = k.toNat + 1 by omega]
  unfold zSpn
  by_cases c : 0 ≤ br
  · rw [if_pos (by omega)]
    have a := q.1 c j
    rw [a, ← hp c, ← hy c, Int32.ofInt_toInt, hk]
    exact zHuM_cg (zSp_par hx hm hg) (fun i => h i) j
  · rw [if_neg (by omega), q.2 (by omega)]
    exact h j
/-- .. of a morning that was held, or not -/
def zSqL (lots held : Int) (L : Nat → Int32) (n : Int) (S V : Nat → Int32) (M : Nat → Int) (K P : Nat → Int) (ZL ZM F : Nat → Int32) : Prop := (0 < lots ∧ held < 9999 → zSpL L n S V M K P ZL ZM lots F) ∧ (¬ (0 < lots ∧ held < 9999) → F = ZL)
def zSqM (lots held : Int) (L : Nat → Int32) (n : Int) (S V : Nat → Int32) (M : Nat → Int) (K P : Nat → Int) (ZL ZM F : Nat → Int32) : Prop := (0 < lots ∧ held < 9999 → zSpM L n S V M K P ZL ZM lots F) ∧ (¬ (0 < lots ∧ held < 9999) → F = ZM)
theorem zSqL_no {lots held : Int} {L : Nat → Int32} {n : Int} {S V : Nat → Int32} {M : Nat → Int} {K P : Nat → Int} {ZL ZM : Nat → Int32} (c : ¬ (0 < lots ∧ held < 9999)) : zSqL lots held L n S V M K P ZL ZM ZL := ⟨fun d => absurd d c, fun _ => rfl⟩
theorem zSqM_no {lots held : Int} {L : Nat → Int32} {n : Int} {S V : Nat → Int32} {M : Nat → Int} {K P : Nat → Int} {ZL ZM : Nat → Int32} (c : ¬ (0 < lots ∧ held < 9999)) : zSqM lots held L n S V M K P ZL ZM ZM := ⟨fun d => absurd d c, fun _ => rfl⟩
theorem zSqL_so {lots held : Int} {L : Nat → Int32} {n : Int} {S V : Nat → Int32} {M : Nat → Int} {K P : Nat → Int} {ZL ZM F : Nat → Int32} {k : Int} (c : 0 < lots ∧ held < 9999) (q : zSpL L n S V M K P ZL ZM k F) (e : k = lots) : zSqL lots held L n S V M K P ZL ZM F := ⟨fun _ => e ▸ q, fun d => absurd c d⟩
theorem zSqM_so {lots held : Int} {L : Nat → Int32} {n : Int} {S V : Nat → Int32} {M : Nat → Int} {K P : Nat → Int} {ZL ZM F : Nat → Int32} {k : Int} (c : 0 < lots ∧ held < 9999) (q : zSpM L n S V M K P ZL ZM k F) (e : k = lots) : zSqM lots held L n S V M K P ZL ZM F := ⟨fun _ => e ▸ q, fun d => absurd c d⟩
/-! all spans as at first -/
def zWi (lo hi : Nat → Int) : Nat → Int
  | 0 => 0
  | k + 1 => zWi lo hi k + (if lo k = 0 ∧ hi k = 99 then 0 else 1)
theorem zWi_0 {lo hi : Nat → Int} {k : Nat} (h : lo k = 0 ∧ hi k = 99) : zWi lo hi (k + 1) = zWi lo hi k := by
  show zWi lo hi k + (if _ then _ else _) = _
  rw [if_pos h]
  omega
theorem zWi_1 {lo hi : Nat → Int} {k : Nat} (h : ¬ (lo k = 0 ∧ hi k = 99)) : zWi lo hi (k + 1) = zWi lo hi k + 1 := by
  show zWi lo hi k + (if _ then _ else _) = _
  rw [if_neg h]
def zFr (v : Int32) (k : Int) (Z F : Nat → Int32) : Prop := ∀ j : Nat, F j = if (j : Int) < k then v else Z j
theorem zFr_0 {v : Int32} {Z : Nat → Int32} : zFr v 0 Z Z := fun j => (if_neg (by omega)).symm
theorem zFr_eq {v : Int32} {a b : Int} {Z F : Nat → Int32} (h : zFr v a Z F) (e : a = b) : zFr v b Z F := e ▸ h
theorem zFr_put {v x : Int32} {a : Int} {Z F : Nat → Int32} {i : Int32} (h : zFr v a Z F) (hi : i.toInt = a) (h0 : 0 ≤ a) (e : x = v) : zFr v (a + 1) Z (upd F i.toNatClampNeg x) := by
  have k := z_tn' hi h0
  intro j
  by_cases c : j = i.toNatClampNeg
  · rw [upd_eq c, if_pos (by omega), e]
  · rw [upd_ne c, h j]
    by_cases d : (j : Int) < a
    · rw [if_pos d, if_pos (by omega)]
    · rw [if_neg d, if_neg (by omega)]
theorem zFr_at {v : Int32} {a : Int} {Z F : Nat → Int32} {j : Nat} (h : zFr v a Z F) (c : a ≤ (j : Int)) : F j = Z j := (h j).trans (if_neg (by omega))
/-- a span's answer -/
def zAspn (n : Int) (lo hi : Nat → Int32) (b kd w : Int) : Int := if b < 0 ∨ 5 ≤ b ∨ n ≤ b ∨ kd < 0 ∨ 3 < kd ∨ w < 0 ∨ 1 < w then -1 else if w = 0 then (lo (4 * b + kd).toNat).toInt else (hi (4 * b + kd).toNat).toInt
