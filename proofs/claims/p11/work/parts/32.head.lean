set_option maxHeartbeats 8000000 in
set_option maxRecDepth 100000 in
theorem lc_head {p : Program} {l : Launch} {e : Env} {s : State} {m : MethodId} {below : List Frame} {meth : Method} {c : Code} {b L : Nat} {xs : Nat → Int32} {g : zG} (C0 : lC g p s m meth c b L xs) (hL : L ≤ 3072) {x0 m0 : Nat} : ∀ (n : Nat) (v : Int32), 0 ≤ v.toInt → v.toInt ≤ 3077 → 3078 - v.toInt < n → lGo 18 p l e s m below meth c b g x0 m0 v := by
  intro n
  induction n with
  | zero =>
    intro v h0 h1 hm
    exfalso
    omega
  | succ n ih =>
    intro v h0 h1 hm xN0 xN1 xN2 xN3 xN4 xN5 xN6 xN7 xN8 xN9 xN10 xN11 xN12 xN13 xN14 xN15 xN16 xN17 xN18 xN19 xN20 xN21 xN22 xN23 xN24 xN25 xN26 xN27 xN28 xN29 xN30 xN31 xN32 xN33 xN34 xN35 xN36 xN37 xN38 xN39 mN0 mN1 mN2 mN3 mN4 mN5 mN6 mN7 mN8 mN9 mN10 mN11 mN12 mN13 mN14 mN15 mN16 mN17 mN18 mN19 mN20 mN21 xv0 xv1 xv2 xv3 xv4 xv13 xv14 xv15 xv24 xv25 xv36 mv0 mv1 mv2 mv3 mv4 xF5 xF6 xF7 xF8 xF9 xF10 xF11 xF12 xF16 xF17 xF18 xF19 xF20 xF21 xF22 xF23 xF26 xF27 xF28 xF29 xF30 xF31 xF32 xF33 xF34 xF35 xF37 xF38 xF39 xF41 xF42 xF43 xF44 xF45 mF5 mF6 mF7 mF8 mF9 mF10 mF11 mF12 mF13 mF14 mF15 mF16 mF17 mF18 mF19 mF20 mF21 mF22 mF23 mF24 xF40 mF25 mF26 H locs ls hP hD hS hq0 hq1 hq2 hq3 hq4 hq5 hq6 hq7 hq8 hq9 hq10 hq11 hq12 hq13 hq14 hq15 hq16 hq17 hq18 hq19 hq20 hq21 hq22 hq23 hq24 hq25 hq26 hq27 hq28 hq29 hq30 hq31 hq32 hq33 hq34 hq35 hq36 hq37 hq38 hq39 hq40 hq41 hr0 hr1 hr2 hr3 hr4 hl
    obtain ⟨hx, hb, hml, hr, hlocks, hown, hts, hK, hN, hZ, hX, hbl⟩ := id C0
    have hA : ∀ q : Nat, s.heap.size ≤ q → (fun q : Nat => s.heap.size ≤ q) q := fun _ h => h
    have hbA : ¬ (fun q : Nat => s.heap.size ≤ q) b := Nat.not_le.mpr hbl
    refine lv_iload_n hx hb dL_law_18 rfl (lv_at hl 3 rfl) ?_
    refine lv_aload_n hx hb dL_law_19 rfl (lv_at hl 0 rfl) ?_
    refine va_slen hx hb hX hbl hbA hS dL_law_20 ?_
    refine lv_topi (fun y0 ey0 => ?_)
    have qy0 : y0.toInt = (L : Int) := z_ofNat ey0 hL
    refine lv_bipush (v := 6) hx hb dL_law_21 (by decide) ?_
    refine lv_isub hx hb dL_law_23 ?_
    refine lv_topi (fun y10 ey10 => ?_)
    have qy10_0 : y10.toInt = y0.toInt - 6 := zi_sub ey10 (rfl) (rfl) (by omega) (by omega)
    refine lv_icmp_gt (tgt := 1060) hx hb dL_law_24 (by decide) (fun c_0 => ?_) (fun c_0 => ?_)
    · have i_0 : y10.toInt < v.toInt := z_lt (rfl) (rfl) c_0
      refine lv_iconst (v := 1) hx hb dL_law_1060 (by decide) ?_
      refine va_forget (fun q hq => hS.2.2 q hq) ?_
      exact lw_ret hx hb hr hlocks dL_law_1061
    · have i_0 : v.toInt ≤ y10.toInt := z_nlt (rfl) (rfl) c_0
      have tail : lGo 1054 p l e s m below meth c b g x0 m0 v := by
        intro xN0 xN1 xN2 xN3 xN4 xN5 xN6 xN7 xN8 xN9 xN10 xN11 xN12 xN13 xN14 xN15 xN16 xN17 xN18 xN19 xN20 xN21 xN22 xN23 xN24 xN25 xN26 xN27 xN28 xN29 xN30 xN31 xN32 xN33 xN34 xN35 xN36 xN37 xN38 xN39 mN0 mN1 mN2 mN3 mN4 mN5 mN6 mN7 mN8 mN9 mN10 mN11 mN12 mN13 mN14 mN15 mN16 mN17 mN18 mN19 mN20 mN21 xv0 xv1 xv2 xv3 xv4 xv13 xv14 xv15 xv24 xv25 xv36 mv0 mv1 mv2 mv3 mv4 xF5 xF6 xF7 xF8 xF9 xF10 xF11 xF12 xF16 xF17 xF18 xF19 xF20 xF21 xF22 xF23 xF26 xF27 xF28 xF29 xF30 xF31 xF32 xF33 xF34 xF35 xF37 xF38 xF39 xF41 xF42 xF43 xF44 xF45 mF5 mF6 mF7 mF8 mF9 mF10 mF11 mF12 mF13 mF14 mF15 mF16 mF17 mF18 mF19 mF20 mF21 mF22 mF23 mF24 xF40 mF25 mF26 H locs ls hP hD hS hq0 hq1 hq2 hq3 hq4 hq5 hq6 hq7 hq8 hq9 hq10 hq11 hq12 hq13 hq14 hq15 hq16 hq17 hq18 hq19 hq20 hq21 hq22 hq23 hq24 hq25 hq26 hq27 hq28 hq29 hq30 hq31 hq32 hq33 hq34 hq35 hq36 hq37 hq38 hq39 hq40 hq41 hr0 hr1 hr2 hr3 hr4 hl
        obtain ⟨y9, ey9⟩ : ∃ z : Int32, z = v + 6 := ⟨_, rfl⟩
        have qy9 : y9.toInt = v.toInt + 6 := zi_add ey9 rfl rfl (by omega) (by omega)
        refine lv_iinc (v := y9) (lv' := [(3, .int y9), (0, .ref b), (1, .ref x0), (2, .ref m0)]) hx hb dL_law_1054 hl (k := 3) rfl ey9.symm (by decide) rfl (fun ls hl => ?_)
        refine lv_goto (tgt := 18) hx hb dL_law_1057 (by decide) ?_
        exact ih y9 (by omega) (by omega) (by omega) xN0 xN1 xN2 xN3 xN4 xN5 xN6 xN7 xN8 xN9 xN10 xN11 xN12 xN13 xN14 xN15 xN16 xN17 xN18 xN19 xN20 xN21 xN22 xN23 xN24 xN25 xN26 xN27 xN28 xN29 xN30 xN31 xN32 xN33 xN34 xN35 xN36 xN37 xN38 xN39 mN0 mN1 mN2 mN3 mN4 mN5 mN6 mN7 mN8 mN9 mN10 mN11 mN12 mN13 mN14 mN15 mN16 mN17 mN18 mN19 mN20 mN21 xv0 xv1 xv2 xv3 xv4 xv13 xv14 xv15 xv24 xv25 xv36 mv0 mv1 mv2 mv3 mv4 xF5 xF6 xF7 xF8 xF9 xF10 xF11 xF12 xF16 xF17 xF18 xF19 xF20 xF21 xF22 xF23 xF26 xF27 xF28 xF29 xF30 xF31 xF32 xF33 xF34 xF35 xF37 xF38 xF39 xF41 xF42 xF43 xF44 xF45 mF5 mF6 mF7 mF8 mF9 mF10 mF11 mF12 mF13 mF14 mF15 mF16 mF17 mF18 mF19 mF20 mF21 mF22 mF23 mF24 xF40 mF25 mF26 _ _ _ hP hD hS hq0 hq1 hq2 hq3 hq4 hq5 hq6 hq7 hq8 hq9 hq10 hq11 hq12 hq13 hq14 hq15 hq16 hq17 hq18 hq19 hq20 hq21 hq22 hq23 hq24 hq25 hq26 hq27 hq28 hq29 hq30 hq31 hq32 hq33 hq34 hq35 hq36 hq37 hq38 hq39 hq40 hq41 hr0 hr1 hr2 hr3 hr4 (lv_sub hl [1, 2, 3, 0] rfl)
      obtain ⟨a0, ea0⟩ : ∃ z : Int32, z = xs v.toNatClampNeg := ⟨_, rfl⟩
      refine lv_aload_n hx hb dL_law_27 rfl (lv_at hl 0 rfl) ?_
      refine lv_iload_n hx hb dL_law_28 rfl (lv_at hl 3 rfl) ?_
      refine va_sld hx hb hX hbl hbA hS (vp_in_iff.mpr ⟨by omega, by omega⟩) dL_law_29 ?_
      refine lv_topi (nm_r (e' := a0) ea0.symm ?_)
      refine lv_bipush (v := 31) hx hb dL_law_30 (by decide) ?_
      refine lv_iand hx hb dL_law_32 ?_
      refine lv_topi (fun y11 ey11 => ?_)
      by_cases j_1 : y11 = 0
      · have i_1 : y11.toInt = 0 := by rw [j_1]; rfl
        subst j_1
        refine lv_tableIn (x := 0) (off := 127) (tgt := 160) hx hb dL_law_33 (by decide) (by decide) rfl (by decide) ?_
        exact lc_rule C0 hL (by omega) (by omega) tail xN0 xN1 xN2 xN3 xN4 xN5 xN6 xN7 xN8 xN9 xN10 xN11 xN12 xN13 xN14 xN15 xN16 xN17 xN18 xN19 xN20 xN21 xN22 xN23 xN24 xN25 xN26 xN27 xN28 xN29 xN30 xN31 xN32 xN33 xN34 xN35 xN36 xN37 xN38 xN39 mN0 mN1 mN2 mN3 mN4 mN5 mN6 mN7 mN8 mN9 mN10 mN11 mN12 mN13 mN14 mN15 mN16 mN17 mN18 mN19 mN20 mN21 xv0 xv1 xv2 xv3 xv4 xv13 xv14 xv15 xv24 xv25 xv36 mv0 mv1 mv2 mv3 mv4 xF5 xF6 xF7 xF8 xF9 xF10 xF11 xF12 xF16 xF17 xF18 xF19 xF20 xF21 xF22 xF23 xF26 xF27 xF28 xF29 xF30 xF31 xF32 xF33 xF34 xF35 xF37 xF38 xF39 xF41 xF42 xF43 xF44 xF45 mF5 mF6 mF7 mF8 mF9 mF10 mF11 mF12 mF13 mF14 mF15 mF16 mF17 mF18 mF19 mF20 mF21 mF22 mF23 mF24 xF40 mF25 mF26 _ _ _ hP hD hS hq0 hq1 hq2 hq3 hq4 hq5 hq6 hq7 hq8 hq9 hq10 hq11 hq12 hq13 hq14 hq15 hq16 hq17 hq18 hq19 hq20 hq21 hq22 hq23 hq24 hq25 hq26 hq27 hq28 hq29 hq30 hq31 hq32 hq33 hq34 hq35 hq36 hq37 hq38 hq39 hq40 hq41 hr0 hr1 hr2 hr3 hr4 (lv_sub hl [0, 1, 2, 3] rfl)
      have i_1 : y11.toInt ≠ 0 := fun h => j_1 (Int32.toInt_inj.mp (h.trans rfl))
      by_cases j_2 : y11 = 1
      · have i_2 : y11.toInt = 1 := by rw [j_2]; rfl
        subst j_2
        refine lv_tableIn (x := 1) (off := 160) (tgt := 193) hx hb dL_law_33 (by decide) (by decide) rfl (by decide) ?_
        exact lc_buyer C0 hL (by omega) (by omega) tail xN0 xN1 xN2 xN3 xN4 xN5 xN6 xN7 xN8 xN9 xN10 xN11 xN12 xN13 xN14 xN15 xN16 xN17 xN18 xN19 xN20 xN21 xN22 xN23 xN24 xN25 xN26 xN27 xN28 xN29 xN30 xN31 xN32 xN33 xN34 xN35 xN36 xN37 xN38 xN39 mN0 mN1 mN2 mN3 mN4 mN5 mN6 mN7 mN8 mN9 mN10 mN11 mN12 mN13 mN14 mN15 mN16 mN17 mN18 mN19 mN20 mN21 xv0 xv1 xv2 xv3 xv4 xv13 xv14 xv15 xv24 xv25 xv36 mv0 mv1 mv2 mv3 mv4 xF5 xF6 xF7 xF8 xF9 xF10 xF11 xF12 xF16 xF17 xF18 xF19 xF20 xF21 xF22 xF23 xF26 xF27 xF28 xF29 xF30 xF31 xF32 xF33 xF34 xF35 xF37 xF38 xF39 xF41 xF42 xF43 xF44 xF45 mF5 mF6 mF7 mF8 mF9 mF10 mF11 mF12 mF13 mF14 mF15 mF16 mF17 mF18 mF19 mF20 mF21 mF22 mF23 mF24 xF40 mF25 mF26 _ _ _ hP hD hS hq0 hq1 hq2 hq3 hq4 hq5 hq6 hq7 hq8 hq9 hq10 hq11 hq12 hq13 hq14 hq15 hq16 hq17 hq18 hq19 hq20 hq21 hq22 hq23 hq24 hq25 hq26 hq27 hq28 hq29 hq30 hq31 hq32 hq33 hq34 hq35 hq36 hq37 hq38 hq39 hq40 hq41 hr0 hr1 hr2 hr3 hr4 (lv_sub hl [0, 1, 2, 3] rfl)
      have i_2 : y11.toInt ≠ 1 := fun h => j_2 (Int32.toInt_inj.mp (h.trans rfl))
      by_cases j_3 : y11 = 2
      · have i_3 : y11.toInt = 2 := by rw [j_3]; rfl
        subst j_3
        refine lv_tableIn (x := 2) (off := 193) (tgt := 226) hx hb dL_law_33 (by decide) (by decide) rfl (by decide) ?_
        exact lc_worth C0 hL (by omega) (by omega) tail xN0 xN1 xN2 xN3 xN4 xN5 xN6 xN7 xN8 xN9 xN10 xN11 xN12 xN13 xN14 xN15 xN16 xN17 xN18 xN19 xN20 xN21 xN22 xN23 xN24 xN25 xN26 xN27 xN28 xN29 xN30 xN31 xN32 xN33 xN34 xN35 xN36 xN37 xN38 xN39 mN0 mN1 mN2 mN3 mN4 mN5 mN6 mN7 mN8 mN9 mN10 mN11 mN12 mN13 mN14 mN15 mN16 mN17 mN18 mN19 mN20 mN21 xv0 xv1 xv2 xv3 xv4 xv13 xv14 xv15 xv24 xv25 xv36 mv0 mv1 mv2 mv3 mv4 xF5 xF6 xF7 xF8 xF9 xF10 xF11 xF12 xF16 xF17 xF18 xF19 xF20 xF21 xF22 xF23 xF26 xF27 xF28 xF29 xF30 xF31 xF32 xF33 xF34 xF35 xF37 xF38 xF39 xF41 xF42 xF43 xF44 xF45 mF5 mF6 mF7 mF8 mF9 mF10 mF11 mF12 mF13 mF14 mF15 mF16 mF17 mF18 mF19 mF20 mF21 mF22 mF23 mF24 xF40 mF25 mF26 _ _ _ hP hD hS hq0 hq1 hq2 hq3 hq4 hq5 hq6 hq7 hq8 hq9 hq10 hq11 hq12 hq13 hq14 hq15 hq16 hq17 hq18 hq19 hq20 hq21 hq22 hq23 hq24 hq25 hq26 hq27 hq28 hq29 hq30 hq31 hq32 hq33 hq34 hq35 hq36 hq37 hq38 hq39 hq40 hq41 hr0 hr1 hr2 hr3 hr4 (lv_sub hl [0, 1, 2, 3] rfl)
      have i_3 : y11.toInt ≠ 2 := fun h => j_3 (Int32.toInt_inj.mp (h.trans rfl))
      by_cases j_4 : y11 = 3
      · have i_4 : y11.toInt = 3 := by rw [j_4]; rfl
        subst j_4
        refine lv_tableIn (x := 3) (off := 236) (tgt := 269) hx hb dL_law_33 (by decide) (by decide) rfl (by decide) ?_
        exact lc_margin C0 hL (by omega) (by omega) tail xN0 xN1 xN2 xN3 xN4 xN5 xN6 xN7 xN8 xN9 xN10 xN11 xN12 xN13 xN14 xN15 xN16 xN17 xN18 xN19 xN20 xN21 xN22 xN23 xN24 xN25 xN26 xN27 xN28 xN29 xN30 xN31 xN32 xN33 xN34 xN35 xN36 xN37 xN38 xN39 mN0 mN1 mN2 mN3 mN4 mN5 mN6 mN7 mN8 mN9 mN10 mN11 mN12 mN13 mN14 mN15 mN16 mN17 mN18 mN19 mN20 mN21 xv0 xv1 xv2 xv3 xv4 xv13 xv14 xv15 xv24 xv25 xv36 mv0 mv1 mv2 mv3 mv4 xF5 xF6 xF7 xF8 xF9 xF10 xF11 xF12 xF16 xF17 xF18 xF19 xF20 xF21 xF22 xF23 xF26 xF27 xF28 xF29 xF30 xF31 xF32 xF33 xF34 xF35 xF37 xF38 xF39 xF41 xF42 xF43 xF44 xF45 mF5 mF6 mF7 mF8 mF9 mF10 mF11 mF12 mF13 mF14 mF15 mF16 mF17 mF18 mF19 mF20 mF21 mF22 mF23 mF24 xF40 mF25 mF26 _ _ _ hP hD hS hq0 hq1 hq2 hq3 hq4 hq5 hq6 hq7 hq8 hq9 hq10 hq11 hq12 hq13 hq14 hq15 hq16 hq17 hq18 hq19 hq20 hq21 hq22 hq23 hq24 hq25 hq26 hq27 hq28 hq29 hq30 hq31 hq32 hq33 hq34 hq35 hq36 hq37 hq38 hq39 hq40 hq41 hr0 hr1 hr2 hr3 hr4 (lv_sub hl [0, 1, 2, 3] rfl)
      have i_4 : y11.toInt ≠ 3 := fun h => j_4 (Int32.toInt_inj.mp (h.trans rfl))
      by_cases j_5 : y11 = 4
      · have i_5 : y11.toInt = 4 := by rw [j_5]; rfl
        subst j_5
        refine lv_tableIn (x := 4) (off := 269) (tgt := 302) hx hb dL_law_33 (by decide) (by decide) rfl (by decide) ?_
        exact lc_told C0 hL (by omega) (by omega) tail xN0 xN1 xN2 xN3 xN4 xN5 xN6 xN7 xN8 xN9 xN10 xN11 xN12 xN13 xN14 xN15 xN16 xN17 xN18 xN19 xN20 xN21 xN22 xN23 xN24 xN25 xN26 xN27 xN28 xN29 xN30 xN31 xN32 xN33 xN34 xN35 xN36 xN37 xN38 xN39 mN0 mN1 mN2 mN3 mN4 mN5 mN6 mN7 mN8 mN9 mN10 mN11 mN12 mN13 mN14 mN15 mN16 mN17 mN18 mN19 mN20 mN21 xv0 xv1 xv2 xv3 xv4 xv13 xv14 xv15 xv24 xv25 xv36 mv0 mv1 mv2 mv3 mv4 xF5 xF6 xF7 xF8 xF9 xF10 xF11 xF12 xF16 xF17 xF18 xF19 xF20 xF21 xF22 xF23 xF26 xF27 xF28 xF29 xF30 xF31 xF32 xF33 xF34 xF35 xF37 xF38 xF39 xF41 xF42 xF43 xF44 xF45 mF5 mF6 mF7 mF8 mF9 mF10 mF11 mF12 mF13 mF14 mF15 mF16 mF17 mF18 mF19 mF20 mF21 mF22 mF23 mF24 xF40 mF25 mF26 _ _ _ hP hD hS hq0 hq1 hq2 hq3 hq4 hq5 hq6 hq7 hq8 hq9 hq10 hq11 hq12 hq13 hq14 hq15 hq16 hq17 hq18 hq19 hq20 hq21 hq22 hq23 hq24 hq25 hq26 hq27 hq28 hq29 hq30 hq31 hq32 hq33 hq34 hq35 hq36 hq37 hq38 hq39 hq40 hq41 hr0 hr1 hr2 hr3 hr4 (lv_sub hl [0, 1, 2, 3] rfl)
      have i_5 : y11.toInt ≠ 4 := fun h => j_5 (Int32.toInt_inj.mp (h.trans rfl))
      by_cases j_6 : y11 = 5
      · have i_6 : y11.toInt = 5 := by rw [j_6]; rfl
        subst j_6
        refine lv_tableIn (x := 5) (off := 302) (tgt := 335) hx hb dL_law_33 (by decide) (by decide) rfl (by decide) ?_
        exact lc_earn C0 hL (by omega) (by omega) tail xN0 xN1 xN2 xN3 xN4 xN5 xN6 xN7 xN8 xN9 xN10 xN11 xN12 xN13 xN14 xN15 xN16 xN17 xN18 xN19 xN20 xN21 xN22 xN23 xN24 xN25 xN26 xN27 xN28 xN29 xN30 xN31 xN32 xN33 xN34 xN35 xN36 xN37 xN38 xN39 mN0 mN1 mN2 mN3 mN4 mN5 mN6 mN7 mN8 mN9 mN10 mN11 mN12 mN13 mN14 mN15 mN16 mN17 mN18 mN19 mN20 mN21 xv0 xv1 xv2 xv3 xv4 xv13 xv14 xv15 xv24 xv25 xv36 mv0 mv1 mv2 mv3 mv4 xF5 xF6 xF7 xF8 xF9 xF10 xF11 xF12 xF16 xF17 xF18 xF19 xF20 xF21 xF22 xF23 xF26 xF27 xF28 xF29 xF30 xF31 xF32 xF33 xF34 xF35 xF37 xF38 xF39 xF41 xF42 xF43 xF44 xF45 mF5 mF6 mF7 mF8 mF9 mF10 mF11 mF12 mF13 mF14 mF15 mF16 mF17 mF18 mF19 mF20 mF21 mF22 mF23 mF24 xF40 mF25 mF26 _ _ _ hP hD hS hq0 hq1 hq2 hq3 hq4 hq5 hq6 hq7 hq8 hq9 hq10 hq11 hq12 hq13 hq14 hq15 hq16 hq17 hq18 hq19 hq20 hq21 hq22 hq23 hq24 hq25 hq26 hq27 hq28 hq29 hq30 hq31 hq32 hq33 hq34 hq35 hq36 hq37 hq38 hq39 hq40 hq41 hr0 hr1 hr2 hr3 hr4 (lv_sub hl [0, 1, 2, 3] rfl)
      have i_6 : y11.toInt ≠ 5 := fun h => j_6 (Int32.toInt_inj.mp (h.trans rfl))
      by_cases j_7 : y11 = 6
      · have i_7 : y11.toInt = 6 := by rw [j_7]; rfl
        subst j_7
        refine lv_tableIn (x := 6) (off := 335) (tgt := 368) hx hb dL_law_33 (by decide) (by decide) rfl (by decide) ?_
        exact lc_type C0 hL (by omega) (by omega) tail xN0 xN1 xN2 xN3 xN4 xN5 xN6 xN7 xN8 xN9 xN10 xN11 xN12 xN13 xN14 xN15 xN16 xN17 xN18 xN19 xN20 xN21 xN22 xN23 xN24 xN25 xN26 xN27 xN28 xN29 xN30 xN31 xN32 xN33 xN34 xN35 xN36 xN37 xN38 xN39 mN0 mN1 mN2 mN3 mN4 mN5 mN6 mN7 mN8 mN9 mN10 mN11 mN12 mN13 mN14 mN15 mN16 mN17 mN18 mN19 mN20 mN21 xv0 xv1 xv2 xv3 xv4 xv13 xv14 xv15 xv24 xv25 xv36 mv0 mv1 mv2 mv3 mv4 xF5 xF6 xF7 xF8 xF9 xF10 xF11 xF12 xF16 xF17 xF18 xF19 xF20 xF21 xF22 xF23 xF26 xF27 xF28 xF29 xF30 xF31 xF32 xF33 xF34 xF35 xF37 xF38 xF39 xF41 xF42 xF43 xF44 xF45 mF5 mF6 mF7 mF8 mF9 mF10 mF11 mF12 mF13 mF14 mF15 mF16 mF17 mF18 mF19 mF20 mF21 mF22 mF23 mF24 xF40 mF25 mF26 _ _ _ hP hD hS hq0 hq1 hq2 hq3 hq4 hq5 hq6 hq7 hq8 hq9 hq10 hq11 hq12 hq13 hq14 hq15 hq16 hq17 hq18 hq19 hq20 hq21 hq22 hq23 hq24 hq25 hq26 hq27 hq28 hq29 hq30 hq31 hq32 hq33 hq34 hq35 hq36 hq37 hq38 hq39 hq40 hq41 hr0 hr1 hr2 hr3 hr4 (lv_sub hl [0, 1, 2, 3] rfl)
      have i_7 : y11.toInt ≠ 6 := fun h => j_7 (Int32.toInt_inj.mp (h.trans rfl))
      by_cases j_8 : y11 = 7
      · have i_8 : y11.toInt = 7 := by rw [j_8]; rfl
        subst j_8
        refine lv_tableIn (x := 7) (off := 398) (tgt := 431) hx hb dL_law_33 (by decide) (by decide) rfl (by decide) ?_
        exact lc_rules C0 hL (by omega) (by omega) tail xN0 xN1 xN2 xN3 xN4 xN5 xN6 xN7 xN8 xN9 xN10 xN11 xN12 xN13 xN14 xN15 xN16 xN17 xN18 xN19 xN20 xN21 xN22 xN23 xN24 xN25 xN26 xN27 xN28 xN29 xN30 xN31 xN32 xN33 xN34 xN35 xN36 xN37 xN38 xN39 mN0 mN1 mN2 mN3 mN4 mN5 mN6 mN7 mN8 mN9 mN10 mN11 mN12 mN13 mN14 mN15 mN16 mN17 mN18 mN19 mN20 mN21 xv0 xv1 xv2 xv3 xv4 xv13 xv14 xv15 xv24 xv25 xv36 mv0 mv1 mv2 mv3 mv4 xF5 xF6 xF7 xF8 xF9 xF10 xF11 xF12 xF16 xF17 xF18 xF19 xF20 xF21 xF22 xF23 xF26 xF27 xF28 xF29 xF30 xF31 xF32 xF33 xF34 xF35 xF37 xF38 xF39 xF41 xF42 xF43 xF44 xF45 mF5 mF6 mF7 mF8 mF9 mF10 mF11 mF12 mF13 mF14 mF15 mF16 mF17 mF18 mF19 mF20 mF21 mF22 mF23 mF24 xF40 mF25 mF26 _ _ _ hP hD hS hq0 hq1 hq2 hq3 hq4 hq5 hq6 hq7 hq8 hq9 hq10 hq11 hq12 hq13 hq14 hq15 hq16 hq17 hq18 hq19 hq20 hq21 hq22 hq23 hq24 hq25 hq26 hq27 hq28 hq29 hq30 hq31 hq32 hq33 hq34 hq35 hq36 hq37 hq38 hq39 hq40 hq41 hr0 hr1 hr2 hr3 hr4 (lv_sub hl [0, 1, 2, 3] rfl)
      have i_8 : y11.toInt ≠ 7 := fun h => j_8 (Int32.toInt_inj.mp (h.trans rfl))
      by_cases j_9 : y11 = 8
      · have i_9 : y11.toInt = 8 := by rw [j_9]; rfl
        subst j_9
        refine lv_tableIn (x := 8) (off := 411) (tgt := 444) hx hb dL_law_33 (by decide) (by decide) rfl (by decide) ?_
        exact lc_lots C0 hL (by omega) (by omega) tail xN0 xN1 xN2 xN3 xN4 xN5 xN6 xN7 xN8 xN9 xN10 xN11 xN12 xN13 xN14 xN15 xN16 xN17 xN18 xN19 xN20 xN21 xN22 xN23 xN24 xN25 xN26 xN27 xN28 xN29 xN30 xN31 xN32 xN33 xN34 xN35 xN36 xN37 xN38 xN39 mN0 mN1 mN2 mN3 mN4 mN5 mN6 mN7 mN8 mN9 mN10 mN11 mN12 mN13 mN14 mN15 mN16 mN17 mN18 mN19 mN20 mN21 xv0 xv1 xv2 xv3 xv4 xv13 xv14 xv15 xv24 xv25 xv36 mv0 mv1 mv2 mv3 mv4 xF5 xF6 xF7 xF8 xF9 xF10 xF11 xF12 xF16 xF17 xF18 xF19 xF20 xF21 xF22 xF23 xF26 xF27 xF28 xF29 xF30 xF31 xF32 xF33 xF34 xF35 xF37 xF38 xF39 xF41 xF42 xF43 xF44 xF45 mF5 mF6 mF7 mF8 mF9 mF10 mF11 mF12 mF13 mF14 mF15 mF16 mF17 mF18 mF19 mF20 mF21 mF22 mF23 mF24 xF40 mF25 mF26 _ _ _ hP hD hS hq0 hq1 hq2 hq3 hq4 hq5 hq6 hq7 hq8 hq9 hq10 hq11 hq12 hq13 hq14 hq15 hq16 hq17 hq18 hq19 hq20 hq21 hq22 hq23 hq24 hq25 hq26 hq27 hq28 hq29 hq30 hq31 hq32 hq33 hq34 hq35 hq36 hq37 hq38 hq39 hq40 hq41 hr0 hr1 hr2 hr3 hr4 (lv_sub hl [0, 1, 2, 3] rfl)
      have i_9 : y11.toInt ≠ 8 := fun h => j_9 (Int32.toInt_inj.mp (h.trans rfl))
      by_cases j_10 : y11 = 9
      · have i_10 : y11.toInt = 9 := by rw [j_10]; rfl
        subst j_10
        refine lv_tableIn (x := 9) (off := 424) (tgt := 457) hx hb dL_law_33 (by decide) (by decide) rfl (by decide) ?_
        exact lc_count C0 hL (by omega) (by omega) tail xN0 xN1 xN2 xN3 xN4 xN5 xN6 xN7 xN8 xN9 xN10 xN11 xN12 xN13 xN14 xN15 xN16 xN17 xN18 xN19 xN20 xN21 xN22 xN23 xN24 xN25 xN26 xN27 xN28 xN29 xN30 xN31 xN32 xN33 xN34 xN35 xN36 xN37 xN38 xN39 mN0 mN1 mN2 mN3 mN4 mN5 mN6 mN7 mN8 mN9 mN10 mN11 mN12 mN13 mN14 mN15 mN16 mN17 mN18 mN19 mN20 mN21 xv0 xv1 xv2 xv3 xv4 xv13 xv14 xv15 xv24 xv25 xv36 mv0 mv1 mv2 mv3 mv4 xF5 xF6 xF7 xF8 xF9 xF10 xF11 xF12 xF16 xF17 xF18 xF19 xF20 xF21 xF22 xF23 xF26 xF27 xF28 xF29 xF30 xF31 xF32 xF33 xF34 xF35 xF37 xF38 xF39 xF41 xF42 xF43 xF44 xF45 mF5 mF6 mF7 mF8 mF9 mF10 mF11 mF12 mF13 mF14 mF15 mF16 mF17 mF18 mF19 mF20 mF21 mF22 mF23 mF24 xF40 mF25 mF26 _ _ _ hP hD hS hq0 hq1 hq2 hq3 hq4 hq5 hq6 hq7 hq8 hq9 hq10 hq11 hq12 hq13 hq14 hq15 hq16 hq17 hq18 hq19 hq20 hq21 hq22 hq23 hq24 hq25 hq26 hq27 hq28 hq29 hq30 hq31 hq32 hq33 hq34 hq35 hq36 hq37 hq38 hq39 hq40 hq41 hr0 hr1 hr2 hr3 hr4 (lv_sub hl [0, 1, 2, 3] rfl)
      have i_10 : y11.toInt ≠ 9 := fun h => j_10 (Int32.toInt_inj.mp (h.trans rfl))
      by_cases j_11 : y11 = 10
      · have i_11 : y11.toInt = 10 := by rw [j_11]; rfl
        subst j_11
        refine lv_tableIn (x := 10) (off := 447) (tgt := 480) hx hb dL_law_33 (by decide) (by decide) rfl (by decide) ?_
        exact lc_lot C0 hL (by omega) (by omega) tail xN0 xN1 xN2 xN3 xN4 xN5 xN6 xN7 xN8 xN9 xN10 xN11 xN12 xN13 xN14 xN15 xN16 xN17 xN18 xN19 xN20 xN21 xN22 xN23 xN24 xN25 xN26 xN27 xN28 xN29 xN30 xN31 xN32 xN33 xN34 xN35 xN36 xN37 xN38 xN39 mN0 mN1 mN2 mN3 mN4 mN5 mN6 mN7 mN8 mN9 mN10 mN11 mN12 mN13 mN14 mN15 mN16 mN17 mN18 mN19 mN20 mN21 xv0 xv1 xv2 xv3 xv4 xv13 xv14 xv15 xv24 xv25 xv36 mv0 mv1 mv2 mv3 mv4 xF5 xF6 xF7 xF8 xF9 xF10 xF11 xF12 xF16 xF17 xF18 xF19 xF20 xF21 xF22 xF23 xF26 xF27 xF28 xF29 xF30 xF31 xF32 xF33 xF34 xF35 xF37 xF38 xF39 xF41 xF42 xF43 xF44 xF45 mF5 mF6 mF7 mF8 mF9 mF10 mF11 mF12 mF13 mF14 mF15 mF16 mF17 mF18 mF19 mF20 mF21 mF22 mF23 mF24 xF40 mF25 mF26 _ _ _ hP hD hS hq0 hq1 hq2 hq3 hq4 hq5 hq6 hq7 hq8 hq9 hq10 hq11 hq12 hq13 hq14 hq15 hq16 hq17 hq18 hq19 hq20 hq21 hq22 hq23 hq24 hq25 hq26 hq27 hq28 hq29 hq30 hq31 hq32 hq33 hq34 hq35 hq36 hq37 hq38 hq39 hq40 hq41 hr0 hr1 hr2 hr3 hr4 (lv_sub hl [0, 1, 2, 3] rfl)
      have i_11 : y11.toInt ≠ 10 := fun h => j_11 (Int32.toInt_inj.mp (h.trans rfl))
      by_cases j_12 : y11 = 11
      · have i_12 : y11.toInt = 11 := by rw [j_12]; rfl
        subst j_12
        refine lv_tableIn (x := 11) (off := 480) (tgt := 513) hx hb dL_law_33 (by decide) (by decide) rfl (by decide) ?_
        exact lc_gain C0 hL (by omega) (by omega) tail xN0 xN1 xN2 xN3 xN4 xN5 xN6 xN7 xN8 xN9 xN10 xN11 xN12 xN13 xN14 xN15 xN16 xN17 xN18 xN19 xN20 xN21 xN22 xN23 xN24 xN25 xN26 xN27 xN28 xN29 xN30 xN31 xN32 xN33 xN34 xN35 xN36 xN37 xN38 xN39 mN0 mN1 mN2 mN3 mN4 mN5 mN6 mN7 mN8 mN9 mN10 mN11 mN12 mN13 mN14 mN15 mN16 mN17 mN18 mN19 mN20 mN21 xv0 xv1 xv2 xv3 xv4 xv13 xv14 xv15 xv24 xv25 xv36 mv0 mv1 mv2 mv3 mv4 xF5 xF6 xF7 xF8 xF9 xF10 xF11 xF12 xF16 xF17 xF18 xF19 xF20 xF21 xF22 xF23 xF26 xF27 xF28 xF29 xF30 xF31 xF32 xF33 xF34 xF35 xF37 xF38 xF39 xF41 xF42 xF43 xF44 xF45 mF5 mF6 mF7 mF8 mF9 mF10 mF11 mF12 mF13 mF14 mF15 mF16 mF17 mF18 mF19 mF20 mF21 mF22 mF23 mF24 xF40 mF25 mF26 _ _ _ hP hD hS hq0 hq1 hq2 hq3 hq4 hq5 hq6 hq7 hq8 hq9 hq10 hq11 hq12 hq13 hq14 hq15 hq16 hq17 hq18 hq19 hq20 hq21 hq22 hq23 hq24 hq25 hq26 hq27 hq28 hq29 hq30 hq31 hq32 hq33 hq34 hq35 hq36 hq37 hq38 hq39 hq40 hq41 hr0 hr1 hr2 hr3 hr4 (lv_sub hl [0, 1, 2, 3] rfl)
      have i_12 : y11.toInt ≠ 11 := fun h => j_12 (Int32.toInt_inj.mp (h.trans rfl))
      by_cases j_13 : y11 = 12
      · have i_13 : y11.toInt = 12 := by rw [j_13]; rfl
        subst j_13
        refine lv_tableIn (x := 12) (off := 503) (tgt := 536) hx hb dL_law_33 (by decide) (by decide) rfl (by decide) ?_
        exact lc_till C0 hL (by omega) (by omega) tail xN0 xN1 xN2 xN3 xN4 xN5 xN6 xN7 xN8 xN9 xN10 xN11 xN12 xN13 xN14 xN15 xN16 xN17 xN18 xN19 xN20 xN21 xN22 xN23 xN24 xN25 xN26 xN27 xN28 xN29 xN30 xN31 xN32 xN33 xN34 xN35 xN36 xN37 xN38 xN39 mN0 mN1 mN2 mN3 mN4 mN5 mN6 mN7 mN8 mN9 mN10 mN11 mN12 mN13 mN14 mN15 mN16 mN17 mN18 mN19 mN20 mN21 xv0 xv1 xv2 xv3 xv4 xv13 xv14 xv15 xv24 xv25 xv36 mv0 mv1 mv2 mv3 mv4 xF5 xF6 xF7 xF8 xF9 xF10 xF11 xF12 xF16 xF17 xF18 xF19 xF20 xF21 xF22 xF23 xF26 xF27 xF28 xF29 xF30 xF31 xF32 xF33 xF34 xF35 xF37 xF38 xF39 xF41 xF42 xF43 xF44 xF45 mF5 mF6 mF7 mF8 mF9 mF10 mF11 mF12 mF13 mF14 mF15 mF16 mF17 mF18 mF19 mF20 mF21 mF22 mF23 mF24 xF40 mF25 mF26 _ _ _ hP hD hS hq0 hq1 hq2 hq3 hq4 hq5 hq6 hq7 hq8 hq9 hq10 hq11 hq12 hq13 hq14 hq15 hq16 hq17 hq18 hq19 hq20 hq21 hq22 hq23 hq24 hq25 hq26 hq27 hq28 hq29 hq30 hq31 hq32 hq33 hq34 hq35 hq36 hq37 hq38 hq39 hq40 hq41 hr0 hr1 hr2 hr3 hr4 (lv_sub hl [0, 1, 2, 3] rfl)
      have i_13 : y11.toInt ≠ 12 := fun h => j_13 (Int32.toInt_inj.mp (h.trans rfl))
      by_cases j_14 : y11 = 13
      · have i_14 : y11.toInt = 13 := by rw [j_14]; rfl
        subst j_14
        refine lv_tableIn (x := 13) (off := 526) (tgt := 559) hx hb dL_law_33 (by decide) (by decide) rfl (by decide) ?_
        exact lc_morning C0 hL (by omega) (by omega) tail xN0 xN1 xN2 xN3 xN4 xN5 xN6 xN7 xN8 xN9 xN10 xN11 xN12 xN13 xN14 xN15 xN16 xN17 xN18 xN19 xN20 xN21 xN22 xN23 xN24 xN25 xN26 xN27 xN28 xN29 xN30 xN31 xN32 xN33 xN34 xN35 xN36 xN37 xN38 xN39 mN0 mN1 mN2 mN3 mN4 mN5 mN6 mN7 mN8 mN9 mN10 mN11 mN12 mN13 mN14 mN15 mN16 mN17 mN18 mN19 mN20 mN21 xv0 xv1 xv2 xv3 xv4 xv13 xv14 xv15 xv24 xv25 xv36 mv0 mv1 mv2 mv3 mv4 xF5 xF6 xF7 xF8 xF9 xF10 xF11 xF12 xF16 xF17 xF18 xF19 xF20 xF21 xF22 xF23 xF26 xF27 xF28 xF29 xF30 xF31 xF32 xF33 xF34 xF35 xF37 xF38 xF39 xF41 xF42 xF43 xF44 xF45 mF5 mF6 mF7 mF8 mF9 mF10 mF11 mF12 mF13 mF14 mF15 mF16 mF17 mF18 mF19 mF20 mF21 mF22 mF23 mF24 xF40 mF25 mF26 _ _ _ hP hD hS hq0 hq1 hq2 hq3 hq4 hq5 hq6 hq7 hq8 hq9 hq10 hq11 hq12 hq13 hq14 hq15 hq16 hq17 hq18 hq19 hq20 hq21 hq22 hq23 hq24 hq25 hq26 hq27 hq28 hq29 hq30 hq31 hq32 hq33 hq34 hq35 hq36 hq37 hq38 hq39 hq40 hq41 hr0 hr1 hr2 hr3 hr4 (lv_sub hl [0, 1, 2, 3] rfl)
      have i_14 : y11.toInt ≠ 13 := fun h => j_14 (Int32.toInt_inj.mp (h.trans rfl))
      by_cases j_15 : y11 = 14
      · have i_15 : y11.toInt = 14 := by rw [j_15]; rfl
        subst j_15
        refine lv_tableIn (x := 14) (off := 539) (tgt := 572) hx hb dL_law_33 (by decide) (by decide) rfl (by decide) ?_
        exact lc_span C0 hL (by omega) (by omega) tail xN0 xN1 xN2 xN3 xN4 xN5 xN6 xN7 xN8 xN9 xN10 xN11 xN12 xN13 xN14 xN15 xN16 xN17 xN18 xN19 xN20 xN21 xN22 xN23 xN24 xN25 xN26 xN27 xN28 xN29 xN30 xN31 xN32 xN33 xN34 xN35 xN36 xN37 xN38 xN39 mN0 mN1 mN2 mN3 mN4 mN5 mN6 mN7 mN8 mN9 mN10 mN11 mN12 mN13 mN14 mN15 mN16 mN17 mN18 mN19 mN20 mN21 xv0 xv1 xv2 xv3 xv4 xv13 xv14 xv15 xv24 xv25 xv36 mv0 mv1 mv2 mv3 mv4 xF5 xF6 xF7 xF8 xF9 xF10 xF11 xF12 xF16 xF17 xF18 xF19 xF20 xF21 xF22 xF23 xF26 xF27 xF28 xF29 xF30 xF31 xF32 xF33 xF34 xF35 xF37 xF38 xF39 xF41 xF42 xF43 xF44 xF45 mF5 mF6 mF7 mF8 mF9 mF10 mF11 mF12 mF13 mF14 mF15 mF16 mF17 mF18 mF19 mF20 mF21 mF22 mF23 mF24 xF40 mF25 mF26 _ _ _ hP hD hS hq0 hq1 hq2 hq3 hq4 hq5 hq6 hq7 hq8 hq9 hq10 hq11 hq12 hq13 hq14 hq15 hq16 hq17 hq18 hq19 hq20 hq21 hq22 hq23 hq24 hq25 hq26 hq27 hq28 hq29 hq30 hq31 hq32 hq33 hq34 hq35 hq36 hq37 hq38 hq39 hq40 hq41 hr0 hr1 hr2 hr3 hr4 (lv_sub hl [0, 1, 2, 3] rfl)
      have i_15 : y11.toInt ≠ 14 := fun h => j_15 (Int32.toInt_inj.mp (h.trans rfl))
      by_cases j_16 : y11 = 15
      · have i_16 : y11.toInt = 15 := by rw [j_16]; rfl
        subst j_16
        refine lv_tableIn (x := 15) (off := 582) (tgt := 615) hx hb dL_law_33 (by decide) (by decide) rfl (by decide) ?_
        exact lc_hush C0 hL (by omega) (by omega) tail xN0 xN1 xN2 xN3 xN4 xN5 xN6 xN7 xN8 xN9 xN10 xN11 xN12 xN13 xN14 xN15 xN16 xN17 xN18 xN19 xN20 xN21 xN22 xN23 xN24 xN25 xN26 xN27 xN28 xN29 xN30 xN31 xN32 xN33 xN34 xN35 xN36 xN37 xN38 xN39 mN0 mN1 mN2 mN3 mN4 mN5 mN6 mN7 mN8 mN9 mN10 mN11 mN12 mN13 mN14 mN15 mN16 mN17 mN18 mN19 mN20 mN21 xv0 xv1 xv2 xv3 xv4 xv13 xv14 xv15 xv24 xv25 xv36 mv0 mv1 mv2 mv3 mv4 xF5 xF6 xF7 xF8 xF9 xF10 xF11 xF12 xF16 xF17 xF18 xF19 xF20 xF21 xF22 xF23 xF26 xF27 xF28 xF29 xF30 xF31 xF32 xF33 xF34 xF35 xF37 xF38 xF39 xF41 xF42 xF43 xF44 xF45 mF5 mF6 mF7 mF8 mF9 mF10 mF11 mF12 mF13 mF14 mF15 mF16 mF17 mF18 mF19 mF20 mF21 mF22 mF23 mF24 xF40 mF25 mF26 _ _ _ hP hD hS hq0 hq1 hq2 hq3 hq4 hq5 hq6 hq7 hq8 hq9 hq10 hq11 hq12 hq13 hq14 hq15 hq16 hq17 hq18 hq19 hq20 hq21 hq22 hq23 hq24 hq25 hq26 hq27 hq28 hq29 hq30 hq31 hq32 hq33 hq34 hq35 hq36 hq37 hq38 hq39 hq40 hq41 hr0 hr1 hr2 hr3 hr4 (lv_sub hl [0, 1, 2, 3] rfl)
      have i_16 : y11.toInt ≠ 15 := fun h => j_16 (Int32.toInt_inj.mp (h.trans rfl))
      by_cases j_17 : y11 = 16
      · have i_17 : y11.toInt = 16 := by rw [j_17]; rfl
        subst j_17
        refine lv_tableIn (x := 16) (off := 595) (tgt := 628) hx hb dL_law_33 (by decide) (by decide) rfl (by decide) ?_
        exact lc_best C0 hL (by omega) (by omega) tail xN0 xN1 xN2 xN3 xN4 xN5 xN6 xN7 xN8 xN9 xN10 xN11 xN12 xN13 xN14 xN15 xN16 xN17 xN18 xN19 xN20 xN21 xN22 xN23 xN24 xN25 xN26 xN27 xN28 xN29 xN30 xN31 xN32 xN33 xN34 xN35 xN36 xN37 xN38 xN39 mN0 mN1 mN2 mN3 mN4 mN5 mN6 mN7 mN8 mN9 mN10 mN11 mN12 mN13 mN14 mN15 mN16 mN17 mN18 mN19 mN20 mN21 xv0 xv1 xv2 xv3 xv4 xv13 xv14 xv15 xv24 xv25 xv36 mv0 mv1 mv2 mv3 mv4 xF5 xF6 xF7 xF8 xF9 xF10 xF11 xF12 xF16 xF17 xF18 xF19 xF20 xF21 xF22 xF23 xF26 xF27 xF28 xF29 xF30 xF31 xF32 xF33 xF34 xF35 xF37 xF38 xF39 xF41 xF42 xF43 xF44 xF45 mF5 mF6 mF7 mF8 mF9 mF10 mF11 mF12 mF13 mF14 mF15 mF16 mF17 mF18 mF19 mF20 mF21 mF22 mF23 mF24 xF40 mF25 mF26 _ _ _ hP hD hS hq0 hq1 hq2 hq3 hq4 hq5 hq6 hq7 hq8 hq9 hq10 hq11 hq12 hq13 hq14 hq15 hq16 hq17 hq18 hq19 hq20 hq21 hq22 hq23 hq24 hq25 hq26 hq27 hq28 hq29 hq30 hq31 hq32 hq33 hq34 hq35 hq36 hq37 hq38 hq39 hq40 hq41 hr0 hr1 hr2 hr3 hr4 (lv_sub hl [0, 1, 2, 3] rfl)
      have i_17 : y11.toInt ≠ 16 := fun h => j_17 (Int32.toInt_inj.mp (h.trans rfl))
      by_cases j_18 : y11 = 17
      · have i_18 : y11.toInt = 17 := by rw [j_18]; rfl
        subst j_18
        refine lv_tableIn (x := 17) (off := 618) (tgt := 651) hx hb dL_law_33 (by decide) (by decide) rfl (by decide) ?_
        exact lc_rests C0 hL (by omega) (by omega) tail xN0 xN1 xN2 xN3 xN4 xN5 xN6 xN7 xN8 xN9 xN10 xN11 xN12 xN13 xN14 xN15 xN16 xN17 xN18 xN19 xN20 xN21 xN22 xN23 xN24 xN25 xN26 xN27 xN28 xN29 xN30 xN31 xN32 xN33 xN34 xN35 xN36 xN37 xN38 xN39 mN0 mN1 mN2 mN3 mN4 mN5 mN6 mN7 mN8 mN9 mN10 mN11 mN12 mN13 mN14 mN15 mN16 mN17 mN18 mN19 mN20 mN21 xv0 xv1 xv2 xv3 xv4 xv13 xv14 xv15 xv24 xv25 xv36 mv0 mv1 mv2 mv3 mv4 xF5 xF6 xF7 xF8 xF9 xF10 xF11 xF12 xF16 xF17 xF18 xF19 xF20 xF21 xF22 xF23 xF26 xF27 xF28 xF29 xF30 xF31 xF32 xF33 xF34 xF35 xF37 xF38 xF39 xF41 xF42 xF43 xF44 xF45 mF5 mF6 mF7 mF8 mF9 mF10 mF11 mF12 mF13 mF14 mF15 mF16 mF17 mF18 mF19 mF20 mF21 mF22 mF23 mF24 xF40 mF25 mF26 _ _ _ hP hD hS hq0 hq1 hq2 hq3 hq4 hq5 hq6 hq7 hq8 hq9 hq10 hq11 hq12 hq13 hq14 hq15 hq16 hq17 hq18 hq19 hq20 hq21 hq22 hq23 hq24 hq25 hq26 hq27 hq28 hq29 hq30 hq31 hq32 hq33 hq34 hq35 hq36 hq37 hq38 hq39 hq40 hq41 hr0 hr1 hr2 hr3 hr4 (lv_sub hl [0, 1, 2, 3] rfl)
      have i_18 : y11.toInt ≠ 17 := fun h => j_18 (Int32.toInt_inj.mp (h.trans rfl))
      by_cases j_19 : y11 = 18
      · have i_19 : y11.toInt = 18 := by rw [j_19]; rfl
        subst j_19
        refine lv_tableIn (x := 18) (off := 641) (tgt := 674) hx hb dL_law_33 (by decide) (by decide) rfl (by decide) ?_
        exact lc_order C0 hL (by omega) (by omega) tail xN0 xN1 xN2 xN3 xN4 xN5 xN6 xN7 xN8 xN9 xN10 xN11 xN12 xN13 xN14 xN15 xN16 xN17 xN18 xN19 xN20 xN21 xN22 xN23 xN24 xN25 xN26 xN27 xN28 xN29 xN30 xN31 xN32 xN33 xN34 xN35 xN36 xN37 xN38 xN39 mN0 mN1 mN2 mN3 mN4 mN5 mN6 mN7 mN8 mN9 mN10 mN11 mN12 mN13 mN14 mN15 mN16 mN17 mN18 mN19 mN20 mN21 xv0 xv1 xv2 xv3 xv4 xv13 xv14 xv15 xv24 xv25 xv36 mv0 mv1 mv2 mv3 mv4 xF5 xF6 xF7 xF8 xF9 xF10 xF11 xF12 xF16 xF17 xF18 xF19 xF20 xF21 xF22 xF23 xF26 xF27 xF28 xF29 xF30 xF31 xF32 xF33 xF34 xF35 xF37 xF38 xF39 xF41 xF42 xF43 xF44 xF45 mF5 mF6 mF7 mF8 mF9 mF10 mF11 mF12 mF13 mF14 mF15 mF16 mF17 mF18 mF19 mF20 mF21 mF22 mF23 mF24 xF40 mF25 mF26 _ _ _ hP hD hS hq0 hq1 hq2 hq3 hq4 hq5 hq6 hq7 hq8 hq9 hq10 hq11 hq12 hq13 hq14 hq15 hq16 hq17 hq18 hq19 hq20 hq21 hq22 hq23 hq24 hq25 hq26 hq27 hq28 hq29 hq30 hq31 hq32 hq33 hq34 hq35 hq36 hq37 hq38 hq39 hq40 hq41 hr0 hr1 hr2 hr3 hr4 (lv_sub hl [0, 1, 2, 3] rfl)
      have i_19 : y11.toInt ≠ 18 := fun h => j_19 (Int32.toInt_inj.mp (h.trans rfl))
      by_cases j_20 : y11 = 19
      · have i_20 : y11.toInt = 19 := by rw [j_20]; rfl
        subst j_20
        refine lv_tableIn (x := 19) (off := 664) (tgt := 697) hx hb dL_law_33 (by decide) (by decide) rfl (by decide) ?_
        exact lc_ring C0 hL (by omega) (by omega) tail xN0 xN1 xN2 xN3 xN4 xN5 xN6 xN7 xN8 xN9 xN10 xN11 xN12 xN13 xN14 xN15 xN16 xN17 xN18 xN19 xN20 xN21 xN22 xN23 xN24 xN25 xN26 xN27 xN28 xN29 xN30 xN31 xN32 xN33 xN34 xN35 xN36 xN37 xN38 xN39 mN0 mN1 mN2 mN3 mN4 mN5 mN6 mN7 mN8 mN9 mN10 mN11 mN12 mN13 mN14 mN15 mN16 mN17 mN18 mN19 mN20 mN21 xv0 xv1 xv2 xv3 xv4 xv13 xv14 xv15 xv24 xv25 xv36 mv0 mv1 mv2 mv3 mv4 xF5 xF6 xF7 xF8 xF9 xF10 xF11 xF12 xF16 xF17 xF18 xF19 xF20 xF21 xF22 xF23 xF26 xF27 xF28 xF29 xF30 xF31 xF32 xF33 xF34 xF35 xF37 xF38 xF39 xF41 xF42 xF43 xF44 xF45 mF5 mF6 mF7 mF8 mF9 mF10 mF11 mF12 mF13 mF14 mF15 mF16 mF17 mF18 mF19 mF20 mF21 mF22 mF23 mF24 xF40 mF25 mF26 _ _ _ hP hD hS hq0 hq1 hq2 hq3 hq4 hq5 hq6 hq7 hq8 hq9 hq10 hq11 hq12 hq13 hq14 hq15 hq16 hq17 hq18 hq19 hq20 hq21 hq22 hq23 hq24 hq25 hq26 hq27 hq28 hq29 hq30 hq31 hq32 hq33 hq34 hq35 hq36 hq37 hq38 hq39 hq40 hq41 hr0 hr1 hr2 hr3 hr4 (lv_sub hl [0, 1, 2, 3] rfl)
      have i_20 : y11.toInt ≠ 19 := fun h => j_20 (Int32.toInt_inj.mp (h.trans rfl))
      by_cases j_21 : y11 = 20
      · have i_21 : y11.toInt = 20 := by rw [j_21]; rfl
        subst j_21
        refine lv_tableIn (x := 20) (off := 687) (tgt := 720) hx hb dL_law_33 (by decide) (by decide) rfl (by decide) ?_
        exact lc_image C0 hL (by omega) (by omega) tail xN0 xN1 xN2 xN3 xN4 xN5 xN6 xN7 xN8 xN9 xN10 xN11 xN12 xN13 xN14 xN15 xN16 xN17 xN18 xN19 xN20 xN21 xN22 xN23 xN24 xN25 xN26 xN27 xN28 xN29 xN30 xN31 xN32 xN33 xN34 xN35 xN36 xN37 xN38 xN39 mN0 mN1 mN2 mN3 mN4 mN5 mN6 mN7 mN8 mN9 mN10 mN11 mN12 mN13 mN14 mN15 mN16 mN17 mN18 mN19 mN20 mN21 xv0 xv1 xv2 xv3 xv4 xv13 xv14 xv15 xv24 xv25 xv36 mv0 mv1 mv2 mv3 mv4 xF5 xF6 xF7 xF8 xF9 xF10 xF11 xF12 xF16 xF17 xF18 xF19 xF20 xF21 xF22 xF23 xF26 xF27 xF28 xF29 xF30 xF31 xF32 xF33 xF34 xF35 xF37 xF38 xF39 xF41 xF42 xF43 xF44 xF45 mF5 mF6 mF7 mF8 mF9 mF10 mF11 mF12 mF13 mF14 mF15 mF16 mF17 mF18 mF19 mF20 mF21 mF22 mF23 mF24 xF40 mF25 mF26 _ _ _ hP hD hS hq0 hq1 hq2 hq3 hq4 hq5 hq6 hq7 hq8 hq9 hq10 hq11 hq12 hq13 hq14 hq15 hq16 hq17 hq18 hq19 hq20 hq21 hq22 hq23 hq24 hq25 hq26 hq27 hq28 hq29 hq30 hq31 hq32 hq33 hq34 hq35 hq36 hq37 hq38 hq39 hq40 hq41 hr0 hr1 hr2 hr3 hr4 (lv_sub hl [0, 1, 2, 3] rfl)
      have i_21 : y11.toInt ≠ 20 := fun h => j_21 (Int32.toInt_inj.mp (h.trans rfl))
      by_cases j_22 : y11 = 21
      · have i_22 : y11.toInt = 21 := by rw [j_22]; rfl
        subst j_22
        refine lv_tableIn (x := 21) (off := 700) (tgt := 733) hx hb dL_law_33 (by decide) (by decide) rfl (by decide) ?_
        exact lc_restore C0 hL (by omega) (by omega) tail xN0 xN1 xN2 xN3 xN4 xN5 xN6 xN7 xN8 xN9 xN10 xN11 xN12 xN13 xN14 xN15 xN16 xN17 xN18 xN19 xN20 xN21 xN22 xN23 xN24 xN25 xN26 xN27 xN28 xN29 xN30 xN31 xN32 xN33 xN34 xN35 xN36 xN37 xN38 xN39 mN0 mN1 mN2 mN3 mN4 mN5 mN6 mN7 mN8 mN9 mN10 mN11 mN12 mN13 mN14 mN15 mN16 mN17 mN18 mN19 mN20 mN21 xv0 xv1 xv2 xv3 xv4 xv13 xv14 xv15 xv24 xv25 xv36 mv0 mv1 mv2 mv3 mv4 xF5 xF6 xF7 xF8 xF9 xF10 xF11 xF12 xF16 xF17 xF18 xF19 xF20 xF21 xF22 xF23 xF26 xF27 xF28 xF29 xF30 xF31 xF32 xF33 xF34 xF35 xF37 xF38 xF39 xF41 xF42 xF43 xF44 xF45 mF5 mF6 mF7 mF8 mF9 mF10 mF11 mF12 mF13 mF14 mF15 mF16 mF17 mF18 mF19 mF20 mF21 mF22 mF23 mF24 xF40 mF25 mF26 _ _ _ hP hD hS hq0 hq1 hq2 hq3 hq4 hq5 hq6 hq7 hq8 hq9 hq10 hq11 hq12 hq13 hq14 hq15 hq16 hq17 hq18 hq19 hq20 hq21 hq22 hq23 hq24 hq25 hq26 hq27 hq28 hq29 hq30 hq31 hq32 hq33 hq34 hq35 hq36 hq37 hq38 hq39 hq40 hq41 hr0 hr1 hr2 hr3 hr4 (lv_sub hl [0, 1, 2, 3] rfl)
      have i_22 : y11.toInt ≠ 21 := fun h => j_22 (Int32.toInt_inj.mp (h.trans rfl))
      by_cases j_23 : y11 = 22
      · have i_23 : y11.toInt = 22 := by rw [j_23]; rfl
        subst j_23
        refine lv_tableIn (x := 22) (off := 713) (tgt := 746) hx hb dL_law_33 (by decide) (by decide) rfl (by decide) ?_
        exact lc_which C0 hL (by omega) (by omega) tail xN0 xN1 xN2 xN3 xN4 xN5 xN6 xN7 xN8 xN9 xN10 xN11 xN12 xN13 xN14 xN15 xN16 xN17 xN18 xN19 xN20 xN21 xN22 xN23 xN24 xN25 xN26 xN27 xN28 xN29 xN30 xN31 xN32 xN33 xN34 xN35 xN36 xN37 xN38 xN39 mN0 mN1 mN2 mN3 mN4 mN5 mN6 mN7 mN8 mN9 mN10 mN11 mN12 mN13 mN14 mN15 mN16 mN17 mN18 mN19 mN20 mN21 xv0 xv1 xv2 xv3 xv4 xv13 xv14 xv15 xv24 xv25 xv36 mv0 mv1 mv2 mv3 mv4 xF5 xF6 xF7 xF8 xF9 xF10 xF11 xF12 xF16 xF17 xF18 xF19 xF20 xF21 xF22 xF23 xF26 xF27 xF28 xF29 xF30 xF31 xF32 xF33 xF34 xF35 xF37 xF38 xF39 xF41 xF42 xF43 xF44 xF45 mF5 mF6 mF7 mF8 mF9 mF10 mF11 mF12 mF13 mF14 mF15 mF16 mF17 mF18 mF19 mF20 mF21 mF22 mF23 mF24 xF40 mF25 mF26 _ _ _ hP hD hS hq0 hq1 hq2 hq3 hq4 hq5 hq6 hq7 hq8 hq9 hq10 hq11 hq12 hq13 hq14 hq15 hq16 hq17 hq18 hq19 hq20 hq21 hq22 hq23 hq24 hq25 hq26 hq27 hq28 hq29 hq30 hq31 hq32 hq33 hq34 hq35 hq36 hq37 hq38 hq39 hq40 hq41 hr0 hr1 hr2 hr3 hr4 (lv_sub hl [0, 1, 2, 3] rfl)
      have i_23 : y11.toInt ≠ 22 := fun h => j_23 (Int32.toInt_inj.mp (h.trans rfl))
      by_cases j_24 : y11 = 23
      · have i_24 : y11.toInt = 23 := by rw [j_24]; rfl
        subst j_24
        refine lv_tableIn (x := 23) (off := 766) (tgt := 799) hx hb dL_law_33 (by decide) (by decide) rfl (by decide) ?_
        exact lc_film C0 hL (by omega) (by omega) tail xN0 xN1 xN2 xN3 xN4 xN5 xN6 xN7 xN8 xN9 xN10 xN11 xN12 xN13 xN14 xN15 xN16 xN17 xN18 xN19 xN20 xN21 xN22 xN23 xN24 xN25 xN26 xN27 xN28 xN29 xN30 xN31 xN32 xN33 xN34 xN35 xN36 xN37 xN38 xN39 mN0 mN1 mN2 mN3 mN4 mN5 mN6 mN7 mN8 mN9 mN10 mN11 mN12 mN13 mN14 mN15 mN16 mN17 mN18 mN19 mN20 mN21 xv0 xv1 xv2 xv3 xv4 xv13 xv14 xv15 xv24 xv25 xv36 mv0 mv1 mv2 mv3 mv4 xF5 xF6 xF7 xF8 xF9 xF10 xF11 xF12 xF16 xF17 xF18 xF19 xF20 xF21 xF22 xF23 xF26 xF27 xF28 xF29 xF30 xF31 xF32 xF33 xF34 xF35 xF37 xF38 xF39 xF41 xF42 xF43 xF44 xF45 mF5 mF6 mF7 mF8 mF9 mF10 mF11 mF12 mF13 mF14 mF15 mF16 mF17 mF18 mF19 mF20 mF21 mF22 mF23 mF24 xF40 mF25 mF26 _ _ _ hP hD hS hq0 hq1 hq2 hq3 hq4 hq5 hq6 hq7 hq8 hq9 hq10 hq11 hq12 hq13 hq14 hq15 hq16 hq17 hq18 hq19 hq20 hq21 hq22 hq23 hq24 hq25 hq26 hq27 hq28 hq29 hq30 hq31 hq32 hq33 hq34 hq35 hq36 hq37 hq38 hq39 hq40 hq41 hr0 hr1 hr2 hr3 hr4 (lv_sub hl [0, 1, 2, 3] rfl)
      have i_24 : y11.toInt ≠ 23 := fun h => j_24 (Int32.toInt_inj.mp (h.trans rfl))
      by_cases j_25 : y11 = 24
      · have i_25 : y11.toInt = 24 := by rw [j_25]; rfl
        subst j_25
        refine lv_tableIn (x := 24) (off := 809) (tgt := 842) hx hb dL_law_33 (by decide) (by decide) rfl (by decide) ?_
        exact lc_sheet C0 hL (by omega) (by omega) tail xN0 xN1 xN2 xN3 xN4 xN5 xN6 xN7 xN8 xN9 xN10 xN11 xN12 xN13 xN14 xN15 xN16 xN17 xN18 xN19 xN20 xN21 xN22 xN23 xN24 xN25 xN26 xN27 xN28 xN29 xN30 xN31 xN32 xN33 xN34 xN35 xN36 xN37 xN38 xN39 mN0 mN1 mN2 mN3 mN4 mN5 mN6 mN7 mN8 mN9 mN10 mN11 mN12 mN13 mN14 mN15 mN16 mN17 mN18 mN19 mN20 mN21 xv0 xv1 xv2 xv3 xv4 xv13 xv14 xv15 xv24 xv25 xv36 mv0 mv1 mv2 mv3 mv4 xF5 xF6 xF7 xF8 xF9 xF10 xF11 xF12 xF16 xF17 xF18 xF19 xF20 xF21 xF22 xF23 xF26 xF27 xF28 xF29 xF30 xF31 xF32 xF33 xF34 xF35 xF37 xF38 xF39 xF41 xF42 xF43 xF44 xF45 mF5 mF6 mF7 mF8 mF9 mF10 mF11 mF12 mF13 mF14 mF15 mF16 mF17 mF18 mF19 mF20 mF21 mF22 mF23 mF24 xF40 mF25 mF26 _ _ _ hP hD hS hq0 hq1 hq2 hq3 hq4 hq5 hq6 hq7 hq8 hq9 hq10 hq11 hq12 hq13 hq14 hq15 hq16 hq17 hq18 hq19 hq20 hq21 hq22 hq23 hq24 hq25 hq26 hq27 hq28 hq29 hq30 hq31 hq32 hq33 hq34 hq35 hq36 hq37 hq38 hq39 hq40 hq41 hr0 hr1 hr2 hr3 hr4 (lv_sub hl [0, 1, 2, 3] rfl)
      have i_25 : y11.toInt ≠ 24 := fun h => j_25 (Int32.toInt_inj.mp (h.trans rfl))
      by_cases j_26 : y11 = 25
      · have i_26 : y11.toInt = 25 := by rw [j_26]; rfl
        subst j_26
        refine lv_tableIn (x := 25) (off := 852) (tgt := 885) hx hb dL_law_33 (by decide) (by decide) rfl (by decide) ?_
        exact lc_drop C0 hL (by omega) (by omega) tail xN0 xN1 xN2 xN3 xN4 xN5 xN6 xN7 xN8 xN9 xN10 xN11 xN12 xN13 xN14 xN15 xN16 xN17 xN18 xN19 xN20 xN21 xN22 xN23 xN24 xN25 xN26 xN27 xN28 xN29 xN30 xN31 xN32 xN33 xN34 xN35 xN36 xN37 xN38 xN39 mN0 mN1 mN2 mN3 mN4 mN5 mN6 mN7 mN8 mN9 mN10 mN11 mN12 mN13 mN14 mN15 mN16 mN17 mN18 mN19 mN20 mN21 xv0 xv1 xv2 xv3 xv4 xv13 xv14 xv15 xv24 xv25 xv36 mv0 mv1 mv2 mv3 mv4 xF5 xF6 xF7 xF8 xF9 xF10 xF11 xF12 xF16 xF17 xF18 xF19 xF20 xF21 xF22 xF23 xF26 xF27 xF28 xF29 xF30 xF31 xF32 xF33 xF34 xF35 xF37 xF38 xF39 xF41 xF42 xF43 xF44 xF45 mF5 mF6 mF7 mF8 mF9 mF10 mF11 mF12 mF13 mF14 mF15 mF16 mF17 mF18 mF19 mF20 mF21 mF22 mF23 mF24 xF40 mF25 mF26 _ _ _ hP hD hS hq0 hq1 hq2 hq3 hq4 hq5 hq6 hq7 hq8 hq9 hq10 hq11 hq12 hq13 hq14 hq15 hq16 hq17 hq18 hq19 hq20 hq21 hq22 hq23 hq24 hq25 hq26 hq27 hq28 hq29 hq30 hq31 hq32 hq33 hq34 hq35 hq36 hq37 hq38 hq39 hq40 hq41 hr0 hr1 hr2 hr3 hr4 (lv_sub hl [0, 1, 2, 3] rfl)
      have i_26 : y11.toInt ≠ 25 := fun h => j_26 (Int32.toInt_inj.mp (h.trans rfl))
      by_cases j_27 : y11 = 26
      · have i_27 : y11.toInt = 26 := by rw [j_27]; rfl
        subst j_27
        refine lv_tableIn (x := 26) (off := 875) (tgt := 908) hx hb dL_law_33 (by decide) (by decide) rfl (by decide) ?_
        exact lc_item C0 hL (by omega) (by omega) tail xN0 xN1 xN2 xN3 xN4 xN5 xN6 xN7 xN8 xN9 xN10 xN11 xN12 xN13 xN14 xN15 xN16 xN17 xN18 xN19 xN20 xN21 xN22 xN23 xN24 xN25 xN26 xN27 xN28 xN29 xN30 xN31 xN32 xN33 xN34 xN35 xN36 xN37 xN38 xN39 mN0 mN1 mN2 mN3 mN4 mN5 mN6 mN7 mN8 mN9 mN10 mN11 mN12 mN13 mN14 mN15 mN16 mN17 mN18 mN19 mN20 mN21 xv0 xv1 xv2 xv3 xv4 xv13 xv14 xv15 xv24 xv25 xv36 mv0 mv1 mv2 mv3 mv4 xF5 xF6 xF7 xF8 xF9 xF10 xF11 xF12 xF16 xF17 xF18 xF19 xF20 xF21 xF22 xF23 xF26 xF27 xF28 xF29 xF30 xF31 xF32 xF33 xF34 xF35 xF37 xF38 xF39 xF41 xF42 xF43 xF44 xF45 mF5 mF6 mF7 mF8 mF9 mF10 mF11 mF12 mF13 mF14 mF15 mF16 mF17 mF18 mF19 mF20 mF21 mF22 mF23 mF24 xF40 mF25 mF26 _ _ _ hP hD hS hq0 hq1 hq2 hq3 hq4 hq5 hq6 hq7 hq8 hq9 hq10 hq11 hq12 hq13 hq14 hq15 hq16 hq17 hq18 hq19 hq20 hq21 hq22 hq23 hq24 hq25 hq26 hq27 hq28 hq29 hq30 hq31 hq32 hq33 hq34 hq35 hq36 hq37 hq38 hq39 hq40 hq41 hr0 hr1 hr2 hr3 hr4 (lv_sub hl [0, 1, 2, 3] rfl)
      have i_27 : y11.toInt ≠ 26 := fun h => j_27 (Int32.toInt_inj.mp (h.trans rfl))
      by_cases j_28 : y11 = 27
      · have i_28 : y11.toInt = 27 := by rw [j_28]; rfl
        subst j_28
        refine lv_tableIn (x := 27) (off := 958) (tgt := 991) hx hb dL_law_33 (by decide) (by decide) rfl (by decide) ?_
        exact lc_copy C0 hL (by omega) (by omega) tail xN0 xN1 xN2 xN3 xN4 xN5 xN6 xN7 xN8 xN9 xN10 xN11 xN12 xN13 xN14 xN15 xN16 xN17 xN18 xN19 xN20 xN21 xN22 xN23 xN24 xN25 xN26 xN27 xN28 xN29 xN30 xN31 xN32 xN33 xN34 xN35 xN36 xN37 xN38 xN39 mN0 mN1 mN2 mN3 mN4 mN5 mN6 mN7 mN8 mN9 mN10 mN11 mN12 mN13 mN14 mN15 mN16 mN17 mN18 mN19 mN20 mN21 xv0 xv1 xv2 xv3 xv4 xv13 xv14 xv15 xv24 xv25 xv36 mv0 mv1 mv2 mv3 mv4 xF5 xF6 xF7 xF8 xF9 xF10 xF11 xF12 xF16 xF17 xF18 xF19 xF20 xF21 xF22 xF23 xF26 xF27 xF28 xF29 xF30 xF31 xF32 xF33 xF34 xF35 xF37 xF38 xF39 xF41 xF42 xF43 xF44 xF45 mF5 mF6 mF7 mF8 mF9 mF10 mF11 mF12 mF13 mF14 mF15 mF16 mF17 mF18 mF19 mF20 mF21 mF22 mF23 mF24 xF40 mF25 mF26 _ _ _ hP hD hS hq0 hq1 hq2 hq3 hq4 hq5 hq6 hq7 hq8 hq9 hq10 hq11 hq12 hq13 hq14 hq15 hq16 hq17 hq18 hq19 hq20 hq21 hq22 hq23 hq24 hq25 hq26 hq27 hq28 hq29 hq30 hq31 hq32 hq33 hq34 hq35 hq36 hq37 hq38 hq39 hq40 hq41 hr0 hr1 hr2 hr3 hr4 (lv_sub hl [0, 1, 2, 3] rfl)
      have i_28 : y11.toInt ≠ 27 := fun h => j_28 (Int32.toInt_inj.mp (h.trans rfl))
      refine lv_tableOut (x := y11) (tgt := 1054) hx hb dL_law_33 (by omega) (by decide) ?_
      exact tail xN0 xN1 xN2 xN3 xN4 xN5 xN6 xN7 xN8 xN9 xN10 xN11 xN12 xN13 xN14 xN15 xN16 xN17 xN18 xN19 xN20 xN21 xN22 xN23 xN24 xN25 xN26 xN27 xN28 xN29 xN30 xN31 xN32 xN33 xN34 xN35 xN36 xN37 xN38 xN39 mN0 mN1 mN2 mN3 mN4 mN5 mN6 mN7 mN8 mN9 mN10 mN11 mN12 mN13 mN14 mN15 mN16 mN17 mN18 mN19 mN20 mN21 xv0 xv1 xv2 xv3 xv4 xv13 xv14 xv15 xv24 xv25 xv36 mv0 mv1 mv2 mv3 mv4 xF5 xF6 xF7 xF8 xF9 xF10 xF11 xF12 xF16 xF17 xF18 xF19 xF20 xF21 xF22 xF23 xF26 xF27 xF28 xF29 xF30 xF31 xF32 xF33 xF34 xF35 xF37 xF38 xF39 xF41 xF42 xF43 xF44 xF45 mF5 mF6 mF7 mF8 mF9 mF10 mF11 mF12 mF13 mF14 mF15 mF16 mF17 mF18 mF19 mF20 mF21 mF22 mF23 mF24 xF40 mF25 mF26 _ _ _ hP hD hS hq0 hq1 hq2 hq3 hq4 hq5 hq6 hq7 hq8 hq9 hq10 hq11 hq12 hq13 hq14 hq15 hq16 hq17 hq18 hq19 hq20 hq21 hq22 hq23 hq24 hq25 hq26 hq27 hq28 hq29 hq30 hq31 hq32 hq33 hq34 hq35 hq36 hq37 hq38 hq39 hq40 hq41 hr0 hr1 hr2 hr3 hr4 (lv_sub hl [0, 1, 2, 3] rfl)
