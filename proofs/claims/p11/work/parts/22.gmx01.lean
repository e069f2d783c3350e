set_option maxHeartbeats 8000000 in
set_option maxRecDepth 100000 in
theorem gX5_earn (l : Launch) (g : zG) (K : Prop) (B C : zBk) (hB : bOk B) (h0 h1 h2 h3 h4 h5 h6 h7 h8 h9 h10 h11 h12 h13 h14 h15 h16 h17 h18 h19 h20 h21 h22 : Nat) (sz : Nat) (p1 : Int32) (p2 : Int32) (f0 : Int32) (f1 : Int32) (f2 : Int32) (f3 : Int32) (f4 : Int32) (Z0 : Nat → Int32) (hf_f1 : 0 ≤ f1.toInt ∧ f1.toInt ≤ 60) (hf_f2 : 0 ≤ f2.toInt ∧ f2.toInt ≤ 60) (hf_f3 : 0 ≤ f3.toInt ∧ f3.toInt ≤ 31) (hf_f4 : 0 ≤ f4.toInt ∧ f4.toInt ≤ 1000) (hF_Z0 : iW K B C Z0) : Met l yX5_earn (.code yX5_earn cX5_earn 3 (some .int) :: zBig) ({ frames := 2, cells := 0, slots := 0, locals := 46 }) (va_Pc [.ref h0, .int p1, .int p2] (zPre g [(h0, .inr (5, [.ref h1, .int f0, .ref h2, .int f1, .int f2, .ref h3, .ref h4, .ref h5, .ref h6, .int f3, .ref h7, .ref h8, .ref h9, .int f4, .ref h10, .ref h11, .ref h12, .ref h13, .ref h14, .ref h15, .ref h16, .ref h17, .ref h18, .ref h19, .ref h20, .ref h21, .ref h22])), (h1, .inl (zI g, 180, .inl Z0))] sz)) (va_Qi (fun (r : Int32) (u : (Nat → Int32)) => (r.toInt = zAearn B.n B.P p1.toInt p2.toInt) ∧ iW K (if (0 ≤ p1.toInt ∧ p1.toInt < 5 ∧ p1.toInt < B.n ∧ 1 ≤ p2.toInt ∧ p2.toInt ≤ 999 ∧ (B.P p1.toInt.toNat).toInt + p2.toInt ≤ 9999) then zBk.setP B (upd B.P p1.toNatClampNeg (B.P p1.toNatClampNeg + p2)) else B) C u) (zPost g (fun u : (Nat → Int32) => [(h0, .inr (5, [.ref h1, .int f0, .ref h2, .int f1, .int f2, .ref h3, .ref h4, .ref h5, .ref h6, .int f3, .ref h7, .ref h8, .ref h9, .int f4, .ref h10, .ref h11, .ref h12, .ref h13, .ref h14, .ref h15, .ref h16, .ref h17, .ref h18, .ref h19, .ref h20, .ref h21, .ref h22])), (h1, .inl (zI g, 180, .inl u))]) (va_A [(h0, .inr (5, [.ref h1, .int f0, .ref h2, .int f1, .int f2, .ref h3, .ref h4, .ref h5, .ref h6, .int f3, .ref h7, .ref h8, .ref h9, .int f4, .ref h10, .ref h11, .ref h12, .ref h13, .ref h14, .ref h15, .ref h16, .ref h17, .ref h18, .ref h19, .ref h20, .ref h21, .ref h22])), (h1, .inl (zI g, 180, .inl Z0))] sz)) (va_A [(h0, .inr (5, [.ref h1, .int f0, .ref h2, .int f1, .int f2, .ref h3, .ref h4, .ref h5, .ref h6, .int f3, .ref h7, .ref h8, .ref h9, .int f4, .ref h10, .ref h11, .ref h12, .ref h13, .ref h14, .ref h15, .ref h16, .ref h17, .ref h18, .ref h19, .ref h20, .ref h21, .ref h22])), (h1, .inl (zI g, 180, .inl Z0))] sz)) 0 0 (va_A [(h0, .inr (5, [.ref h1, .int f0, .ref h2, .int f1, .int f2, .ref h3, .ref h4, .ref h5, .ref h6, .int f3, .ref h7, .ref h8, .ref h9, .int f4, .ref h10, .ref h11, .ref h12, .ref h13, .ref h14, .ref h15, .ref h16, .ref h17, .ref h18, .ref h19, .ref h20, .ref h21, .ref h22])), (h1, .inl (zI g, 180, .inl Z0))] sz) := by
  refine zMetI rfl (Nat.le_of_ble_eq_true rfl) ?_
  intro p e s m args below meth c A ls hx hb hml hr hlocks hin hown hts hK hN hZ hP hD hA hS hAe hl
  have hown : s.vm.findClass RX5 = some m.cls := hown
  have hl : lv_has ls 3 [(0, .ref h0), (1, .int p1), (2, .int p2)] := hl
  have hnr := iW_nr hF_Z0
  refine lv_aload_n hx hb dX5_earn_0 rfl (lv_at hl 0 rfl) ?_
  refine lv_iload_n hx hb dX5_earn_1 rfl (lv_at hl 1 rfl) ?_
  refine z_calli (wr := []) hP hD hS hA [0, 1] [] (by decide) rfl rfl (by decide) (va_runV (As := [.int p1]) (rest := []) ⟨hx, hb, hml, hown, hts⟩ (gX5_isBuyer l g K B C hB h0 h1 h2 h3 h4 h5 h6 h7 h8 h9 h10 h11 h12 h13 h14 h15 h16 h17 h18 h19 h20 h21 h22 s.heap.size p1 f0 f1 f2 f3 f4 Z0 (by constructor <;> omega) (by constructor <;> omega) (by constructor <;> omega) (by constructor <;> omega) hF_Z0) ⟨callB_of 1 hts (zGood m_o_yX5_isBuyer) rfl rfl rfl (hts _ m_z_RX5) (hts _ m_m_RX5_92) ⟨by decide +kernel, by decide +kernel, by decide +kernel⟩ ⟨Nat.le_of_ble_eq_true rfl, Nat.le_of_ble_eq_true rfl⟩, hts _ m_i_yX5_isBuyer, hts _ m_e_yX5_isBuyer⟩ (zPreV hK hN hZ hP hD hS hA [0, 1] (by decide) rfl rfl 5 0 rfl rfl) rfl rfl hl.1 rfl (lv_room (Nat.le_of_ble_eq_true rfl)) dX5_earn_2 ⟨Nat.le_of_ble_eq_true rfl, Nat.le_of_ble_eq_true rfl⟩) (fun r u H locs hw hP hD hS => ?_)
  rcases hw with ⟨i_0, i_1, i_2, rfl⟩ | ⟨i_3, rfl⟩
  · skip
    have i_0 : 0 ≤ p1.toInt := i_0
    have i_1 : p1.toInt ≤ 4 := i_1
    have i_2 : p1.toInt < B.n := i_2
    have hP : va_P g.1 vwCl [(h0, .inr (5, [.ref h1, .int f0, .ref h2, .int f1, .int f2, .ref h3, .ref h4, .ref h5, .ref h6, .int f3, .ref h7, .ref h8, .ref h9, .int f4, .ref h10, .ref h11, .ref h12, .ref h13, .ref h14, .ref h15, .ref h16, .ref h17, .ref h18, .ref h19, .ref h20, .ref h21, .ref h22])), (h1, .inl (zI g, 180, .inl Z0))] H := hP
    have hD : va_D A [(h0, .inr (5, [.ref h1, .int f0, .ref h2, .int f1, .int f2, .ref h3, .ref h4, .ref h5, .ref h6, .int f3, .ref h7, .ref h8, .ref h9, .int f4, .ref h10, .ref h11, .ref h12, .ref h13, .ref h14, .ref h15, .ref h16, .ref h17, .ref h18, .ref h19, .ref h20, .ref h21, .ref h22])), (h1, .inl (zI g, 180, .inl Z0))] := hD
    refine lv_if_eq (tgt := 20) hx hb dX5_earn_5 (by decide) (fun h => absurd h (by decide +kernel)) (fun _ => ?_)
    refine lv_iload_n hx hb dX5_earn_8 rfl (lv_at hl 2 rfl) ?_
    refine lv_i2l (v := p2.toInt64) hx hb dX5_earn_9 rfl ?_
    refine lv_lconst (v := 1) hx hb dX5_earn_10 (by decide) ?_
    refine lv_ldc2 (v := 999) hx hb hown (hts _ m_k_RX5_90) dX5_earn_11 ?_
    refine z_calli (wr := [(h0, .inr (5, [.ref h1, .int f0, .ref h2, .int f1, .int f2, .ref h3, .ref h4, .ref h5, .ref h6, .int f3, .ref h7, .ref h8, .ref h9, .int f4, .ref h10, .ref h11, .ref h12, .ref h13, .ref h14, .ref h15, .ref h16, .ref h17, .ref h18, .ref h19, .ref h20, .ref h21, .ref h22])), (h1, .inl (zI g, 180, .inl Z0))]) hP hD hS hA [] [0, 1] (by decide) rfl rfl (by decide) (va_runS (As := [.long p2.toInt64, .long 1, .long 999]) (rest := []) ⟨hx, hb, hml, hown, hts⟩ (gX5_in l g  H.size p2.toInt64 (1 : Int64) (999 : Int64)) ⟨callB_of 3 hts (zGood m_o_yX5_in) rfl rfl rfl (hts _ m_z_RX5) (hts _ m_m_RX5_77) ⟨by decide +kernel, by decide +kernel, by decide +kernel⟩ ⟨Nat.le_of_ble_eq_true rfl, Nat.le_of_ble_eq_true rfl⟩, hts _ m_s_yX5_in⟩ (zPreS hK hN hZ hP hD hS hA [] (by decide) rfl rfl) rfl rfl hl.1 rfl (lv_room (Nat.le_of_ble_eq_true rfl)) dX5_earn_14 ⟨Nat.le_of_ble_eq_true rfl, Nat.le_of_ble_eq_true rfl⟩) (fun r u H locs hw hP hD hS => ?_)
    rcases hw with ⟨i_4, rfl⟩ | ⟨i_5, i_6, rfl⟩ | ⟨i_7, i_8, rfl⟩
    · skip
      have i_4 : p2.toInt < 1 := by (try simp only [Int32.toInt_toInt64] at i_4); exact i_4
      have hP : va_P g.1 vwCl [(h0, .inr (5, [.ref h1, .int f0, .ref h2, .int f1, .int f2, .ref h3, .ref h4, .ref h5, .ref h6, .int f3, .ref h7, .ref h8, .ref h9, .int f4, .ref h10, .ref h11, .ref h12, .ref h13, .ref h14, .ref h15, .ref h16, .ref h17, .ref h18, .ref h19, .ref h20, .ref h21, .ref h22])), (h1, .inl (zI g, 180, .inl Z0))] H := hP
      have hD : va_D A [(h0, .inr (5, [.ref h1, .int f0, .ref h2, .int f1, .int f2, .ref h3, .ref h4, .ref h5, .ref h6, .int f3, .ref h7, .ref h8, .ref h9, .int f4, .ref h10, .ref h11, .ref h12, .ref h13, .ref h14, .ref h15, .ref h16, .ref h17, .ref h18, .ref h19, .ref h20, .ref h21, .ref h22])), (h1, .inl (zI g, 180, .inl Z0))] := hD
      refine lv_if_ne (tgt := 23) hx hb dX5_earn_17 (by decide) (fun h => absurd h (by decide +kernel)) (fun _ => ?_)
      refine lv_ldc (v := (-100001)) hx hb hown (hts _ m_k_RX5_104) dX5_earn_20 ?_
      have : ((-100001) : Int32).toInt = (-100001) := rfl
      have hz : zAearn B.n B.P p1.toInt p2.toInt = (-100001) := by
        unfold zAearn
        rw [if_pos (by omega)]
      have hP9 := hP.sub (ws' := [(h0, .inr (5, [.ref h1, .int f0, .ref h2, .int f1, .int f2, .ref h3, .ref h4, .ref h5, .ref h6, .int f3, .ref h7, .ref h8, .ref h9, .int f4, .ref h10, .ref h11, .ref h12, .ref h13, .ref h14, .ref h15, .ref h16, .ref h17, .ref h18, .ref h19, .ref h20, .ref h21, .ref h22])), (h1, .inl (zI g, 180, .inl Z0))]) [0, 1] rfl
      have hD9 := hD.sub (ws' := [(h0, .inr (5, [.ref h1, .int f0, .ref h2, .int f1, .int f2, .ref h3, .ref h4, .ref h5, .ref h6, .int f3, .ref h7, .ref h8, .ref h9, .int f4, .ref h10, .ref h11, .ref h12, .ref h13, .ref h14, .ref h15, .ref h16, .ref h17, .ref h18, .ref h19, .ref h20, .ref h21, .ref h22])), (h1, .inl (zI g, 180, .inl Z0))]) [0, 1] (by decide) rfl
      exact W.iret (v := (-100001)) hx hb hr (fun t ht hW => ⟨⟨(-100001), Z0, rfl, ⟨(by first | omega | decide), (by rw [if_neg (by omega)]; exact hF_Z0)⟩, by rw [ht]; exact hP9, hD9⟩, hS.F ht⟩) hS.2.2 dX5_earn_22
    · skip
      have i_5 : 1 ≤ p2.toInt := by (try simp only [Int32.toInt_toInt64] at i_5); exact i_5
      have i_6 : 999 < p2.toInt := by (try simp only [Int32.toInt_toInt64] at i_6); exact i_6
      have hP : va_P g.1 vwCl [(h0, .inr (5, [.ref h1, .int f0, .ref h2, .int f1, .int f2, .ref h3, .ref h4, .ref h5, .ref h6, .int f3, .ref h7, .ref h8, .ref h9, .int f4, .ref h10, .ref h11, .ref h12, .ref h13, .ref h14, .ref h15, .ref h16, .ref h17, .ref h18, .ref h19, .ref h20, .ref h21, .ref h22])), (h1, .inl (zI g, 180, .inl Z0))] H := hP
      have hD : va_D A [(h0, .inr (5, [.ref h1, .int f0, .ref h2, .int f1, .int f2, .ref h3, .ref h4, .ref h5, .ref h6, .int f3, .ref h7, .ref h8, .ref h9, .int f4, .ref h10, .ref h11, .ref h12, .ref h13, .ref h14, .ref h15, .ref h16, .ref h17, .ref h18, .ref h19, .ref h20, .ref h21, .ref h22])), (h1, .inl (zI g, 180, .inl Z0))] := hD
      refine lv_if_ne (tgt := 23) hx hb dX5_earn_17 (by decide) (fun h => absurd h (by decide +kernel)) (fun _ => ?_)
      refine lv_ldc (v := (-100001)) hx hb hown (hts _ m_k_RX5_104) dX5_earn_20 ?_
      have : ((-100001) : Int32).toInt = (-100001) := rfl
      have hz : zAearn B.n B.P p1.toInt p2.toInt = (-100001) := by
        unfold zAearn
        rw [if_pos (by omega)]
      have hP9 := hP.sub (ws' := [(h0, .inr (5, [.ref h1, .int f0, .ref h2, .int f1, .int f2, .ref h3, .ref h4, .ref h5, .ref h6, .int f3, .ref h7, .ref h8, .ref h9, .int f4, .ref h10, .ref h11, .ref h12, .ref h13, .ref h14, .ref h15, .ref h16, .ref h17, .ref h18, .ref h19, .ref h20, .ref h21, .ref h22])), (h1, .inl (zI g, 180, .inl Z0))]) [0, 1] rfl
      have hD9 := hD.sub (ws' := [(h0, .inr (5, [.ref h1, .int f0, .ref h2, .int f1, .int f2, .ref h3, .ref h4, .ref h5, .ref h6, .int f3, .ref h7, .ref h8, .ref h9, .int f4, .ref h10, .ref h11, .ref h12, .ref h13, .ref h14, .ref h15, .ref h16, .ref h17, .ref h18, .ref h19, .ref h20, .ref h21, .ref h22])), (h1, .inl (zI g, 180, .inl Z0))]) [0, 1] (by decide) rfl
      exact W.iret (v := (-100001)) hx hb hr (fun t ht hW => ⟨⟨(-100001), Z0, rfl, ⟨(by first | omega | decide), (by rw [if_neg (by omega)]; exact hF_Z0)⟩, by rw [ht]; exact hP9, hD9⟩, hS.F ht⟩) hS.2.2 dX5_earn_22
    · skip
      have i_7 : 1 ≤ p2.toInt := by (try simp only [Int32.toInt_toInt64] at i_7); exact i_7
      have i_8 : p2.toInt ≤ 999 := by (try simp only [Int32.toInt_toInt64] at i_8); exact i_8
      have hP : va_P g.1 vwCl [(h0, .inr (5, [.ref h1, .int f0, .ref h2, .int f1, .int f2, .ref h3, .ref h4, .ref h5, .ref h6, .int f3, .ref h7, .ref h8, .ref h9, .int f4, .ref h10, .ref h11, .ref h12, .ref h13, .ref h14, .ref h15, .ref h16, .ref h17, .ref h18, .ref h19, .ref h20, .ref h21, .ref h22])), (h1, .inl (zI g, 180, .inl Z0))] H := hP
      have hD : va_D A [(h0, .inr (5, [.ref h1, .int f0, .ref h2, .int f1, .int f2, .ref h3, .ref h4, .ref h5, .ref h6, .int f3, .ref h7, .ref h8, .ref h9, .int f4, .ref h10, .ref h11, .ref h12, .ref h13, .ref h14, .ref h15, .ref h16, .ref h17, .ref h18, .ref h19, .ref h20, .ref h21, .ref h22])), (h1, .inl (zI g, 180, .inl Z0))] := hD
      refine lv_if_ne (tgt := 23) hx hb dX5_earn_17 (by decide) (fun _ => ?_) (fun h => absurd h (by decide +kernel))
      refine lv_aload_n hx hb dX5_earn_23 rfl (lv_at hl 0 rfl) ?_
      refine va_get (D := g.1) (ci := 5) (v := .ref h1) (C := RX5) (T := TX5) (N := 27) hx hb hts zl_X5 hown hK hP 0 rfl rfl 0 (by decide) (hts _ m_f_RX5_7) (fun _ h => h) rfl dX5_earn_24 ?_
      refine lv_bipush (v := 18) hx hb dX5_earn_27 (by decide) ?_
      refine lv_iload_n hx hb dX5_earn_29 rfl (lv_at hl 1 rfl) ?_
      refine lv_iadd hx hb dX5_earn_30 ?_
      refine lv_topi (fun y0 ey0 => ?_)
      have qy0_0 : y0.toInt = 18 + p1.toInt := zi_add ey0 (rfl) (rfl) (by omega) (by omega)
      refine va_iald (D := g.1) hx hb hK hP 1 0 rfl rfl (vp_in_iff.mpr ⟨by omega, by omega⟩) dX5_earn_31 ?_
      refine lv_topi (fun y1 ey1 => ?_)
      have qy1_0 : y1.toInt = (Z0 y0.toNatClampNeg).toInt := congrArg Int32.toInt ey1
      have py1_0 : y1.toInt = (B.P p1.toNatClampNeg).toInt := congrArg Int32.toInt (iW_P (i := y0) (a := p1.toInt) hF_Z0 (by omega) (by omega) (by omega) ey1)
      have py1_1 : y1.toInt = (B.P p1.toInt.toNat).toInt := congrArg Int32.toInt (iW_P (i := y0) (a := p1.toInt) hF_Z0 (by omega) (by omega) (by omega) ey1)
      have py1_2 : -99 ≤ y1.toInt := by have := i_at (N := 5) (lo := -99) (hi := 9999) (i := p1) (a := p1.toInt) hB.2.2.2.1 rfl (by omega) (by omega) rfl; omega
      have py1_3 : y1.toInt ≤ 9999 := by have := i_at (N := 5) (lo := -99) (hi := 9999) (i := p1) (a := p1.toInt) hB.2.2.2.1 rfl (by omega) (by omega) rfl; omega
      refine lv_iload_n hx hb dX5_earn_32 rfl (lv_at hl 2 rfl) ?_
      refine lv_iadd hx hb dX5_earn_33 ?_
      refine lv_topi (fun y2 ey2 => ?_)
      have qy2_0 : y2.toInt = y1.toInt + p2.toInt := zi_add ey2 (rfl) (rfl) (by omega) (by omega)
      refine lv_sipush (v := 9999) hx hb dX5_earn_34 (by decide) ?_
      refine lv_icmp_le (tgt := 43) hx hb dX5_earn_37 (by decide) (fun c_9 => ?_) (fun c_9 => ?_)
      · have i_9 : y2.toInt ≤ 9999 := z_le (rfl) (rfl) c_9
        refine lv_aload_n hx hb dX5_earn_43 rfl (lv_at hl 0 rfl) ?_
        refine va_get (D := g.1) (ci := 5) (v := .ref h1) (C := RX5) (T := TX5) (N := 27) hx hb hts zl_X5 hown hK hP 0 rfl rfl 0 (by decide) (hts _ m_f_RX5_7) (fun _ h => h) rfl dX5_earn_44 ?_
        refine lv_bipush (v := 18) hx hb dX5_earn_47 (by decide) ?_
        refine lv_iload_n hx hb dX5_earn_49 rfl (lv_at hl 1 rfl) ?_
        refine lv_iadd hx hb dX5_earn_50 ?_
        refine lv_topi (fun y3 ey3 => ?_)
        have qy3_0 : y3.toInt = 18 + p1.toInt := zi_add ey3 (rfl) (rfl) (by omega) (by omega)
        refine lv_dup2_11 hx hb dX5_earn_51 rfl rfl ?_
        refine va_iald (D := g.1) hx hb hK hP 1 0 rfl rfl (vp_in_iff.mpr ⟨by omega, by omega⟩) dX5_earn_52 ?_
        refine lv_topi (fun y4 ey4 => ?_)
        have qy4_0 : y4.toInt = (Z0 y3.toNatClampNeg).toInt := congrArg Int32.toInt ey4
        have py4_0 : y4.toInt = (B.P p1.toNatClampNeg).toInt := congrArg Int32.toInt (iW_P (i := y3) (a := p1.toInt) hF_Z0 (by omega) (by omega) (by omega) ey4)
        have py4_1 : y4.toInt = (B.P p1.toInt.toNat).toInt := congrArg Int32.toInt (iW_P (i := y3) (a := p1.toInt) hF_Z0 (by omega) (by omega) (by omega) ey4)
        have py4_2 : -99 ≤ y4.toInt := by have := i_at (N := 5) (lo := -99) (hi := 9999) (i := p1) (a := p1.toInt) hB.2.2.2.1 rfl (by omega) (by omega) rfl; omega
        have py4_3 : y4.toInt ≤ 9999 := by have := i_at (N := 5) (lo := -99) (hi := 9999) (i := p1) (a := p1.toInt) hB.2.2.2.1 rfl (by omega) (by omega) rfl; omega
        refine lv_iload_n hx hb dX5_earn_53 rfl (lv_at hl 2 rfl) ?_
        refine lv_iadd hx hb dX5_earn_54 ?_
        refine lv_topi (fun y5 ey5 => ?_)
        have qy5_0 : y5.toInt = y4.toInt + p2.toInt := zi_add ey5 (rfl) (rfl) (by omega) (by omega)
        refine va_iast (D := g.1) hx hb hK hP hD hS 1 0 rfl rfl (vp_in_iff.mpr ⟨by omega, by omega⟩) dX5_earn_55 (fun H locs hP hD hS => ?_)
        have hP : va_P g.1 vwCl [(h0, .inr (5, [.ref h1, .int f0, .ref h2, .int f1, .int f2, .ref h3, .ref h4, .ref h5, .ref h6, .int f3, .ref h7, .ref h8, .ref h9, .int f4, .ref h10, .ref h11, .ref h12, .ref h13, .ref h14, .ref h15, .ref h16, .ref h17, .ref h18, .ref h19, .ref h20, .ref h21, .ref h22])), (h1, .inl (zI g, 180, .inl (upd Z0 y3.toNatClampNeg y5)))] H := hP
        have hD : va_D A [(h0, .inr (5, [.ref h1, .int f0, .ref h2, .int f1, .int f2, .ref h3, .ref h4, .ref h5, .ref h6, .int f3, .ref h7, .ref h8, .ref h9, .int f4, .ref h10, .ref h11, .ref h12, .ref h13, .ref h14, .ref h15, .ref h16, .ref h17, .ref h18, .ref h19, .ref h20, .ref h21, .ref h22])), (h1, .inl (zI g, 180, .inl (upd Z0 y3.toNatClampNeg y5)))] := hD
        have hI6 : iW K (zBk.setP B (upd B.P p1.toNatClampNeg (B.P p1.toNatClampNeg + p2))) C (upd Z0 y3.toNatClampNeg y5) := (show B.P p1.toNatClampNeg + p2 = y5 from by rw [ey5, ← (show y4 = B.P p1.toNatClampNeg from iW_P (i := y3) (a := p1.toInt) hF_Z0 (by omega) (by omega) (by omega) ey4)]) ▸ iW_putP (i := y3) (a := p1.toInt) (v := y5) hF_Z0 (by omega) (by omega) (by omega)
        obtain ⟨R7, eR7⟩ : ∃ z : Nat → Int32, z = (upd Z0 y3.toNatClampNeg y5) := ⟨_, rfl⟩
        rw [← eR7] at hP hD hI6
        refine lv_aload_n hx hb dX5_earn_56 rfl (lv_at hl 0 rfl) ?_
        refine va_get (D := g.1) (ci := 5) (v := .ref h1) (C := RX5) (T := TX5) (N := 27) hx hb hts zl_X5 hown hK hP 0 rfl rfl 0 (by decide) (hts _ m_f_RX5_7) (fun _ h => h) rfl dX5_earn_57 ?_
        refine lv_bipush (v := 18) hx hb dX5_earn_60 (by decide) ?_
        refine lv_iload_n hx hb dX5_earn_62 rfl (lv_at hl 1 rfl) ?_
        refine lv_iadd hx hb dX5_earn_63 ?_
        refine lv_topi (fun y8 ey8 => ?_)
        have qy8_0 : y8.toInt = 18 + p1.toInt := zi_add ey8 (rfl) (rfl) (by omega) (by omega)
        refine va_iald (D := g.1) hx hb hK hP 1 0 rfl rfl (vp_in_iff.mpr ⟨by omega, by omega⟩) dX5_earn_64 ?_
        refine lv_topi (fun y9 ey9 => ?_)
        have qy9_0 : y9.toInt = (R7 y8.toNatClampNeg).toInt := congrArg Int32.toInt ey9
        have py9_0 : y9.toInt = y5.toInt := (congrArg Int32.toInt ey9).trans (by rw [eR7, upd_eq (show y8.toNatClampNeg = y3.toNatClampNeg from (show y8.toInt.toNat = y3.toInt.toNat from by omega))])
        have hz : zAearn B.n B.P p1.toInt p2.toInt = y9.toInt := by
          unfold zAearn
          rw [if_neg (by omega), if_neg (by omega)] <;> omega
        have hP9 := hP.sub (ws' := [(h0, .inr (5, [.ref h1, .int f0, .ref h2, .int f1, .int f2, .ref h3, .ref h4, .ref h5, .ref h6, .int f3, .ref h7, .ref h8, .ref h9, .int f4, .ref h10, .ref h11, .ref h12, .ref h13, .ref h14, .ref h15, .ref h16, .ref h17, .ref h18, .ref h19, .ref h20, .ref h21, .ref h22])), (h1, .inl (zI g, 180, .inl R7))]) [0, 1] rfl
        have hD9 := hD.sub (ws' := [(h0, .inr (5, [.ref h1, .int f0, .ref h2, .int f1, .int f2, .ref h3, .ref h4, .ref h5, .ref h6, .int f3, .ref h7, .ref h8, .ref h9, .int f4, .ref h10, .ref h11, .ref h12, .ref h13, .ref h14, .ref h15, .ref h16, .ref h17, .ref h18, .ref h19, .ref h20, .ref h21, .ref h22])), (h1, .inl (zI g, 180, .inl R7))]) [0, 1] (by decide) rfl
        exact W.iret (v := y9) hx hb hr (fun t ht hW => ⟨⟨y9, R7, rfl, ⟨(by first | omega | decide), (by rw [if_pos (by omega)]; exact hI6)⟩, by rw [ht]; exact hP9, hD9⟩, hS.F ht⟩) hS.2.2 dX5_earn_65
      · have i_9 : 9999 < y2.toInt := z_nle (rfl) (rfl) c_9
        refine lv_ldc (v := (-100003)) hx hb hown (hts _ m_k_RX5_105) dX5_earn_40 ?_
        have : ((-100003) : Int32).toInt = (-100003) := rfl
        have hz : zAearn B.n B.P p1.toInt p2.toInt = (-100003) := by
          unfold zAearn
          rw [if_neg (by omega), if_pos (by omega)]
        have hP9 := hP.sub (ws' := [(h0, .inr (5, [.ref h1, .int f0, .ref h2, .int f1, .int f2, .ref h3, .ref h4, .ref h5, .ref h6, .int f3, .ref h7, .ref h8, .ref h9, .int f4, .ref h10, .ref h11, .ref h12, .ref h13, .ref h14, .ref h15, .ref h16, .ref h17, .ref h18, .ref h19, .ref h20, .ref h21, .ref h22])), (h1, .inl (zI g, 180, .inl Z0))]) [0, 1] rfl
        have hD9 := hD.sub (ws' := [(h0, .inr (5, [.ref h1, .int f0, .ref h2, .int f1, .int f2, .ref h3, .ref h4, .ref h5, .ref h6, .int f3, .ref h7, .ref h8, .ref h9, .int f4, .ref h10, .ref h11, .ref h12, .ref h13, .ref h14, .ref h15, .ref h16, .ref h17, .ref h18, .ref h19, .ref h20, .ref h21, .ref h22])), (h1, .inl (zI g, 180, .inl Z0))]) [0, 1] (by decide) rfl
        exact W.iret (v := (-100003)) hx hb hr (fun t ht hW => ⟨⟨(-100003), Z0, rfl, ⟨(by first | omega | decide), (by rw [if_neg (by omega)]; exact hF_Z0)⟩, by rw [ht]; exact hP9, hD9⟩, hS.F ht⟩) hS.2.2 dX5_earn_42
  · skip
    have i_3 : (p1.toInt < 0 ∨ B.n ≤ p1.toInt) := i_3
    have hP : va_P g.1 vwCl [(h0, .inr (5, [.ref h1, .int f0, .ref h2, .int f1, .int f2, .ref h3, .ref h4, .ref h5, .ref h6, .int f3, .ref h7, .ref h8, .ref h9, .int f4, .ref h10, .ref h11, .ref h12, .ref h13, .ref h14, .ref h15, .ref h16, .ref h17, .ref h18, .ref h19, .ref h20, .ref h21, .ref h22])), (h1, .inl (zI g, 180, .inl Z0))] H := hP
    have hD : va_D A [(h0, .inr (5, [.ref h1, .int f0, .ref h2, .int f1, .int f2, .ref h3, .ref h4, .ref h5, .ref h6, .int f3, .ref h7, .ref h8, .ref h9, .int f4, .ref h10, .ref h11, .ref h12, .ref h13, .ref h14, .ref h15, .ref h16, .ref h17, .ref h18, .ref h19, .ref h20, .ref h21, .ref h22])), (h1, .inl (zI g, 180, .inl Z0))] := hD
    refine lv_if_eq (tgt := 20) hx hb dX5_earn_5 (by decide) (fun _ => ?_) (fun h => absurd h (by decide +kernel))
    refine lv_ldc (v := (-100001)) hx hb hown (hts _ m_k_RX5_104) dX5_earn_20 ?_
    have : ((-100001) : Int32).toInt = (-100001) := rfl
    have hz : zAearn B.n B.P p1.toInt p2.toInt = (-100001) := by
      unfold zAearn
      rw [if_pos (by omega)]
    have hP9 := hP.sub (ws' := [(h0, .inr (5, [.ref h1, .int f0, .ref h2, .int f1, .int f2, .ref h3, .ref h4, .ref h5, .ref h6, .int f3, .ref h7, .ref h8, .ref h9, .int f4, .ref h10, .ref h11, .ref h12, .ref h13, .ref h14, .ref h15, .ref h16, .ref h17, .ref h18, .ref h19, .ref h20, .ref h21, .ref h22])), (h1, .inl (zI g, 180, .inl Z0))]) [0, 1] rfl
    have hD9 := hD.sub (ws' := [(h0, .inr (5, [.ref h1, .int f0, .ref h2, .int f1, .int f2, .ref h3, .ref h4, .ref h5, .ref h6, .int f3, .ref h7, .ref h8, .ref h9, .int f4, .ref h10, .ref h11, .ref h12, .ref h13, .ref h14, .ref h15, .ref h16, .ref h17, .ref h18, .ref h19, .ref h20, .ref h21, .ref h22])), (h1, .inl (zI g, 180, .inl Z0))]) [0, 1] (by decide) rfl
    exact W.iret (v := (-100001)) hx hb hr (fun t ht hW => ⟨⟨(-100001), Z0, rfl, ⟨(by first | omega | decide), (by rw [if_neg (by omega)]; exact hF_Z0)⟩, by rw [ht]; exact hP9, hD9⟩, hS.F ht⟩) hS.2.2 dX5_earn_22
set_option maxHeartbeats 8000000 in
set_option maxRecDepth 100000 in
theorem gX5_type (l : Launch) (g : zG) (h0 h1 h2 h3 h4 h5 h6 h7 h8 h9 h10 h11 h12 h13 h14 h15 h16 h17 h18 h19 h20 h21 h22 : Nat) (sz : Nat) (p1 : Int64) (p2 : Int32) (f0 : Int32) (f1 : Int32) (f2 : Int32) (f3 : Int32) (f4 : Int32) (Z1 : Nat → Int32) (hf_f1 : 0 ≤ f1.toInt ∧ f1.toInt ≤ 60) (hf_f2 : 0 ≤ f2.toInt ∧ f2.toInt ≤ 60) (hf_f3 : 0 ≤ f3.toInt ∧ f3.toInt ≤ 31) (hf_f4 : 0 ≤ f4.toInt ∧ f4.toInt ≤ 1000) : Met l yX5_type (.code yX5_type cX5_type 5 (some .int) :: zBig) ({ frames := 1, cells := 0, slots := 0, locals := 25 }) (va_Pc [.ref h0, .long p1, .int p2] (zPre g [(h0, .inr (5, [.ref h1, .int f0, .ref h2, .int f1, .int f2, .ref h3, .ref h4, .ref h5, .ref h6, .int f3, .ref h7, .ref h8, .ref h9, .int f4, .ref h10, .ref h11, .ref h12, .ref h13, .ref h14, .ref h15, .ref h16, .ref h17, .ref h18, .ref h19, .ref h20, .ref h21, .ref h22])), (h2, .inl (zI g, 60, .inl Z1))] sz)) (va_Qi (fun (r : Int32) (u : Int32 × (Nat → Int32)) => (r.toInt = zTR p1 p2.toInt f1.toInt ∧ u.1.toInt = zTL p1 p2.toInt f1.toInt) ∧ (0 ≤ u.1.toInt ∧ u.1.toInt ≤ 60) ∧ zTy p1 p2.toInt f1.toInt u.1.toInt Z1 u.2) (zPost g (fun u : Int32 × (Nat → Int32) => [(h0, .inr (5, [.ref h1, .int f0, .ref h2, .int u.1, .int f2, .ref h3, .ref h4, .ref h5, .ref h6, .int f3, .ref h7, .ref h8, .ref h9, .int f4, .ref h10, .ref h11, .ref h12, .ref h13, .ref h14, .ref h15, .ref h16, .ref h17, .ref h18, .ref h19, .ref h20, .ref h21, .ref h22])), (h2, .inl (zI g, 60, .inl u.2))]) (va_A [(h0, .inr (5, [.ref h1, .int f0, .ref h2, .int f1, .int f2, .ref h3, .ref h4, .ref h5, .ref h6, .int f3, .ref h7, .ref h8, .ref h9, .int f4, .ref h10, .ref h11, .ref h12, .ref h13, .ref h14, .ref h15, .ref h16, .ref h17, .ref h18, .ref h19, .ref h20, .ref h21, .ref h22])), (h2, .inl (zI g, 60, .inl Z1))] sz)) (va_A [(h0, .inr (5, [.ref h1, .int f0, .ref h2, .int f1, .int f2, .ref h3, .ref h4, .ref h5, .ref h6, .int f3, .ref h7, .ref h8, .ref h9, .int f4, .ref h10, .ref h11, .ref h12, .ref h13, .ref h14, .ref h15, .ref h16, .ref h17, .ref h18, .ref h19, .ref h20, .ref h21, .ref h22])), (h2, .inl (zI g, 60, .inl Z1))] sz)) 0 0 (va_A [(h0, .inr (5, [.ref h1, .int f0, .ref h2, .int f1, .int f2, .ref h3, .ref h4, .ref h5, .ref h6, .int f3, .ref h7, .ref h8, .ref h9, .int f4, .ref h10, .ref h11, .ref h12, .ref h13, .ref h14, .ref h15, .ref h16, .ref h17, .ref h18, .ref h19, .ref h20, .ref h21, .ref h22])), (h2, .inl (zI g, 60, .inl Z1))] sz) := by
  refine zMetI rfl (Nat.le_of_ble_eq_true rfl) ?_
  intro p e s m args below meth c A ls hx hb hml hr hlocks hin hown hts hK hN hZ hP hD hA hS hAe hl
  have hown : s.vm.findClass RX5 = some m.cls := hown
  have hl : lv_has ls 5 [(0, .ref h0), (1, .long p1), (3, .int p2)] := hl
  have hz01 := zOK_01 p1 p2.toInt
  have hty0 : zTy p1 p2.toInt f1.toInt f1.toInt Z1 Z1 := zTy_0
  refine lv_iload_n hx hb dX5_type_0 rfl (lv_at hl 2 rfl) ?_
  refine lv_i2l (v := p2.toInt64) hx hb dX5_type_1 rfl ?_
  refine lv_lconst (v := 1) hx hb dX5_type_2 (by decide) ?_
  refine lv_ldc2 (v := 8) hx hb hown (hts _ m_k_RX5_106) dX5_type_3 ?_
  refine z_calli (wr := [(h0, .inr (5, [.ref h1, .int f0, .ref h2, .int f1, .int f2, .ref h3, .ref h4, .ref h5, .ref h6, .int f3, .ref h7, .ref h8, .ref h9, .int f4, .ref h10, .ref h11, .ref h12, .ref h13, .ref h14, .ref h15, .ref h16, .ref h17, .ref h18, .ref h19, .ref h20, .ref h21, .ref h22])), (h2, .inl (zI g, 60, .inl Z1))]) hP hD hS hA [] [0, 1] (by decide) rfl rfl (by decide) (va_runS (As := [.long p2.toInt64, .long 1, .long 8]) (rest := []) ⟨hx, hb, hml, hown, hts⟩ (gX5_in l g  s.heap.size p2.toInt64 (1 : Int64) (8 : Int64)) ⟨callB_of 3 hts (zGood m_o_yX5_in) rfl rfl rfl (hts _ m_z_RX5) (hts _ m_m_RX5_77) ⟨by decide +kernel, by decide +kernel, by decide +kernel⟩ ⟨Nat.le_of_ble_eq_true rfl, Nat.le_of_ble_eq_true rfl⟩, hts _ m_s_yX5_in⟩ (zPreS hK hN hZ hP hD hS hA [] (by decide) rfl rfl) rfl rfl hl.1 rfl (lv_room (Nat.le_of_ble_eq_true rfl)) dX5_type_6 ⟨Nat.le_of_ble_eq_true rfl, Nat.le_of_ble_eq_true rfl⟩) (fun r u H locs hw hP hD hS => ?_)
  rcases hw with ⟨i_0, rfl⟩ | ⟨i_1, i_2, rfl⟩ | ⟨i_3, i_4, rfl⟩
  · skip
    have i_0 : p2.toInt < 1 := by (try simp only [Int32.toInt_toInt64] at i_0); exact i_0
    have hP : va_P g.1 vwCl [(h0, .inr (5, [.ref h1, .int f0, .ref h2, .int f1, .int f2, .ref h3, .ref h4, .ref h5, .ref h6, .int f3, .ref h7, .ref h8, .ref h9, .int f4, .ref h10, .ref h11, .ref h12, .ref h13, .ref h14, .ref h15, .ref h16, .ref h17, .ref h18, .ref h19, .ref h20, .ref h21, .ref h22])), (h2, .inl (zI g, 60, .inl Z1))] H := hP
    have hD : va_D A [(h0, .inr (5, [.ref h1, .int f0, .ref h2, .int f1, .int f2, .ref h3, .ref h4, .ref h5, .ref h6, .int f3, .ref h7, .ref h8, .ref h9, .int f4, .ref h10, .ref h11, .ref h12, .ref h13, .ref h14, .ref h15, .ref h16, .ref h17, .ref h18, .ref h19, .ref h20, .ref h21, .ref h22])), (h2, .inl (zI g, 60, .inl Z1))] := hD
    refine lv_if_ne (tgt := 14) hx hb dX5_type_9 (by decide) (fun h => absurd h (by decide +kernel)) (fun _ => ?_)
    refine lv_iconst (v := (-1)) hx hb dX5_type_12 (by decide) ?_
    have hzR : zTR p1 p2.toInt f1.toInt = (-1) := by unfold zTR; first | rw [if_pos (by omega)] | rw [if_neg (by omega), if_pos (by omega)] | (rw [if_neg (by omega), if_neg (by omega)]; omega)
    have hzL : zTL p1 p2.toInt f1.toInt = f1.toInt := by unfold zTL; first | (rw [if_pos (by omega)]; omega) | rw [if_neg (by omega)]
    have : ((-1) : Int32).toInt = (-1) := rfl
    have hP9 := hP.sub (ws' := [(h0, .inr (5, [.ref h1, .int f0, .ref h2, .int f1, .int f2, .ref h3, .ref h4, .ref h5, .ref h6, .int f3, .ref h7, .ref h8, .ref h9, .int f4, .ref h10, .ref h11, .ref h12, .ref h13, .ref h14, .ref h15, .ref h16, .ref h17, .ref h18, .ref h19, .ref h20, .ref h21, .ref h22])), (h2, .inl (zI g, 60, .inl Z1))]) [0, 1] rfl
    have hD9 := hD.sub (ws' := [(h0, .inr (5, [.ref h1, .int f0, .ref h2, .int f1, .int f2, .ref h3, .ref h4, .ref h5, .ref h6, .int f3, .ref h7, .ref h8, .ref h9, .int f4, .ref h10, .ref h11, .ref h12, .ref h13, .ref h14, .ref h15, .ref h16, .ref h17, .ref h18, .ref h19, .ref h20, .ref h21, .ref h22])), (h2, .inl (zI g, 60, .inl Z1))]) [0, 1] (by decide) rfl
    exact W.iret (v := (-1)) hx hb hr (fun t ht hW => ⟨⟨(-1), ⟨f1, Z1⟩, rfl, ⟨⟨(by first | omega | decide), (show f1.toInt = zTL p1 p2.toInt f1.toInt from by first | omega | decide)⟩, ⟨show 0 ≤ f1.toInt from by omega, show f1.toInt ≤ 60 from by omega⟩, hty0⟩, by rw [ht]; exact hP9, hD9⟩, hS.F ht⟩) hS.2.2 dX5_type_13
  · skip
    have i_1 : 1 ≤ p2.toInt := by (try simp only [Int32.toInt_toInt64] at i_1); exact i_1
    have i_2 : 8 < p2.toInt := by (try simp only [Int32.toInt_toInt64] at i_2); exact i_2
    have hP : va_P g.1 vwCl [(h0, .inr (5, [.ref h1, .int f0, .ref h2, .int f1, .int f2, .ref h3, .ref h4, .ref h5, .ref h6, .int f3, .ref h7, .ref h8, .ref h9, .int f4, .ref h10, .ref h11, .ref h12, .ref h13, .ref h14, .ref h15, .ref h16, .ref h17, .ref h18, .ref h19, .ref h20, .ref h21, .ref h22])), (h2, .inl (zI g, 60, .inl Z1))] H := hP
    have hD : va_D A [(h0, .inr (5, [.ref h1, .int f0, .ref h2, .int f1, .int f2, .ref h3, .ref h4, .ref h5, .ref h6, .int f3, .ref h7, .ref h8, .ref h9, .int f4, .ref h10, .ref h11, .ref h12, .ref h13, .ref h14, .ref h15, .ref h16, .ref h17, .ref h18, .ref h19, .ref h20, .ref h21, .ref h22])), (h2, .inl (zI g, 60, .inl Z1))] := hD
    refine lv_if_ne (tgt := 14) hx hb dX5_type_9 (by decide) (fun h => absurd h (by decide +kernel)) (fun _ => ?_)
    refine lv_iconst (v := (-1)) hx hb dX5_type_12 (by decide) ?_
    have hzR : zTR p1 p2.toInt f1.toInt = (-1) := by unfold zTR; first | rw [if_pos (by omega)] | rw [if_neg (by omega), if_pos (by omega)] | (rw [if_neg (by omega), if_neg (by omega)]; omega)
    have hzL : zTL p1 p2.toInt f1.toInt = f1.toInt := by unfold zTL; first | (rw [if_pos (by omega)]; omega) | rw [if_neg (by omega)]
    have : ((-1) : Int32).toInt = (-1) := rfl
    have hP9 := hP.sub (ws' := [(h0, .inr (5, [.ref h1, .int f0, .ref h2, .int f1, .int f2, .ref h3, .ref h4, .ref h5, .ref h6, .int f3, .ref h7, .ref h8, .ref h9, .int f4, .ref h10, .ref h11, .ref h12, .ref h13, .ref h14, .ref h15, .ref h16, .ref h17, .ref h18, .ref h19, .ref h20, .ref h21, .ref h22])), (h2, .inl (zI g, 60, .inl Z1))]) [0, 1] rfl
    have hD9 := hD.sub (ws' := [(h0, .inr (5, [.ref h1, .int f0, .ref h2, .int f1, .int f2, .ref h3, .ref h4, .ref h5, .ref h6, .int f3, .ref h7, .ref h8, .ref h9, .int f4, .ref h10, .ref h11, .ref h12, .ref h13, .ref h14, .ref h15, .ref h16, .ref h17, .ref h18, .ref h19, .ref h20, .ref h21, .ref h22])), (h2, .inl (zI g, 60, .inl Z1))]) [0, 1] (by decide) rfl
    exact W.iret (v := (-1)) hx hb hr (fun t ht hW => ⟨⟨(-1), ⟨f1, Z1⟩, rfl, ⟨⟨(by first | omega | decide), (show f1.toInt = zTL p1 p2.toInt f1.toInt from by first | omega | decide)⟩, ⟨show 0 ≤ f1.toInt from by omega, show f1.toInt ≤ 60 from by omega⟩, hty0⟩, by rw [ht]; exact hP9, hD9⟩, hS.F ht⟩) hS.2.2 dX5_type_13
  · skip
    have i_3 : 1 ≤ p2.toInt := by (try simp only [Int32.toInt_toInt64] at i_3); exact i_3
    have i_4 : p2.toInt ≤ 8 := by (try simp only [Int32.toInt_toInt64] at i_4); exact i_4
    have hP : va_P g.1 vwCl [(h0, .inr (5, [.ref h1, .int f0, .ref h2, .int f1, .int f2, .ref h3, .ref h4, .ref h5, .ref h6, .int f3, .ref h7, .ref h8, .ref h9, .int f4, .ref h10, .ref h11, .ref h12, .ref h13, .ref h14, .ref h15, .ref h16, .ref h17, .ref h18, .ref h19, .ref h20, .ref h21, .ref h22])), (h2, .inl (zI g, 60, .inl Z1))] H := hP
    have hD : va_D A [(h0, .inr (5, [.ref h1, .int f0, .ref h2, .int f1, .int f2, .ref h3, .ref h4, .ref h5, .ref h6, .int f3, .ref h7, .ref h8, .ref h9, .int f4, .ref h10, .ref h11, .ref h12, .ref h13, .ref h14, .ref h15, .ref h16, .ref h17, .ref h18, .ref h19, .ref h20, .ref h21, .ref h22])), (h2, .inl (zI g, 60, .inl Z1))] := hD
    refine lv_if_ne (tgt := 14) hx hb dX5_type_9 (by decide) (fun _ => ?_) (fun h => absurd h (by decide +kernel))
    have hz0 : zOK p1 (0 : Int32).toInt = 1 := zOK_0 p1
    refine lv_iconst (v := 0) hx hb dX5_type_14 (by decide) ?_
    refine lv_istore (lv' := [(4, .int 0), (0, .ref h0), (1, .long p1), (3, .int p2)]) hx hb dX5_type_15 hl (by decide) rfl (fun ls hl => ?_)
    have loop17_5 : ∀ (n6 : Nat) (v4_5 : Int32) (n6_0 : 0 ≤ v4_5.toInt) (n6_1 : v4_5.toInt ≤ p2.toInt) (n6_2 : zOK p1 v4_5.toInt = 1) (hm6 : p2.toInt - v4_5.toInt < (n6 : Int)) (H : Heap) (locs : List Loc), va_P g.1 vwCl [(h0, .inr (5, [.ref h1, .int f0, .ref h2, .int f1, .int f2, .ref h3, .ref h4, .ref h5, .ref h6, .int f3, .ref h7, .ref h8, .ref h9, .int f4, .ref h10, .ref h11, .ref h12, .ref h13, .ref h14, .ref h15, .ref h16, .ref h17, .ref h18, .ref h19, .ref h20, .ref h21, .ref h22])), (h2, .inl (zI g, 60, .inl Z1))] H → va_D A [(h0, .inr (5, [.ref h1, .int f0, .ref h2, .int f1, .int f2, .ref h3, .ref h4, .ref h5, .ref h6, .int f3, .ref h7, .ref h8, .ref h9, .int f4, .ref h10, .ref h11, .ref h12, .ref h13, .ref h14, .ref h15, .ref h16, .ref h17, .ref h18, .ref h19, .ref h20, .ref h21, .ref h22])), (h2, .inl (zI g, 60, .inl Z1))] → va_S A s.heap H locs → ∀ (ls : Array Slot), lv_has ls 5 [(0, .ref h0), (1, .long p1), (3, .int p2), (4, .int v4_5)] → W p l e ({ frames := 1, cells := 0, slots := 0, locals := 25 }) s m args below meth c H locs 0 0 (MQ below (va_Qi (fun (r : Int32) (u : Int32 × (Nat → Int32)) => (r.toInt = zTR p1 p2.toInt f1.toInt ∧ u.1.toInt = zTL p1 p2.toInt f1.toInt) ∧ (0 ≤ u.1.toInt ∧ u.1.toInt ≤ 60) ∧ zTy p1 p2.toInt f1.toInt u.1.toInt Z1 u.2) (zPost g (fun u : Int32 × (Nat → Int32) => [(h0, .inr (5, [.ref h1, .int f0, .ref h2, .int u.1, .int f2, .ref h3, .ref h4, .ref h5, .ref h6, .int f3, .ref h7, .ref h8, .ref h9, .int f4, .ref h10, .ref h11, .ref h12, .ref h13, .ref h14, .ref h15, .ref h16, .ref h17, .ref h18, .ref h19, .ref h20, .ref h21, .ref h22])), (h2, .inl (zI g, 60, .inl u.2))]) A) A) args s 0 0 A) (F0 m 17 ls []) := by
      intro n6
      induction n6 with
      | zero => intro v4_5 n6_0 n6_1 n6_2 hm6; exfalso; omega
      | succ n6 ih6 =>
        intro v4_5 n6_0 n6_1 n6_2 hm6 H locs hP hD hS ls hl
        refine lv_iload hx hb dX5_type_17 (lv_at hl 3 rfl) ?_
        refine lv_iload_n hx hb dX5_type_19 rfl (lv_at hl 2 rfl) ?_
        refine lv_icmp_ge (tgt := 54) hx hb dX5_type_20 (by decide) (fun c_6 => ?_) (fun c_6 => ?_)
        · have i_6 : p2.toInt ≤ v4_5.toInt := z_le (rfl) (rfl) c_6
          have hze : p2.toInt = v4_5.toInt := by omega
          have hzn : zOK p1 p2.toInt = 1 := by rw [hze]; assumption
          refine lv_aload_n hx hb dX5_type_54 rfl (lv_at hl 0 rfl) ?_
          refine va_get (D := g.1) (ci := 5) (v := .int f1) (C := RX5) (T := TX5) (N := 27) hx hb hts zl_X5 hown hK hP 0 rfl rfl 3 (by decide) (hts _ m_f_RX5_114) (fun _ h => h) rfl dX5_type_55 ?_
          refine lv_iload_n hx hb dX5_type_58 rfl (lv_at hl 2 rfl) ?_
          refine lv_iadd hx hb dX5_type_59 ?_
          refine lv_topi (fun y0 ey0 => ?_)
          have qy0_0 : y0.toInt = f1.toInt + p2.toInt := zi_add ey0 (rfl) (rfl) (by omega) (by omega)
          refine lv_bipush (v := 60) hx hb dX5_type_60 (by decide) ?_
          refine lv_icmp_le (tgt := 68) hx hb dX5_type_62 (by decide) (fun c_7 => ?_) (fun c_7 => ?_)
          · have i_7 : y0.toInt ≤ 60 := z_le (rfl) (rfl) c_7
            refine lv_iload_n hx hb dX5_type_68 rfl (lv_at hl 2 rfl) ?_
            refine lv_iconst (v := 1) hx hb dX5_type_69 (by decide) ?_
            refine lv_isub hx hb dX5_type_70 ?_
            refine lv_topi (fun y1 ey1 => ?_)
            have qy1_0 : y1.toInt = p2.toInt - 1 := zi_sub ey1 (rfl) (rfl) (by omega) (by omega)
            refine lv_istore (lv' := [(4, .int y1), (0, .ref h0), (1, .long p1), (3, .int p2)]) hx hb dX5_type_71 hl (by decide) rfl (fun ls hl => ?_)
            have loop73_8 : ∀ (n9 : Nat) (v4_8 : Int32) (g0_8 : Int32) (G1_8 : Nat → Int32) (hg0_8a : 0 ≤ g0_8.toInt) (hg0_8b : g0_8.toInt ≤ 60) (hG1_8 : zTy p1 p2.toInt f1.toInt g0_8.toInt Z1 G1_8) (n9_0 : -1 ≤ v4_8.toInt) (n9_1 : v4_8.toInt ≤ 7) (n9_2 : g0_8.toInt + v4_8.toInt + 1 ≤ 60) (n9_3 : g0_8.toInt + v4_8.toInt + 1 = f1.toInt + p2.toInt) (n9_4 : f1.toInt ≤ g0_8.toInt) (hm9 : v4_8.toInt + 1 < (n9 : Int)) (H : Heap) (locs : List Loc), va_P g.1 vwCl [(h0, .inr (5, [.ref h1, .int f0, .ref h2, .int g0_8, .int f2, .ref h3, .ref h4, .ref h5, .ref h6, .int f3, .ref h7, .ref h8, .ref h9, .int f4, .ref h10, .ref h11, .ref h12, .ref h13, .ref h14, .ref h15, .ref h16, .ref h17, .ref h18, .ref h19, .ref h20, .ref h21, .ref h22])), (h2, .inl (zI g, 60, .inl G1_8))] H → va_D A [(h0, .inr (5, [.ref h1, .int f0, .ref h2, .int g0_8, .int f2, .ref h3, .ref h4, .ref h5, .ref h6, .int f3, .ref h7, .ref h8, .ref h9, .int f4, .ref h10, .ref h11, .ref h12, .ref h13, .ref h14, .ref h15, .ref h16, .ref h17, .ref h18, .ref h19, .ref h20, .ref h21, .ref h22])), (h2, .inl (zI g, 60, .inl G1_8))] → va_S A s.heap H locs → ∀ (ls : Array Slot), lv_has ls 5 [(0, .ref h0), (1, .long p1), (3, .int p2), (4, .int v4_8)] → W p l e ({ frames := 1, cells := 0, slots := 0, locals := 25 }) s m args below meth c H locs 0 0 (MQ below (va_Qi (fun (r : Int32) (u : Int32 × (Nat → Int32)) => (r.toInt = zTR p1 p2.toInt f1.toInt ∧ u.1.toInt = zTL p1 p2.toInt f1.toInt) ∧ (0 ≤ u.1.toInt ∧ u.1.toInt ≤ 60) ∧ zTy p1 p2.toInt f1.toInt u.1.toInt Z1 u.2) (zPost g (fun u : Int32 × (Nat → Int32) => [(h0, .inr (5, [.ref h1, .int f0, .ref h2, .int u.1, .int f2, .ref h3, .ref h4, .ref h5, .ref h6, .int f3, .ref h7, .ref h8, .ref h9, .int f4, .ref h10, .ref h11, .ref h12, .ref h13, .ref h14, .ref h15, .ref h16, .ref h17, .ref h18, .ref h19, .ref h20, .ref h21, .ref h22])), (h2, .inl (zI g, 60, .inl u.2))]) A) A) args s 0 0 A) (F0 m 73 ls []) := by
              intro n9
              induction n9 with
              | zero => intro v4_8 g0_8 G1_8 hg0_8a hg0_8b hG1_8 n9_0 n9_1 n9_2 n9_3 n9_4 hm9; exfalso; omega
              | succ n9 ih9 =>
                intro v4_8 g0_8 G1_8 hg0_8a hg0_8b hG1_8 n9_0 n9_1 n9_2 n9_3 n9_4 hm9 H locs hP hD hS ls hl
                refine lv_iload hx hb dX5_type_73 (lv_at hl 3 rfl) ?_
                refine lv_if_lt (tgt := 115) hx hb dX5_type_75 (by decide) (fun c_9 => ?_) (fun c_9 => ?_)
                · have i_9 : v4_8.toInt < 0 := z_lt (rfl) (rfl) c_9
                  refine lv_aload_n hx hb dX5_type_115 rfl (lv_at hl 0 rfl) ?_
                  refine va_get (D := g.1) (ci := 5) (v := .int g0_8) (C := RX5) (T := TX5) (N := 27) hx hb hts zl_X5 hown hK hP 0 rfl rfl 3 (by decide) (hts _ m_f_RX5_114) (fun _ h => h) rfl dX5_type_116 ?_
                  have hzR : zTR p1 p2.toInt f1.toInt = g0_8.toInt := by unfold zTR; first | rw [if_pos (by omega)] | rw [if_neg (by omega), if_pos (by omega)] | (rw [if_neg (by omega), if_neg (by omega)]; omega)
                  have hzL : zTL p1 p2.toInt f1.toInt = g0_8.toInt := by unfold zTL; first | (rw [if_pos (by omega)]; omega) | rw [if_neg (by omega)]
                  have hP9 := hP.sub (ws' := [(h0, .inr (5, [.ref h1, .int f0, .ref h2, .int g0_8, .int f2, .ref h3, .ref h4, .ref h5, .ref h6, .int f3, .ref h7, .ref h8, .ref h9, .int f4, .ref h10, .ref h11, .ref h12, .ref h13, .ref h14, .ref h15, .ref h16, .ref h17, .ref h18, .ref h19, .ref h20, .ref h21, .ref h22])), (h2, .inl (zI g, 60, .inl G1_8))]) [0, 1] rfl
                  have hD9 := hD.sub (ws' := [(h0, .inr (5, [.ref h1, .int f0, .ref h2, .int g0_8, .int f2, .ref h3, .ref h4, .ref h5, .ref h6, .int f3, .ref h7, .ref h8, .ref h9, .int f4, .ref h10, .ref h11, .ref h12, .ref h13, .ref h14, .ref h15, .ref h16, .ref h17, .ref h18, .ref h19, .ref h20, .ref h21, .ref h22])), (h2, .inl (zI g, 60, .inl G1_8))]) [0, 1] (by decide) rfl
                  exact W.iret (v := g0_8) hx hb hr (fun t ht hW => ⟨⟨g0_8, ⟨g0_8, G1_8⟩, rfl, ⟨⟨(by first | omega | decide), (show g0_8.toInt = zTL p1 p2.toInt f1.toInt from by first | omega | decide)⟩, ⟨show 0 ≤ g0_8.toInt from by omega, show g0_8.toInt ≤ 60 from by omega⟩, hG1_8⟩, by rw [ht]; exact hP9, hD9⟩, hS.F ht⟩) hS.2.2 dX5_type_119
                · have i_9 : 0 ≤ v4_8.toInt := z_nlt (rfl) (rfl) c_9
                  refine lv_aload_n hx hb dX5_type_78 rfl (lv_at hl 0 rfl) ?_
                  refine va_get (D := g.1) (ci := 5) (v := .ref h2) (C := RX5) (T := TX5) (N := 27) hx hb hts zl_X5 hown hK hP 0 rfl rfl 2 (by decide) (hts _ m_f_RX5_13) (fun _ h => h) rfl dX5_type_79 ?_
                  refine lv_aload_n hx hb dX5_type_82 rfl (lv_at hl 0 rfl) ?_
                  refine va_get (D := g.1) (ci := 5) (v := .int g0_8) (C := RX5) (T := TX5) (N := 27) hx hb hts zl_X5 hown hK hP 0 rfl rfl 3 (by decide) (hts _ m_f_RX5_114) (fun _ h => h) rfl dX5_type_83 ?_
                  refine lv_lload_n hx hb dX5_type_86 rfl (lv_at hl 1 rfl) ?_
                  refine lv_bipush (v := 8) hx hb dX5_type_87 (by decide) ?_
                  refine lv_iload hx hb dX5_type_89 (lv_at hl 3 rfl) ?_
                  refine lv_imul hx hb dX5_type_91 ?_
                  refine lv_topi (fun y2 ey2 => ?_)
                  have qy2_0 : y2.toInt = 8 * v4_8.toInt := zi_mul ey2 (rfl) (rfl) (by omega) (by omega)
                  refine lv_lshr (v := (p1 >>> (y2.toInt64 &&& 63))) hx hb dX5_type_92 rfl ?_
                  refine lv_ldc2 (v := 255) hx hb hown (hts _ m_k_RX5_108) dX5_type_93 ?_
                  refine lv_land hx hb dX5_type_96 ?_
                  have hb2 : (((p1 >>> (y2.toInt64 &&& 63)) &&& 255).toInt32).toInt = zbI p1 (f1.toInt + p2.toInt - 1 - g0_8.toInt) := (z_b255 _).trans (by rw [show f1.toInt + p2.toInt - 1 - g0_8.toInt = v4_8.toInt by omega, zbI_eq, ey2]; rfl)
                  refine lv_l2i (v := ((p1 >>> (y2.toInt64 &&& 63)) &&& 255).toInt32) hx hb dX5_type_97 rfl ?_
                  refine va_iast (D := g.1) hx hb hK hP hD hS 1 0 rfl rfl (vp_in_iff.mpr ⟨by omega, by omega⟩) dX5_type_98 (fun H locs hP hD hS => ?_)
                  have hP : va_P g.1 vwCl [(h0, .inr (5, [.ref h1, .int f0, .ref h2, .int g0_8, .int f2, .ref h3, .ref h4, .ref h5, .ref h6, .int f3, .ref h7, .ref h8, .ref h9, .int f4, .ref h10, .ref h11, .ref h12, .ref h13, .ref h14, .ref h15, .ref h16, .ref h17, .ref h18, .ref h19, .ref h20, .ref h21, .ref h22])), (h2, .inl (zI g, 60, .inl (upd G1_8 g0_8.toNatClampNeg (((p1 >>> (y2.toInt64 &&& 63)) &&& 255).toInt32))))] H := hP
                  have hD : va_D A [(h0, .inr (5, [.ref h1, .int f0, .ref h2, .int g0_8, .int f2, .ref h3, .ref h4, .ref h5, .ref h6, .int f3, .ref h7, .ref h8, .ref h9, .int f4, .ref h10, .ref h11, .ref h12, .ref h13, .ref h14, .ref h15, .ref h16, .ref h17, .ref h18, .ref h19, .ref h20, .ref h21, .ref h22])), (h2, .inl (zI g, 60, .inl (upd G1_8 g0_8.toNatClampNeg (((p1 >>> (y2.toInt64 &&& 63)) &&& 255).toInt32))))] := hD
                  have hI3 : zTy p1 p2.toInt f1.toInt (g0_8.toInt + 1) Z1 (upd G1_8 g0_8.toNatClampNeg (((p1 >>> (y2.toInt64 &&& 63)) &&& 255).toInt32)) := zTy_put (i := g0_8) (l1 := g0_8.toInt) hG1_8 rfl (by omega) (by omega) hb2
                  obtain ⟨R4, eR4⟩ : ∃ z : Nat → Int32, z = (upd G1_8 g0_8.toNatClampNeg (((p1 >>> (y2.toInt64 &&& 63)) &&& 255).toInt32)) := ⟨_, rfl⟩
                  rw [← eR4] at hP hD hI3
                  refine lv_aload_n hx hb dX5_type_99 rfl (lv_at hl 0 rfl) ?_
                  refine lv_dup hx hb dX5_type_100 rfl ?_
                  refine va_get (D := g.1) (ci := 5) (v := .int g0_8) (C := RX5) (T := TX5) (N := 27) hx hb hts zl_X5 hown hK hP 0 rfl rfl 3 (by decide) (hts _ m_f_RX5_114) (fun _ h => h) rfl dX5_type_101 ?_
                  refine lv_iconst (v := 1) hx hb dX5_type_104 (by decide) ?_
                  refine lv_iadd hx hb dX5_type_105 ?_
                  refine lv_topi (fun y5 ey5 => ?_)
                  have qy5_0 : y5.toInt = g0_8.toInt + 1 := zi_add ey5 (rfl) (rfl) (by omega) (by omega)
                  refine va_put (D := g.1) (ci := 5) (v := .int y5) (ty := .int) (C := RX5) (T := TX5) (N := 27) hx hb hts zl_X5 tyX5 tyX5_ok nmX5 hown hK hP hD hS 0 rfl rfl 3 (by decide) (hts _ m_f_RX5_114) (fun _ h => h) rfl (by decide +kernel) rfl rfl (Nat.le_of_ble_eq_true rfl) dX5_type_106 (fun H locs hP hD hS => ?_)
                  have hP : va_P g.1 vwCl [(h0, .inr (5, [.ref h1, .int f0, .ref h2, .int y5, .int f2, .ref h3, .ref h4, .ref h5, .ref h6, .int f3, .ref h7, .ref h8, .ref h9, .int f4, .ref h10, .ref h11, .ref h12, .ref h13, .ref h14, .ref h15, .ref h16, .ref h17, .ref h18, .ref h19, .ref h20, .ref h21, .ref h22])), (h2, .inl (zI g, 60, .inl R4))] H := hP
                  have hD : va_D A [(h0, .inr (5, [.ref h1, .int f0, .ref h2, .int y5, .int f2, .ref h3, .ref h4, .ref h5, .ref h6, .int f3, .ref h7, .ref h8, .ref h9, .int f4, .ref h10, .ref h11, .ref h12, .ref h13, .ref h14, .ref h15, .ref h16, .ref h17, .ref h18, .ref h19, .ref h20, .ref h21, .ref h22])), (h2, .inl (zI g, 60, .inl R4))] := hD
                  obtain ⟨y6, ey6⟩ : ∃ z : Int32, z = v4_8 + (-1) := ⟨_, rfl⟩
                  have qy6 : y6.toInt = v4_8.toInt + (-1) := zi_add ey6 (rfl) rfl (by omega) (by omega)
                  refine lv_iinc (v := y6) (lv' := [(4, .int y6), (0, .ref h0), (1, .long p1), (3, .int p2)]) hx hb dX5_type_109 hl (k := 3) rfl ey6.symm (by decide) rfl (fun ls hl => ?_)
                  refine lv_goto (tgt := 73) hx hb dX5_type_112 (by decide) ?_
                  exact ih9 y6 y5 R4 (by omega) (by omega) (zTy_eq hI3 (by omega)) (by omega) (by omega) (by omega) (by omega) (by omega) (by omega) _ _ hP hD hS ls (lv_sub hl [1, 2, 3, 0] rfl)
            exact loop73_8 ((y1.toInt + 1 : Int).toNat + 1) y1 f1 Z1 (by omega) (by omega) (zTy_eq hty0 (by omega)) (by omega) (by omega) (by omega) (by omega) (by omega) (by omega) _ _ hP hD hS ls (lv_sub hl [1, 2, 3, 0] rfl)
          · have i_7 : 60 < y0.toInt := z_nle (rfl) (rfl) c_7
            refine lv_bipush (v := (-3)) hx hb dX5_type_65 (by decide) ?_
            have hzR : zTR p1 p2.toInt f1.toInt = (-3) := by unfold zTR; first | rw [if_pos (by omega)] | rw [if_neg (by omega), if_pos (by omega)] | (rw [if_neg (by omega), if_neg (by omega)]; omega)
            have hzL : zTL p1 p2.toInt f1.toInt = f1.toInt := by unfold zTL; first | (rw [if_pos (by omega)]; omega) | rw [if_neg (by omega)]
            have : ((-3) : Int32).toInt = (-3) := rfl
            have hP9 := hP.sub (ws' := [(h0, .inr (5, [.ref h1, .int f0, .ref h2, .int f1, .int f2, .ref h3, .ref h4, .ref h5, .ref h6, .int f3, .ref h7, .ref h8, .ref h9, .int f4, .ref h10, .ref h11, .ref h12, .ref h13, .ref h14, .ref h15, .ref h16, .ref h17, .ref h18, .ref h19, .ref h20, .ref h21, .ref h22])), (h2, .inl (zI g, 60, .inl Z1))]) [0, 1] rfl
            have hD9 := hD.sub (ws' := [(h0, .inr (5, [.ref h1, .int f0, .ref h2, .int f1, .int f2, .ref h3, .ref h4, .ref h5, .ref h6, .int f3, .ref h7, .ref h8, .ref h9, .int f4, .ref h10, .ref h11, .ref h12, .ref h13, .ref h14, .ref h15, .ref h16, .ref h17, .ref h18, .ref h19, .ref h20, .ref h21, .ref h22])), (h2, .inl (zI g, 60, .inl Z1))]) [0, 1] (by decide) rfl
            exact W.iret (v := (-3)) hx hb hr (fun t ht hW => ⟨⟨(-3), ⟨f1, Z1⟩, rfl, ⟨⟨(by first | omega | decide), (show f1.toInt = zTL p1 p2.toInt f1.toInt from by first | omega | decide)⟩, ⟨show 0 ≤ f1.toInt from by omega, show f1.toInt ≤ 60 from by omega⟩, hty0⟩, by rw [ht]; exact hP9, hD9⟩, hS.F ht⟩) hS.2.2 dX5_type_67
        · have i_6 : v4_5.toInt < p2.toInt := z_nle (rfl) (rfl) c_6
          refine lv_lload_n hx hb dX5_type_23 rfl (lv_at hl 1 rfl) ?_
          refine lv_bipush (v := 8) hx hb dX5_type_24 (by decide) ?_
          refine lv_iload hx hb dX5_type_26 (lv_at hl 3 rfl) ?_
          refine lv_imul hx hb dX5_type_28 ?_
          refine lv_topi (fun y7 ey7 => ?_)
          have qy7_0 : y7.toInt = 8 * v4_5.toInt := zi_mul ey7 (rfl) (rfl) (by omega) (by omega)
          refine lv_lshr (v := (p1 >>> (y7.toInt64 &&& 63))) hx hb dX5_type_29 rfl ?_
          refine lv_ldc2 (v := 255) hx hb hown (hts _ m_k_RX5_108) dX5_type_30 ?_
          refine lv_land hx hb dX5_type_33 ?_
          have hbz : (((p1 >>> (y7.toInt64 &&& 63)) &&& 255) : Int64).toInt = zb8 p1 v4_5 := by rw [ey7]; rfl
          refine lv_ldc2 (v := 32) hx hb hown (hts _ m_k_RX5_110) dX5_type_34 ?_
          refine lv_ldc2 (v := 126) hx hb hown (hts _ m_k_RX5_112) dX5_type_37 ?_
          refine z_calli (wr := [(h0, .inr (5, [.ref h1, .int f0, .ref h2, .int f1, .int f2, .ref h3, .ref h4, .ref h5, .ref h6, .int f3, .ref h7, .ref h8, .ref h9, .int f4, .ref h10, .ref h11, .ref h12, .ref h13, .ref h14, .ref h15, .ref h16, .ref h17, .ref h18, .ref h19, .ref h20, .ref h21, .ref h22])), (h2, .inl (zI g, 60, .inl Z1))]) hP hD hS hA [] [0, 1] (by decide) rfl rfl (by decide) (va_runS (As := [.long ((p1 >>> (y7.toInt64 &&& 63)) &&& 255), .long 32, .long 126]) (rest := []) ⟨hx, hb, hml, hown, hts⟩ (gX5_in l g  H.size ((p1 >>> (y7.toInt64 &&& 63)) &&& 255) (32 : Int64) (126 : Int64)) ⟨callB_of 3 hts (zGood m_o_yX5_in) rfl rfl rfl (hts _ m_z_RX5) (hts _ m_m_RX5_77) ⟨by decide +kernel, by decide +kernel, by decide +kernel⟩ ⟨Nat.le_of_ble_eq_true rfl, Nat.le_of_ble_eq_true rfl⟩, hts _ m_s_yX5_in⟩ (zPreS hK hN hZ hP hD hS hA [] (by decide) rfl rfl) rfl rfl hl.1 rfl (lv_room (Nat.le_of_ble_eq_true rfl)) dX5_type_40 ⟨Nat.le_of_ble_eq_true rfl, Nat.le_of_ble_eq_true rfl⟩) (fun r u H locs hw hP hD hS => ?_)
          rcases hw with ⟨i_10, rfl⟩ | ⟨i_11, i_12, rfl⟩ | ⟨i_13, i_14, rfl⟩
          · skip
            have i_10 : (((p1 >>> (y7.toInt64 &&& 63)) &&& 255) : Int64).toInt < 32 := i_10
            have hP : va_P g.1 vwCl [(h0, .inr (5, [.ref h1, .int f0, .ref h2, .int f1, .int f2, .ref h3, .ref h4, .ref h5, .ref h6, .int f3, .ref h7, .ref h8, .ref h9, .int f4, .ref h10, .ref h11, .ref h12, .ref h13, .ref h14, .ref h15, .ref h16, .ref h17, .ref h18, .ref h19, .ref h20, .ref h21, .ref h22])), (h2, .inl (zI g, 60, .inl Z1))] H := hP
            have hD : va_D A [(h0, .inr (5, [.ref h1, .int f0, .ref h2, .int f1, .int f2, .ref h3, .ref h4, .ref h5, .ref h6, .int f3, .ref h7, .ref h8, .ref h9, .int f4, .ref h10, .ref h11, .ref h12, .ref h13, .ref h14, .ref h15, .ref h16, .ref h17, .ref h18, .ref h19, .ref h20, .ref h21, .ref h22])), (h2, .inl (zI g, 60, .inl Z1))] := hD
            refine lv_if_ne (tgt := 48) hx hb dX5_type_43 (by decide) (fun h => absurd h (by decide +kernel)) (fun _ => ?_)
            have hzb : zOK p1 p2.toInt = 0 := zOK_b v4_5 (by omega) (by omega) (by omega)
            refine lv_iconst (v := (-1)) hx hb dX5_type_46 (by decide) ?_
            have hzR : zTR p1 p2.toInt f1.toInt = (-1) := by unfold zTR; first | rw [if_pos (by omega)] | rw [if_neg (by omega), if_pos (by omega)] | (rw [if_neg (by omega), if_neg (by omega)]; omega)
            have hzL : zTL p1 p2.toInt f1.toInt = f1.toInt := by unfold zTL; first | (rw [if_pos (by omega)]; omega) | rw [if_neg (by omega)]
            have : ((-1) : Int32).toInt = (-1) := rfl
            have hP9 := hP.sub (ws' := [(h0, .inr (5, [.ref h1, .int f0, .ref h2, .int f1, .int f2, .ref h3, .ref h4, .ref h5, .ref h6, .int f3, .ref h7, .ref h8, .ref h9, .int f4, .ref h10, .ref h11, .ref h12, .ref h13, .ref h14, .ref h15, .ref h16, .ref h17, .ref h18, .ref h19, .ref h20, .ref h21, .ref h22])), (h2, .inl (zI g, 60, .inl Z1))]) [0, 1] rfl
            have hD9 := hD.sub (ws' := [(h0, .inr (5, [.ref h1, .int f0, .ref h2, .int f1, .int f2, .ref h3, .ref h4, .ref h5, .ref h6, .int f3, .ref h7, .ref h8, .ref h9, .int f4, .ref h10, .ref h11, .ref h12, .ref h13, .ref h14, .ref h15, .ref h16, .ref h17, .ref h18, .ref h19, .ref h20, .ref h21, .ref h22])), (h2, .inl (zI g, 60, .inl Z1))]) [0, 1] (by decide) rfl
            exact W.iret (v := (-1)) hx hb hr (fun t ht hW => ⟨⟨(-1), ⟨f1, Z1⟩, rfl, ⟨⟨(by first | omega | decide), (show f1.toInt = zTL p1 p2.toInt f1.toInt from by first | omega | decide)⟩, ⟨show 0 ≤ f1.toInt from by omega, show f1.toInt ≤ 60 from by omega⟩, hty0⟩, by rw [ht]; exact hP9, hD9⟩, hS.F ht⟩) hS.2.2 dX5_type_47
          · skip
            have i_11 : 32 ≤ (((p1 >>> (y7.toInt64 &&& 63)) &&& 255) : Int64).toInt := i_11
            have i_12 : 126 < (((p1 >>> (y7.toInt64 &&& 63)) &&& 255) : Int64).toInt := i_12
            have hP : va_P g.1 vwCl [(h0, .inr (5, [.ref h1, .int f0, .ref h2, .int f1, .int f2, .ref h3, .ref h4, .ref h5, .ref h6, .int f3, .ref h7, .ref h8, .ref h9, .int f4, .ref h10, .ref h11, .ref h12, .ref h13, .ref h14, .ref h15, .ref h16, .ref h17, .ref h18, .ref h19, .ref h20, .ref h21, .ref h22])), (h2, .inl (zI g, 60, .inl Z1))] H := hP
            have hD : va_D A [(h0, .inr (5, [.ref h1, .int f0, .ref h2, .int f1, .int f2, .ref h3, .ref h4, .ref h5, .ref h6, .int f3, .ref h7, .ref h8, .ref h9, .int f4, .ref h10, .ref h11, .ref h12, .ref h13, .ref h14, .ref h15, .ref h16, .ref h17, .ref h18, .ref h19, .ref h20, .ref h21, .ref h22])), (h2, .inl (zI g, 60, .inl Z1))] := hD
            refine lv_if_ne (tgt := 48) hx hb dX5_type_43 (by decide) (fun h => absurd h (by decide +kernel)) (fun _ => ?_)
            have hzb : zOK p1 p2.toInt = 0 := zOK_b v4_5 (by omega) (by omega) (by omega)
            refine lv_iconst (v := (-1)) hx hb dX5_type_46 (by decide) ?_
            have hzR : zTR p1 p2.toInt f1.toInt = (-1) := by unfold zTR; first | rw [if_pos (by omega)] | rw [if_neg (by omega), if_pos (by omega)] | (rw [if_neg (by omega), if_neg (by omega)]; omega)
            have hzL : zTL p1 p2.toInt f1.toInt = f1.toInt := by unfold zTL; first | (rw [if_pos (by omega)]; omega) | rw [if_neg (by omega)]
            have : ((-1) : Int32).toInt = (-1) := rfl
            have hP9 := hP.sub (ws' := [(h0, .inr (5, [.ref h1, .int f0, .ref h2, .int f1, .int f2, .ref h3, .ref h4, .ref h5, .ref h6, .int f3, .ref h7, .ref h8, .ref h9, .int f4, .ref h10, .ref h11, .ref h12, .ref h13, .ref h14, .ref h15, .ref h16, .ref h17, .ref h18, .ref h19, .ref h20, .ref h21, .ref h22])), (h2, .inl (zI g, 60, .inl Z1))]) [0, 1] rfl
            have hD9 := hD.sub (ws' := [(h0, .inr (5, [.ref h1, .int f0, .ref h2, .int f1, .int f2, .ref h3, .ref h4, .ref h5, .ref h6, .int f3, .ref h7, .ref h8, .ref h9, .int f4, .ref h10, .ref h11, .ref h12, .ref h13, .ref h14, .ref h15, .ref h16, .ref h17, .ref h18, .ref h19, .ref h20, .ref h21, .ref h22])), (h2, .inl (zI g, 60, .inl Z1))]) [0, 1] (by decide) rfl
            exact W.iret (v := (-1)) hx hb hr (fun t ht hW => ⟨⟨(-1), ⟨f1, Z1⟩, rfl, ⟨⟨(by first | omega | decide), (show f1.toInt = zTL p1 p2.toInt f1.toInt from by first | omega | decide)⟩, ⟨show 0 ≤ f1.toInt from by omega, show f1.toInt ≤ 60 from by omega⟩, hty0⟩, by rw [ht]; exact hP9, hD9⟩, hS.F ht⟩) hS.2.2 dX5_type_47
          · skip
            have i_13 : 32 ≤ (((p1 >>> (y7.toInt64 &&& 63)) &&& 255) : Int64).toInt := i_13
            have i_14 : (((p1 >>> (y7.toInt64 &&& 63)) &&& 255) : Int64).toInt ≤ 126 := i_14
            have hP : va_P g.1 vwCl [(h0, .inr (5, [.ref h1, .int f0, .ref h2, .int f1, .int f2, .ref h3, .ref h4, .ref h5, .ref h6, .int f3, .ref h7, .ref h8, .ref h9, .int f4, .ref h10, .ref h11, .ref h12, .ref h13, .ref h14, .ref h15, .ref h16, .ref h17, .ref h18, .ref h19, .ref h20, .ref h21, .ref h22])), (h2, .inl (zI g, 60, .inl Z1))] H := hP
            have hD : va_D A [(h0, .inr (5, [.ref h1, .int f0, .ref h2, .int f1, .int f2, .ref h3, .ref h4, .ref h5, .ref h6, .int f3, .ref h7, .ref h8, .ref h9, .int f4, .ref h10, .ref h11, .ref h12, .ref h13, .ref h14, .ref h15, .ref h16, .ref h17, .ref h18, .ref h19, .ref h20, .ref h21, .ref h22])), (h2, .inl (zI g, 60, .inl Z1))] := hD
            refine lv_if_ne (tgt := 48) hx hb dX5_type_43 (by decide) (fun _ => ?_) (fun h => absurd h (by decide +kernel))
            obtain ⟨y8, ey8⟩ : ∃ z : Int32, z = v4_5 + 1 := ⟨_, rfl⟩
            have qy8 : y8.toInt = v4_5.toInt + 1 := zi_add ey8 (rfl) rfl (by omega) (by omega)
            refine lv_iinc (v := y8) (lv' := [(4, .int y8), (0, .ref h0), (1, .long p1), (3, .int p2)]) hx hb dX5_type_48 hl (k := 3) rfl ey8.symm (by decide) rfl (fun ls hl => ?_)
            have hzs : zOK p1 y8.toInt = 1 := zOK_s (a := v4_5.toInt) (by assumption) v4_5 rfl (by omega) (by omega) (by omega)
            refine lv_goto (tgt := 17) hx hb dX5_type_51 (by decide) ?_
            exact ih6 y8 (by omega) (by omega) (by omega) (by omega) _ _ hP hD hS ls (lv_sub hl [1, 2, 3, 0] rfl)
    have : (0 : Int32).toInt = 0 := rfl
    exact loop17_5 ((p2.toInt - 0 : Int).toNat + 1) (0 : Int32) (by omega) (by omega) (by omega) (by omega) _ _ hP hD hS ls (lv_sub hl [1, 2, 3, 0] rfl)
set_option maxHeartbeats 8000000 in
set_option maxRecDepth 100000 in
theorem gX5_ahead (l : Launch) (g : zG) (h0 h1 h2 h3 h4 h5 h6 h7 h8 h9 h10 h11 h12 h13 h14 h15 h16 h17 h18 h19 h20 h21 h22 : Nat) (sz : Nat) (f0 : Int32) (f1 : Int32) (f2 : Int32) (f3 : Int32) (f4 : Int32) (Z1 : Nat → Int32) (hf_f1 : 0 ≤ f1.toInt ∧ f1.toInt ≤ 60) (hf_f2 : 0 ≤ f2.toInt ∧ f2.toInt ≤ 60) (hf_f3 : 0 ≤ f3.toInt ∧ f3.toInt ≤ 31) (hf_f4 : 0 ≤ f4.toInt ∧ f4.toInt ≤ 1000) : Met l yX5_ahead (.code yX5_ahead cX5_ahead 1 (some .int) :: zBig) ({ frames := 0, cells := 0, slots := 0, locals := 0 }) (va_Pc [.ref h0] (zPre g [(h0, .inr (5, [.ref h1, .int f0, .ref h2, .int f1, .int f2, .ref h3, .ref h4, .ref h5, .ref h6, .int f3, .ref h7, .ref h8, .ref h9, .int f4, .ref h10, .ref h11, .ref h12, .ref h13, .ref h14, .ref h15, .ref h16, .ref h17, .ref h18, .ref h19, .ref h20, .ref h21, .ref h22])), (h2, .inl (zI g, 60, .inl Z1))] sz)) (va_Qi (fun (r : Int32) (u : Int32) => ((r.toInt = -1 ∨ u.toInt < f1.toInt) ∧ f2.toInt ≤ u.toInt ∧ u.toInt = zsk Z1 f1.toInt f2.toInt ∧ (u.toInt < f1.toInt → r.toInt = zc Z1 u.toInt) ∧ (f1.toInt ≤ u.toInt → r.toInt = -1)) ∧ 0 ≤ u.toInt ∧ u.toInt ≤ 60) (zPost g (fun u : Int32 => [(h0, .inr (5, [.ref h1, .int f0, .ref h2, .int f1, .int u, .ref h3, .ref h4, .ref h5, .ref h6, .int f3, .ref h7, .ref h8, .ref h9, .int f4, .ref h10, .ref h11, .ref h12, .ref h13, .ref h14, .ref h15, .ref h16, .ref h17, .ref h18, .ref h19, .ref h20, .ref h21, .ref h22])), (h2, .inl (zI g, 60, .inl Z1))]) (va_A [(h0, .inr (5, [.ref h1, .int f0, .ref h2, .int f1, .int f2, .ref h3, .ref h4, .ref h5, .ref h6, .int f3, .ref h7, .ref h8, .ref h9, .int f4, .ref h10, .ref h11, .ref h12, .ref h13, .ref h14, .ref h15, .ref h16, .ref h17, .ref h18, .ref h19, .ref h20, .ref h21, .ref h22])), (h2, .inl (zI g, 60, .inl Z1))] sz)) (va_A [(h0, .inr (5, [.ref h1, .int f0, .ref h2, .int f1, .int f2, .ref h3, .ref h4, .ref h5, .ref h6, .int f3, .ref h7, .ref h8, .ref h9, .int f4, .ref h10, .ref h11, .ref h12, .ref h13, .ref h14, .ref h15, .ref h16, .ref h17, .ref h18, .ref h19, .ref h20, .ref h21, .ref h22])), (h2, .inl (zI g, 60, .inl Z1))] sz)) 0 0 (va_A [(h0, .inr (5, [.ref h1, .int f0, .ref h2, .int f1, .int f2, .ref h3, .ref h4, .ref h5, .ref h6, .int f3, .ref h7, .ref h8, .ref h9, .int f4, .ref h10, .ref h11, .ref h12, .ref h13, .ref h14, .ref h15, .ref h16, .ref h17, .ref h18, .ref h19, .ref h20, .ref h21, .ref h22])), (h2, .inl (zI g, 60, .inl Z1))] sz) := by
  refine zMetI rfl (Nat.le_of_ble_eq_true rfl) ?_
  intro p e s m args below meth c A ls hx hb hml hr hlocks hin hown hts hK hN hZ hP hD hA hS hAe hl
  have hown : s.vm.findClass RX5 = some m.cls := hown
  have hl : lv_has ls 1 [(0, .ref h0)] := hl
  have loop0_0 : ∀ (n1 : Nat) (g0_0 : Int32) (hg0_0a : 0 ≤ g0_0.toInt) (hg0_0b : g0_0.toInt ≤ 60) (n1_0 : f2.toInt ≤ g0_0.toInt) (n1_1 : zsk Z1 f1.toInt g0_0.toInt = zsk Z1 f1.toInt f2.toInt) (hm1 : 60 - g0_0.toInt < (n1 : Int)) (H : Heap) (locs : List Loc), va_P g.1 vwCl [(h0, .inr (5, [.ref h1, .int f0, .ref h2, .int f1, .int g0_0, .ref h3, .ref h4, .ref h5, .ref h6, .int f3, .ref h7, .ref h8, .ref h9, .int f4, .ref h10, .ref h11, .ref h12, .ref h13, .ref h14, .ref h15, .ref h16, .ref h17, .ref h18, .ref h19, .ref h20, .ref h21, .ref h22])), (h2, .inl (zI g, 60, .inl Z1))] H → va_D A [(h0, .inr (5, [.ref h1, .int f0, .ref h2, .int f1, .int g0_0, .ref h3, .ref h4, .ref h5, .ref h6, .int f3, .ref h7, .ref h8, .ref h9, .int f4, .ref h10, .ref h11, .ref h12, .ref h13, .ref h14, .ref h15, .ref h16, .ref h17, .ref h18, .ref h19, .ref h20, .ref h21, .ref h22])), (h2, .inl (zI g, 60, .inl Z1))] → va_S A s.heap H locs → ∀ (ls : Array Slot), lv_has ls 1 [(0, .ref h0)] → W p l e ({ frames := 0, cells := 0, slots := 0, locals := 0 }) s m args below meth c H locs 0 0 (MQ below (va_Qi (fun (r : Int32) (u : Int32) => ((r.toInt = -1 ∨ u.toInt < f1.toInt) ∧ f2.toInt ≤ u.toInt ∧ u.toInt = zsk Z1 f1.toInt f2.toInt ∧ (u.toInt < f1.toInt → r.toInt = zc Z1 u.toInt) ∧ (f1.toInt ≤ u.toInt → r.toInt = -1)) ∧ 0 ≤ u.toInt ∧ u.toInt ≤ 60) (zPost g (fun u : Int32 => [(h0, .inr (5, [.ref h1, .int f0, .ref h2, .int f1, .int u, .ref h3, .ref h4, .ref h5, .ref h6, .int f3, .ref h7, .ref h8, .ref h9, .int f4, .ref h10, .ref h11, .ref h12, .ref h13, .ref h14, .ref h15, .ref h16, .ref h17, .ref h18, .ref h19, .ref h20, .ref h21, .ref h22])), (h2, .inl (zI g, 60, .inl Z1))]) A) A) args s 0 0 A) (F0 m 0 ls []) := by
    intro n1
    induction n1 with
    | zero => intro g0_0 hg0_0a hg0_0b n1_0 n1_1 hm1; exfalso; omega
    | succ n1 ih1 =>
      intro g0_0 hg0_0a hg0_0b n1_0 n1_1 hm1 H locs hP hD hS ls hl
      refine lv_aload_n hx hb dX5_ahead_0 rfl (lv_at hl 0 rfl) ?_
      refine va_get (D := g.1) (ci := 5) (v := .int g0_0) (C := RX5) (T := TX5) (N := 27) hx hb hts zl_X5 hown hK hP 0 rfl rfl 4 (by decide) (hts _ m_f_RX5_118) (fun _ h => h) rfl dX5_ahead_1 ?_
      refine lv_aload_n hx hb dX5_ahead_4 rfl (lv_at hl 0 rfl) ?_
      refine va_get (D := g.1) (ci := 5) (v := .int f1) (C := RX5) (T := TX5) (N := 27) hx hb hts zl_X5 hown hK hP 0 rfl rfl 3 (by decide) (hts _ m_f_RX5_114) (fun _ h => h) rfl dX5_ahead_5 ?_
      refine lv_icmp_ge (tgt := 38) hx hb dX5_ahead_8 (by decide) (fun c_1 => ?_) (fun c_1 => ?_)
      · have i_1 : f1.toInt ≤ g0_0.toInt := z_le (rfl) (rfl) c_1
        have hze : g0_0.toInt = zsk Z1 f1.toInt f2.toInt := by
          rw [← (by assumption : zsk Z1 f1.toInt g0_0.toInt = zsk Z1 f1.toInt f2.toInt)]
          first | exact (zsk_end (by omega)).symm | exact (zsk_stop (by omega) (by omega)).symm
        refine lv_aload_n hx hb dX5_ahead_38 rfl (lv_at hl 0 rfl) ?_
        refine va_get (D := g.1) (ci := 5) (v := .int g0_0) (C := RX5) (T := TX5) (N := 27) hx hb hts zl_X5 hown hK hP 0 rfl rfl 4 (by decide) (hts _ m_f_RX5_118) (fun _ h => h) rfl dX5_ahead_39 ?_
        refine lv_aload_n hx hb dX5_ahead_42 rfl (lv_at hl 0 rfl) ?_
        refine va_get (D := g.1) (ci := 5) (v := .int f1) (C := RX5) (T := TX5) (N := 27) hx hb hts zl_X5 hown hK hP 0 rfl rfl 3 (by decide) (hts _ m_f_RX5_114) (fun _ h => h) rfl dX5_ahead_43 ?_
        refine lv_icmp_ge (tgt := 61) hx hb dX5_ahead_46 (by decide) (fun c_2 => ?_) (fun c_2 => absurd (show g0_0.toInt < f1.toInt from z_nle (rfl) (rfl) c_2) (by omega))
        have i_2 : f1.toInt ≤ g0_0.toInt := z_le (rfl) (rfl) c_2
        refine lv_iconst (v := (-1)) hx hb dX5_ahead_61 (by decide) ?_
        have : ((-1) : Int32).toInt = (-1) := rfl
        have hP9 := hP.sub (ws' := [(h0, .inr (5, [.ref h1, .int f0, .ref h2, .int f1, .int g0_0, .ref h3, .ref h4, .ref h5, .ref h6, .int f3, .ref h7, .ref h8, .ref h9, .int f4, .ref h10, .ref h11, .ref h12, .ref h13, .ref h14, .ref h15, .ref h16, .ref h17, .ref h18, .ref h19, .ref h20, .ref h21, .ref h22])), (h2, .inl (zI g, 60, .inl Z1))]) [0, 1] rfl
        have hD9 := hD.sub (ws' := [(h0, .inr (5, [.ref h1, .int f0, .ref h2, .int f1, .int g0_0, .ref h3, .ref h4, .ref h5, .ref h6, .int f3, .ref h7, .ref h8, .ref h9, .int f4, .ref h10, .ref h11, .ref h12, .ref h13, .ref h14, .ref h15, .ref h16, .ref h17, .ref h18, .ref h19, .ref h20, .ref h21, .ref h22])), (h2, .inl (zI g, 60, .inl Z1))]) [0, 1] (by decide) rfl
        exact W.iret (v := (-1)) hx hb hr (fun t ht hW => ⟨⟨(-1), g0_0, rfl, ⟨⟨(by first | omega | decide), (by first | omega | decide), (show g0_0.toInt = zsk Z1 f1.toInt f2.toInt from by first | omega | decide), (show (g0_0.toInt < f1.toInt → ((-1) : Int32).toInt = zc Z1 g0_0.toInt) from by first | omega | decide), (show (f1.toInt ≤ g0_0.toInt → ((-1) : Int32).toInt = -1) from by first | omega | decide)⟩, ⟨show 0 ≤ g0_0.toInt from by omega, show g0_0.toInt ≤ 60 from by omega⟩⟩, by rw [ht]; exact hP9, hD9⟩, hS.F ht⟩) hS.2.2 dX5_ahead_62
      · have i_1 : g0_0.toInt < f1.toInt := z_nle (rfl) (rfl) c_1
        refine lv_aload_n hx hb dX5_ahead_11 rfl (lv_at hl 0 rfl) ?_
        refine va_get (D := g.1) (ci := 5) (v := .ref h2) (C := RX5) (T := TX5) (N := 27) hx hb hts zl_X5 hown hK hP 0 rfl rfl 2 (by decide) (hts _ m_f_RX5_13) (fun _ h => h) rfl dX5_ahead_12 ?_
        refine lv_aload_n hx hb dX5_ahead_15 rfl (lv_at hl 0 rfl) ?_
        refine va_get (D := g.1) (ci := 5) (v := .int g0_0) (C := RX5) (T := TX5) (N := 27) hx hb hts zl_X5 hown hK hP 0 rfl rfl 4 (by decide) (hts _ m_f_RX5_118) (fun _ h => h) rfl dX5_ahead_16 ?_
        refine va_iald (D := g.1) hx hb hK hP 1 0 rfl rfl (vp_in_iff.mpr ⟨by omega, by omega⟩) dX5_ahead_19 ?_
        refine lv_topi (fun y0 ey0 => ?_)
        have qy0_0 : y0.toInt = (Z1 g0_0.toNatClampNeg).toInt := congrArg Int32.toInt ey0
        have py0_0 : y0.toInt = zc Z1 g0_0.toInt := congrArg Int32.toInt ey0
        refine lv_bipush (v := 32) hx hb dX5_ahead_20 (by decide) ?_
        refine lv_icmp_ne (tgt := 38) hx hb dX5_ahead_22 (by decide) (fun c_3 => ?_) (fun c_3 => ?_)
        · have i_3 : y0.toInt ≠ 32 := z_ne (rfl) (rfl) c_3
          have hze : g0_0.toInt = zsk Z1 f1.toInt f2.toInt := by
            rw [← (by assumption : zsk Z1 f1.toInt g0_0.toInt = zsk Z1 f1.toInt f2.toInt)]
            first | exact (zsk_end (by omega)).symm | exact (zsk_stop (by omega) (by omega)).symm
          refine lv_aload_n hx hb dX5_ahead_38 rfl (lv_at hl 0 rfl) ?_
          refine va_get (D := g.1) (ci := 5) (v := .int g0_0) (C := RX5) (T := TX5) (N := 27) hx hb hts zl_X5 hown hK hP 0 rfl rfl 4 (by decide) (hts _ m_f_RX5_118) (fun _ h => h) rfl dX5_ahead_39 ?_
          refine lv_aload_n hx hb dX5_ahead_42 rfl (lv_at hl 0 rfl) ?_
          refine va_get (D := g.1) (ci := 5) (v := .int f1) (C := RX5) (T := TX5) (N := 27) hx hb hts zl_X5 hown hK hP 0 rfl rfl 3 (by decide) (hts _ m_f_RX5_114) (fun _ h => h) rfl dX5_ahead_43 ?_
          refine lv_icmp_ge (tgt := 61) hx hb dX5_ahead_46 (by decide) (fun c_4 => absurd (show f1.toInt ≤ g0_0.toInt from z_le (rfl) (rfl) c_4) (by omega)) (fun c_4 => ?_)
          have i_4 : g0_0.toInt < f1.toInt := z_nle (rfl) (rfl) c_4
          refine lv_aload_n hx hb dX5_ahead_49 rfl (lv_at hl 0 rfl) ?_
          refine va_get (D := g.1) (ci := 5) (v := .ref h2) (C := RX5) (T := TX5) (N := 27) hx hb hts zl_X5 hown hK hP 0 rfl rfl 2 (by decide) (hts _ m_f_RX5_13) (fun _ h => h) rfl dX5_ahead_50 ?_
          refine lv_aload_n hx hb dX5_ahead_53 rfl (lv_at hl 0 rfl) ?_
          refine va_get (D := g.1) (ci := 5) (v := .int g0_0) (C := RX5) (T := TX5) (N := 27) hx hb hts zl_X5 hown hK hP 0 rfl rfl 4 (by decide) (hts _ m_f_RX5_118) (fun _ h => h) rfl dX5_ahead_54 ?_
          refine va_iald (D := g.1) hx hb hK hP 1 0 rfl rfl (vp_in_iff.mpr ⟨by omega, by omega⟩) dX5_ahead_57 ?_
          refine lv_topi (fun y1 ey1 => ?_)
          have qy1_0 : y1.toInt = (Z1 g0_0.toNatClampNeg).toInt := congrArg Int32.toInt ey1
          have py1_0 : y1.toInt = zc Z1 g0_0.toInt := congrArg Int32.toInt ey1
          refine lv_goto (tgt := 62) hx hb dX5_ahead_58 (by decide) ?_
          have hP9 := hP.sub (ws' := [(h0, .inr (5, [.ref h1, .int f0, .ref h2, .int f1, .int g0_0, .ref h3, .ref h4, .ref h5, .ref h6, .int f3, .ref h7, .ref h8, .ref h9, .int f4, .ref h10, .ref h11, .ref h12, .ref h13, .ref h14, .ref h15, .ref h16, .ref h17, .ref h18, .ref h19, .ref h20, .ref h21, .ref h22])), (h2, .inl (zI g, 60, .inl Z1))]) [0, 1] rfl
          have hD9 := hD.sub (ws' := [(h0, .inr (5, [.ref h1, .int f0, .ref h2, .int f1, .int g0_0, .ref h3, .ref h4, .ref h5, .ref h6, .int f3, .ref h7, .ref h8, .ref h9, .int f4, .ref h10, .ref h11, .ref h12, .ref h13, .ref h14, .ref h15, .ref h16, .ref h17, .ref h18, .ref h19, .ref h20, .ref h21, .ref h22])), (h2, .inl (zI g, 60, .inl Z1))]) [0, 1] (by decide) rfl
          exact W.iret (v := y1) hx hb hr (fun t ht hW => ⟨⟨y1, g0_0, rfl, ⟨⟨(by first | omega | decide), (by first | omega | decide), (show g0_0.toInt = zsk Z1 f1.toInt f2.toInt from by first | omega | decide), (show (g0_0.toInt < f1.toInt → y1.toInt = zc Z1 g0_0.toInt) from by first | omega | decide), (show (f1.toInt ≤ g0_0.toInt → y1.toInt = -1) from by first | omega | decide)⟩, ⟨show 0 ≤ g0_0.toInt from by omega, show g0_0.toInt ≤ 60 from by omega⟩⟩, by rw [ht]; exact hP9, hD9⟩, hS.F ht⟩) hS.2.2 dX5_ahead_62
        · have i_3 : y0.toInt = 32 := z_eq (rfl) (rfl) c_3
          refine lv_aload_n hx hb dX5_ahead_25 rfl (lv_at hl 0 rfl) ?_
          refine lv_dup hx hb dX5_ahead_26 rfl ?_
          refine va_get (D := g.1) (ci := 5) (v := .int g0_0) (C := RX5) (T := TX5) (N := 27) hx hb hts zl_X5 hown hK hP 0 rfl rfl 4 (by decide) (hts _ m_f_RX5_118) (fun _ h => h) rfl dX5_ahead_27 ?_
          refine lv_iconst (v := 1) hx hb dX5_ahead_30 (by decide) ?_
          refine lv_iadd hx hb dX5_ahead_31 ?_
          refine lv_topi (fun y2 ey2 => ?_)
          have qy2_0 : y2.toInt = g0_0.toInt + 1 := zi_add ey2 (rfl) (rfl) (by omega) (by omega)
          refine va_put (D := g.1) (ci := 5) (v := .int y2) (ty := .int) (C := RX5) (T := TX5) (N := 27) hx hb hts zl_X5 tyX5 tyX5_ok nmX5 hown hK hP hD hS 0 rfl rfl 4 (by decide) (hts _ m_f_RX5_118) (fun _ h => h) rfl (by decide +kernel) rfl rfl (Nat.le_of_ble_eq_true rfl) dX5_ahead_32 (fun H locs hP hD hS => ?_)
          have hP : va_P g.1 vwCl [(h0, .inr (5, [.ref h1, .int f0, .ref h2, .int f1, .int y2, .ref h3, .ref h4, .ref h5, .ref h6, .int f3, .ref h7, .ref h8, .ref h9, .int f4, .ref h10, .ref h11, .ref h12, .ref h13, .ref h14, .ref h15, .ref h16, .ref h17, .ref h18, .ref h19, .ref h20, .ref h21, .ref h22])), (h2, .inl (zI g, 60, .inl Z1))] H := hP
          have hD : va_D A [(h0, .inr (5, [.ref h1, .int f0, .ref h2, .int f1, .int y2, .ref h3, .ref h4, .ref h5, .ref h6, .int f3, .ref h7, .ref h8, .ref h9, .int f4, .ref h10, .ref h11, .ref h12, .ref h13, .ref h14, .ref h15, .ref h16, .ref h17, .ref h18, .ref h19, .ref h20, .ref h21, .ref h22])), (h2, .inl (zI g, 60, .inl Z1))] := hD
          have hzk : zsk Z1 f1.toInt y2.toInt = zsk Z1 f1.toInt f2.toInt := by
            have h3 := zsk_blank (F := Z1) (len := f1.toInt) (a := g0_0.toInt) (by omega) (by omega)
            have h4 : y2.toInt = g0_0.toInt + 1 := by omega
            rw [h4, ← h3]
            assumption
          refine lv_goto (tgt := 0) hx hb dX5_ahead_35 (by decide) ?_
          exact ih1 y2 (by omega) (by omega) (by omega) (by omega) (by omega) _ _ hP hD hS ls (lv_sub hl [0] rfl)
  exact loop0_0 ((60 - f2.toInt : Int).toNat + 1) f2 (by omega) (by omega) (by omega) (by omega) (by omega) _ _ hP hD hS ls (lv_sub hl [0] rfl)
set_option maxHeartbeats 8000000 in
set_option maxRecDepth 100000 in
theorem gX5_ruleOf (l : Launch) (g : zG) (sz : Nat) (p0 : Int32) : Met l yX5_ruleOf (.code yX5_ruleOf cX5_ruleOf 1 (some .int) :: zBig) ({ frames := 0, cells := 0, slots := 0, locals := 0 }) (va_Pc [.int p0] (zPre g [] sz)) (va_Qi (fun (r : Int32) (u : Nat) => r.toInt = zrl p0.toInt ∧ -1 ≤ r.toInt ∧ r.toInt ≤ 4) (zPost g (fun u : Nat => []) (va_A [] sz)) (va_A [] sz)) 0 0 (va_A [] sz) := by
  refine zMetI rfl (Nat.le_of_ble_eq_true rfl) ?_
  intro p e s m args below meth c A ls hx hb hml hr hlocks hin hown hts hK hN hZ hP hD hA hS hAe hl
  have hown : s.vm.findClass RX5 = some m.cls := hown
  have hl : lv_has ls 1 [(0, .int p0)] := hl
  refine lv_iload_n hx hb dX5_ruleOf_0 rfl (lv_at hl 0 rfl) ?_
  refine lv_bipush (v := 115) hx hb dX5_ruleOf_1 (by decide) ?_
  refine lv_icmp_ne (tgt := 10) hx hb dX5_ruleOf_3 (by decide) (fun c_0 => ?_) (fun c_0 => ?_)
  · have i_0 : p0.toInt ≠ 115 := z_ne (rfl) (rfl) c_0
    refine lv_iload_n hx hb dX5_ruleOf_10 rfl (lv_at hl 0 rfl) ?_
    refine lv_bipush (v := 100) hx hb dX5_ruleOf_11 (by decide) ?_
    refine lv_icmp_ne (tgt := 20) hx hb dX5_ruleOf_13 (by decide) (fun c_1 => ?_) (fun c_1 => ?_)
    · have i_1 : p0.toInt ≠ 100 := z_ne (rfl) (rfl) c_1
      refine lv_iload_n hx hb dX5_ruleOf_20 rfl (lv_at hl 0 rfl) ?_
      refine lv_bipush (v := 102) hx hb dX5_ruleOf_21 (by decide) ?_
      refine lv_icmp_ne (tgt := 30) hx hb dX5_ruleOf_23 (by decide) (fun c_2 => ?_) (fun c_2 => ?_)
      · have i_2 : p0.toInt ≠ 102 := z_ne (rfl) (rfl) c_2
        refine lv_iload_n hx hb dX5_ruleOf_30 rfl (lv_at hl 0 rfl) ?_
        refine lv_bipush (v := 98) hx hb dX5_ruleOf_31 (by decide) ?_
        refine lv_icmp_ne (tgt := 40) hx hb dX5_ruleOf_33 (by decide) (fun c_3 => ?_) (fun c_3 => ?_)
        · have i_3 : p0.toInt ≠ 98 := z_ne (rfl) (rfl) c_3
          refine lv_iload_n hx hb dX5_ruleOf_40 rfl (lv_at hl 0 rfl) ?_
          refine lv_bipush (v := 99) hx hb dX5_ruleOf_41 (by decide) ?_
          refine lv_icmp_ne (tgt := 50) hx hb dX5_ruleOf_43 (by decide) (fun c_4 => ?_) (fun c_4 => ?_)
          · have i_4 : p0.toInt ≠ 99 := z_ne (rfl) (rfl) c_4
            refine lv_iconst (v := (-1)) hx hb dX5_ruleOf_50 (by decide) ?_
            have hz : zrl p0.toInt = (-1) := by unfold zrl; (repeat' split) <;> omega
            have : ((-1) : Int32).toInt = (-1) := rfl
            have hP9 := hP.sub (ws' := []) [] rfl
            have hD9 := hD.sub (ws' := []) [] (by decide) rfl
            exact W.iret (v := (-1)) hx hb hr (fun t ht hW => ⟨⟨(-1), (0 : Nat), rfl, ⟨(by first | omega | decide), (by first | omega | decide), (by first | omega | decide)⟩, by rw [ht]; exact hP9, hD9⟩, hS.F ht⟩) hS.2.2 dX5_ruleOf_51
          · have i_4 : p0.toInt = 99 := z_eq (rfl) (rfl) c_4
            refine lv_iconst (v := 4) hx hb dX5_ruleOf_46 (by decide) ?_
            refine lv_goto (tgt := 51) hx hb dX5_ruleOf_47 (by decide) ?_
            have hz : zrl p0.toInt = 4 := by unfold zrl; (repeat' split) <;> omega
            have : (4 : Int32).toInt = 4 := rfl
            have hP9 := hP.sub (ws' := []) [] rfl
            have hD9 := hD.sub (ws' := []) [] (by decide) rfl
            exact W.iret (v := 4) hx hb hr (fun t ht hW => ⟨⟨4, (0 : Nat), rfl, ⟨(by first | omega | decide), (by first | omega | decide), (by first | omega | decide)⟩, by rw [ht]; exact hP9, hD9⟩, hS.F ht⟩) hS.2.2 dX5_ruleOf_51
        · have i_3 : p0.toInt = 98 := z_eq (rfl) (rfl) c_3
          refine lv_iconst (v := 3) hx hb dX5_ruleOf_36 (by decide) ?_
          refine lv_goto (tgt := 51) hx hb dX5_ruleOf_37 (by decide) ?_
          have hz : zrl p0.toInt = 3 := by unfold zrl; (repeat' split) <;> omega
          have : (3 : Int32).toInt = 3 := rfl
          have hP9 := hP.sub (ws' := []) [] rfl
          have hD9 := hD.sub (ws' := []) [] (by decide) rfl
          exact W.iret (v := 3) hx hb hr (fun t ht hW => ⟨⟨3, (0 : Nat), rfl, ⟨(by first | omega | decide), (by first | omega | decide), (by first | omega | decide)⟩, by rw [ht]; exact hP9, hD9⟩, hS.F ht⟩) hS.2.2 dX5_ruleOf_51
      · have i_2 : p0.toInt = 102 := z_eq (rfl) (rfl) c_2
        refine lv_iconst (v := 2) hx hb dX5_ruleOf_26 (by decide) ?_
        refine lv_goto (tgt := 51) hx hb dX5_ruleOf_27 (by decide) ?_
        have hz : zrl p0.toInt = 2 := by unfold zrl; (repeat' split) <;> omega
        have : (2 : Int32).toInt = 2 := rfl
        have hP9 := hP.sub (ws' := []) [] rfl
        have hD9 := hD.sub (ws' := []) [] (by decide) rfl
        exact W.iret (v := 2) hx hb hr (fun t ht hW => ⟨⟨2, (0 : Nat), rfl, ⟨(by first | omega | decide), (by first | omega | decide), (by first | omega | decide)⟩, by rw [ht]; exact hP9, hD9⟩, hS.F ht⟩) hS.2.2 dX5_ruleOf_51
    · have i_1 : p0.toInt = 100 := z_eq (rfl) (rfl) c_1
      refine lv_iconst (v := 1) hx hb dX5_ruleOf_16 (by decide) ?_
      refine lv_goto (tgt := 51) hx hb dX5_ruleOf_17 (by decide) ?_
      have hz : zrl p0.toInt = 1 := by unfold zrl; (repeat' split) <;> omega
      have : (1 : Int32).toInt = 1 := rfl
      have hP9 := hP.sub (ws' := []) [] rfl
      have hD9 := hD.sub (ws' := []) [] (by decide) rfl
      exact W.iret (v := 1) hx hb hr (fun t ht hW => ⟨⟨1, (0 : Nat), rfl, ⟨(by first | omega | decide), (by first | omega | decide), (by first | omega | decide)⟩, by rw [ht]; exact hP9, hD9⟩, hS.F ht⟩) hS.2.2 dX5_ruleOf_51
  · have i_0 : p0.toInt = 115 := z_eq (rfl) (rfl) c_0
    refine lv_iconst (v := 0) hx hb dX5_ruleOf_6 (by decide) ?_
    refine lv_goto (tgt := 51) hx hb dX5_ruleOf_7 (by decide) ?_
    have hz : zrl p0.toInt = 0 := by unfold zrl; (repeat' split) <;> omega
    have : (0 : Int32).toInt = 0 := rfl
    have hP9 := hP.sub (ws' := []) [] rfl
    have hD9 := hD.sub (ws' := []) [] (by decide) rfl
    exact W.iret (v := 0) hx hb hr (fun t ht hW => ⟨⟨0, (0 : Nat), rfl, ⟨(by first | omega | decide), (by first | omega | decide), (by first | omega | decide)⟩, by rw [ht]; exact hP9, hD9⟩, hS.F ht⟩) hS.2.2 dX5_ruleOf_51
set_option maxHeartbeats 8000000 in
set_option maxRecDepth 100000 in
theorem gX5_lesser (l : Launch) (g : zG) (sz : Nat) (p0 : Int32) (p1 : Int32) : Met l yX5_lesser (.code yX5_lesser cX5_lesser 2 (some .int) :: zBig) ({ frames := 0, cells := 0, slots := 0, locals := 0 }) (va_Pc [.int p0, .int p1] (zPre g [] sz)) (va_Qi (fun (r : Int32) (u : Nat) => r.toInt ≤ p0.toInt ∧ r.toInt ≤ p1.toInt ∧ (r.toInt = p0.toInt ∨ r.toInt = p1.toInt)) (zPost g (fun u : Nat => []) (va_A [] sz)) (va_A [] sz)) 0 0 (va_A [] sz) := by
  refine zMetI rfl (Nat.le_of_ble_eq_true rfl) ?_
  intro p e s m args below meth c A ls hx hb hml hr hlocks hin hown hts hK hN hZ hP hD hA hS hAe hl
  have hown : s.vm.findClass RX5 = some m.cls := hown
  have hl : lv_has ls 2 [(0, .int p0), (1, .int p1)] := hl
  refine lv_iload_n hx hb dX5_lesser_0 rfl (lv_at hl 0 rfl) ?_
  refine lv_iload_n hx hb dX5_lesser_1 rfl (lv_at hl 1 rfl) ?_
  refine lv_icmp_ge (tgt := 9) hx hb dX5_lesser_2 (by decide) (fun c_0 => ?_) (fun c_0 => ?_)
  · have i_0 : p1.toInt ≤ p0.toInt := z_le (rfl) (rfl) c_0
    refine lv_iload_n hx hb dX5_lesser_9 rfl (lv_at hl 1 rfl) ?_
    have hP9 := hP.sub (ws' := []) [] rfl
    have hD9 := hD.sub (ws' := []) [] (by decide) rfl
    exact W.iret (v := p1) hx hb hr (fun t ht hW => ⟨⟨p1, (0 : Nat), rfl, ⟨(by first | omega | decide), (by first | omega | decide), (by first | omega | decide)⟩, by rw [ht]; exact hP9, hD9⟩, hS.F ht⟩) hS.2.2 dX5_lesser_10
  · have i_0 : p0.toInt < p1.toInt := z_nle (rfl) (rfl) c_0
    refine lv_iload_n hx hb dX5_lesser_5 rfl (lv_at hl 0 rfl) ?_
    refine lv_goto (tgt := 10) hx hb dX5_lesser_6 (by decide) ?_
    have hP9 := hP.sub (ws' := []) [] rfl
    have hD9 := hD.sub (ws' := []) [] (by decide) rfl
    exact W.iret (v := p0) hx hb hr (fun t ht hW => ⟨⟨p0, (0 : Nat), rfl, ⟨(by first | omega | decide), (by first | omega | decide), (by first | omega | decide)⟩, by rw [ht]; exact hP9, hD9⟩, hS.F ht⟩) hS.2.2 dX5_lesser_10
