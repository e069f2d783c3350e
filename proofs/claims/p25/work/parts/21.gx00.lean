set_option maxHeartbeats 8000000 in
set_option maxRecDepth 100000 in
theorem gX4_fitsRule (l : Launch) (g : zG) (sz : Nat) (p0 : Int32) (p1 : Int32) : Met l yX4_fitsRule (.code yX4_fitsRule cX4_fitsRule 2 (some .boolean) :: zBig) ({ frames := 0, cells := 0, slots := 0, locals := 0 }) (va_Pc [.int p0, .int p1] (zPre g [] sz)) (va_Qi (fun (r : Int32) (u : Nat) => (0 ≤ p0.toInt ∧ p0.toInt ≤ 4 ∧ zfI p0.toInt p1.toInt = 1 ∧ r = 1) ∨ (zfI p0.toInt p1.toInt = 0 ∧ r = 0)) (zPost g (fun u : Nat => []) (va_A [] sz)) (va_A [] sz)) 0 0 (va_A [] sz) := by
  refine zMetI rfl (Nat.le_of_ble_eq_true rfl) ?_
  intro p e s m args below meth c A ls hx hb hml hr hlocks hin hown hts hK hN hZ hP hD hA hS hAe hl
  have hown : s.vm.findClass RX4 = some m.cls := hown
  have hl : lv_has ls 2 [(0, .int p0), (1, .int p1)] := hl
  refine lv_iload_n hx hb dX4_fitsRule_0 rfl (lv_at hl 0 rfl) ?_
  refine lv_if_lt (tgt := 31) hx hb dX4_fitsRule_1 (by decide) (fun c_0 => ?_) (fun c_0 => ?_)
  · have i_0 : p0.toInt < 0 := z_lt (rfl) (rfl) c_0
    refine lv_iconst (v := 0) hx hb dX4_fitsRule_31 (by decide) ?_
    have hz : zfI p0.toInt p1.toInt = 0 := zfI_0 (by omega)
    have hP9 := hP.sub (ws' := []) [] rfl
    have hD9 := hD.sub (ws' := []) [] (by decide) rfl
    exact W.zret (v := 0) hx hb hr (by decide) (fun t ht hW => ⟨⟨0, (0 : Nat), rfl, Or.inr (⟨(by first | omega | decide), rfl⟩), by rw [ht]; exact hP9, hD9⟩, hS.F ht⟩) hS.2.2 dX4_fitsRule_32
  · have i_0 : 0 ≤ p0.toInt := z_nlt (rfl) (rfl) c_0
    refine lv_iload_n hx hb dX4_fitsRule_4 rfl (lv_at hl 0 rfl) ?_
    refine lv_iconst (v := 5) hx hb dX4_fitsRule_5 (by decide) ?_
    refine lv_icmp_ge (tgt := 31) hx hb dX4_fitsRule_6 (by decide) (fun c_1 => ?_) (fun c_1 => ?_)
    · have i_1 : 5 ≤ p0.toInt := z_le (rfl) (rfl) c_1
      refine lv_iconst (v := 0) hx hb dX4_fitsRule_31 (by decide) ?_
      have hz : zfI p0.toInt p1.toInt = 0 := zfI_0 (by omega)
      have hP9 := hP.sub (ws' := []) [] rfl
      have hD9 := hD.sub (ws' := []) [] (by decide) rfl
      exact W.zret (v := 0) hx hb hr (by decide) (fun t ht hW => ⟨⟨0, (0 : Nat), rfl, Or.inr (⟨(by first | omega | decide), rfl⟩), by rw [ht]; exact hP9, hD9⟩, hS.F ht⟩) hS.2.2 dX4_fitsRule_32
    · have i_1 : p0.toInt < 5 := z_nle (rfl) (rfl) c_1
      refine lv_iload_n hx hb dX4_fitsRule_9 rfl (lv_at hl 1 rfl) ?_
      refine va_gets (C := "FishSteps") (n := "RULE_LEAST") (d := "[I") hx hb hZ.2.1.1 hS hown (hts _ m_f_RX4_245) (fun _ h => h) dX4_fitsRule_10 ?_
      refine lv_iload_n hx hb dX4_fitsRule_13 rfl (lv_at hl 0 rfl) ?_
      refine va_ti hx hb hZ.2.1.2.1 hS (vp_in_iff.mpr ⟨by omega, by omega⟩) (v := .int (zf2 p0.toNatClampNeg)) rfl dX4_fitsRule_14 ?_
      refine lv_topi (fun y0 ey0 => ?_)
      have py0_0 : y0.toInt = zlo p0.toInt := zf2_at (i := p0) (by omega) (by omega) ey0
      refine lv_icmp_lt (tgt := 31) hx hb dX4_fitsRule_15 (by decide) (fun c_2 => ?_) (fun c_2 => ?_)
      · have i_2 : p1.toInt < y0.toInt := z_lt (rfl) (rfl) c_2
        refine lv_iconst (v := 0) hx hb dX4_fitsRule_31 (by decide) ?_
        have hz : zfI p0.toInt p1.toInt = 0 := zfI_0 (by omega)
        have hP9 := hP.sub (ws' := []) [] rfl
        have hD9 := hD.sub (ws' := []) [] (by decide) rfl
        exact W.zret (v := 0) hx hb hr (by decide) (fun t ht hW => ⟨⟨0, (0 : Nat), rfl, Or.inr (⟨(by first | omega | decide), rfl⟩), by rw [ht]; exact hP9, hD9⟩, hS.F ht⟩) hS.2.2 dX4_fitsRule_32
      · have i_2 : y0.toInt ≤ p1.toInt := z_nlt (rfl) (rfl) c_2
        refine lv_iload_n hx hb dX4_fitsRule_18 rfl (lv_at hl 1 rfl) ?_
        refine va_gets (C := "FishSteps") (n := "RULE_MOST") (d := "[I") hx hb hZ.2.2.1 hS hown (hts _ m_f_RX4_248) (fun _ h => h) dX4_fitsRule_19 ?_
        refine lv_iload_n hx hb dX4_fitsRule_22 rfl (lv_at hl 0 rfl) ?_
        refine va_ti hx hb hZ.2.2.2.1 hS (vp_in_iff.mpr ⟨by omega, by omega⟩) (v := .int (zf3 p0.toNatClampNeg)) rfl dX4_fitsRule_23 ?_
        refine lv_topi (fun y1 ey1 => ?_)
        have py1_0 : y1.toInt = zhi p0.toInt := zf3_at (i := p0) (by omega) (by omega) ey1
        refine lv_icmp_gt (tgt := 31) hx hb dX4_fitsRule_24 (by decide) (fun c_3 => ?_) (fun c_3 => ?_)
        · have i_3 : y1.toInt < p1.toInt := z_lt (rfl) (rfl) c_3
          refine lv_iconst (v := 0) hx hb dX4_fitsRule_31 (by decide) ?_
          have hz : zfI p0.toInt p1.toInt = 0 := zfI_0 (by omega)
          have hP9 := hP.sub (ws' := []) [] rfl
          have hD9 := hD.sub (ws' := []) [] (by decide) rfl
          exact W.zret (v := 0) hx hb hr (by decide) (fun t ht hW => ⟨⟨0, (0 : Nat), rfl, Or.inr (⟨(by first | omega | decide), rfl⟩), by rw [ht]; exact hP9, hD9⟩, hS.F ht⟩) hS.2.2 dX4_fitsRule_32
        · have i_3 : p1.toInt ≤ y1.toInt := z_nlt (rfl) (rfl) c_3
          refine lv_iconst (v := 1) hx hb dX4_fitsRule_27 (by decide) ?_
          refine lv_goto (tgt := 32) hx hb dX4_fitsRule_28 (by decide) ?_
          have hz : zfI p0.toInt p1.toInt = 1 := zfI_1 (by omega) (by omega) (by omega) (by omega)
          have hP9 := hP.sub (ws' := []) [] rfl
          have hD9 := hD.sub (ws' := []) [] (by decide) rfl
          exact W.zret (v := 1) hx hb hr (by decide) (fun t ht hW => ⟨⟨1, (0 : Nat), rfl, Or.inl ⟨(by first | omega | decide), (by first | omega | decide), (by first | omega | decide), rfl⟩, by rw [ht]; exact hP9, hD9⟩, hS.F ht⟩) hS.2.2 dX4_fitsRule_32
set_option maxHeartbeats 8000000 in
set_option maxRecDepth 100000 in
theorem gX4_rule (l : Launch) (g : zG) (h0 h1 h2 h3 h4 h5 h6 h7 h8 h9 h10 h11 h12 h13 h14 h15 h16 h17 h18 : Nat) (sz : Nat) (p1 : Int32) (p2 : Int32) (f0 : Int32) (f1 : Int32) (f2 : Int32) (f3 : Int32) (f4 : Int32) (Z5 : Nat → Int32) (hf_f2 : 0 ≤ f2.toInt ∧ f2.toInt ≤ 6) (hf_f3 : 0 ≤ f3.toInt ∧ f3.toInt ≤ 5) (hF_Z5 : iLaw Z5) : Met l yX4_rule (.code yX4_rule cX4_rule 4 (some .int) :: zBig) ({ frames := 1, cells := 0, slots := 0, locals := 21 }) (va_Pc [.ref h0, .int p1, .int p2] (zPre g [(h0, .inr (4, [.ref h1, .ref h2, .int f0, .ref h3, .ref h4, .ref h5, .ref h6, .int f1, .ref h7, .ref h8, .ref h9, .ref h10])), (h1, .inr (0, [.ref h11, .int f2, .ref h12, .int f3, .ref h13, .ref h14, .ref h15, .ref h16, .ref h17, .ref h18, .int f4])), (h11, .inl (zI g, 5, .inl Z5))] sz)) (va_Qi (fun (r : Int32) (u : (Nat → Int32)) => (r.toInt = zAr Z5 p1.toInt p2.toInt) ∧ iLaw u ∧ u = (if (zfI p1.toInt p2.toInt = 1) then upd Z5 p1.toNatClampNeg p2 else Z5)) (zPost g (fun u : (Nat → Int32) => [(h0, .inr (4, [.ref h1, .ref h2, .int f0, .ref h3, .ref h4, .ref h5, .ref h6, .int f1, .ref h7, .ref h8, .ref h9, .ref h10])), (h1, .inr (0, [.ref h11, .int f2, .ref h12, .int f3, .ref h13, .ref h14, .ref h15, .ref h16, .ref h17, .ref h18, .int f4])), (h11, .inl (zI g, 5, .inl u))]) (va_A [(h0, .inr (4, [.ref h1, .ref h2, .int f0, .ref h3, .ref h4, .ref h5, .ref h6, .int f1, .ref h7, .ref h8, .ref h9, .ref h10])), (h1, .inr (0, [.ref h11, .int f2, .ref h12, .int f3, .ref h13, .ref h14, .ref h15, .ref h16, .ref h17, .ref h18, .int f4])), (h11, .inl (zI g, 5, .inl Z5))] sz)) (va_A [(h0, .inr (4, [.ref h1, .ref h2, .int f0, .ref h3, .ref h4, .ref h5, .ref h6, .int f1, .ref h7, .ref h8, .ref h9, .ref h10])), (h1, .inr (0, [.ref h11, .int f2, .ref h12, .int f3, .ref h13, .ref h14, .ref h15, .ref h16, .ref h17, .ref h18, .int f4])), (h11, .inl (zI g, 5, .inl Z5))] sz)) 0 0 (va_A [(h0, .inr (4, [.ref h1, .ref h2, .int f0, .ref h3, .ref h4, .ref h5, .ref h6, .int f1, .ref h7, .ref h8, .ref h9, .ref h10])), (h1, .inr (0, [.ref h11, .int f2, .ref h12, .int f3, .ref h13, .ref h14, .ref h15, .ref h16, .ref h17, .ref h18, .int f4])), (h11, .inl (zI g, 5, .inl Z5))] sz) := by
  refine zMetI rfl (Nat.le_of_ble_eq_true rfl) ?_
  intro p e s m args below meth c A ls hx hb hml hr hlocks hin hown hts hK hN hZ hP hD hA hS hAe hl
  have hown : s.vm.findClass RX4 = some m.cls := hown
  have hl : lv_has ls 4 [(0, .ref h0), (1, .int p1), (2, .int p2)] := hl
  refine lv_iload_n hx hb dX4_rule_0 rfl (lv_at hl 1 rfl) ?_
  refine lv_iload_n hx hb dX4_rule_1 rfl (lv_at hl 2 rfl) ?_
  refine z_calli (wr := [(h0, .inr (4, [.ref h1, .ref h2, .int f0, .ref h3, .ref h4, .ref h5, .ref h6, .int f1, .ref h7, .ref h8, .ref h9, .ref h10])), (h1, .inr (0, [.ref h11, .int f2, .ref h12, .int f3, .ref h13, .ref h14, .ref h15, .ref h16, .ref h17, .ref h18, .int f4])), (h11, .inl (zI g, 5, .inl Z5))]) hP hD hS hA [] [0, 1, 2] (by decide) rfl rfl (by decide) (va_runS (As := [.int p1, .int p2]) (rest := []) ⟨hx, hb, hml, hown, hts⟩ (gX4_fitsRule l g  s.heap.size p1 p2) ⟨callB_of 2 hts (zGood m_o_yX4_fitsRule) rfl rfl rfl (hts _ m_z_RX4) (hts _ m_m_RX4_64) ⟨by decide +kernel, by decide +kernel, by decide +kernel⟩ ⟨Nat.le_of_ble_eq_true rfl, Nat.le_of_ble_eq_true rfl⟩, hts _ m_s_yX4_fitsRule⟩ (zPreS hK hN hZ hP hD hS hA [] (by decide) rfl rfl) rfl rfl hl.1 rfl (lv_room (Nat.le_of_ble_eq_true rfl)) dX4_rule_2 ⟨Nat.le_of_ble_eq_true rfl, Nat.le_of_ble_eq_true rfl⟩) (fun r u H locs hw hP hD hS => ?_)
  rcases hw with ⟨i_0, i_1, i_2, rfl⟩ | ⟨i_3, rfl⟩
  · skip
    have i_0 : 0 ≤ p1.toInt := i_0
    have i_1 : p1.toInt ≤ 4 := i_1
    have i_2 : zfI p1.toInt p2.toInt = 1 := i_2
    have hP : va_P g.1 vwCl [(h0, .inr (4, [.ref h1, .ref h2, .int f0, .ref h3, .ref h4, .ref h5, .ref h6, .int f1, .ref h7, .ref h8, .ref h9, .ref h10])), (h1, .inr (0, [.ref h11, .int f2, .ref h12, .int f3, .ref h13, .ref h14, .ref h15, .ref h16, .ref h17, .ref h18, .int f4])), (h11, .inl (zI g, 5, .inl Z5))] H := hP
    have hD : va_D A [(h0, .inr (4, [.ref h1, .ref h2, .int f0, .ref h3, .ref h4, .ref h5, .ref h6, .int f1, .ref h7, .ref h8, .ref h9, .ref h10])), (h1, .inr (0, [.ref h11, .int f2, .ref h12, .int f3, .ref h13, .ref h14, .ref h15, .ref h16, .ref h17, .ref h18, .int f4])), (h11, .inl (zI g, 5, .inl Z5))] := hD
    refine lv_if_ne (tgt := 10) hx hb dX4_rule_5 (by decide) (fun _ => ?_) (fun h => absurd h (by decide +kernel))
    refine lv_aload_n hx hb dX4_rule_10 rfl (lv_at hl 0 rfl) ?_
    refine va_get (D := g.1) (ci := 4) (v := .ref h1) (C := RX4) (T := TX4) (N := 12) hx hb hts zl_X4 hown hK hP 0 rfl rfl 0 (by decide) (hts _ m_f_RX4_10) (fun _ h => h) rfl dX4_rule_11 ?_
    refine va_getN (D := g.1) (ci := 0) (v := .ref h11) (C := RX0) (T := TX0) (N := 11) hx hb hts zl_X0 hown hK hP 1 rfl rfl 0 (by decide) (hN.f 1 (q := (RX4, 68, "FishSteps$Books", "law", "[I")) rfl) (fun _ h => h) rfl dX4_rule_14 ?_
    refine lv_iload_n hx hb dX4_rule_17 rfl (lv_at hl 1 rfl) ?_
    refine va_iald (D := g.1) hx hb hK hP 2 0 rfl rfl (vp_in_iff.mpr ⟨by omega, by omega⟩) dX4_rule_18 ?_
    refine lv_topi (fun y0 ey0 => ?_)
    have qy0_0 : y0.toInt = (Z5 p1.toNatClampNeg).toInt := congrArg Int32.toInt ey0
    refine lv_istore_n (lv' := [(3, .int y0), (0, .ref h0), (1, .int p1), (2, .int p2)]) hx hb dX4_rule_19 rfl hl (by decide) rfl (fun ls hl => ?_)
    refine lv_aload_n hx hb dX4_rule_20 rfl (lv_at hl 1 rfl) ?_
    refine va_get (D := g.1) (ci := 4) (v := .ref h1) (C := RX4) (T := TX4) (N := 12) hx hb hts zl_X4 hown hK hP 0 rfl rfl 0 (by decide) (hts _ m_f_RX4_10) (fun _ h => h) rfl dX4_rule_21 ?_
    refine va_getN (D := g.1) (ci := 0) (v := .ref h11) (C := RX0) (T := TX0) (N := 11) hx hb hts zl_X0 hown hK hP 1 rfl rfl 0 (by decide) (hN.f 1 (q := (RX4, 68, "FishSteps$Books", "law", "[I")) rfl) (fun _ h => h) rfl dX4_rule_24 ?_
    refine lv_iload_n hx hb dX4_rule_27 rfl (lv_at hl 2 rfl) ?_
    refine lv_iload_n hx hb dX4_rule_28 rfl (lv_at hl 3 rfl) ?_
    refine va_iast (D := g.1) hx hb hK hP hD hS 2 0 rfl rfl (vp_in_iff.mpr ⟨by omega, by omega⟩) dX4_rule_29 (fun H locs hP hD hS => ?_)
    have hP : va_P g.1 vwCl [(h0, .inr (4, [.ref h1, .ref h2, .int f0, .ref h3, .ref h4, .ref h5, .ref h6, .int f1, .ref h7, .ref h8, .ref h9, .ref h10])), (h1, .inr (0, [.ref h11, .int f2, .ref h12, .int f3, .ref h13, .ref h14, .ref h15, .ref h16, .ref h17, .ref h18, .int f4])), (h11, .inl (zI g, 5, .inl (upd Z5 p1.toNatClampNeg p2)))] H := hP
    have hD : va_D A [(h0, .inr (4, [.ref h1, .ref h2, .int f0, .ref h3, .ref h4, .ref h5, .ref h6, .int f1, .ref h7, .ref h8, .ref h9, .ref h10])), (h1, .inr (0, [.ref h11, .int f2, .ref h12, .int f3, .ref h13, .ref h14, .ref h15, .ref h16, .ref h17, .ref h18, .int f4])), (h11, .inl (zI g, 5, .inl (upd Z5 p1.toNatClampNeg p2)))] := hD
    have hI1 : iLaw (upd Z5 p1.toNatClampNeg p2) := iLaw_put (i := p1) (a := p1.toInt) (v := p2) (b := p2.toInt) hF_Z5 (rfl) (rfl) (by omega) (by omega)
    obtain ⟨R2, eR2⟩ : ∃ z : Nat → Int32, z = (upd Z5 p1.toNatClampNeg p2) := ⟨_, rfl⟩
    rw [← eR2] at hP hD hI1
    refine lv_iload_n hx hb dX4_rule_30 rfl (lv_at hl 0 rfl) ?_
    have hz : zAr Z5 p1.toInt p2.toInt = y0.toInt := by unfold zAr; rw [if_pos (by omega), ← z_tn (i := p1) rfl (by omega)]; omega
    have hP9 := hP.sub (ws' := [(h0, .inr (4, [.ref h1, .ref h2, .int f0, .ref h3, .ref h4, .ref h5, .ref h6, .int f1, .ref h7, .ref h8, .ref h9, .ref h10])), (h1, .inr (0, [.ref h11, .int f2, .ref h12, .int f3, .ref h13, .ref h14, .ref h15, .ref h16, .ref h17, .ref h18, .int f4])), (h11, .inl (zI g, 5, .inl R2))]) [0, 1, 2] rfl
    have hD9 := hD.sub (ws' := [(h0, .inr (4, [.ref h1, .ref h2, .int f0, .ref h3, .ref h4, .ref h5, .ref h6, .int f1, .ref h7, .ref h8, .ref h9, .ref h10])), (h1, .inr (0, [.ref h11, .int f2, .ref h12, .int f3, .ref h13, .ref h14, .ref h15, .ref h16, .ref h17, .ref h18, .int f4])), (h11, .inl (zI g, 5, .inl R2))]) [0, 1, 2] (by decide) rfl
    exact W.iret (v := y0) hx hb hr (fun t ht hW => ⟨⟨y0, R2, rfl, ⟨(by first | omega | decide), hI1, (by rw [if_pos (by omega), eR2])⟩, by rw [ht]; exact hP9, hD9⟩, hS.F ht⟩) hS.2.2 dX4_rule_31
  · skip
    have i_3 : zfI p1.toInt p2.toInt = 0 := i_3
    have hP : va_P g.1 vwCl [(h0, .inr (4, [.ref h1, .ref h2, .int f0, .ref h3, .ref h4, .ref h5, .ref h6, .int f1, .ref h7, .ref h8, .ref h9, .ref h10])), (h1, .inr (0, [.ref h11, .int f2, .ref h12, .int f3, .ref h13, .ref h14, .ref h15, .ref h16, .ref h17, .ref h18, .int f4])), (h11, .inl (zI g, 5, .inl Z5))] H := hP
    have hD : va_D A [(h0, .inr (4, [.ref h1, .ref h2, .int f0, .ref h3, .ref h4, .ref h5, .ref h6, .int f1, .ref h7, .ref h8, .ref h9, .ref h10])), (h1, .inr (0, [.ref h11, .int f2, .ref h12, .int f3, .ref h13, .ref h14, .ref h15, .ref h16, .ref h17, .ref h18, .int f4])), (h11, .inl (zI g, 5, .inl Z5))] := hD
    refine lv_if_ne (tgt := 10) hx hb dX4_rule_5 (by decide) (fun h => absurd h (by decide +kernel)) (fun _ => ?_)
    refine lv_iconst (v := (-1)) hx hb dX4_rule_8 (by decide) ?_
    have hz : zAr Z5 p1.toInt p2.toInt = -1 := by unfold zAr; rw [if_neg (by omega)]
    have : ((-1) : Int32).toInt = (-1) := rfl
    have hP9 := hP.sub (ws' := [(h0, .inr (4, [.ref h1, .ref h2, .int f0, .ref h3, .ref h4, .ref h5, .ref h6, .int f1, .ref h7, .ref h8, .ref h9, .ref h10])), (h1, .inr (0, [.ref h11, .int f2, .ref h12, .int f3, .ref h13, .ref h14, .ref h15, .ref h16, .ref h17, .ref h18, .int f4])), (h11, .inl (zI g, 5, .inl Z5))]) [0, 1, 2] rfl
    have hD9 := hD.sub (ws' := [(h0, .inr (4, [.ref h1, .ref h2, .int f0, .ref h3, .ref h4, .ref h5, .ref h6, .int f1, .ref h7, .ref h8, .ref h9, .ref h10])), (h1, .inr (0, [.ref h11, .int f2, .ref h12, .int f3, .ref h13, .ref h14, .ref h15, .ref h16, .ref h17, .ref h18, .int f4])), (h11, .inl (zI g, 5, .inl Z5))]) [0, 1, 2] (by decide) rfl
    exact W.iret (v := (-1)) hx hb hr (fun t ht hW => ⟨⟨(-1), Z5, rfl, ⟨(by first | omega | decide), hF_Z5, (by rw [if_neg (by omega)])⟩, by rw [ht]; exact hP9, hD9⟩, hS.F ht⟩) hS.2.2 dX4_rule_9
set_option maxHeartbeats 8000000 in
set_option maxRecDepth 100000 in
theorem gX4_buyer (l : Launch) (g : zG) (h0 h1 h2 h3 h4 h5 h6 h7 h8 h9 h10 h11 h12 h13 h14 h15 h16 h17 h18 : Nat) (sz : Nat) (p1 : Int32) (p2 : Int32) (f0 : Int32) (f1 : Int32) (f2 : Int32) (f3 : Int32) (f4 : Int32) (Z7 : Nat → Int32) (Z8 : Nat → Int32) (hf_f2 : 0 ≤ f2.toInt ∧ f2.toInt ≤ 6) (hf_f3 : 0 ≤ f3.toInt ∧ f3.toInt ≤ 5) : Met l yX4_buyer (.code yX4_buyer cX4_buyer 4 (some .int) :: zBig) ({ frames := 0, cells := 0, slots := 0, locals := 0 }) (va_Pc [.ref h0, .int p1, .int p2] (zPre g [(h0, .inr (4, [.ref h1, .ref h2, .int f0, .ref h3, .ref h4, .ref h5, .ref h6, .int f1, .ref h7, .ref h8, .ref h9, .ref h10])), (h1, .inr (0, [.ref h11, .int f2, .ref h12, .int f3, .ref h13, .ref h14, .ref h15, .ref h16, .ref h17, .ref h18, .int f4])), (h13, .inl (zI g, 5, .inl Z7)), (h14, .inl (zI g, 5, .inl Z8))] sz)) (va_Qi (fun (r : Int32) (u : Int32 × (Nat → Int32) × (Nat → Int32)) => ((p1.toInt < 0 ∨ 4 < p1.toInt ∨ p2.toInt < 0 ∨ 999 < p2.toInt → r.toInt = -1) ∧ (0 ≤ p1.toInt → p1.toInt ≤ 4 → 0 ≤ p2.toInt → p2.toInt ≤ 999 → (f3.toInt < 0 ∨ 5 ≤ f3.toInt) → r.toInt = -3) ∧ (0 ≤ p1.toInt → p1.toInt ≤ 4 → 0 ≤ p2.toInt → p2.toInt ≤ 999 → 0 ≤ f3.toInt → f3.toInt < 5 → r.toInt = f3.toInt)) ∧ (0 ≤ u.1.toInt ∧ u.1.toInt ≤ 5) ∧ (u.1 = (if (0 ≤ p1.toInt ∧ p1.toInt ≤ 4 ∧ 0 ≤ p2.toInt ∧ p2.toInt ≤ 999 ∧ 0 ≤ f3.toInt ∧ f3.toInt < 5) then f3 + 1 else f3)) ∧ u.2.1 = (if (0 ≤ p1.toInt ∧ p1.toInt ≤ 4 ∧ 0 ≤ p2.toInt ∧ p2.toInt ≤ 999 ∧ 0 ≤ f3.toInt ∧ f3.toInt < 5) then upd Z7 (f3.toInt).toNat p1 else Z7)) (zPost g (fun u : Int32 × (Nat → Int32) × (Nat → Int32) => [(h0, .inr (4, [.ref h1, .ref h2, .int f0, .ref h3, .ref h4, .ref h5, .ref h6, .int f1, .ref h7, .ref h8, .ref h9, .ref h10])), (h1, .inr (0, [.ref h11, .int f2, .ref h12, .int u.1, .ref h13, .ref h14, .ref h15, .ref h16, .ref h17, .ref h18, .int f4])), (h13, .inl (zI g, 5, .inl u.2.1)), (h14, .inl (zI g, 5, .inl u.2.2))]) (va_A [(h0, .inr (4, [.ref h1, .ref h2, .int f0, .ref h3, .ref h4, .ref h5, .ref h6, .int f1, .ref h7, .ref h8, .ref h9, .ref h10])), (h1, .inr (0, [.ref h11, .int f2, .ref h12, .int f3, .ref h13, .ref h14, .ref h15, .ref h16, .ref h17, .ref h18, .int f4])), (h13, .inl (zI g, 5, .inl Z7)), (h14, .inl (zI g, 5, .inl Z8))] sz)) (va_A [(h0, .inr (4, [.ref h1, .ref h2, .int f0, .ref h3, .ref h4, .ref h5, .ref h6, .int f1, .ref h7, .ref h8, .ref h9, .ref h10])), (h1, .inr (0, [.ref h11, .int f2, .ref h12, .int f3, .ref h13, .ref h14, .ref h15, .ref h16, .ref h17, .ref h18, .int f4])), (h13, .inl (zI g, 5, .inl Z7)), (h14, .inl (zI g, 5, .inl Z8))] sz)) 0 0 (va_A [(h0, .inr (4, [.ref h1, .ref h2, .int f0, .ref h3, .ref h4, .ref h5, .ref h6, .int f1, .ref h7, .ref h8, .ref h9, .ref h10])), (h1, .inr (0, [.ref h11, .int f2, .ref h12, .int f3, .ref h13, .ref h14, .ref h15, .ref h16, .ref h17, .ref h18, .int f4])), (h13, .inl (zI g, 5, .inl Z7)), (h14, .inl (zI g, 5, .inl Z8))] sz) := by
  refine zMetI rfl (Nat.le_of_ble_eq_true rfl) ?_
  intro p e s m args below meth c A ls hx hb hml hr hlocks hin hown hts hK hN hZ hP hD hA hS hAe hl
  have hown : s.vm.findClass RX4 = some m.cls := hown
  have hl : lv_has ls 4 [(0, .ref h0), (1, .int p1), (2, .int p2)] := hl
  refine lv_iload_n hx hb dX4_buyer_0 rfl (lv_at hl 1 rfl) ?_
  refine lv_if_lt (tgt := 20) hx hb dX4_buyer_1 (by decide) (fun c_0 => ?_) (fun c_0 => ?_)
  · have i_0 : p1.toInt < 0 := z_lt (rfl) (rfl) c_0
    refine lv_iconst (v := (-1)) hx hb dX4_buyer_20 (by decide) ?_
    have : ((-1) : Int32).toInt = (-1) := rfl
    have hP9 := hP.sub (ws' := [(h0, .inr (4, [.ref h1, .ref h2, .int f0, .ref h3, .ref h4, .ref h5, .ref h6, .int f1, .ref h7, .ref h8, .ref h9, .ref h10])), (h1, .inr (0, [.ref h11, .int f2, .ref h12, .int f3, .ref h13, .ref h14, .ref h15, .ref h16, .ref h17, .ref h18, .int f4])), (h13, .inl (zI g, 5, .inl Z7)), (h14, .inl (zI g, 5, .inl Z8))]) [0, 1, 2, 3] rfl
    have hD9 := hD.sub (ws' := [(h0, .inr (4, [.ref h1, .ref h2, .int f0, .ref h3, .ref h4, .ref h5, .ref h6, .int f1, .ref h7, .ref h8, .ref h9, .ref h10])), (h1, .inr (0, [.ref h11, .int f2, .ref h12, .int f3, .ref h13, .ref h14, .ref h15, .ref h16, .ref h17, .ref h18, .int f4])), (h13, .inl (zI g, 5, .inl Z7)), (h14, .inl (zI g, 5, .inl Z8))]) [0, 1, 2, 3] (by decide) rfl
    exact W.iret (v := (-1)) hx hb hr (fun t ht hW => ⟨⟨(-1), ⟨f3, Z7, Z8⟩, rfl, ⟨⟨(by first | omega | decide), (by first | omega | decide), (by first | omega | decide)⟩, ⟨show 0 ≤ f3.toInt from by omega, show f3.toInt ≤ 5 from by omega⟩, (by rw [if_neg (by omega)]), (by rw [if_neg (by omega)])⟩, by rw [ht]; exact hP9, hD9⟩, hS.F ht⟩) hS.2.2 dX4_buyer_21
  · have i_0 : 0 ≤ p1.toInt := z_nlt (rfl) (rfl) c_0
    refine lv_iload_n hx hb dX4_buyer_4 rfl (lv_at hl 1 rfl) ?_
    refine lv_iconst (v := 4) hx hb dX4_buyer_5 (by decide) ?_
    refine lv_icmp_gt (tgt := 20) hx hb dX4_buyer_6 (by decide) (fun c_1 => ?_) (fun c_1 => ?_)
    · have i_1 : 4 < p1.toInt := z_lt (rfl) (rfl) c_1
      refine lv_iconst (v := (-1)) hx hb dX4_buyer_20 (by decide) ?_
      have : ((-1) : Int32).toInt = (-1) := rfl
      have hP9 := hP.sub (ws' := [(h0, .inr (4, [.ref h1, .ref h2, .int f0, .ref h3, .ref h4, .ref h5, .ref h6, .int f1, .ref h7, .ref h8, .ref h9, .ref h10])), (h1, .inr (0, [.ref h11, .int f2, .ref h12, .int f3, .ref h13, .ref h14, .ref h15, .ref h16, .ref h17, .ref h18, .int f4])), (h13, .inl (zI g, 5, .inl Z7)), (h14, .inl (zI g, 5, .inl Z8))]) [0, 1, 2, 3] rfl
      have hD9 := hD.sub (ws' := [(h0, .inr (4, [.ref h1, .ref h2, .int f0, .ref h3, .ref h4, .ref h5, .ref h6, .int f1, .ref h7, .ref h8, .ref h9, .ref h10])), (h1, .inr (0, [.ref h11, .int f2, .ref h12, .int f3, .ref h13, .ref h14, .ref h15, .ref h16, .ref h17, .ref h18, .int f4])), (h13, .inl (zI g, 5, .inl Z7)), (h14, .inl (zI g, 5, .inl Z8))]) [0, 1, 2, 3] (by decide) rfl
      exact W.iret (v := (-1)) hx hb hr (fun t ht hW => ⟨⟨(-1), ⟨f3, Z7, Z8⟩, rfl, ⟨⟨(by first | omega | decide), (by first | omega | decide), (by first | omega | decide)⟩, ⟨show 0 ≤ f3.toInt from by omega, show f3.toInt ≤ 5 from by omega⟩, (by rw [if_neg (by omega)]), (by rw [if_neg (by omega)])⟩, by rw [ht]; exact hP9, hD9⟩, hS.F ht⟩) hS.2.2 dX4_buyer_21
    · have i_1 : p1.toInt ≤ 4 := z_nlt (rfl) (rfl) c_1
      refine lv_iload_n hx hb dX4_buyer_9 rfl (lv_at hl 2 rfl) ?_
      refine lv_if_lt (tgt := 20) hx hb dX4_buyer_10 (by decide) (fun c_2 => ?_) (fun c_2 => ?_)
      · have i_2 : p2.toInt < 0 := z_lt (rfl) (rfl) c_2
        refine lv_iconst (v := (-1)) hx hb dX4_buyer_20 (by decide) ?_
        have : ((-1) : Int32).toInt = (-1) := rfl
        have hP9 := hP.sub (ws' := [(h0, .inr (4, [.ref h1, .ref h2, .int f0, .ref h3, .ref h4, .ref h5, .ref h6, .int f1, .ref h7, .ref h8, .ref h9, .ref h10])), (h1, .inr (0, [.ref h11, .int f2, .ref h12, .int f3, .ref h13, .ref h14, .ref h15, .ref h16, .ref h17, .ref h18, .int f4])), (h13, .inl (zI g, 5, .inl Z7)), (h14, .inl (zI g, 5, .inl Z8))]) [0, 1, 2, 3] rfl
        have hD9 := hD.sub (ws' := [(h0, .inr (4, [.ref h1, .ref h2, .int f0, .ref h3, .ref h4, .ref h5, .ref h6, .int f1, .ref h7, .ref h8, .ref h9, .ref h10])), (h1, .inr (0, [.ref h11, .int f2, .ref h12, .int f3, .ref h13, .ref h14, .ref h15, .ref h16, .ref h17, .ref h18, .int f4])), (h13, .inl (zI g, 5, .inl Z7)), (h14, .inl (zI g, 5, .inl Z8))]) [0, 1, 2, 3] (by decide) rfl
        exact W.iret (v := (-1)) hx hb hr (fun t ht hW => ⟨⟨(-1), ⟨f3, Z7, Z8⟩, rfl, ⟨⟨(by first | omega | decide), (by first | omega | decide), (by first | omega | decide)⟩, ⟨show 0 ≤ f3.toInt from by omega, show f3.toInt ≤ 5 from by omega⟩, (by rw [if_neg (by omega)]), (by rw [if_neg (by omega)])⟩, by rw [ht]; exact hP9, hD9⟩, hS.F ht⟩) hS.2.2 dX4_buyer_21
      · have i_2 : 0 ≤ p2.toInt := z_nlt (rfl) (rfl) c_2
        refine lv_iload_n hx hb dX4_buyer_13 rfl (lv_at hl 2 rfl) ?_
        refine lv_sipush (v := 999) hx hb dX4_buyer_14 (by decide) ?_
        refine lv_icmp_le (tgt := 22) hx hb dX4_buyer_17 (by decide) (fun c_3 => ?_) (fun c_3 => ?_)
        · have i_3 : p2.toInt ≤ 999 := z_le (rfl) (rfl) c_3
          refine lv_aload_n hx hb dX4_buyer_22 rfl (lv_at hl 0 rfl) ?_
          refine va_get (D := g.1) (ci := 4) (v := .ref h1) (C := RX4) (T := TX4) (N := 12) hx hb hts zl_X4 hown hK hP 0 rfl rfl 0 (by decide) (hts _ m_f_RX4_10) (fun _ h => h) rfl dX4_buyer_23 ?_
          refine va_getN (D := g.1) (ci := 0) (v := .int f3) (C := RX0) (T := TX0) (N := 11) hx hb hts zl_X0 hown hK hP 1 rfl rfl 3 (by decide) (hN.f 7 (q := (RX4, 71, "FishSteps$Books", "buyers", "I")) rfl) (fun _ h => h) rfl dX4_buyer_26 ?_
          refine lv_if_lt (tgt := 43) hx hb dX4_buyer_29 (by decide) (fun c_4 => absurd (show f3.toInt < 0 from z_lt (rfl) (rfl) c_4) (by omega)) (fun c_4 => ?_)
          have i_4 : 0 ≤ f3.toInt := z_nlt (rfl) (rfl) c_4
          refine lv_aload_n hx hb dX4_buyer_32 rfl (lv_at hl 0 rfl) ?_
          refine va_get (D := g.1) (ci := 4) (v := .ref h1) (C := RX4) (T := TX4) (N := 12) hx hb hts zl_X4 hown hK hP 0 rfl rfl 0 (by decide) (hts _ m_f_RX4_10) (fun _ h => h) rfl dX4_buyer_33 ?_
          refine va_getN (D := g.1) (ci := 0) (v := .int f3) (C := RX0) (T := TX0) (N := 11) hx hb hts zl_X0 hown hK hP 1 rfl rfl 3 (by decide) (hN.f 7 (q := (RX4, 71, "FishSteps$Books", "buyers", "I")) rfl) (fun _ h => h) rfl dX4_buyer_36 ?_
          refine lv_iconst (v := 5) hx hb dX4_buyer_39 (by decide) ?_
          refine lv_icmp_lt (tgt := 46) hx hb dX4_buyer_40 (by decide) (fun c_5 => ?_) (fun c_5 => ?_)
          · have i_5 : f3.toInt < 5 := z_lt (rfl) (rfl) c_5
            refine lv_aload_n hx hb dX4_buyer_46 rfl (lv_at hl 0 rfl) ?_
            refine va_get (D := g.1) (ci := 4) (v := .ref h1) (C := RX4) (T := TX4) (N := 12) hx hb hts zl_X4 hown hK hP 0 rfl rfl 0 (by decide) (hts _ m_f_RX4_10) (fun _ h => h) rfl dX4_buyer_47 ?_
            refine va_getN (D := g.1) (ci := 0) (v := .int f3) (C := RX0) (T := TX0) (N := 11) hx hb hts zl_X0 hown hK hP 1 rfl rfl 3 (by decide) (hN.f 7 (q := (RX4, 71, "FishSteps$Books", "buyers", "I")) rfl) (fun _ h => h) rfl dX4_buyer_50 ?_
            refine lv_istore_n (lv' := [(3, .int f3), (0, .ref h0), (1, .int p1), (2, .int p2)]) hx hb dX4_buyer_53 rfl hl (by decide) rfl (fun ls hl => ?_)
            refine lv_aload_n hx hb dX4_buyer_54 rfl (lv_at hl 1 rfl) ?_
            refine va_get (D := g.1) (ci := 4) (v := .ref h1) (C := RX4) (T := TX4) (N := 12) hx hb hts zl_X4 hown hK hP 0 rfl rfl 0 (by decide) (hts _ m_f_RX4_10) (fun _ h => h) rfl dX4_buyer_55 ?_
            refine va_getN (D := g.1) (ci := 0) (v := .ref h13) (C := RX0) (T := TX0) (N := 11) hx hb hts zl_X0 hown hK hP 1 rfl rfl 4 (by decide) (hN.f 9 (q := (RX4, 74, "FishSteps$Books", "sort", "[I")) rfl) (fun _ h => h) rfl dX4_buyer_58 ?_
            refine lv_iload_n hx hb dX4_buyer_61 rfl (lv_at hl 0 rfl) ?_
            refine lv_iload_n hx hb dX4_buyer_62 rfl (lv_at hl 2 rfl) ?_
            refine va_iast (D := g.1) hx hb hK hP hD hS 2 0 rfl rfl (vp_in_iff.mpr ⟨by omega, by omega⟩) dX4_buyer_63 (fun H locs hP hD hS => ?_)
            have hP : va_P g.1 vwCl [(h0, .inr (4, [.ref h1, .ref h2, .int f0, .ref h3, .ref h4, .ref h5, .ref h6, .int f1, .ref h7, .ref h8, .ref h9, .ref h10])), (h1, .inr (0, [.ref h11, .int f2, .ref h12, .int f3, .ref h13, .ref h14, .ref h15, .ref h16, .ref h17, .ref h18, .int f4])), (h13, .inl (zI g, 5, .inl (upd Z7 f3.toNatClampNeg p1))), (h14, .inl (zI g, 5, .inl Z8))] H := hP
            have hD : va_D A [(h0, .inr (4, [.ref h1, .ref h2, .int f0, .ref h3, .ref h4, .ref h5, .ref h6, .int f1, .ref h7, .ref h8, .ref h9, .ref h10])), (h1, .inr (0, [.ref h11, .int f2, .ref h12, .int f3, .ref h13, .ref h14, .ref h15, .ref h16, .ref h17, .ref h18, .int f4])), (h13, .inl (zI g, 5, .inl (upd Z7 f3.toNatClampNeg p1))), (h14, .inl (zI g, 5, .inl Z8))] := hD
            obtain ⟨R0, eR0⟩ : ∃ z : Nat → Int32, z = (upd Z7 f3.toNatClampNeg p1) := ⟨_, rfl⟩
            rw [← eR0] at hP hD
            refine lv_aload_n hx hb dX4_buyer_64 rfl (lv_at hl 1 rfl) ?_
            refine va_get (D := g.1) (ci := 4) (v := .ref h1) (C := RX4) (T := TX4) (N := 12) hx hb hts zl_X4 hown hK hP 0 rfl rfl 0 (by decide) (hts _ m_f_RX4_10) (fun _ h => h) rfl dX4_buyer_65 ?_
            refine va_getN (D := g.1) (ci := 0) (v := .ref h14) (C := RX0) (T := TX0) (N := 11) hx hb hts zl_X0 hown hK hP 1 rfl rfl 5 (by decide) (hN.f 12 (q := (RX4, 77, "FishSteps$Books", "purse", "[I")) rfl) (fun _ h => h) rfl dX4_buyer_68 ?_
            refine lv_iload_n hx hb dX4_buyer_71 rfl (lv_at hl 0 rfl) ?_
            refine lv_iload_n hx hb dX4_buyer_72 rfl (lv_at hl 3 rfl) ?_
            refine va_iast (D := g.1) hx hb hK hP hD hS 3 0 rfl rfl (vp_in_iff.mpr ⟨by omega, by omega⟩) dX4_buyer_73 (fun H locs hP hD hS => ?_)
            have hP : va_P g.1 vwCl [(h0, .inr (4, [.ref h1, .ref h2, .int f0, .ref h3, .ref h4, .ref h5, .ref h6, .int f1, .ref h7, .ref h8, .ref h9, .ref h10])), (h1, .inr (0, [.ref h11, .int f2, .ref h12, .int f3, .ref h13, .ref h14, .ref h15, .ref h16, .ref h17, .ref h18, .int f4])), (h13, .inl (zI g, 5, .inl R0)), (h14, .inl (zI g, 5, .inl (upd Z8 f3.toNatClampNeg p2)))] H := hP
            have hD : va_D A [(h0, .inr (4, [.ref h1, .ref h2, .int f0, .ref h3, .ref h4, .ref h5, .ref h6, .int f1, .ref h7, .ref h8, .ref h9, .ref h10])), (h1, .inr (0, [.ref h11, .int f2, .ref h12, .int f3, .ref h13, .ref h14, .ref h15, .ref h16, .ref h17, .ref h18, .int f4])), (h13, .inl (zI g, 5, .inl R0)), (h14, .inl (zI g, 5, .inl (upd Z8 f3.toNatClampNeg p2)))] := hD
            obtain ⟨R1, eR1⟩ : ∃ z : Nat → Int32, z = (upd Z8 f3.toNatClampNeg p2) := ⟨_, rfl⟩
            rw [← eR1] at hP hD
            refine lv_aload_n hx hb dX4_buyer_74 rfl (lv_at hl 1 rfl) ?_
            refine va_get (D := g.1) (ci := 4) (v := .ref h1) (C := RX4) (T := TX4) (N := 12) hx hb hts zl_X4 hown hK hP 0 rfl rfl 0 (by decide) (hts _ m_f_RX4_10) (fun _ h => h) rfl dX4_buyer_75 ?_
            refine lv_iload_n hx hb dX4_buyer_78 rfl (lv_at hl 0 rfl) ?_
            refine lv_iconst (v := 1) hx hb dX4_buyer_79 (by decide) ?_
            refine lv_iadd hx hb dX4_buyer_80 ?_
            refine lv_topi (fun y2 ey2 => ?_)
            have qy2_0 : y2.toInt = f3.toInt + 1 := zi_add ey2 (rfl) (rfl) (by omega) (by omega)
            refine va_putN (D := g.1) (ci := 0) (v := .int y2) (ty := .int) (C := RX0) (T := TX0) (N := 11) hx hb hts zl_X0 tyX0 tyX0_ok nmX0 hown hK hP hD hS 1 rfl rfl 3 (by decide) (hN.f 7 (q := (RX4, 71, "FishSteps$Books", "buyers", "I")) rfl) (fun _ h => h) rfl (by decide +kernel) rfl rfl (Nat.le_of_ble_eq_true rfl) dX4_buyer_81 (fun H locs hP hD hS => ?_)
            have hP : va_P g.1 vwCl [(h0, .inr (4, [.ref h1, .ref h2, .int f0, .ref h3, .ref h4, .ref h5, .ref h6, .int f1, .ref h7, .ref h8, .ref h9, .ref h10])), (h1, .inr (0, [.ref h11, .int f2, .ref h12, .int y2, .ref h13, .ref h14, .ref h15, .ref h16, .ref h17, .ref h18, .int f4])), (h13, .inl (zI g, 5, .inl R0)), (h14, .inl (zI g, 5, .inl R1))] H := hP
            have hD : va_D A [(h0, .inr (4, [.ref h1, .ref h2, .int f0, .ref h3, .ref h4, .ref h5, .ref h6, .int f1, .ref h7, .ref h8, .ref h9, .ref h10])), (h1, .inr (0, [.ref h11, .int f2, .ref h12, .int y2, .ref h13, .ref h14, .ref h15, .ref h16, .ref h17, .ref h18, .int f4])), (h13, .inl (zI g, 5, .inl R0)), (h14, .inl (zI g, 5, .inl R1))] := hD
            refine lv_iload_n hx hb dX4_buyer_84 rfl (lv_at hl 0 rfl) ?_
            have hP9 := hP.sub (ws' := [(h0, .inr (4, [.ref h1, .ref h2, .int f0, .ref h3, .ref h4, .ref h5, .ref h6, .int f1, .ref h7, .ref h8, .ref h9, .ref h10])), (h1, .inr (0, [.ref h11, .int f2, .ref h12, .int y2, .ref h13, .ref h14, .ref h15, .ref h16, .ref h17, .ref h18, .int f4])), (h13, .inl (zI g, 5, .inl R0)), (h14, .inl (zI g, 5, .inl R1))]) [0, 1, 2, 3] rfl
            have hD9 := hD.sub (ws' := [(h0, .inr (4, [.ref h1, .ref h2, .int f0, .ref h3, .ref h4, .ref h5, .ref h6, .int f1, .ref h7, .ref h8, .ref h9, .ref h10])), (h1, .inr (0, [.ref h11, .int f2, .ref h12, .int y2, .ref h13, .ref h14, .ref h15, .ref h16, .ref h17, .ref h18, .int f4])), (h13, .inl (zI g, 5, .inl R0)), (h14, .inl (zI g, 5, .inl R1))]) [0, 1, 2, 3] (by decide) rfl
            exact W.iret (v := f3) hx hb hr (fun t ht hW => ⟨⟨f3, ⟨y2, R0, R1⟩, rfl, ⟨⟨(by first | omega | decide), (by first | omega | decide), (by first | omega | decide)⟩, ⟨show 0 ≤ y2.toInt from by omega, show y2.toInt ≤ 5 from by omega⟩, (by rw [if_pos (by omega), ey2]), (by rw [if_pos (by omega), eR0, z_tn (i := f3) (a := f3.toInt) rfl (by omega)])⟩, by rw [ht]; exact hP9, hD9⟩, hS.F ht⟩) hS.2.2 dX4_buyer_85
          · have i_5 : 5 ≤ f3.toInt := z_nlt (rfl) (rfl) c_5
            refine lv_bipush (v := (-3)) hx hb dX4_buyer_43 (by decide) ?_
            have : ((-3) : Int32).toInt = (-3) := rfl
            have hP9 := hP.sub (ws' := [(h0, .inr (4, [.ref h1, .ref h2, .int f0, .ref h3, .ref h4, .ref h5, .ref h6, .int f1, .ref h7, .ref h8, .ref h9, .ref h10])), (h1, .inr (0, [.ref h11, .int f2, .ref h12, .int f3, .ref h13, .ref h14, .ref h15, .ref h16, .ref h17, .ref h18, .int f4])), (h13, .inl (zI g, 5, .inl Z7)), (h14, .inl (zI g, 5, .inl Z8))]) [0, 1, 2, 3] rfl
            have hD9 := hD.sub (ws' := [(h0, .inr (4, [.ref h1, .ref h2, .int f0, .ref h3, .ref h4, .ref h5, .ref h6, .int f1, .ref h7, .ref h8, .ref h9, .ref h10])), (h1, .inr (0, [.ref h11, .int f2, .ref h12, .int f3, .ref h13, .ref h14, .ref h15, .ref h16, .ref h17, .ref h18, .int f4])), (h13, .inl (zI g, 5, .inl Z7)), (h14, .inl (zI g, 5, .inl Z8))]) [0, 1, 2, 3] (by decide) rfl
            exact W.iret (v := (-3)) hx hb hr (fun t ht hW => ⟨⟨(-3), ⟨f3, Z7, Z8⟩, rfl, ⟨⟨(by first | omega | decide), (by first | omega | decide), (by first | omega | decide)⟩, ⟨show 0 ≤ f3.toInt from by omega, show f3.toInt ≤ 5 from by omega⟩, (by rw [if_neg (by omega)]), (by rw [if_neg (by omega)])⟩, by rw [ht]; exact hP9, hD9⟩, hS.F ht⟩) hS.2.2 dX4_buyer_45
        · have i_3 : 999 < p2.toInt := z_nle (rfl) (rfl) c_3
          refine lv_iconst (v := (-1)) hx hb dX4_buyer_20 (by decide) ?_
          have : ((-1) : Int32).toInt = (-1) := rfl
          have hP9 := hP.sub (ws' := [(h0, .inr (4, [.ref h1, .ref h2, .int f0, .ref h3, .ref h4, .ref h5, .ref h6, .int f1, .ref h7, .ref h8, .ref h9, .ref h10])), (h1, .inr (0, [.ref h11, .int f2, .ref h12, .int f3, .ref h13, .ref h14, .ref h15, .ref h16, .ref h17, .ref h18, .int f4])), (h13, .inl (zI g, 5, .inl Z7)), (h14, .inl (zI g, 5, .inl Z8))]) [0, 1, 2, 3] rfl
          have hD9 := hD.sub (ws' := [(h0, .inr (4, [.ref h1, .ref h2, .int f0, .ref h3, .ref h4, .ref h5, .ref h6, .int f1, .ref h7, .ref h8, .ref h9, .ref h10])), (h1, .inr (0, [.ref h11, .int f2, .ref h12, .int f3, .ref h13, .ref h14, .ref h15, .ref h16, .ref h17, .ref h18, .int f4])), (h13, .inl (zI g, 5, .inl Z7)), (h14, .inl (zI g, 5, .inl Z8))]) [0, 1, 2, 3] (by decide) rfl
          exact W.iret (v := (-1)) hx hb hr (fun t ht hW => ⟨⟨(-1), ⟨f3, Z7, Z8⟩, rfl, ⟨⟨(by first | omega | decide), (by first | omega | decide), (by first | omega | decide)⟩, ⟨show 0 ≤ f3.toInt from by omega, show f3.toInt ≤ 5 from by omega⟩, (by rw [if_neg (by omega)]), (by rw [if_neg (by omega)])⟩, by rw [ht]; exact hP9, hD9⟩, hS.F ht⟩) hS.2.2 dX4_buyer_21
set_option maxHeartbeats 8000000 in
set_option maxRecDepth 100000 in
theorem gX0_isThere (l : Launch) (g : zG) (h0 h1 h2 h3 h4 h5 h6 h7 h8 : Nat) (sz : Nat) (p1 : Int32) (f0 : Int32) (f1 : Int32) (f2 : Int32) (hf_f0 : 0 ≤ f0.toInt ∧ f0.toInt ≤ 6) (hf_f1 : 0 ≤ f1.toInt ∧ f1.toInt ≤ 5) : Met l yX0_isThere (.code yX0_isThere cX0_isThere 2 (some .boolean) :: zBig) ({ frames := 0, cells := 0, slots := 0, locals := 0 }) (va_Pc [.ref h0, .int p1] (zPre g [(h0, .inr (0, [.ref h1, .int f0, .ref h2, .int f1, .ref h3, .ref h4, .ref h5, .ref h6, .ref h7, .ref h8, .int f2]))] sz)) (va_Qi (fun (r : Int32) (u : Nat) => (p1.toInt < 0 ∧ r = 0) ∨ (0 ≤ p1.toInt ∧ 5 ≤ p1.toInt ∧ r = 0) ∨ (0 ≤ p1.toInt ∧ p1.toInt < 5 ∧ f1.toInt ≤ p1.toInt ∧ r = 0) ∨ (0 ≤ p1.toInt ∧ p1.toInt < 5 ∧ p1.toInt < f1.toInt ∧ r = 1)) (zPost g (fun u : Nat => [(h0, .inr (0, [.ref h1, .int f0, .ref h2, .int f1, .ref h3, .ref h4, .ref h5, .ref h6, .ref h7, .ref h8, .int f2]))]) (va_A [(h0, .inr (0, [.ref h1, .int f0, .ref h2, .int f1, .ref h3, .ref h4, .ref h5, .ref h6, .ref h7, .ref h8, .int f2]))] sz)) (va_A [(h0, .inr (0, [.ref h1, .int f0, .ref h2, .int f1, .ref h3, .ref h4, .ref h5, .ref h6, .ref h7, .ref h8, .int f2]))] sz)) 0 0 (va_A [(h0, .inr (0, [.ref h1, .int f0, .ref h2, .int f1, .ref h3, .ref h4, .ref h5, .ref h6, .ref h7, .ref h8, .int f2]))] sz) := by
  refine zMetI rfl (Nat.le_of_ble_eq_true rfl) ?_
  intro p e s m args below meth c A ls hx hb hml hr hlocks hin hown hts hK hN hZ hP hD hA hS hAe hl
  have hown : s.vm.findClass RX0 = some m.cls := hown
  have hl : lv_has ls 2 [(0, .ref h0), (1, .int p1)] := hl
  refine lv_iload_n hx hb dX0_isThere_0 rfl (lv_at hl 1 rfl) ?_
  refine lv_if_lt (tgt := 21) hx hb dX0_isThere_1 (by decide) (fun c_0 => ?_) (fun c_0 => ?_)
  · have i_0 : p1.toInt < 0 := z_lt (rfl) (rfl) c_0
    refine lv_iconst (v := 0) hx hb dX0_isThere_21 (by decide) ?_
    have hP9 := hP.sub (ws' := [(h0, .inr (0, [.ref h1, .int f0, .ref h2, .int f1, .ref h3, .ref h4, .ref h5, .ref h6, .ref h7, .ref h8, .int f2]))]) [0] rfl
    have hD9 := hD.sub (ws' := [(h0, .inr (0, [.ref h1, .int f0, .ref h2, .int f1, .ref h3, .ref h4, .ref h5, .ref h6, .ref h7, .ref h8, .int f2]))]) [0] (by decide) rfl
    exact W.zret (v := 0) hx hb hr (by decide) (fun t ht hW => ⟨⟨0, (0 : Nat), rfl, Or.inl ⟨i_0, rfl⟩, by rw [ht]; exact hP9, hD9⟩, hS.F ht⟩) hS.2.2 dX0_isThere_22
  · have i_0 : 0 ≤ p1.toInt := z_nlt (rfl) (rfl) c_0
    refine lv_iload_n hx hb dX0_isThere_4 rfl (lv_at hl 1 rfl) ?_
    refine lv_iconst (v := 5) hx hb dX0_isThere_5 (by decide) ?_
    refine lv_icmp_ge (tgt := 21) hx hb dX0_isThere_6 (by decide) (fun c_1 => ?_) (fun c_1 => ?_)
    · have i_1 : 5 ≤ p1.toInt := z_le (rfl) (rfl) c_1
      refine lv_iconst (v := 0) hx hb dX0_isThere_21 (by decide) ?_
      have hP9 := hP.sub (ws' := [(h0, .inr (0, [.ref h1, .int f0, .ref h2, .int f1, .ref h3, .ref h4, .ref h5, .ref h6, .ref h7, .ref h8, .int f2]))]) [0] rfl
      have hD9 := hD.sub (ws' := [(h0, .inr (0, [.ref h1, .int f0, .ref h2, .int f1, .ref h3, .ref h4, .ref h5, .ref h6, .ref h7, .ref h8, .int f2]))]) [0] (by decide) rfl
      exact W.zret (v := 0) hx hb hr (by decide) (fun t ht hW => ⟨⟨0, (0 : Nat), rfl, Or.inr (Or.inl ⟨i_0, i_1, rfl⟩), by rw [ht]; exact hP9, hD9⟩, hS.F ht⟩) hS.2.2 dX0_isThere_22
    · have i_1 : p1.toInt < 5 := z_nle (rfl) (rfl) c_1
      refine lv_iload_n hx hb dX0_isThere_9 rfl (lv_at hl 1 rfl) ?_
      refine lv_aload_n hx hb dX0_isThere_10 rfl (lv_at hl 0 rfl) ?_
      refine va_get (D := g.1) (ci := 0) (v := .int f1) (C := RX0) (T := TX0) (N := 11) hx hb hts zl_X0 hown hK hP 0 rfl rfl 3 (by decide) (hts _ m_f_RX0_30) (fun _ h => h) rfl dX0_isThere_11 ?_
      refine lv_icmp_ge (tgt := 21) hx hb dX0_isThere_14 (by decide) (fun c_2 => ?_) (fun c_2 => ?_)
      · have i_2 : f1.toInt ≤ p1.toInt := z_le (rfl) (rfl) c_2
        refine lv_iconst (v := 0) hx hb dX0_isThere_21 (by decide) ?_
        have hP9 := hP.sub (ws' := [(h0, .inr (0, [.ref h1, .int f0, .ref h2, .int f1, .ref h3, .ref h4, .ref h5, .ref h6, .ref h7, .ref h8, .int f2]))]) [0] rfl
        have hD9 := hD.sub (ws' := [(h0, .inr (0, [.ref h1, .int f0, .ref h2, .int f1, .ref h3, .ref h4, .ref h5, .ref h6, .ref h7, .ref h8, .int f2]))]) [0] (by decide) rfl
        exact W.zret (v := 0) hx hb hr (by decide) (fun t ht hW => ⟨⟨0, (0 : Nat), rfl, Or.inr (Or.inr (Or.inl ⟨i_0, i_1, i_2, rfl⟩)), by rw [ht]; exact hP9, hD9⟩, hS.F ht⟩) hS.2.2 dX0_isThere_22
      · have i_2 : p1.toInt < f1.toInt := z_nle (rfl) (rfl) c_2
        refine lv_iconst (v := 1) hx hb dX0_isThere_17 (by decide) ?_
        refine lv_goto (tgt := 22) hx hb dX0_isThere_18 (by decide) ?_
        have hP9 := hP.sub (ws' := [(h0, .inr (0, [.ref h1, .int f0, .ref h2, .int f1, .ref h3, .ref h4, .ref h5, .ref h6, .ref h7, .ref h8, .int f2]))]) [0] rfl
        have hD9 := hD.sub (ws' := [(h0, .inr (0, [.ref h1, .int f0, .ref h2, .int f1, .ref h3, .ref h4, .ref h5, .ref h6, .ref h7, .ref h8, .int f2]))]) [0] (by decide) rfl
        exact W.zret (v := 1) hx hb hr (by decide) (fun t ht hW => ⟨⟨1, (0 : Nat), rfl, Or.inr (Or.inr (Or.inr (⟨i_0, i_1, i_2, rfl⟩))), by rw [ht]; exact hP9, hD9⟩, hS.F ht⟩) hS.2.2 dX0_isThere_22
set_option maxHeartbeats 8000000 in
set_option maxRecDepth 100000 in
theorem gX4_isKind (l : Launch) (g : zG) (sz : Nat) (p0 : Int32) : Met l yX4_isKind (.code yX4_isKind cX4_isKind 1 (some .boolean) :: zBig) ({ frames := 0, cells := 0, slots := 0, locals := 0 }) (va_Pc [.int p0] (zPre g [] sz)) (va_Qi (fun (r : Int32) (u : Nat) => (p0.toInt < 0 ∧ r = 0) ∨ (0 ≤ p0.toInt ∧ 4 ≤ p0.toInt ∧ r = 0) ∨ (0 ≤ p0.toInt ∧ p0.toInt < 4 ∧ r = 1)) (zPost g (fun u : Nat => []) (va_A [] sz)) (va_A [] sz)) 0 0 (va_A [] sz) := by
  refine zMetI rfl (Nat.le_of_ble_eq_true rfl) ?_
  intro p e s m args below meth c A ls hx hb hml hr hlocks hin hown hts hK hN hZ hP hD hA hS hAe hl
  have hown : s.vm.findClass RX4 = some m.cls := hown
  have hl : lv_has ls 1 [(0, .int p0)] := hl
  refine lv_iload_n hx hb dX4_isKind_0 rfl (lv_at hl 0 rfl) ?_
  refine lv_if_lt (tgt := 13) hx hb dX4_isKind_1 (by decide) (fun c_0 => ?_) (fun c_0 => ?_)
  · have i_0 : p0.toInt < 0 := z_lt (rfl) (rfl) c_0
    refine lv_iconst (v := 0) hx hb dX4_isKind_13 (by decide) ?_
    have hP9 := hP.sub (ws' := []) [] rfl
    have hD9 := hD.sub (ws' := []) [] (by decide) rfl
    exact W.zret (v := 0) hx hb hr (by decide) (fun t ht hW => ⟨⟨0, (0 : Nat), rfl, Or.inl ⟨i_0, rfl⟩, by rw [ht]; exact hP9, hD9⟩, hS.F ht⟩) hS.2.2 dX4_isKind_14
  · have i_0 : 0 ≤ p0.toInt := z_nlt (rfl) (rfl) c_0
    refine lv_iload_n hx hb dX4_isKind_4 rfl (lv_at hl 0 rfl) ?_
    refine lv_iconst (v := 4) hx hb dX4_isKind_5 (by decide) ?_
    refine lv_icmp_ge (tgt := 13) hx hb dX4_isKind_6 (by decide) (fun c_1 => ?_) (fun c_1 => ?_)
    · have i_1 : 4 ≤ p0.toInt := z_le (rfl) (rfl) c_1
      refine lv_iconst (v := 0) hx hb dX4_isKind_13 (by decide) ?_
      have hP9 := hP.sub (ws' := []) [] rfl
      have hD9 := hD.sub (ws' := []) [] (by decide) rfl
      exact W.zret (v := 0) hx hb hr (by decide) (fun t ht hW => ⟨⟨0, (0 : Nat), rfl, Or.inr (Or.inl ⟨i_0, i_1, rfl⟩), by rw [ht]; exact hP9, hD9⟩, hS.F ht⟩) hS.2.2 dX4_isKind_14
    · have i_1 : p0.toInt < 4 := z_nle (rfl) (rfl) c_1
      refine lv_iconst (v := 1) hx hb dX4_isKind_9 (by decide) ?_
      refine lv_goto (tgt := 14) hx hb dX4_isKind_10 (by decide) ?_
      have hP9 := hP.sub (ws' := []) [] rfl
      have hD9 := hD.sub (ws' := []) [] (by decide) rfl
      exact W.zret (v := 1) hx hb hr (by decide) (fun t ht hW => ⟨⟨1, (0 : Nat), rfl, Or.inr (Or.inr (⟨i_0, i_1, rfl⟩)), by rw [ht]; exact hP9, hD9⟩, hS.F ht⟩) hS.2.2 dX4_isKind_14
set_option maxHeartbeats 8000000 in
set_option maxRecDepth 100000 in
theorem gX4_worth (l : Launch) (g : zG) (h0 h1 h2 h3 h4 h5 h6 h7 h8 h9 h10 h11 h12 h13 h14 h15 h16 h17 h18 : Nat) (sz : Nat) (p1 : Int32) (p2 : Int32) (p3 : Int32) (f0 : Int32) (f1 : Int32) (f2 : Int32) (f3 : Int32) (f4 : Int32) (Z10 : Nat → Int32) (hf_f2 : 0 ≤ f2.toInt ∧ f2.toInt ≤ 6) (hf_f3 : 0 ≤ f3.toInt ∧ f3.toInt ≤ 5) : Met l yX4_worth (.code yX4_worth cX4_worth 6 (some .int) :: zBig) ({ frames := 1, cells := 0, slots := 0, locals := 21 }) (va_Pc [.ref h0, .int p1, .int p2, .int p3] (zPre g [(h0, .inr (4, [.ref h1, .ref h2, .int f0, .ref h3, .ref h4, .ref h5, .ref h6, .int f1, .ref h7, .ref h8, .ref h9, .ref h10])), (h1, .inr (0, [.ref h11, .int f2, .ref h12, .int f3, .ref h13, .ref h14, .ref h15, .ref h16, .ref h17, .ref h18, .int f4])), (h16, .inl (zI g, 20, .inl Z10))] sz)) (va_Qi (fun (r : Int32) (u : (Nat → Int32)) => ((p1.toInt < 0 ∨ 5 ≤ p1.toInt ∨ f3.toInt ≤ p1.toInt ∨ p2.toInt < 0 ∨ 3 < p2.toInt ∨ p3.toInt < 0 ∨ 99 < p3.toInt → r.toInt = -1) ∧ (0 ≤ p1.toInt → p1.toInt < 5 → p1.toInt < f3.toInt → 0 ≤ p2.toInt → p2.toInt ≤ 3 → 0 ≤ p3.toInt → p3.toInt ≤ 99 → r.toInt = (Z10 (4 * p1.toInt + p2.toInt).toNat).toInt)) ∧ u = (if (0 ≤ p1.toInt ∧ p1.toInt < 5 ∧ p1.toInt < f3.toInt ∧ 0 ≤ p2.toInt ∧ p2.toInt ≤ 3 ∧ 0 ≤ p3.toInt ∧ p3.toInt ≤ 99) then upd Z10 (4 * p1.toInt + p2.toInt).toNat p3 else Z10)) (zPost g (fun u : (Nat → Int32) => [(h0, .inr (4, [.ref h1, .ref h2, .int f0, .ref h3, .ref h4, .ref h5, .ref h6, .int f1, .ref h7, .ref h8, .ref h9, .ref h10])), (h1, .inr (0, [.ref h11, .int f2, .ref h12, .int f3, .ref h13, .ref h14, .ref h15, .ref h16, .ref h17, .ref h18, .int f4])), (h16, .inl (zI g, 20, .inl u))]) (va_A [(h0, .inr (4, [.ref h1, .ref h2, .int f0, .ref h3, .ref h4, .ref h5, .ref h6, .int f1, .ref h7, .ref h8, .ref h9, .ref h10])), (h1, .inr (0, [.ref h11, .int f2, .ref h12, .int f3, .ref h13, .ref h14, .ref h15, .ref h16, .ref h17, .ref h18, .int f4])), (h16, .inl (zI g, 20, .inl Z10))] sz)) (va_A [(h0, .inr (4, [.ref h1, .ref h2, .int f0, .ref h3, .ref h4, .ref h5, .ref h6, .int f1, .ref h7, .ref h8, .ref h9, .ref h10])), (h1, .inr (0, [.ref h11, .int f2, .ref h12, .int f3, .ref h13, .ref h14, .ref h15, .ref h16, .ref h17, .ref h18, .int f4])), (h16, .inl (zI g, 20, .inl Z10))] sz)) 0 0 (va_A [(h0, .inr (4, [.ref h1, .ref h2, .int f0, .ref h3, .ref h4, .ref h5, .ref h6, .int f1, .ref h7, .ref h8, .ref h9, .ref h10])), (h1, .inr (0, [.ref h11, .int f2, .ref h12, .int f3, .ref h13, .ref h14, .ref h15, .ref h16, .ref h17, .ref h18, .int f4])), (h16, .inl (zI g, 20, .inl Z10))] sz) := by
  refine zMetI rfl (Nat.le_of_ble_eq_true rfl) ?_
  intro p e s m args below meth c A ls hx hb hml hr hlocks hin hown hts hK hN hZ hP hD hA hS hAe hl
  have hown : s.vm.findClass RX4 = some m.cls := hown
  have hl : lv_has ls 6 [(0, .ref h0), (1, .int p1), (2, .int p2), (3, .int p3)] := hl
  refine lv_aload_n hx hb dX4_worth_0 rfl (lv_at hl 0 rfl) ?_
  refine va_get (D := g.1) (ci := 4) (v := .ref h1) (C := RX4) (T := TX4) (N := 12) hx hb hts zl_X4 hown hK hP 0 rfl rfl 0 (by decide) (hts _ m_f_RX4_10) (fun _ h => h) rfl dX4_worth_1 ?_
  refine lv_iload_n hx hb dX4_worth_4 rfl (lv_at hl 1 rfl) ?_
  refine z_calli (wr := [(h0, .inr (4, [.ref h1, .ref h2, .int f0, .ref h3, .ref h4, .ref h5, .ref h6, .int f1, .ref h7, .ref h8, .ref h9, .ref h10])), (h16, .inl (zI g, 20, .inl Z10))]) hP hD hS hA [1] [0, 2] (by decide) rfl rfl (by decide) (va_runVN (As := [.int p1]) (rest := []) ⟨hx, hb, hml, hown, hts⟩ (gX0_isThere l g h1 h11 h12 h13 h14 h15 h16 h17 h18 s.heap.size p1 f2 f3 f4 (by constructor <;> omega) (by constructor <;> omega)) ⟨va_cnB 1 hts (zGood m_o_yX0_isThere) rfl rfl rfl (hN.m 4 (q := (RX4, 80, yX0_isThere)) rfl) (hts _ m_z_RX0) ⟨by decide +kernel, by decide +kernel, by decide +kernel⟩ ⟨Nat.le_of_ble_eq_true rfl, Nat.le_of_ble_eq_true rfl⟩, hts _ m_i_yX0_isThere, hts _ m_e_yX0_isThere⟩ (zPreV hK hN hZ hP hD hS hA [1] (by decide) rfl rfl 0 1 rfl rfl) rfl rfl hl.1 rfl (lv_room (Nat.le_of_ble_eq_true rfl)) dX4_worth_5 ⟨Nat.le_of_ble_eq_true rfl, Nat.le_of_ble_eq_true rfl⟩) (fun r u H locs hw hP hD hS => ?_)
  rcases hw with ⟨i_0, rfl⟩ | ⟨i_1, i_2, rfl⟩ | ⟨i_3, i_4, i_5, rfl⟩ | ⟨i_6, i_7, i_8, rfl⟩
  · skip
    have i_0 : p1.toInt < 0 := i_0
    have hP : va_P g.1 vwCl [(h0, .inr (4, [.ref h1, .ref h2, .int f0, .ref h3, .ref h4, .ref h5, .ref h6, .int f1, .ref h7, .ref h8, .ref h9, .ref h10])), (h16, .inl (zI g, 20, .inl Z10)), (h1, .inr (0, [.ref h11, .int f2, .ref h12, .int f3, .ref h13, .ref h14, .ref h15, .ref h16, .ref h17, .ref h18, .int f4]))] H := hP
    have hD : va_D A [(h0, .inr (4, [.ref h1, .ref h2, .int f0, .ref h3, .ref h4, .ref h5, .ref h6, .int f1, .ref h7, .ref h8, .ref h9, .ref h10])), (h16, .inl (zI g, 20, .inl Z10)), (h1, .inr (0, [.ref h11, .int f2, .ref h12, .int f3, .ref h13, .ref h14, .ref h15, .ref h16, .ref h17, .ref h18, .int f4]))] := hD
    refine lv_if_eq (tgt := 28) hx hb dX4_worth_8 (by decide) (fun _ => ?_) (fun h => absurd h (by decide +kernel))
    refine lv_iconst (v := (-1)) hx hb dX4_worth_28 (by decide) ?_
    have : ((-1) : Int32).toInt = (-1) := rfl
    have hP9 := hP.sub (ws' := [(h0, .inr (4, [.ref h1, .ref h2, .int f0, .ref h3, .ref h4, .ref h5, .ref h6, .int f1, .ref h7, .ref h8, .ref h9, .ref h10])), (h1, .inr (0, [.ref h11, .int f2, .ref h12, .int f3, .ref h13, .ref h14, .ref h15, .ref h16, .ref h17, .ref h18, .int f4])), (h16, .inl (zI g, 20, .inl Z10))]) [0, 2, 1] rfl
    have hD9 := hD.sub (ws' := [(h0, .inr (4, [.ref h1, .ref h2, .int f0, .ref h3, .ref h4, .ref h5, .ref h6, .int f1, .ref h7, .ref h8, .ref h9, .ref h10])), (h1, .inr (0, [.ref h11, .int f2, .ref h12, .int f3, .ref h13, .ref h14, .ref h15, .ref h16, .ref h17, .ref h18, .int f4])), (h16, .inl (zI g, 20, .inl Z10))]) [0, 2, 1] (by decide) rfl
    exact W.iret (v := (-1)) hx hb hr (fun t ht hW => ⟨⟨(-1), Z10, rfl, ⟨⟨(by first | omega | decide), (by first | omega | decide)⟩, (by rw [if_neg (by omega)])⟩, by rw [ht]; exact hP9, hD9⟩, hS.F ht⟩) hS.2.2 dX4_worth_29
  · skip
    have i_1 : 0 ≤ p1.toInt := i_1
    have i_2 : 5 ≤ p1.toInt := i_2
    have hP : va_P g.1 vwCl [(h0, .inr (4, [.ref h1, .ref h2, .int f0, .ref h3, .ref h4, .ref h5, .ref h6, .int f1, .ref h7, .ref h8, .ref h9, .ref h10])), (h16, .inl (zI g, 20, .inl Z10)), (h1, .inr (0, [.ref h11, .int f2, .ref h12, .int f3, .ref h13, .ref h14, .ref h15, .ref h16, .ref h17, .ref h18, .int f4]))] H := hP
    have hD : va_D A [(h0, .inr (4, [.ref h1, .ref h2, .int f0, .ref h3, .ref h4, .ref h5, .ref h6, .int f1, .ref h7, .ref h8, .ref h9, .ref h10])), (h16, .inl (zI g, 20, .inl Z10)), (h1, .inr (0, [.ref h11, .int f2, .ref h12, .int f3, .ref h13, .ref h14, .ref h15, .ref h16, .ref h17, .ref h18, .int f4]))] := hD
    refine lv_if_eq (tgt := 28) hx hb dX4_worth_8 (by decide) (fun _ => ?_) (fun h => absurd h (by decide +kernel))
    refine lv_iconst (v := (-1)) hx hb dX4_worth_28 (by decide) ?_
    have : ((-1) : Int32).toInt = (-1) := rfl
    have hP9 := hP.sub (ws' := [(h0, .inr (4, [.ref h1, .ref h2, .int f0, .ref h3, .ref h4, .ref h5, .ref h6, .int f1, .ref h7, .ref h8, .ref h9, .ref h10])), (h1, .inr (0, [.ref h11, .int f2, .ref h12, .int f3, .ref h13, .ref h14, .ref h15, .ref h16, .ref h17, .ref h18, .int f4])), (h16, .inl (zI g, 20, .inl Z10))]) [0, 2, 1] rfl
    have hD9 := hD.sub (ws' := [(h0, .inr (4, [.ref h1, .ref h2, .int f0, .ref h3, .ref h4, .ref h5, .ref h6, .int f1, .ref h7, .ref h8, .ref h9, .ref h10])), (h1, .inr (0, [.ref h11, .int f2, .ref h12, .int f3, .ref h13, .ref h14, .ref h15, .ref h16, .ref h17, .ref h18, .int f4])), (h16, .inl (zI g, 20, .inl Z10))]) [0, 2, 1] (by decide) rfl
    exact W.iret (v := (-1)) hx hb hr (fun t ht hW => ⟨⟨(-1), Z10, rfl, ⟨⟨(by first | omega | decide), (by first | omega | decide)⟩, (by rw [if_neg (by omega)])⟩, by rw [ht]; exact hP9, hD9⟩, hS.F ht⟩) hS.2.2 dX4_worth_29
  · skip
    have i_3 : 0 ≤ p1.toInt := i_3
    have i_4 : p1.toInt < 5 := i_4
    have i_5 : f3.toInt ≤ p1.toInt := i_5
    have hP : va_P g.1 vwCl [(h0, .inr (4, [.ref h1, .ref h2, .int f0, .ref h3, .ref h4, .ref h5, .ref h6, .int f1, .ref h7, .ref h8, .ref h9, .ref h10])), (h16, .inl (zI g, 20, .inl Z10)), (h1, .inr (0, [.ref h11, .int f2, .ref h12, .int f3, .ref h13, .ref h14, .ref h15, .ref h16, .ref h17, .ref h18, .int f4]))] H := hP
    have hD : va_D A [(h0, .inr (4, [.ref h1, .ref h2, .int f0, .ref h3, .ref h4, .ref h5, .ref h6, .int f1, .ref h7, .ref h8, .ref h9, .ref h10])), (h16, .inl (zI g, 20, .inl Z10)), (h1, .inr (0, [.ref h11, .int f2, .ref h12, .int f3, .ref h13, .ref h14, .ref h15, .ref h16, .ref h17, .ref h18, .int f4]))] := hD
    refine lv_if_eq (tgt := 28) hx hb dX4_worth_8 (by decide) (fun _ => ?_) (fun h => absurd h (by decide +kernel))
    refine lv_iconst (v := (-1)) hx hb dX4_worth_28 (by decide) ?_
    have : ((-1) : Int32).toInt = (-1) := rfl
    have hP9 := hP.sub (ws' := [(h0, .inr (4, [.ref h1, .ref h2, .int f0, .ref h3, .ref h4, .ref h5, .ref h6, .int f1, .ref h7, .ref h8, .ref h9, .ref h10])), (h1, .inr (0, [.ref h11, .int f2, .ref h12, .int f3, .ref h13, .ref h14, .ref h15, .ref h16, .ref h17, .ref h18, .int f4])), (h16, .inl (zI g, 20, .inl Z10))]) [0, 2, 1] rfl
    have hD9 := hD.sub (ws' := [(h0, .inr (4, [.ref h1, .ref h2, .int f0, .ref h3, .ref h4, .ref h5, .ref h6, .int f1, .ref h7, .ref h8, .ref h9, .ref h10])), (h1, .inr (0, [.ref h11, .int f2, .ref h12, .int f3, .ref h13, .ref h14, .ref h15, .ref h16, .ref h17, .ref h18, .int f4])), (h16, .inl (zI g, 20, .inl Z10))]) [0, 2, 1] (by decide) rfl
    exact W.iret (v := (-1)) hx hb hr (fun t ht hW => ⟨⟨(-1), Z10, rfl, ⟨⟨(by first | omega | decide), (by first | omega | decide)⟩, (by rw [if_neg (by omega)])⟩, by rw [ht]; exact hP9, hD9⟩, hS.F ht⟩) hS.2.2 dX4_worth_29
  · skip
    have i_6 : 0 ≤ p1.toInt := i_6
    have i_7 : p1.toInt < 5 := i_7
    have i_8 : p1.toInt < f3.toInt := i_8
    have hP : va_P g.1 vwCl [(h0, .inr (4, [.ref h1, .ref h2, .int f0, .ref h3, .ref h4, .ref h5, .ref h6, .int f1, .ref h7, .ref h8, .ref h9, .ref h10])), (h16, .inl (zI g, 20, .inl Z10)), (h1, .inr (0, [.ref h11, .int f2, .ref h12, .int f3, .ref h13, .ref h14, .ref h15, .ref h16, .ref h17, .ref h18, .int f4]))] H := hP
    have hD : va_D A [(h0, .inr (4, [.ref h1, .ref h2, .int f0, .ref h3, .ref h4, .ref h5, .ref h6, .int f1, .ref h7, .ref h8, .ref h9, .ref h10])), (h16, .inl (zI g, 20, .inl Z10)), (h1, .inr (0, [.ref h11, .int f2, .ref h12, .int f3, .ref h13, .ref h14, .ref h15, .ref h16, .ref h17, .ref h18, .int f4]))] := hD
    refine lv_if_eq (tgt := 28) hx hb dX4_worth_8 (by decide) (fun h => absurd h (by decide +kernel)) (fun _ => ?_)
    refine lv_iload_n hx hb dX4_worth_11 rfl (lv_at hl 2 rfl) ?_
    refine z_calli (wr := [(h0, .inr (4, [.ref h1, .ref h2, .int f0, .ref h3, .ref h4, .ref h5, .ref h6, .int f1, .ref h7, .ref h8, .ref h9, .ref h10])), (h16, .inl (zI g, 20, .inl Z10)), (h1, .inr (0, [.ref h11, .int f2, .ref h12, .int f3, .ref h13, .ref h14, .ref h15, .ref h16, .ref h17, .ref h18, .int f4]))]) hP hD hS hA [] [0, 1, 2] (by decide) rfl rfl (by decide) (va_runS (As := [.int p2]) (rest := []) ⟨hx, hb, hml, hown, hts⟩ (gX4_isKind l g  H.size p2) ⟨callB_of 1 hts (zGood m_o_yX4_isKind) rfl rfl rfl (hts _ m_z_RX4) (hts _ m_m_RX4_84) ⟨by decide +kernel, by decide +kernel, by decide +kernel⟩ ⟨Nat.le_of_ble_eq_true rfl, Nat.le_of_ble_eq_true rfl⟩, hts _ m_s_yX4_isKind⟩ (zPreS hK hN hZ hP hD hS hA [] (by decide) rfl rfl) rfl rfl hl.1 rfl (lv_room (Nat.le_of_ble_eq_true rfl)) dX4_worth_12 ⟨Nat.le_of_ble_eq_true rfl, Nat.le_of_ble_eq_true rfl⟩) (fun r u H locs hw hP hD hS => ?_)
    rcases hw with ⟨i_9, rfl⟩ | ⟨i_10, i_11, rfl⟩ | ⟨i_12, i_13, rfl⟩
    · skip
      have i_9 : p2.toInt < 0 := i_9
      have hP : va_P g.1 vwCl [(h0, .inr (4, [.ref h1, .ref h2, .int f0, .ref h3, .ref h4, .ref h5, .ref h6, .int f1, .ref h7, .ref h8, .ref h9, .ref h10])), (h16, .inl (zI g, 20, .inl Z10)), (h1, .inr (0, [.ref h11, .int f2, .ref h12, .int f3, .ref h13, .ref h14, .ref h15, .ref h16, .ref h17, .ref h18, .int f4]))] H := hP
      have hD : va_D A [(h0, .inr (4, [.ref h1, .ref h2, .int f0, .ref h3, .ref h4, .ref h5, .ref h6, .int f1, .ref h7, .ref h8, .ref h9, .ref h10])), (h16, .inl (zI g, 20, .inl Z10)), (h1, .inr (0, [.ref h11, .int f2, .ref h12, .int f3, .ref h13, .ref h14, .ref h15, .ref h16, .ref h17, .ref h18, .int f4]))] := hD
      refine lv_if_eq (tgt := 28) hx hb dX4_worth_15 (by decide) (fun _ => ?_) (fun h => absurd h (by decide +kernel))
      refine lv_iconst (v := (-1)) hx hb dX4_worth_28 (by decide) ?_
      have : ((-1) : Int32).toInt = (-1) := rfl
      have hP9 := hP.sub (ws' := [(h0, .inr (4, [.ref h1, .ref h2, .int f0, .ref h3, .ref h4, .ref h5, .ref h6, .int f1, .ref h7, .ref h8, .ref h9, .ref h10])), (h1, .inr (0, [.ref h11, .int f2, .ref h12, .int f3, .ref h13, .ref h14, .ref h15, .ref h16, .ref h17, .ref h18, .int f4])), (h16, .inl (zI g, 20, .inl Z10))]) [0, 2, 1] rfl
      have hD9 := hD.sub (ws' := [(h0, .inr (4, [.ref h1, .ref h2, .int f0, .ref h3, .ref h4, .ref h5, .ref h6, .int f1, .ref h7, .ref h8, .ref h9, .ref h10])), (h1, .inr (0, [.ref h11, .int f2, .ref h12, .int f3, .ref h13, .ref h14, .ref h15, .ref h16, .ref h17, .ref h18, .int f4])), (h16, .inl (zI g, 20, .inl Z10))]) [0, 2, 1] (by decide) rfl
      exact W.iret (v := (-1)) hx hb hr (fun t ht hW => ⟨⟨(-1), Z10, rfl, ⟨⟨(by first | omega | decide), (by first | omega | decide)⟩, (by rw [if_neg (by omega)])⟩, by rw [ht]; exact hP9, hD9⟩, hS.F ht⟩) hS.2.2 dX4_worth_29
    · skip
      have i_10 : 0 ≤ p2.toInt := i_10
      have i_11 : 4 ≤ p2.toInt := i_11
      have hP : va_P g.1 vwCl [(h0, .inr (4, [.ref h1, .ref h2, .int f0, .ref h3, .ref h4, .ref h5, .ref h6, .int f1, .ref h7, .ref h8, .ref h9, .ref h10])), (h16, .inl (zI g, 20, .inl Z10)), (h1, .inr (0, [.ref h11, .int f2, .ref h12, .int f3, .ref h13, .ref h14, .ref h15, .ref h16, .ref h17, .ref h18, .int f4]))] H := hP
      have hD : va_D A [(h0, .inr (4, [.ref h1, .ref h2, .int f0, .ref h3, .ref h4, .ref h5, .ref h6, .int f1, .ref h7, .ref h8, .ref h9, .ref h10])), (h16, .inl (zI g, 20, .inl Z10)), (h1, .inr (0, [.ref h11, .int f2, .ref h12, .int f3, .ref h13, .ref h14, .ref h15, .ref h16, .ref h17, .ref h18, .int f4]))] := hD
      refine lv_if_eq (tgt := 28) hx hb dX4_worth_15 (by decide) (fun _ => ?_) (fun h => absurd h (by decide +kernel))
      refine lv_iconst (v := (-1)) hx hb dX4_worth_28 (by decide) ?_
      have : ((-1) : Int32).toInt = (-1) := rfl
      have hP9 := hP.sub (ws' := [(h0, .inr (4, [.ref h1, .ref h2, .int f0, .ref h3, .ref h4, .ref h5, .ref h6, .int f1, .ref h7, .ref h8, .ref h9, .ref h10])), (h1, .inr (0, [.ref h11, .int f2, .ref h12, .int f3, .ref h13, .ref h14, .ref h15, .ref h16, .ref h17, .ref h18, .int f4])), (h16, .inl (zI g, 20, .inl Z10))]) [0, 2, 1] rfl
      have hD9 := hD.sub (ws' := [(h0, .inr (4, [.ref h1, .ref h2, .int f0, .ref h3, .ref h4, .ref h5, .ref h6, .int f1, .ref h7, .ref h8, .ref h9, .ref h10])), (h1, .inr (0, [.ref h11, .int f2, .ref h12, .int f3, .ref h13, .ref h14, .ref h15, .ref h16, .ref h17, .ref h18, .int f4])), (h16, .inl (zI g, 20, .inl Z10))]) [0, 2, 1] (by decide) rfl
      exact W.iret (v := (-1)) hx hb hr (fun t ht hW => ⟨⟨(-1), Z10, rfl, ⟨⟨(by first | omega | decide), (by first | omega | decide)⟩, (by rw [if_neg (by omega)])⟩, by rw [ht]; exact hP9, hD9⟩, hS.F ht⟩) hS.2.2 dX4_worth_29
    · skip
      have i_12 : 0 ≤ p2.toInt := i_12
      have i_13 : p2.toInt < 4 := i_13
      have hP : va_P g.1 vwCl [(h0, .inr (4, [.ref h1, .ref h2, .int f0, .ref h3, .ref h4, .ref h5, .ref h6, .int f1, .ref h7, .ref h8, .ref h9, .ref h10])), (h16, .inl (zI g, 20, .inl Z10)), (h1, .inr (0, [.ref h11, .int f2, .ref h12, .int f3, .ref h13, .ref h14, .ref h15, .ref h16, .ref h17, .ref h18, .int f4]))] H := hP
      have hD : va_D A [(h0, .inr (4, [.ref h1, .ref h2, .int f0, .ref h3, .ref h4, .ref h5, .ref h6, .int f1, .ref h7, .ref h8, .ref h9, .ref h10])), (h16, .inl (zI g, 20, .inl Z10)), (h1, .inr (0, [.ref h11, .int f2, .ref h12, .int f3, .ref h13, .ref h14, .ref h15, .ref h16, .ref h17, .ref h18, .int f4]))] := hD
      refine lv_if_eq (tgt := 28) hx hb dX4_worth_15 (by decide) (fun h => absurd h (by decide +kernel)) (fun _ => ?_)
      refine lv_iload_n hx hb dX4_worth_18 rfl (lv_at hl 3 rfl) ?_
      refine lv_if_lt (tgt := 28) hx hb dX4_worth_19 (by decide) (fun c_14 => ?_) (fun c_14 => ?_)
      · have i_14 : p3.toInt < 0 := z_lt (rfl) (rfl) c_14
        refine lv_iconst (v := (-1)) hx hb dX4_worth_28 (by decide) ?_
        have : ((-1) : Int32).toInt = (-1) := rfl
        have hP9 := hP.sub (ws' := [(h0, .inr (4, [.ref h1, .ref h2, .int f0, .ref h3, .ref h4, .ref h5, .ref h6, .int f1, .ref h7, .ref h8, .ref h9, .ref h10])), (h1, .inr (0, [.ref h11, .int f2, .ref h12, .int f3, .ref h13, .ref h14, .ref h15, .ref h16, .ref h17, .ref h18, .int f4])), (h16, .inl (zI g, 20, .inl Z10))]) [0, 2, 1] rfl
        have hD9 := hD.sub (ws' := [(h0, .inr (4, [.ref h1, .ref h2, .int f0, .ref h3, .ref h4, .ref h5, .ref h6, .int f1, .ref h7, .ref h8, .ref h9, .ref h10])), (h1, .inr (0, [.ref h11, .int f2, .ref h12, .int f3, .ref h13, .ref h14, .ref h15, .ref h16, .ref h17, .ref h18, .int f4])), (h16, .inl (zI g, 20, .inl Z10))]) [0, 2, 1] (by decide) rfl
        exact W.iret (v := (-1)) hx hb hr (fun t ht hW => ⟨⟨(-1), Z10, rfl, ⟨⟨(by first | omega | decide), (by first | omega | decide)⟩, (by rw [if_neg (by omega)])⟩, by rw [ht]; exact hP9, hD9⟩, hS.F ht⟩) hS.2.2 dX4_worth_29
      · have i_14 : 0 ≤ p3.toInt := z_nlt (rfl) (rfl) c_14
        refine lv_iload_n hx hb dX4_worth_22 rfl (lv_at hl 3 rfl) ?_
        refine lv_bipush (v := 99) hx hb dX4_worth_23 (by decide) ?_
        refine lv_icmp_le (tgt := 30) hx hb dX4_worth_25 (by decide) (fun c_15 => ?_) (fun c_15 => ?_)
        · have i_15 : p3.toInt ≤ 99 := z_le (rfl) (rfl) c_15
          refine lv_iload_n hx hb dX4_worth_30 rfl (lv_at hl 1 rfl) ?_
          refine lv_iconst (v := 4) hx hb dX4_worth_31 (by decide) ?_
          refine lv_imul hx hb dX4_worth_32 ?_
          refine lv_topi (fun y0 ey0 => ?_)
          have qy0_0 : y0.toInt = p1.toInt * 4 := zi_mul ey0 (rfl) (rfl) (by omega) (by omega)
          refine lv_iload_n hx hb dX4_worth_33 rfl (lv_at hl 2 rfl) ?_
          refine lv_iadd hx hb dX4_worth_34 ?_
          refine lv_topi (fun y1 ey1 => ?_)
          have qy1_0 : y1.toInt = y0.toInt + p2.toInt := zi_add ey1 (rfl) (rfl) (by omega) (by omega)
          refine lv_istore (lv' := [(4, .int y1), (0, .ref h0), (1, .int p1), (2, .int p2), (3, .int p3)]) hx hb dX4_worth_35 hl (by decide) rfl (fun ls hl => ?_)
          refine lv_aload_n hx hb dX4_worth_37 rfl (lv_at hl 1 rfl) ?_
          refine va_get (D := g.1) (ci := 4) (v := .ref h1) (C := RX4) (T := TX4) (N := 12) hx hb hts zl_X4 hown hK hP 0 rfl rfl 0 (by decide) (hts _ m_f_RX4_10) (fun _ h => h) rfl dX4_worth_38 ?_
          refine va_getN (D := g.1) (ci := 0) (v := .ref h16) (C := RX0) (T := TX0) (N := 11) hx hb hts zl_X0 hown hK hP 2 rfl rfl 7 (by decide) (hN.f 15 (q := (RX4, 87, "FishSteps$Books", "worth", "[I")) rfl) (fun _ h => h) rfl dX4_worth_41 ?_
          refine lv_iload hx hb dX4_worth_44 (lv_at hl 0 rfl) ?_
          refine va_iald (D := g.1) hx hb hK hP 1 0 rfl rfl (vp_in_iff.mpr ⟨by omega, by omega⟩) dX4_worth_46 ?_
          refine lv_topi (fun y2 ey2 => ?_)
          have qy2_0 : y2.toInt = (Z10 y1.toNatClampNeg).toInt := congrArg Int32.toInt ey2
          have py2_0 : y2.toInt = (Z10 (4 * p1.toInt + p2.toInt).toNat).toInt := by rw [ey2, z_tn (i := y1) (a := 4 * p1.toInt + p2.toInt) (by omega) (by omega)]
          refine lv_istore (lv' := [(5, .int y2), (4, .int y1), (0, .ref h0), (1, .int p1), (2, .int p2), (3, .int p3)]) hx hb dX4_worth_47 hl (by decide) rfl (fun ls hl => ?_)
          refine lv_aload_n hx hb dX4_worth_49 rfl (lv_at hl 2 rfl) ?_
          refine va_get (D := g.1) (ci := 4) (v := .ref h1) (C := RX4) (T := TX4) (N := 12) hx hb hts zl_X4 hown hK hP 0 rfl rfl 0 (by decide) (hts _ m_f_RX4_10) (fun _ h => h) rfl dX4_worth_50 ?_
          refine va_getN (D := g.1) (ci := 0) (v := .ref h16) (C := RX0) (T := TX0) (N := 11) hx hb hts zl_X0 hown hK hP 2 rfl rfl 7 (by decide) (hN.f 15 (q := (RX4, 87, "FishSteps$Books", "worth", "[I")) rfl) (fun _ h => h) rfl dX4_worth_53 ?_
          refine lv_iload hx hb dX4_worth_56 (lv_at hl 1 rfl) ?_
          refine lv_iload_n hx hb dX4_worth_58 rfl (lv_at hl 5 rfl) ?_
          refine va_iast (D := g.1) hx hb hK hP hD hS 1 0 rfl rfl (vp_in_iff.mpr ⟨by omega, by omega⟩) dX4_worth_59 (fun H locs hP hD hS => ?_)
          have hP : va_P g.1 vwCl [(h0, .inr (4, [.ref h1, .ref h2, .int f0, .ref h3, .ref h4, .ref h5, .ref h6, .int f1, .ref h7, .ref h8, .ref h9, .ref h10])), (h16, .inl (zI g, 20, .inl (upd Z10 y1.toNatClampNeg p3))), (h1, .inr (0, [.ref h11, .int f2, .ref h12, .int f3, .ref h13, .ref h14, .ref h15, .ref h16, .ref h17, .ref h18, .int f4]))] H := hP
          have hD : va_D A [(h0, .inr (4, [.ref h1, .ref h2, .int f0, .ref h3, .ref h4, .ref h5, .ref h6, .int f1, .ref h7, .ref h8, .ref h9, .ref h10])), (h16, .inl (zI g, 20, .inl (upd Z10 y1.toNatClampNeg p3))), (h1, .inr (0, [.ref h11, .int f2, .ref h12, .int f3, .ref h13, .ref h14, .ref h15, .ref h16, .ref h17, .ref h18, .int f4]))] := hD
          obtain ⟨R3, eR3⟩ : ∃ z : Nat → Int32, z = (upd Z10 y1.toNatClampNeg p3) := ⟨_, rfl⟩
          rw [← eR3] at hP hD
          refine lv_iload hx hb dX4_worth_60 (lv_at hl 0 rfl) ?_
          have hP9 := hP.sub (ws' := [(h0, .inr (4, [.ref h1, .ref h2, .int f0, .ref h3, .ref h4, .ref h5, .ref h6, .int f1, .ref h7, .ref h8, .ref h9, .ref h10])), (h1, .inr (0, [.ref h11, .int f2, .ref h12, .int f3, .ref h13, .ref h14, .ref h15, .ref h16, .ref h17, .ref h18, .int f4])), (h16, .inl (zI g, 20, .inl R3))]) [0, 2, 1] rfl
          have hD9 := hD.sub (ws' := [(h0, .inr (4, [.ref h1, .ref h2, .int f0, .ref h3, .ref h4, .ref h5, .ref h6, .int f1, .ref h7, .ref h8, .ref h9, .ref h10])), (h1, .inr (0, [.ref h11, .int f2, .ref h12, .int f3, .ref h13, .ref h14, .ref h15, .ref h16, .ref h17, .ref h18, .int f4])), (h16, .inl (zI g, 20, .inl R3))]) [0, 2, 1] (by decide) rfl
          exact W.iret (v := y2) hx hb hr (fun t ht hW => ⟨⟨y2, R3, rfl, ⟨⟨(by first | omega | decide), (by first | omega | decide)⟩, (by rw [if_pos (by omega), eR3, z_tn (i := y1) (a := 4 * p1.toInt + p2.toInt) (by omega) (by omega)])⟩, by rw [ht]; exact hP9, hD9⟩, hS.F ht⟩) hS.2.2 dX4_worth_62
        · have i_15 : 99 < p3.toInt := z_nle (rfl) (rfl) c_15
          refine lv_iconst (v := (-1)) hx hb dX4_worth_28 (by decide) ?_
          have : ((-1) : Int32).toInt = (-1) := rfl
          have hP9 := hP.sub (ws' := [(h0, .inr (4, [.ref h1, .ref h2, .int f0, .ref h3, .ref h4, .ref h5, .ref h6, .int f1, .ref h7, .ref h8, .ref h9, .ref h10])), (h1, .inr (0, [.ref h11, .int f2, .ref h12, .int f3, .ref h13, .ref h14, .ref h15, .ref h16, .ref h17, .ref h18, .int f4])), (h16, .inl (zI g, 20, .inl Z10))]) [0, 2, 1] rfl
          have hD9 := hD.sub (ws' := [(h0, .inr (4, [.ref h1, .ref h2, .int f0, .ref h3, .ref h4, .ref h5, .ref h6, .int f1, .ref h7, .ref h8, .ref h9, .ref h10])), (h1, .inr (0, [.ref h11, .int f2, .ref h12, .int f3, .ref h13, .ref h14, .ref h15, .ref h16, .ref h17, .ref h18, .int f4])), (h16, .inl (zI g, 20, .inl Z10))]) [0, 2, 1] (by decide) rfl
          exact W.iret (v := (-1)) hx hb hr (fun t ht hW => ⟨⟨(-1), Z10, rfl, ⟨⟨(by first | omega | decide), (by first | omega | decide)⟩, (by rw [if_neg (by omega)])⟩, by rw [ht]; exact hP9, hD9⟩, hS.F ht⟩) hS.2.2 dX4_worth_29
set_option maxHeartbeats 8000000 in
set_option maxRecDepth 100000 in
theorem gX4_margin (l : Launch) (g : zG) (h0 h1 h2 h3 h4 h5 h6 h7 h8 h9 h10 h11 h12 h13 h14 h15 h16 h17 h18 : Nat) (sz : Nat) (p1 : Int32) (p2 : Int32) (f0 : Int32) (f1 : Int32) (f2 : Int32) (f3 : Int32) (f4 : Int32) (Z9 : Nat → Int32) (hf_f2 : 0 ≤ f2.toInt ∧ f2.toInt ≤ 6) (hf_f3 : 0 ≤ f3.toInt ∧ f3.toInt ≤ 5) : Met l yX4_margin (.code yX4_margin cX4_margin 4 (some .int) :: zBig) ({ frames := 1, cells := 0, slots := 0, locals := 21 }) (va_Pc [.ref h0, .int p1, .int p2] (zPre g [(h0, .inr (4, [.ref h1, .ref h2, .int f0, .ref h3, .ref h4, .ref h5, .ref h6, .int f1, .ref h7, .ref h8, .ref h9, .ref h10])), (h1, .inr (0, [.ref h11, .int f2, .ref h12, .int f3, .ref h13, .ref h14, .ref h15, .ref h16, .ref h17, .ref h18, .int f4])), (h15, .inl (zI g, 5, .inl Z9))] sz)) (va_Qi (fun (r : Int32) (u : (Nat → Int32)) => ((p1.toInt < 0 ∨ 5 ≤ p1.toInt ∨ f3.toInt ≤ p1.toInt ∨ p2.toInt < 0 ∨ 40 < p2.toInt → r.toInt = -1) ∧ (0 ≤ p1.toInt → p1.toInt < 5 → p1.toInt < f3.toInt → 0 ≤ p2.toInt → p2.toInt ≤ 40 → r.toInt = (Z9 p1.toNatClampNeg).toInt)) ∧ u = (if (0 ≤ p1.toInt ∧ p1.toInt < 5 ∧ p1.toInt < f3.toInt ∧ 0 ≤ p2.toInt ∧ p2.toInt ≤ 40) then upd Z9 p1.toNatClampNeg p2 else Z9)) (zPost g (fun u : (Nat → Int32) => [(h0, .inr (4, [.ref h1, .ref h2, .int f0, .ref h3, .ref h4, .ref h5, .ref h6, .int f1, .ref h7, .ref h8, .ref h9, .ref h10])), (h1, .inr (0, [.ref h11, .int f2, .ref h12, .int f3, .ref h13, .ref h14, .ref h15, .ref h16, .ref h17, .ref h18, .int f4])), (h15, .inl (zI g, 5, .inl u))]) (va_A [(h0, .inr (4, [.ref h1, .ref h2, .int f0, .ref h3, .ref h4, .ref h5, .ref h6, .int f1, .ref h7, .ref h8, .ref h9, .ref h10])), (h1, .inr (0, [.ref h11, .int f2, .ref h12, .int f3, .ref h13, .ref h14, .ref h15, .ref h16, .ref h17, .ref h18, .int f4])), (h15, .inl (zI g, 5, .inl Z9))] sz)) (va_A [(h0, .inr (4, [.ref h1, .ref h2, .int f0, .ref h3, .ref h4, .ref h5, .ref h6, .int f1, .ref h7, .ref h8, .ref h9, .ref h10])), (h1, .inr (0, [.ref h11, .int f2, .ref h12, .int f3, .ref h13, .ref h14, .ref h15, .ref h16, .ref h17, .ref h18, .int f4])), (h15, .inl (zI g, 5, .inl Z9))] sz)) 0 0 (va_A [(h0, .inr (4, [.ref h1, .ref h2, .int f0, .ref h3, .ref h4, .ref h5, .ref h6, .int f1, .ref h7, .ref h8, .ref h9, .ref h10])), (h1, .inr (0, [.ref h11, .int f2, .ref h12, .int f3, .ref h13, .ref h14, .ref h15, .ref h16, .ref h17, .ref h18, .int f4])), (h15, .inl (zI g, 5, .inl Z9))] sz) := by
  refine zMetI rfl (Nat.le_of_ble_eq_true rfl) ?_
  intro p e s m args below meth c A ls hx hb hml hr hlocks hin hown hts hK hN hZ hP hD hA hS hAe hl
  have hown : s.vm.findClass RX4 = some m.cls := hown
  have hl : lv_has ls 4 [(0, .ref h0), (1, .int p1), (2, .int p2)] := hl
  refine lv_aload_n hx hb dX4_margin_0 rfl (lv_at hl 0 rfl) ?_
  refine va_get (D := g.1) (ci := 4) (v := .ref h1) (C := RX4) (T := TX4) (N := 12) hx hb hts zl_X4 hown hK hP 0 rfl rfl 0 (by decide) (hts _ m_f_RX4_10) (fun _ h => h) rfl dX4_margin_1 ?_
  refine lv_iload_n hx hb dX4_margin_4 rfl (lv_at hl 1 rfl) ?_
  refine z_calli (wr := [(h0, .inr (4, [.ref h1, .ref h2, .int f0, .ref h3, .ref h4, .ref h5, .ref h6, .int f1, .ref h7, .ref h8, .ref h9, .ref h10])), (h15, .inl (zI g, 5, .inl Z9))]) hP hD hS hA [1] [0, 2] (by decide) rfl rfl (by decide) (va_runVN (As := [.int p1]) (rest := []) ⟨hx, hb, hml, hown, hts⟩ (gX0_isThere l g h1 h11 h12 h13 h14 h15 h16 h17 h18 s.heap.size p1 f2 f3 f4 (by constructor <;> omega) (by constructor <;> omega)) ⟨va_cnB 1 hts (zGood m_o_yX0_isThere) rfl rfl rfl (hN.m 4 (q := (RX4, 80, yX0_isThere)) rfl) (hts _ m_z_RX0) ⟨by decide +kernel, by decide +kernel, by decide +kernel⟩ ⟨Nat.le_of_ble_eq_true rfl, Nat.le_of_ble_eq_true rfl⟩, hts _ m_i_yX0_isThere, hts _ m_e_yX0_isThere⟩ (zPreV hK hN hZ hP hD hS hA [1] (by decide) rfl rfl 0 1 rfl rfl) rfl rfl hl.1 rfl (lv_room (Nat.le_of_ble_eq_true rfl)) dX4_margin_5 ⟨Nat.le_of_ble_eq_true rfl, Nat.le_of_ble_eq_true rfl⟩) (fun r u H locs hw hP hD hS => ?_)
  rcases hw with ⟨i_0, rfl⟩ | ⟨i_1, i_2, rfl⟩ | ⟨i_3, i_4, i_5, rfl⟩ | ⟨i_6, i_7, i_8, rfl⟩
  · skip
    have i_0 : p1.toInt < 0 := i_0
    have hP : va_P g.1 vwCl [(h0, .inr (4, [.ref h1, .ref h2, .int f0, .ref h3, .ref h4, .ref h5, .ref h6, .int f1, .ref h7, .ref h8, .ref h9, .ref h10])), (h15, .inl (zI g, 5, .inl Z9)), (h1, .inr (0, [.ref h11, .int f2, .ref h12, .int f3, .ref h13, .ref h14, .ref h15, .ref h16, .ref h17, .ref h18, .int f4]))] H := hP
    have hD : va_D A [(h0, .inr (4, [.ref h1, .ref h2, .int f0, .ref h3, .ref h4, .ref h5, .ref h6, .int f1, .ref h7, .ref h8, .ref h9, .ref h10])), (h15, .inl (zI g, 5, .inl Z9)), (h1, .inr (0, [.ref h11, .int f2, .ref h12, .int f3, .ref h13, .ref h14, .ref h15, .ref h16, .ref h17, .ref h18, .int f4]))] := hD
    refine lv_if_eq (tgt := 21) hx hb dX4_margin_8 (by decide) (fun _ => ?_) (fun h => absurd h (by decide +kernel))
    refine lv_iconst (v := (-1)) hx hb dX4_margin_21 (by decide) ?_
    have : ((-1) : Int32).toInt = (-1) := rfl
    have hP9 := hP.sub (ws' := [(h0, .inr (4, [.ref h1, .ref h2, .int f0, .ref h3, .ref h4, .ref h5, .ref h6, .int f1, .ref h7, .ref h8, .ref h9, .ref h10])), (h1, .inr (0, [.ref h11, .int f2, .ref h12, .int f3, .ref h13, .ref h14, .ref h15, .ref h16, .ref h17, .ref h18, .int f4])), (h15, .inl (zI g, 5, .inl Z9))]) [0, 2, 1] rfl
    have hD9 := hD.sub (ws' := [(h0, .inr (4, [.ref h1, .ref h2, .int f0, .ref h3, .ref h4, .ref h5, .ref h6, .int f1, .ref h7, .ref h8, .ref h9, .ref h10])), (h1, .inr (0, [.ref h11, .int f2, .ref h12, .int f3, .ref h13, .ref h14, .ref h15, .ref h16, .ref h17, .ref h18, .int f4])), (h15, .inl (zI g, 5, .inl Z9))]) [0, 2, 1] (by decide) rfl
    exact W.iret (v := (-1)) hx hb hr (fun t ht hW => ⟨⟨(-1), Z9, rfl, ⟨⟨(by first | omega | decide), (by first | omega | decide)⟩, (by rw [if_neg (by omega)])⟩, by rw [ht]; exact hP9, hD9⟩, hS.F ht⟩) hS.2.2 dX4_margin_22
  · skip
    have i_1 : 0 ≤ p1.toInt := i_1
    have i_2 : 5 ≤ p1.toInt := i_2
    have hP : va_P g.1 vwCl [(h0, .inr (4, [.ref h1, .ref h2, .int f0, .ref h3, .ref h4, .ref h5, .ref h6, .int f1, .ref h7, .ref h8, .ref h9, .ref h10])), (h15, .inl (zI g, 5, .inl Z9)), (h1, .inr (0, [.ref h11, .int f2, .ref h12, .int f3, .ref h13, .ref h14, .ref h15, .ref h16, .ref h17, .ref h18, .int f4]))] H := hP
    have hD : va_D A [(h0, .inr (4, [.ref h1, .ref h2, .int f0, .ref h3, .ref h4, .ref h5, .ref h6, .int f1, .ref h7, .ref h8, .ref h9, .ref h10])), (h15, .inl (zI g, 5, .inl Z9)), (h1, .inr (0, [.ref h11, .int f2, .ref h12, .int f3, .ref h13, .ref h14, .ref h15, .ref h16, .ref h17, .ref h18, .int f4]))] := hD
    refine lv_if_eq (tgt := 21) hx hb dX4_margin_8 (by decide) (fun _ => ?_) (fun h => absurd h (by decide +kernel))
    refine lv_iconst (v := (-1)) hx hb dX4_margin_21 (by decide) ?_
    have : ((-1) : Int32).toInt = (-1) := rfl
    have hP9 := hP.sub (ws' := [(h0, .inr (4, [.ref h1, .ref h2, .int f0, .ref h3, .ref h4, .ref h5, .ref h6, .int f1, .ref h7, .ref h8, .ref h9, .ref h10])), (h1, .inr (0, [.ref h11, .int f2, .ref h12, .int f3, .ref h13, .ref h14, .ref h15, .ref h16, .ref h17, .ref h18, .int f4])), (h15, .inl (zI g, 5, .inl Z9))]) [0, 2, 1] rfl
    have hD9 := hD.sub (ws' := [(h0, .inr (4, [.ref h1, .ref h2, .int f0, .ref h3, .ref h4, .ref h5, .ref h6, .int f1, .ref h7, .ref h8, .ref h9, .ref h10])), (h1, .inr (0, [.ref h11, .int f2, .ref h12, .int f3, .ref h13, .ref h14, .ref h15, .ref h16, .ref h17, .ref h18, .int f4])), (h15, .inl (zI g, 5, .inl Z9))]) [0, 2, 1] (by decide) rfl
    exact W.iret (v := (-1)) hx hb hr (fun t ht hW => ⟨⟨(-1), Z9, rfl, ⟨⟨(by first | omega | decide), (by first | omega | decide)⟩, (by rw [if_neg (by omega)])⟩, by rw [ht]; exact hP9, hD9⟩, hS.F ht⟩) hS.2.2 dX4_margin_22
  · skip
    have i_3 : 0 ≤ p1.toInt := i_3
    have i_4 : p1.toInt < 5 := i_4
    have i_5 : f3.toInt ≤ p1.toInt := i_5
    have hP : va_P g.1 vwCl [(h0, .inr (4, [.ref h1, .ref h2, .int f0, .ref h3, .ref h4, .ref h5, .ref h6, .int f1, .ref h7, .ref h8, .ref h9, .ref h10])), (h15, .inl (zI g, 5, .inl Z9)), (h1, .inr (0, [.ref h11, .int f2, .ref h12, .int f3, .ref h13, .ref h14, .ref h15, .ref h16, .ref h17, .ref h18, .int f4]))] H := hP
    have hD : va_D A [(h0, .inr (4, [.ref h1, .ref h2, .int f0, .ref h3, .ref h4, .ref h5, .ref h6, .int f1, .ref h7, .ref h8, .ref h9, .ref h10])), (h15, .inl (zI g, 5, .inl Z9)), (h1, .inr (0, [.ref h11, .int f2, .ref h12, .int f3, .ref h13, .ref h14, .ref h15, .ref h16, .ref h17, .ref h18, .int f4]))] := hD
    refine lv_if_eq (tgt := 21) hx hb dX4_margin_8 (by decide) (fun _ => ?_) (fun h => absurd h (by decide +kernel))
    refine lv_iconst (v := (-1)) hx hb dX4_margin_21 (by decide) ?_
    have : ((-1) : Int32).toInt = (-1) := rfl
    have hP9 := hP.sub (ws' := [(h0, .inr (4, [.ref h1, .ref h2, .int f0, .ref h3, .ref h4, .ref h5, .ref h6, .int f1, .ref h7, .ref h8, .ref h9, .ref h10])), (h1, .inr (0, [.ref h11, .int f2, .ref h12, .int f3, .ref h13, .ref h14, .ref h15, .ref h16, .ref h17, .ref h18, .int f4])), (h15, .inl (zI g, 5, .inl Z9))]) [0, 2, 1] rfl
    have hD9 := hD.sub (ws' := [(h0, .inr (4, [.ref h1, .ref h2, .int f0, .ref h3, .ref h4, .ref h5, .ref h6, .int f1, .ref h7, .ref h8, .ref h9, .ref h10])), (h1, .inr (0, [.ref h11, .int f2, .ref h12, .int f3, .ref h13, .ref h14, .ref h15, .ref h16, .ref h17, .ref h18, .int f4])), (h15, .inl (zI g, 5, .inl Z9))]) [0, 2, 1] (by decide) rfl
    exact W.iret (v := (-1)) hx hb hr (fun t ht hW => ⟨⟨(-1), Z9, rfl, ⟨⟨(by first | omega | decide), (by first | omega | decide)⟩, (by rw [if_neg (by omega)])⟩, by rw [ht]; exact hP9, hD9⟩, hS.F ht⟩) hS.2.2 dX4_margin_22
  · skip
    have i_6 : 0 ≤ p1.toInt := i_6
    have i_7 : p1.toInt < 5 := i_7
    have i_8 : p1.toInt < f3.toInt := i_8
    have hP : va_P g.1 vwCl [(h0, .inr (4, [.ref h1, .ref h2, .int f0, .ref h3, .ref h4, .ref h5, .ref h6, .int f1, .ref h7, .ref h8, .ref h9, .ref h10])), (h15, .inl (zI g, 5, .inl Z9)), (h1, .inr (0, [.ref h11, .int f2, .ref h12, .int f3, .ref h13, .ref h14, .ref h15, .ref h16, .ref h17, .ref h18, .int f4]))] H := hP
    have hD : va_D A [(h0, .inr (4, [.ref h1, .ref h2, .int f0, .ref h3, .ref h4, .ref h5, .ref h6, .int f1, .ref h7, .ref h8, .ref h9, .ref h10])), (h15, .inl (zI g, 5, .inl Z9)), (h1, .inr (0, [.ref h11, .int f2, .ref h12, .int f3, .ref h13, .ref h14, .ref h15, .ref h16, .ref h17, .ref h18, .int f4]))] := hD
    refine lv_if_eq (tgt := 21) hx hb dX4_margin_8 (by decide) (fun h => absurd h (by decide +kernel)) (fun _ => ?_)
    refine lv_iload_n hx hb dX4_margin_11 rfl (lv_at hl 2 rfl) ?_
    refine lv_if_lt (tgt := 21) hx hb dX4_margin_12 (by decide) (fun c_9 => ?_) (fun c_9 => ?_)
    · have i_9 : p2.toInt < 0 := z_lt (rfl) (rfl) c_9
      refine lv_iconst (v := (-1)) hx hb dX4_margin_21 (by decide) ?_
      have : ((-1) : Int32).toInt = (-1) := rfl
      have hP9 := hP.sub (ws' := [(h0, .inr (4, [.ref h1, .ref h2, .int f0, .ref h3, .ref h4, .ref h5, .ref h6, .int f1, .ref h7, .ref h8, .ref h9, .ref h10])), (h1, .inr (0, [.ref h11, .int f2, .ref h12, .int f3, .ref h13, .ref h14, .ref h15, .ref h16, .ref h17, .ref h18, .int f4])), (h15, .inl (zI g, 5, .inl Z9))]) [0, 2, 1] rfl
      have hD9 := hD.sub (ws' := [(h0, .inr (4, [.ref h1, .ref h2, .int f0, .ref h3, .ref h4, .ref h5, .ref h6, .int f1, .ref h7, .ref h8, .ref h9, .ref h10])), (h1, .inr (0, [.ref h11, .int f2, .ref h12, .int f3, .ref h13, .ref h14, .ref h15, .ref h16, .ref h17, .ref h18, .int f4])), (h15, .inl (zI g, 5, .inl Z9))]) [0, 2, 1] (by decide) rfl
      exact W.iret (v := (-1)) hx hb hr (fun t ht hW => ⟨⟨(-1), Z9, rfl, ⟨⟨(by first | omega | decide), (by first | omega | decide)⟩, (by rw [if_neg (by omega)])⟩, by rw [ht]; exact hP9, hD9⟩, hS.F ht⟩) hS.2.2 dX4_margin_22
    · have i_9 : 0 ≤ p2.toInt := z_nlt (rfl) (rfl) c_9
      refine lv_iload_n hx hb dX4_margin_15 rfl (lv_at hl 2 rfl) ?_
      refine lv_bipush (v := 40) hx hb dX4_margin_16 (by decide) ?_
      refine lv_icmp_le (tgt := 23) hx hb dX4_margin_18 (by decide) (fun c_10 => ?_) (fun c_10 => ?_)
      · have i_10 : p2.toInt ≤ 40 := z_le (rfl) (rfl) c_10
        refine lv_aload_n hx hb dX4_margin_23 rfl (lv_at hl 0 rfl) ?_
        refine va_get (D := g.1) (ci := 4) (v := .ref h1) (C := RX4) (T := TX4) (N := 12) hx hb hts zl_X4 hown hK hP 0 rfl rfl 0 (by decide) (hts _ m_f_RX4_10) (fun _ h => h) rfl dX4_margin_24 ?_
        refine va_getN (D := g.1) (ci := 0) (v := .ref h15) (C := RX0) (T := TX0) (N := 11) hx hb hts zl_X0 hown hK hP 2 rfl rfl 6 (by decide) (hN.f 14 (q := (RX4, 90, "FishSteps$Books", "margin", "[I")) rfl) (fun _ h => h) rfl dX4_margin_27 ?_
        refine lv_iload_n hx hb dX4_margin_30 rfl (lv_at hl 1 rfl) ?_
        refine va_iald (D := g.1) hx hb hK hP 1 0 rfl rfl (vp_in_iff.mpr ⟨by omega, by omega⟩) dX4_margin_31 ?_
        refine lv_topi (fun y0 ey0 => ?_)
        have qy0_0 : y0.toInt = (Z9 p1.toNatClampNeg).toInt := congrArg Int32.toInt ey0
        refine lv_istore_n (lv' := [(3, .int y0), (0, .ref h0), (1, .int p1), (2, .int p2)]) hx hb dX4_margin_32 rfl hl (by decide) rfl (fun ls hl => ?_)
        refine lv_aload_n hx hb dX4_margin_33 rfl (lv_at hl 1 rfl) ?_
        refine va_get (D := g.1) (ci := 4) (v := .ref h1) (C := RX4) (T := TX4) (N := 12) hx hb hts zl_X4 hown hK hP 0 rfl rfl 0 (by decide) (hts _ m_f_RX4_10) (fun _ h => h) rfl dX4_margin_34 ?_
        refine va_getN (D := g.1) (ci := 0) (v := .ref h15) (C := RX0) (T := TX0) (N := 11) hx hb hts zl_X0 hown hK hP 2 rfl rfl 6 (by decide) (hN.f 14 (q := (RX4, 90, "FishSteps$Books", "margin", "[I")) rfl) (fun _ h => h) rfl dX4_margin_37 ?_
        refine lv_iload_n hx hb dX4_margin_40 rfl (lv_at hl 2 rfl) ?_
        refine lv_iload_n hx hb dX4_margin_41 rfl (lv_at hl 3 rfl) ?_
        refine va_iast (D := g.1) hx hb hK hP hD hS 1 0 rfl rfl (vp_in_iff.mpr ⟨by omega, by omega⟩) dX4_margin_42 (fun H locs hP hD hS => ?_)
        have hP : va_P g.1 vwCl [(h0, .inr (4, [.ref h1, .ref h2, .int f0, .ref h3, .ref h4, .ref h5, .ref h6, .int f1, .ref h7, .ref h8, .ref h9, .ref h10])), (h15, .inl (zI g, 5, .inl (upd Z9 p1.toNatClampNeg p2))), (h1, .inr (0, [.ref h11, .int f2, .ref h12, .int f3, .ref h13, .ref h14, .ref h15, .ref h16, .ref h17, .ref h18, .int f4]))] H := hP
        have hD : va_D A [(h0, .inr (4, [.ref h1, .ref h2, .int f0, .ref h3, .ref h4, .ref h5, .ref h6, .int f1, .ref h7, .ref h8, .ref h9, .ref h10])), (h15, .inl (zI g, 5, .inl (upd Z9 p1.toNatClampNeg p2))), (h1, .inr (0, [.ref h11, .int f2, .ref h12, .int f3, .ref h13, .ref h14, .ref h15, .ref h16, .ref h17, .ref h18, .int f4]))] := hD
        obtain ⟨R1, eR1⟩ : ∃ z : Nat → Int32, z = (upd Z9 p1.toNatClampNeg p2) := ⟨_, rfl⟩
        rw [← eR1] at hP hD
        refine lv_iload_n hx hb dX4_margin_43 rfl (lv_at hl 0 rfl) ?_
        have hP9 := hP.sub (ws' := [(h0, .inr (4, [.ref h1, .ref h2, .int f0, .ref h3, .ref h4, .ref h5, .ref h6, .int f1, .ref h7, .ref h8, .ref h9, .ref h10])), (h1, .inr (0, [.ref h11, .int f2, .ref h12, .int f3, .ref h13, .ref h14, .ref h15, .ref h16, .ref h17, .ref h18, .int f4])), (h15, .inl (zI g, 5, .inl R1))]) [0, 2, 1] rfl
        have hD9 := hD.sub (ws' := [(h0, .inr (4, [.ref h1, .ref h2, .int f0, .ref h3, .ref h4, .ref h5, .ref h6, .int f1, .ref h7, .ref h8, .ref h9, .ref h10])), (h1, .inr (0, [.ref h11, .int f2, .ref h12, .int f3, .ref h13, .ref h14, .ref h15, .ref h16, .ref h17, .ref h18, .int f4])), (h15, .inl (zI g, 5, .inl R1))]) [0, 2, 1] (by decide) rfl
        exact W.iret (v := y0) hx hb hr (fun t ht hW => ⟨⟨y0, R1, rfl, ⟨⟨(by first | omega | decide), (by first | omega | decide)⟩, (by rw [if_pos (by omega), eR1])⟩, by rw [ht]; exact hP9, hD9⟩, hS.F ht⟩) hS.2.2 dX4_margin_44
      · have i_10 : 40 < p2.toInt := z_nle (rfl) (rfl) c_10
        refine lv_iconst (v := (-1)) hx hb dX4_margin_21 (by decide) ?_
        have : ((-1) : Int32).toInt = (-1) := rfl
        have hP9 := hP.sub (ws' := [(h0, .inr (4, [.ref h1, .ref h2, .int f0, .ref h3, .ref h4, .ref h5, .ref h6, .int f1, .ref h7, .ref h8, .ref h9, .ref h10])), (h1, .inr (0, [.ref h11, .int f2, .ref h12, .int f3, .ref h13, .ref h14, .ref h15, .ref h16, .ref h17, .ref h18, .int f4])), (h15, .inl (zI g, 5, .inl Z9))]) [0, 2, 1] rfl
        have hD9 := hD.sub (ws' := [(h0, .inr (4, [.ref h1, .ref h2, .int f0, .ref h3, .ref h4, .ref h5, .ref h6, .int f1, .ref h7, .ref h8, .ref h9, .ref h10])), (h1, .inr (0, [.ref h11, .int f2, .ref h12, .int f3, .ref h13, .ref h14, .ref h15, .ref h16, .ref h17, .ref h18, .int f4])), (h15, .inl (zI g, 5, .inl Z9))]) [0, 2, 1] (by decide) rfl
        exact W.iret (v := (-1)) hx hb hr (fun t ht hW => ⟨⟨(-1), Z9, rfl, ⟨⟨(by first | omega | decide), (by first | omega | decide)⟩, (by rw [if_neg (by omega)])⟩, by rw [ht]; exact hP9, hD9⟩, hS.F ht⟩) hS.2.2 dX4_margin_22
set_option maxHeartbeats 8000000 in
set_option maxRecDepth 100000 in
theorem gX0_worthOf (l : Launch) (g : zG) (h0 h1 h2 h3 h4 h5 h6 h7 h8 : Nat) (sz : Nat) (p1 : Int32) (p2 : Int32) (f0 : Int32) (f1 : Int32) (f2 : Int32) (Z5 : Nat → Int32) (hf_f0 : 0 ≤ f0.toInt ∧ f0.toInt ≤ 6) (hf_f1 : 0 ≤ f1.toInt ∧ f1.toInt ≤ 5) : Met l yX0_worthOf (.code yX0_worthOf cX0_worthOf 3 (some .int) :: zBig) ({ frames := 1, cells := 0, slots := 0, locals := 21 }) (va_Pc [.ref h0, .int p1, .int p2] (zPre g [(h0, .inr (0, [.ref h1, .int f0, .ref h2, .int f1, .ref h3, .ref h4, .ref h5, .ref h6, .ref h7, .ref h8, .int f2])), (h6, .inl (zI g, 20, .inl Z5))] sz)) (va_Qi (fun (r : Int32) (u : Nat) => True) (zPost g (fun u : Nat => [(h0, .inr (0, [.ref h1, .int f0, .ref h2, .int f1, .ref h3, .ref h4, .ref h5, .ref h6, .ref h7, .ref h8, .int f2])), (h6, .inl (zI g, 20, .inl Z5))]) (va_A [(h0, .inr (0, [.ref h1, .int f0, .ref h2, .int f1, .ref h3, .ref h4, .ref h5, .ref h6, .ref h7, .ref h8, .int f2])), (h6, .inl (zI g, 20, .inl Z5))] sz)) (va_A [(h0, .inr (0, [.ref h1, .int f0, .ref h2, .int f1, .ref h3, .ref h4, .ref h5, .ref h6, .ref h7, .ref h8, .int f2])), (h6, .inl (zI g, 20, .inl Z5))] sz)) 0 0 (va_A [(h0, .inr (0, [.ref h1, .int f0, .ref h2, .int f1, .ref h3, .ref h4, .ref h5, .ref h6, .ref h7, .ref h8, .int f2])), (h6, .inl (zI g, 20, .inl Z5))] sz) := by
  refine zMetI rfl (Nat.le_of_ble_eq_true rfl) ?_
  intro p e s m args below meth c A ls hx hb hml hr hlocks hin hown hts hK hN hZ hP hD hA hS hAe hl
  have hown : s.vm.findClass RX0 = some m.cls := hown
  have hl : lv_has ls 3 [(0, .ref h0), (1, .int p1), (2, .int p2)] := hl
  refine lv_aload_n hx hb dX0_worthOf_0 rfl (lv_at hl 0 rfl) ?_
  refine lv_iload_n hx hb dX0_worthOf_1 rfl (lv_at hl 1 rfl) ?_
  refine z_calli (wr := [(h6, .inl (zI g, 20, .inl Z5))]) hP hD hS hA [0] [1] (by decide) rfl rfl (by decide) (va_runV (As := [.int p1]) (rest := []) ⟨hx, hb, hml, hown, hts⟩ (gX0_isThere l g h0 h1 h2 h3 h4 h5 h6 h7 h8 s.heap.size p1 f0 f1 f2 (by constructor <;> omega) (by constructor <;> omega)) ⟨callB_of 1 hts (zGood m_o_yX0_isThere) rfl rfl rfl (hts _ m_z_RX0) (hts _ m_m_RX0_66) ⟨by decide +kernel, by decide +kernel, by decide +kernel⟩ ⟨Nat.le_of_ble_eq_true rfl, Nat.le_of_ble_eq_true rfl⟩, hts _ m_i_yX0_isThere, hts _ m_e_yX0_isThere⟩ (zPreV hK hN hZ hP hD hS hA [0] (by decide) rfl rfl 0 0 rfl rfl) rfl rfl hl.1 rfl (lv_room (Nat.le_of_ble_eq_true rfl)) dX0_worthOf_2 ⟨Nat.le_of_ble_eq_true rfl, Nat.le_of_ble_eq_true rfl⟩) (fun r u H locs hw hP hD hS => ?_)
  rcases hw with ⟨i_0, rfl⟩ | ⟨i_1, i_2, rfl⟩ | ⟨i_3, i_4, i_5, rfl⟩ | ⟨i_6, i_7, i_8, rfl⟩
  · skip
    have i_0 : p1.toInt < 0 := i_0
    have hP : va_P g.1 vwCl [(h6, .inl (zI g, 20, .inl Z5)), (h0, .inr (0, [.ref h1, .int f0, .ref h2, .int f1, .ref h3, .ref h4, .ref h5, .ref h6, .ref h7, .ref h8, .int f2]))] H := hP
    have hD : va_D A [(h6, .inl (zI g, 20, .inl Z5)), (h0, .inr (0, [.ref h1, .int f0, .ref h2, .int f1, .ref h3, .ref h4, .ref h5, .ref h6, .ref h7, .ref h8, .int f2]))] := hD
    refine lv_if_eq (tgt := 15) hx hb dX0_worthOf_5 (by decide) (fun _ => ?_) (fun h => absurd h (by decide +kernel))
    refine lv_iconst (v := 0) hx hb dX0_worthOf_15 (by decide) ?_
    have hP9 := hP.sub (ws' := [(h0, .inr (0, [.ref h1, .int f0, .ref h2, .int f1, .ref h3, .ref h4, .ref h5, .ref h6, .ref h7, .ref h8, .int f2])), (h6, .inl (zI g, 20, .inl Z5))]) [1, 0] rfl
    have hD9 := hD.sub (ws' := [(h0, .inr (0, [.ref h1, .int f0, .ref h2, .int f1, .ref h3, .ref h4, .ref h5, .ref h6, .ref h7, .ref h8, .int f2])), (h6, .inl (zI g, 20, .inl Z5))]) [1, 0] (by decide) rfl
    exact W.iret (v := 0) hx hb hr (fun t ht hW => ⟨⟨0, (0 : Nat), rfl, trivial, by rw [ht]; exact hP9, hD9⟩, hS.F ht⟩) hS.2.2 dX0_worthOf_16
  · skip
    have i_1 : 0 ≤ p1.toInt := i_1
    have i_2 : 5 ≤ p1.toInt := i_2
    have hP : va_P g.1 vwCl [(h6, .inl (zI g, 20, .inl Z5)), (h0, .inr (0, [.ref h1, .int f0, .ref h2, .int f1, .ref h3, .ref h4, .ref h5, .ref h6, .ref h7, .ref h8, .int f2]))] H := hP
    have hD : va_D A [(h6, .inl (zI g, 20, .inl Z5)), (h0, .inr (0, [.ref h1, .int f0, .ref h2, .int f1, .ref h3, .ref h4, .ref h5, .ref h6, .ref h7, .ref h8, .int f2]))] := hD
    refine lv_if_eq (tgt := 15) hx hb dX0_worthOf_5 (by decide) (fun _ => ?_) (fun h => absurd h (by decide +kernel))
    refine lv_iconst (v := 0) hx hb dX0_worthOf_15 (by decide) ?_
    have hP9 := hP.sub (ws' := [(h0, .inr (0, [.ref h1, .int f0, .ref h2, .int f1, .ref h3, .ref h4, .ref h5, .ref h6, .ref h7, .ref h8, .int f2])), (h6, .inl (zI g, 20, .inl Z5))]) [1, 0] rfl
    have hD9 := hD.sub (ws' := [(h0, .inr (0, [.ref h1, .int f0, .ref h2, .int f1, .ref h3, .ref h4, .ref h5, .ref h6, .ref h7, .ref h8, .int f2])), (h6, .inl (zI g, 20, .inl Z5))]) [1, 0] (by decide) rfl
    exact W.iret (v := 0) hx hb hr (fun t ht hW => ⟨⟨0, (0 : Nat), rfl, trivial, by rw [ht]; exact hP9, hD9⟩, hS.F ht⟩) hS.2.2 dX0_worthOf_16
  · skip
    have i_3 : 0 ≤ p1.toInt := i_3
    have i_4 : p1.toInt < 5 := i_4
    have i_5 : f1.toInt ≤ p1.toInt := i_5
    have hP : va_P g.1 vwCl [(h6, .inl (zI g, 20, .inl Z5)), (h0, .inr (0, [.ref h1, .int f0, .ref h2, .int f1, .ref h3, .ref h4, .ref h5, .ref h6, .ref h7, .ref h8, .int f2]))] H := hP
    have hD : va_D A [(h6, .inl (zI g, 20, .inl Z5)), (h0, .inr (0, [.ref h1, .int f0, .ref h2, .int f1, .ref h3, .ref h4, .ref h5, .ref h6, .ref h7, .ref h8, .int f2]))] := hD
    refine lv_if_eq (tgt := 15) hx hb dX0_worthOf_5 (by decide) (fun _ => ?_) (fun h => absurd h (by decide +kernel))
    refine lv_iconst (v := 0) hx hb dX0_worthOf_15 (by decide) ?_
    have hP9 := hP.sub (ws' := [(h0, .inr (0, [.ref h1, .int f0, .ref h2, .int f1, .ref h3, .ref h4, .ref h5, .ref h6, .ref h7, .ref h8, .int f2])), (h6, .inl (zI g, 20, .inl Z5))]) [1, 0] rfl
    have hD9 := hD.sub (ws' := [(h0, .inr (0, [.ref h1, .int f0, .ref h2, .int f1, .ref h3, .ref h4, .ref h5, .ref h6, .ref h7, .ref h8, .int f2])), (h6, .inl (zI g, 20, .inl Z5))]) [1, 0] (by decide) rfl
    exact W.iret (v := 0) hx hb hr (fun t ht hW => ⟨⟨0, (0 : Nat), rfl, trivial, by rw [ht]; exact hP9, hD9⟩, hS.F ht⟩) hS.2.2 dX0_worthOf_16
  · skip
    have i_6 : 0 ≤ p1.toInt := i_6
    have i_7 : p1.toInt < 5 := i_7
    have i_8 : p1.toInt < f1.toInt := i_8
    have hP : va_P g.1 vwCl [(h6, .inl (zI g, 20, .inl Z5)), (h0, .inr (0, [.ref h1, .int f0, .ref h2, .int f1, .ref h3, .ref h4, .ref h5, .ref h6, .ref h7, .ref h8, .int f2]))] H := hP
    have hD : va_D A [(h6, .inl (zI g, 20, .inl Z5)), (h0, .inr (0, [.ref h1, .int f0, .ref h2, .int f1, .ref h3, .ref h4, .ref h5, .ref h6, .ref h7, .ref h8, .int f2]))] := hD
    refine lv_if_eq (tgt := 15) hx hb dX0_worthOf_5 (by decide) (fun h => absurd h (by decide +kernel)) (fun _ => ?_)
    refine lv_iload_n hx hb dX0_worthOf_8 rfl (lv_at hl 2 rfl) ?_
    refine z_calli (wr := [(h6, .inl (zI g, 20, .inl Z5)), (h0, .inr (0, [.ref h1, .int f0, .ref h2, .int f1, .ref h3, .ref h4, .ref h5, .ref h6, .ref h7, .ref h8, .int f2]))]) hP hD hS hA [] [0, 1] (by decide) rfl rfl (by decide) (va_runSN (As := [.int p2]) (rest := []) ⟨hx, hb, hml, hown, hts⟩ (gX4_isKind l g  H.size p2) ⟨va_cnB 1 hts (zGood m_o_yX4_isKind) rfl rfl rfl (hN.m 6 (q := (RX0, 70, yX4_isKind)) rfl) (hts _ m_z_RX4) ⟨by decide +kernel, by decide +kernel, by decide +kernel⟩ ⟨Nat.le_of_ble_eq_true rfl, Nat.le_of_ble_eq_true rfl⟩, hts _ m_s_yX4_isKind, trivial⟩ (zPreS hK hN hZ hP hD hS hA [] (by decide) rfl rfl) rfl rfl hl.1 rfl (lv_room (Nat.le_of_ble_eq_true rfl)) dX0_worthOf_9 ⟨Nat.le_of_ble_eq_true rfl, Nat.le_of_ble_eq_true rfl⟩) (fun r u H locs hw hP hD hS => ?_)
    rcases hw with ⟨i_9, rfl⟩ | ⟨i_10, i_11, rfl⟩ | ⟨i_12, i_13, rfl⟩
    · skip
      have i_9 : p2.toInt < 0 := i_9
      have hP : va_P g.1 vwCl [(h6, .inl (zI g, 20, .inl Z5)), (h0, .inr (0, [.ref h1, .int f0, .ref h2, .int f1, .ref h3, .ref h4, .ref h5, .ref h6, .ref h7, .ref h8, .int f2]))] H := hP
      have hD : va_D A [(h6, .inl (zI g, 20, .inl Z5)), (h0, .inr (0, [.ref h1, .int f0, .ref h2, .int f1, .ref h3, .ref h4, .ref h5, .ref h6, .ref h7, .ref h8, .int f2]))] := hD
      refine lv_if_ne (tgt := 17) hx hb dX0_worthOf_12 (by decide) (fun h => absurd h (by decide +kernel)) (fun _ => ?_)
      refine lv_iconst (v := 0) hx hb dX0_worthOf_15 (by decide) ?_
      have hP9 := hP.sub (ws' := [(h0, .inr (0, [.ref h1, .int f0, .ref h2, .int f1, .ref h3, .ref h4, .ref h5, .ref h6, .ref h7, .ref h8, .int f2])), (h6, .inl (zI g, 20, .inl Z5))]) [1, 0] rfl
      have hD9 := hD.sub (ws' := [(h0, .inr (0, [.ref h1, .int f0, .ref h2, .int f1, .ref h3, .ref h4, .ref h5, .ref h6, .ref h7, .ref h8, .int f2])), (h6, .inl (zI g, 20, .inl Z5))]) [1, 0] (by decide) rfl
      exact W.iret (v := 0) hx hb hr (fun t ht hW => ⟨⟨0, (0 : Nat), rfl, trivial, by rw [ht]; exact hP9, hD9⟩, hS.F ht⟩) hS.2.2 dX0_worthOf_16
    · skip
      have i_10 : 0 ≤ p2.toInt := i_10
      have i_11 : 4 ≤ p2.toInt := i_11
      have hP : va_P g.1 vwCl [(h6, .inl (zI g, 20, .inl Z5)), (h0, .inr (0, [.ref h1, .int f0, .ref h2, .int f1, .ref h3, .ref h4, .ref h5, .ref h6, .ref h7, .ref h8, .int f2]))] H := hP
      have hD : va_D A [(h6, .inl (zI g, 20, .inl Z5)), (h0, .inr (0, [.ref h1, .int f0, .ref h2, .int f1, .ref h3, .ref h4, .ref h5, .ref h6, .ref h7, .ref h8, .int f2]))] := hD
      refine lv_if_ne (tgt := 17) hx hb dX0_worthOf_12 (by decide) (fun h => absurd h (by decide +kernel)) (fun _ => ?_)
      refine lv_iconst (v := 0) hx hb dX0_worthOf_15 (by decide) ?_
      have hP9 := hP.sub (ws' := [(h0, .inr (0, [.ref h1, .int f0, .ref h2, .int f1, .ref h3, .ref h4, .ref h5, .ref h6, .ref h7, .ref h8, .int f2])), (h6, .inl (zI g, 20, .inl Z5))]) [1, 0] rfl
      have hD9 := hD.sub (ws' := [(h0, .inr (0, [.ref h1, .int f0, .ref h2, .int f1, .ref h3, .ref h4, .ref h5, .ref h6, .ref h7, .ref h8, .int f2])), (h6, .inl (zI g, 20, .inl Z5))]) [1, 0] (by decide) rfl
      exact W.iret (v := 0) hx hb hr (fun t ht hW => ⟨⟨0, (0 : Nat), rfl, trivial, by rw [ht]; exact hP9, hD9⟩, hS.F ht⟩) hS.2.2 dX0_worthOf_16
    · skip
      have i_12 : 0 ≤ p2.toInt := i_12
      have i_13 : p2.toInt < 4 := i_13
      have hP : va_P g.1 vwCl [(h6, .inl (zI g, 20, .inl Z5)), (h0, .inr (0, [.ref h1, .int f0, .ref h2, .int f1, .ref h3, .ref h4, .ref h5, .ref h6, .ref h7, .ref h8, .int f2]))] H := hP
      have hD : va_D A [(h6, .inl (zI g, 20, .inl Z5)), (h0, .inr (0, [.ref h1, .int f0, .ref h2, .int f1, .ref h3, .ref h4, .ref h5, .ref h6, .ref h7, .ref h8, .int f2]))] := hD
      refine lv_if_ne (tgt := 17) hx hb dX0_worthOf_12 (by decide) (fun _ => ?_) (fun h => absurd h (by decide +kernel))
      refine lv_aload_n hx hb dX0_worthOf_17 rfl (lv_at hl 0 rfl) ?_
      refine va_get (D := g.1) (ci := 0) (v := .ref h6) (C := RX0) (T := TX0) (N := 11) hx hb hts zl_X0 hown hK hP 1 rfl rfl 7 (by decide) (hts _ m_f_RX0_42) (fun _ h => h) rfl dX0_worthOf_18 ?_
      refine lv_iload_n hx hb dX0_worthOf_21 rfl (lv_at hl 1 rfl) ?_
      refine lv_iconst (v := 4) hx hb dX0_worthOf_22 (by decide) ?_
      refine lv_imul hx hb dX0_worthOf_23 ?_
      refine lv_topi (fun y0 ey0 => ?_)
      have qy0_0 : y0.toInt = p1.toInt * 4 := zi_mul ey0 (rfl) (rfl) (by omega) (by omega)
      refine lv_iload_n hx hb dX0_worthOf_24 rfl (lv_at hl 2 rfl) ?_
      refine lv_iadd hx hb dX0_worthOf_25 ?_
      refine lv_topi (fun y1 ey1 => ?_)
      have qy1_0 : y1.toInt = y0.toInt + p2.toInt := zi_add ey1 (rfl) (rfl) (by omega) (by omega)
      refine va_iald (D := g.1) hx hb hK hP 0 0 rfl rfl (vp_in_iff.mpr ⟨by omega, by omega⟩) dX0_worthOf_26 ?_
      refine lv_topi (fun y2 ey2 => ?_)
      have qy2_0 : y2.toInt = (Z5 y1.toNatClampNeg).toInt := congrArg Int32.toInt ey2
      have hP9 := hP.sub (ws' := [(h0, .inr (0, [.ref h1, .int f0, .ref h2, .int f1, .ref h3, .ref h4, .ref h5, .ref h6, .ref h7, .ref h8, .int f2])), (h6, .inl (zI g, 20, .inl Z5))]) [1, 0] rfl
      have hD9 := hD.sub (ws' := [(h0, .inr (0, [.ref h1, .int f0, .ref h2, .int f1, .ref h3, .ref h4, .ref h5, .ref h6, .ref h7, .ref h8, .int f2])), (h6, .inl (zI g, 20, .inl Z5))]) [1, 0] (by decide) rfl
      exact W.iret (v := y2) hx hb hr (fun t ht hW => ⟨⟨y2, (0 : Nat), rfl, trivial, by rw [ht]; exact hP9, hD9⟩, hS.F ht⟩) hS.2.2 dX0_worthOf_27
set_option maxHeartbeats 8000000 in
set_option maxRecDepth 100000 in
theorem gX4_told (l : Launch) (g : zG) (h0 h1 h2 h3 h4 h5 h6 h7 h8 h9 h10 h11 h12 h13 h14 h15 h16 h17 h18 : Nat) (sz : Nat) (p1 : Int32) (p2 : Int32) (f0 : Int32) (f1 : Int32) (f2 : Int32) (f3 : Int32) (f4 : Int32) (Z7 : Nat → Int32) (Z8 : Nat → Int32) (Z9 : Nat → Int32) (Z10 : Nat → Int32) (hf_f2 : 0 ≤ f2.toInt ∧ f2.toInt ≤ 6) (hf_f3 : 0 ≤ f3.toInt ∧ f3.toInt ≤ 5) : Met l yX4_told (.code yX4_told cX4_told 3 (some .int) :: zBig) ({ frames := 2, cells := 0, slots := 0, locals := 43 }) (va_Pc [.ref h0, .int p1, .int p2] (zPre g [(h0, .inr (4, [.ref h1, .ref h2, .int f0, .ref h3, .ref h4, .ref h5, .ref h6, .int f1, .ref h7, .ref h8, .ref h9, .ref h10])), (h1, .inr (0, [.ref h11, .int f2, .ref h12, .int f3, .ref h13, .ref h14, .ref h15, .ref h16, .ref h17, .ref h18, .int f4])), (h13, .inl (zI g, 5, .inl Z7)), (h14, .inl (zI g, 5, .inl Z8)), (h15, .inl (zI g, 5, .inl Z9)), (h16, .inl (zI g, 20, .inl Z10))] sz)) (va_Qi (fun (r : Int32) (u : Nat) => True) (zPost g (fun u : Nat => [(h0, .inr (4, [.ref h1, .ref h2, .int f0, .ref h3, .ref h4, .ref h5, .ref h6, .int f1, .ref h7, .ref h8, .ref h9, .ref h10])), (h1, .inr (0, [.ref h11, .int f2, .ref h12, .int f3, .ref h13, .ref h14, .ref h15, .ref h16, .ref h17, .ref h18, .int f4])), (h13, .inl (zI g, 5, .inl Z7)), (h14, .inl (zI g, 5, .inl Z8)), (h15, .inl (zI g, 5, .inl Z9)), (h16, .inl (zI g, 20, .inl Z10))]) (va_A [(h0, .inr (4, [.ref h1, .ref h2, .int f0, .ref h3, .ref h4, .ref h5, .ref h6, .int f1, .ref h7, .ref h8, .ref h9, .ref h10])), (h1, .inr (0, [.ref h11, .int f2, .ref h12, .int f3, .ref h13, .ref h14, .ref h15, .ref h16, .ref h17, .ref h18, .int f4])), (h13, .inl (zI g, 5, .inl Z7)), (h14, .inl (zI g, 5, .inl Z8)), (h15, .inl (zI g, 5, .inl Z9)), (h16, .inl (zI g, 20, .inl Z10))] sz)) (va_A [(h0, .inr (4, [.ref h1, .ref h2, .int f0, .ref h3, .ref h4, .ref h5, .ref h6, .int f1, .ref h7, .ref h8, .ref h9, .ref h10])), (h1, .inr (0, [.ref h11, .int f2, .ref h12, .int f3, .ref h13, .ref h14, .ref h15, .ref h16, .ref h17, .ref h18, .int f4])), (h13, .inl (zI g, 5, .inl Z7)), (h14, .inl (zI g, 5, .inl Z8)), (h15, .inl (zI g, 5, .inl Z9)), (h16, .inl (zI g, 20, .inl Z10))] sz)) 0 0 (va_A [(h0, .inr (4, [.ref h1, .ref h2, .int f0, .ref h3, .ref h4, .ref h5, .ref h6, .int f1, .ref h7, .ref h8, .ref h9, .ref h10])), (h1, .inr (0, [.ref h11, .int f2, .ref h12, .int f3, .ref h13, .ref h14, .ref h15, .ref h16, .ref h17, .ref h18, .int f4])), (h13, .inl (zI g, 5, .inl Z7)), (h14, .inl (zI g, 5, .inl Z8)), (h15, .inl (zI g, 5, .inl Z9)), (h16, .inl (zI g, 20, .inl Z10))] sz) := by
  refine zMetI rfl (Nat.le_of_ble_eq_true rfl) ?_
  intro p e s m args below meth c A ls hx hb hml hr hlocks hin hown hts hK hN hZ hP hD hA hS hAe hl
  have hown : s.vm.findClass RX4 = some m.cls := hown
  have hl : lv_has ls 3 [(0, .ref h0), (1, .int p1), (2, .int p2)] := hl
  refine lv_aload_n hx hb dX4_told_0 rfl (lv_at hl 0 rfl) ?_
  refine va_get (D := g.1) (ci := 4) (v := .ref h1) (C := RX4) (T := TX4) (N := 12) hx hb hts zl_X4 hown hK hP 0 rfl rfl 0 (by decide) (hts _ m_f_RX4_10) (fun _ h => h) rfl dX4_told_1 ?_
  refine lv_iload_n hx hb dX4_told_4 rfl (lv_at hl 1 rfl) ?_
  refine z_calli (wr := [(h0, .inr (4, [.ref h1, .ref h2, .int f0, .ref h3, .ref h4, .ref h5, .ref h6, .int f1, .ref h7, .ref h8, .ref h9, .ref h10])), (h13, .inl (zI g, 5, .inl Z7)), (h14, .inl (zI g, 5, .inl Z8)), (h15, .inl (zI g, 5, .inl Z9)), (h16, .inl (zI g, 20, .inl Z10))]) hP hD hS hA [1] [0, 2, 3, 4, 5] (by decide) rfl rfl (by decide) (va_runVN (As := [.int p1]) (rest := []) ⟨hx, hb, hml, hown, hts⟩ (gX0_isThere l g h1 h11 h12 h13 h14 h15 h16 h17 h18 s.heap.size p1 f2 f3 f4 (by constructor <;> omega) (by constructor <;> omega)) ⟨va_cnB 1 hts (zGood m_o_yX0_isThere) rfl rfl rfl (hN.m 4 (q := (RX4, 80, yX0_isThere)) rfl) (hts _ m_z_RX0) ⟨by decide +kernel, by decide +kernel, by decide +kernel⟩ ⟨Nat.le_of_ble_eq_true rfl, Nat.le_of_ble_eq_true rfl⟩, hts _ m_i_yX0_isThere, hts _ m_e_yX0_isThere⟩ (zPreV hK hN hZ hP hD hS hA [1] (by decide) rfl rfl 0 1 rfl rfl) rfl rfl hl.1 rfl (lv_room (Nat.le_of_ble_eq_true rfl)) dX4_told_5 ⟨Nat.le_of_ble_eq_true rfl, Nat.le_of_ble_eq_true rfl⟩) (fun r u H locs hw hP hD hS => ?_)
  rcases hw with ⟨i_0, rfl⟩ | ⟨i_1, i_2, rfl⟩ | ⟨i_3, i_4, i_5, rfl⟩ | ⟨i_6, i_7, i_8, rfl⟩
  · skip
    have i_0 : p1.toInt < 0 := i_0
    have hP : va_P g.1 vwCl [(h0, .inr (4, [.ref h1, .ref h2, .int f0, .ref h3, .ref h4, .ref h5, .ref h6, .int f1, .ref h7, .ref h8, .ref h9, .ref h10])), (h13, .inl (zI g, 5, .inl Z7)), (h14, .inl (zI g, 5, .inl Z8)), (h15, .inl (zI g, 5, .inl Z9)), (h16, .inl (zI g, 20, .inl Z10)), (h1, .inr (0, [.ref h11, .int f2, .ref h12, .int f3, .ref h13, .ref h14, .ref h15, .ref h16, .ref h17, .ref h18, .int f4]))] H := hP
    have hD : va_D A [(h0, .inr (4, [.ref h1, .ref h2, .int f0, .ref h3, .ref h4, .ref h5, .ref h6, .int f1, .ref h7, .ref h8, .ref h9, .ref h10])), (h13, .inl (zI g, 5, .inl Z7)), (h14, .inl (zI g, 5, .inl Z8)), (h15, .inl (zI g, 5, .inl Z9)), (h16, .inl (zI g, 20, .inl Z10)), (h1, .inr (0, [.ref h11, .int f2, .ref h12, .int f3, .ref h13, .ref h14, .ref h15, .ref h16, .ref h17, .ref h18, .int f4]))] := hD
    refine lv_if_eq (tgt := 21) hx hb dX4_told_8 (by decide) (fun _ => ?_) (fun h => absurd h (by decide +kernel))
    refine lv_ldc (v := (-100001)) hx hb hown (hts _ m_k_RX4_93) dX4_told_21 ?_
    have hP9 := hP.sub (ws' := [(h0, .inr (4, [.ref h1, .ref h2, .int f0, .ref h3, .ref h4, .ref h5, .ref h6, .int f1, .ref h7, .ref h8, .ref h9, .ref h10])), (h1, .inr (0, [.ref h11, .int f2, .ref h12, .int f3, .ref h13, .ref h14, .ref h15, .ref h16, .ref h17, .ref h18, .int f4])), (h13, .inl (zI g, 5, .inl Z7)), (h14, .inl (zI g, 5, .inl Z8)), (h15, .inl (zI g, 5, .inl Z9)), (h16, .inl (zI g, 20, .inl Z10))]) [0, 5, 1, 2, 3, 4] rfl
    have hD9 := hD.sub (ws' := [(h0, .inr (4, [.ref h1, .ref h2, .int f0, .ref h3, .ref h4, .ref h5, .ref h6, .int f1, .ref h7, .ref h8, .ref h9, .ref h10])), (h1, .inr (0, [.ref h11, .int f2, .ref h12, .int f3, .ref h13, .ref h14, .ref h15, .ref h16, .ref h17, .ref h18, .int f4])), (h13, .inl (zI g, 5, .inl Z7)), (h14, .inl (zI g, 5, .inl Z8)), (h15, .inl (zI g, 5, .inl Z9)), (h16, .inl (zI g, 20, .inl Z10))]) [0, 5, 1, 2, 3, 4] (by decide) rfl
    exact W.iret (v := (-100001)) hx hb hr (fun t ht hW => ⟨⟨(-100001), (0 : Nat), rfl, trivial, by rw [ht]; exact hP9, hD9⟩, hS.F ht⟩) hS.2.2 dX4_told_23
  · skip
    have i_1 : 0 ≤ p1.toInt := i_1
    have i_2 : 5 ≤ p1.toInt := i_2
    have hP : va_P g.1 vwCl [(h0, .inr (4, [.ref h1, .ref h2, .int f0, .ref h3, .ref h4, .ref h5, .ref h6, .int f1, .ref h7, .ref h8, .ref h9, .ref h10])), (h13, .inl (zI g, 5, .inl Z7)), (h14, .inl (zI g, 5, .inl Z8)), (h15, .inl (zI g, 5, .inl Z9)), (h16, .inl (zI g, 20, .inl Z10)), (h1, .inr (0, [.ref h11, .int f2, .ref h12, .int f3, .ref h13, .ref h14, .ref h15, .ref h16, .ref h17, .ref h18, .int f4]))] H := hP
    have hD : va_D A [(h0, .inr (4, [.ref h1, .ref h2, .int f0, .ref h3, .ref h4, .ref h5, .ref h6, .int f1, .ref h7, .ref h8, .ref h9, .ref h10])), (h13, .inl (zI g, 5, .inl Z7)), (h14, .inl (zI g, 5, .inl Z8)), (h15, .inl (zI g, 5, .inl Z9)), (h16, .inl (zI g, 20, .inl Z10)), (h1, .inr (0, [.ref h11, .int f2, .ref h12, .int f3, .ref h13, .ref h14, .ref h15, .ref h16, .ref h17, .ref h18, .int f4]))] := hD
    refine lv_if_eq (tgt := 21) hx hb dX4_told_8 (by decide) (fun _ => ?_) (fun h => absurd h (by decide +kernel))
    refine lv_ldc (v := (-100001)) hx hb hown (hts _ m_k_RX4_93) dX4_told_21 ?_
    have hP9 := hP.sub (ws' := [(h0, .inr (4, [.ref h1, .ref h2, .int f0, .ref h3, .ref h4, .ref h5, .ref h6, .int f1, .ref h7, .ref h8, .ref h9, .ref h10])), (h1, .inr (0, [.ref h11, .int f2, .ref h12, .int f3, .ref h13, .ref h14, .ref h15, .ref h16, .ref h17, .ref h18, .int f4])), (h13, .inl (zI g, 5, .inl Z7)), (h14, .inl (zI g, 5, .inl Z8)), (h15, .inl (zI g, 5, .inl Z9)), (h16, .inl (zI g, 20, .inl Z10))]) [0, 5, 1, 2, 3, 4] rfl
    have hD9 := hD.sub (ws' := [(h0, .inr (4, [.ref h1, .ref h2, .int f0, .ref h3, .ref h4, .ref h5, .ref h6, .int f1, .ref h7, .ref h8, .ref h9, .ref h10])), (h1, .inr (0, [.ref h11, .int f2, .ref h12, .int f3, .ref h13, .ref h14, .ref h15, .ref h16, .ref h17, .ref h18, .int f4])), (h13, .inl (zI g, 5, .inl Z7)), (h14, .inl (zI g, 5, .inl Z8)), (h15, .inl (zI g, 5, .inl Z9)), (h16, .inl (zI g, 20, .inl Z10))]) [0, 5, 1, 2, 3, 4] (by decide) rfl
    exact W.iret (v := (-100001)) hx hb hr (fun t ht hW => ⟨⟨(-100001), (0 : Nat), rfl, trivial, by rw [ht]; exact hP9, hD9⟩, hS.F ht⟩) hS.2.2 dX4_told_23
  · skip
    have i_3 : 0 ≤ p1.toInt := i_3
    have i_4 : p1.toInt < 5 := i_4
    have i_5 : f3.toInt ≤ p1.toInt := i_5
    have hP : va_P g.1 vwCl [(h0, .inr (4, [.ref h1, .ref h2, .int f0, .ref h3, .ref h4, .ref h5, .ref h6, .int f1, .ref h7, .ref h8, .ref h9, .ref h10])), (h13, .inl (zI g, 5, .inl Z7)), (h14, .inl (zI g, 5, .inl Z8)), (h15, .inl (zI g, 5, .inl Z9)), (h16, .inl (zI g, 20, .inl Z10)), (h1, .inr (0, [.ref h11, .int f2, .ref h12, .int f3, .ref h13, .ref h14, .ref h15, .ref h16, .ref h17, .ref h18, .int f4]))] H := hP
    have hD : va_D A [(h0, .inr (4, [.ref h1, .ref h2, .int f0, .ref h3, .ref h4, .ref h5, .ref h6, .int f1, .ref h7, .ref h8, .ref h9, .ref h10])), (h13, .inl (zI g, 5, .inl Z7)), (h14, .inl (zI g, 5, .inl Z8)), (h15, .inl (zI g, 5, .inl Z9)), (h16, .inl (zI g, 20, .inl Z10)), (h1, .inr (0, [.ref h11, .int f2, .ref h12, .int f3, .ref h13, .ref h14, .ref h15, .ref h16, .ref h17, .ref h18, .int f4]))] := hD
    refine lv_if_eq (tgt := 21) hx hb dX4_told_8 (by decide) (fun _ => ?_) (fun h => absurd h (by decide +kernel))
    refine lv_ldc (v := (-100001)) hx hb hown (hts _ m_k_RX4_93) dX4_told_21 ?_
    have hP9 := hP.sub (ws' := [(h0, .inr (4, [.ref h1, .ref h2, .int f0, .ref h3, .ref h4, .ref h5, .ref h6, .int f1, .ref h7, .ref h8, .ref h9, .ref h10])), (h1, .inr (0, [.ref h11, .int f2, .ref h12, .int f3, .ref h13, .ref h14, .ref h15, .ref h16, .ref h17, .ref h18, .int f4])), (h13, .inl (zI g, 5, .inl Z7)), (h14, .inl (zI g, 5, .inl Z8)), (h15, .inl (zI g, 5, .inl Z9)), (h16, .inl (zI g, 20, .inl Z10))]) [0, 5, 1, 2, 3, 4] rfl
    have hD9 := hD.sub (ws' := [(h0, .inr (4, [.ref h1, .ref h2, .int f0, .ref h3, .ref h4, .ref h5, .ref h6, .int f1, .ref h7, .ref h8, .ref h9, .ref h10])), (h1, .inr (0, [.ref h11, .int f2, .ref h12, .int f3, .ref h13, .ref h14, .ref h15, .ref h16, .ref h17, .ref h18, .int f4])), (h13, .inl (zI g, 5, .inl Z7)), (h14, .inl (zI g, 5, .inl Z8)), (h15, .inl (zI g, 5, .inl Z9)), (h16, .inl (zI g, 20, .inl Z10))]) [0, 5, 1, 2, 3, 4] (by decide) rfl
    exact W.iret (v := (-100001)) hx hb hr (fun t ht hW => ⟨⟨(-100001), (0 : Nat), rfl, trivial, by rw [ht]; exact hP9, hD9⟩, hS.F ht⟩) hS.2.2 dX4_told_23
  · skip
    have i_6 : 0 ≤ p1.toInt := i_6
    have i_7 : p1.toInt < 5 := i_7
    have i_8 : p1.toInt < f3.toInt := i_8
    have hP : va_P g.1 vwCl [(h0, .inr (4, [.ref h1, .ref h2, .int f0, .ref h3, .ref h4, .ref h5, .ref h6, .int f1, .ref h7, .ref h8, .ref h9, .ref h10])), (h13, .inl (zI g, 5, .inl Z7)), (h14, .inl (zI g, 5, .inl Z8)), (h15, .inl (zI g, 5, .inl Z9)), (h16, .inl (zI g, 20, .inl Z10)), (h1, .inr (0, [.ref h11, .int f2, .ref h12, .int f3, .ref h13, .ref h14, .ref h15, .ref h16, .ref h17, .ref h18, .int f4]))] H := hP
    have hD : va_D A [(h0, .inr (4, [.ref h1, .ref h2, .int f0, .ref h3, .ref h4, .ref h5, .ref h6, .int f1, .ref h7, .ref h8, .ref h9, .ref h10])), (h13, .inl (zI g, 5, .inl Z7)), (h14, .inl (zI g, 5, .inl Z8)), (h15, .inl (zI g, 5, .inl Z9)), (h16, .inl (zI g, 20, .inl Z10)), (h1, .inr (0, [.ref h11, .int f2, .ref h12, .int f3, .ref h13, .ref h14, .ref h15, .ref h16, .ref h17, .ref h18, .int f4]))] := hD
    refine lv_if_eq (tgt := 21) hx hb dX4_told_8 (by decide) (fun h => absurd h (by decide +kernel)) (fun _ => ?_)
    refine lv_iload_n hx hb dX4_told_11 rfl (lv_at hl 2 rfl) ?_
    refine lv_if_lt (tgt := 21) hx hb dX4_told_12 (by decide) (fun c_9 => ?_) (fun c_9 => ?_)
    · have i_9 : p2.toInt < 0 := z_lt (rfl) (rfl) c_9
      refine lv_ldc (v := (-100001)) hx hb hown (hts _ m_k_RX4_93) dX4_told_21 ?_
      have hP9 := hP.sub (ws' := [(h0, .inr (4, [.ref h1, .ref h2, .int f0, .ref h3, .ref h4, .ref h5, .ref h6, .int f1, .ref h7, .ref h8, .ref h9, .ref h10])), (h1, .inr (0, [.ref h11, .int f2, .ref h12, .int f3, .ref h13, .ref h14, .ref h15, .ref h16, .ref h17, .ref h18, .int f4])), (h13, .inl (zI g, 5, .inl Z7)), (h14, .inl (zI g, 5, .inl Z8)), (h15, .inl (zI g, 5, .inl Z9)), (h16, .inl (zI g, 20, .inl Z10))]) [0, 5, 1, 2, 3, 4] rfl
      have hD9 := hD.sub (ws' := [(h0, .inr (4, [.ref h1, .ref h2, .int f0, .ref h3, .ref h4, .ref h5, .ref h6, .int f1, .ref h7, .ref h8, .ref h9, .ref h10])), (h1, .inr (0, [.ref h11, .int f2, .ref h12, .int f3, .ref h13, .ref h14, .ref h15, .ref h16, .ref h17, .ref h18, .int f4])), (h13, .inl (zI g, 5, .inl Z7)), (h14, .inl (zI g, 5, .inl Z8)), (h15, .inl (zI g, 5, .inl Z9)), (h16, .inl (zI g, 20, .inl Z10))]) [0, 5, 1, 2, 3, 4] (by decide) rfl
      exact W.iret (v := (-100001)) hx hb hr (fun t ht hW => ⟨⟨(-100001), (0 : Nat), rfl, trivial, by rw [ht]; exact hP9, hD9⟩, hS.F ht⟩) hS.2.2 dX4_told_23
    · have i_9 : 0 ≤ p2.toInt := z_nlt (rfl) (rfl) c_9
      refine lv_iload_n hx hb dX4_told_15 rfl (lv_at hl 2 rfl) ?_
      refine lv_bipush (v := 6) hx hb dX4_told_16 (by decide) ?_
      refine lv_icmp_le (tgt := 24) hx hb dX4_told_18 (by decide) (fun c_10 => ?_) (fun c_10 => ?_)
      · have i_10 : p2.toInt ≤ 6 := z_le (rfl) (rfl) c_10
        refine lv_iload_n hx hb dX4_told_24 rfl (lv_at hl 2 rfl) ?_
        refine lv_if_ne (tgt := 38) hx hb dX4_told_25 (by decide) (fun c_11 => ?_) (fun c_11 => ?_)
        · have i_11 : p2.toInt ≠ 0 := z_ne (rfl) (rfl) c_11
          refine lv_iload_n hx hb dX4_told_38 rfl (lv_at hl 2 rfl) ?_
          refine lv_iconst (v := 1) hx hb dX4_told_39 (by decide) ?_
          refine lv_icmp_ne (tgt := 53) hx hb dX4_told_40 (by decide) (fun c_12 => ?_) (fun c_12 => ?_)
          · have i_12 : p2.toInt ≠ 1 := z_ne (rfl) (rfl) c_12
            refine lv_iload_n hx hb dX4_told_53 rfl (lv_at hl 2 rfl) ?_
            refine lv_bipush (v := 6) hx hb dX4_told_54 (by decide) ?_
            refine lv_icmp_ne (tgt := 69) hx hb dX4_told_56 (by decide) (fun c_13 => ?_) (fun c_13 => ?_)
            · have i_13 : p2.toInt ≠ 6 := z_ne (rfl) (rfl) c_13
              refine lv_aload_n hx hb dX4_told_69 rfl (lv_at hl 0 rfl) ?_
              refine va_get (D := g.1) (ci := 4) (v := .ref h1) (C := RX4) (T := TX4) (N := 12) hx hb hts zl_X4 hown hK hP 0 rfl rfl 0 (by decide) (hts _ m_f_RX4_10) (fun _ h => h) rfl dX4_told_70 ?_
              refine lv_iload_n hx hb dX4_told_73 rfl (lv_at hl 1 rfl) ?_
              refine lv_iload_n hx hb dX4_told_74 rfl (lv_at hl 2 rfl) ?_
              refine lv_iconst (v := 2) hx hb dX4_told_75 (by decide) ?_
              refine lv_isub hx hb dX4_told_76 ?_
              refine lv_topi (fun y0 ey0 => ?_)
              have qy0_0 : y0.toInt = p2.toInt - 2 := zi_sub ey0 (rfl) (rfl) (by omega) (by omega)
              refine z_calli (wr := [(h0, .inr (4, [.ref h1, .ref h2, .int f0, .ref h3, .ref h4, .ref h5, .ref h6, .int f1, .ref h7, .ref h8, .ref h9, .ref h10])), (h13, .inl (zI g, 5, .inl Z7)), (h14, .inl (zI g, 5, .inl Z8)), (h15, .inl (zI g, 5, .inl Z9))]) hP hD hS hA [5, 4] [0, 1, 2, 3] (by decide) rfl rfl (by decide) (va_runVN (As := [.int p1, .int y0]) (rest := []) ⟨hx, hb, hml, hown, hts⟩ (gX0_worthOf l g h1 h11 h12 h13 h14 h15 h16 h17 h18 H.size p1 y0 f2 f3 f4 Z10 (by constructor <;> omega) (by constructor <;> omega)) ⟨va_cnB 2 hts (zGood m_o_yX0_worthOf) rfl rfl rfl (hN.m 5 (q := (RX4, 94, yX0_worthOf)) rfl) (hts _ m_z_RX0) ⟨by decide +kernel, by decide +kernel, by decide +kernel⟩ ⟨Nat.le_of_ble_eq_true rfl, Nat.le_of_ble_eq_true rfl⟩, hts _ m_i_yX0_worthOf, hts _ m_e_yX0_worthOf⟩ (zPreV hK hN hZ hP hD hS hA [5, 4] (by decide) rfl rfl 0 5 rfl rfl) rfl rfl hl.1 rfl (lv_room (Nat.le_of_ble_eq_true rfl)) dX4_told_77 ⟨Nat.le_of_ble_eq_true rfl, Nat.le_of_ble_eq_true rfl⟩) (fun r u H locs hw hP hD hS => ?_)
              obtain ⟨y1, rfl⟩ : ∃ z, z = r := ⟨_, rfl⟩
              have hP : va_P g.1 vwCl [(h0, .inr (4, [.ref h1, .ref h2, .int f0, .ref h3, .ref h4, .ref h5, .ref h6, .int f1, .ref h7, .ref h8, .ref h9, .ref h10])), (h13, .inl (zI g, 5, .inl Z7)), (h14, .inl (zI g, 5, .inl Z8)), (h15, .inl (zI g, 5, .inl Z9)), (h1, .inr (0, [.ref h11, .int f2, .ref h12, .int f3, .ref h13, .ref h14, .ref h15, .ref h16, .ref h17, .ref h18, .int f4])), (h16, .inl (zI g, 20, .inl Z10))] H := hP
              have hD : va_D A [(h0, .inr (4, [.ref h1, .ref h2, .int f0, .ref h3, .ref h4, .ref h5, .ref h6, .int f1, .ref h7, .ref h8, .ref h9, .ref h10])), (h13, .inl (zI g, 5, .inl Z7)), (h14, .inl (zI g, 5, .inl Z8)), (h15, .inl (zI g, 5, .inl Z9)), (h1, .inr (0, [.ref h11, .int f2, .ref h12, .int f3, .ref h13, .ref h14, .ref h15, .ref h16, .ref h17, .ref h18, .int f4])), (h16, .inl (zI g, 20, .inl Z10))] := hD
              have hP9 := hP.sub (ws' := [(h0, .inr (4, [.ref h1, .ref h2, .int f0, .ref h3, .ref h4, .ref h5, .ref h6, .int f1, .ref h7, .ref h8, .ref h9, .ref h10])), (h1, .inr (0, [.ref h11, .int f2, .ref h12, .int f3, .ref h13, .ref h14, .ref h15, .ref h16, .ref h17, .ref h18, .int f4])), (h13, .inl (zI g, 5, .inl Z7)), (h14, .inl (zI g, 5, .inl Z8)), (h15, .inl (zI g, 5, .inl Z9)), (h16, .inl (zI g, 20, .inl Z10))]) [0, 4, 1, 2, 3, 5] rfl
              have hD9 := hD.sub (ws' := [(h0, .inr (4, [.ref h1, .ref h2, .int f0, .ref h3, .ref h4, .ref h5, .ref h6, .int f1, .ref h7, .ref h8, .ref h9, .ref h10])), (h1, .inr (0, [.ref h11, .int f2, .ref h12, .int f3, .ref h13, .ref h14, .ref h15, .ref h16, .ref h17, .ref h18, .int f4])), (h13, .inl (zI g, 5, .inl Z7)), (h14, .inl (zI g, 5, .inl Z8)), (h15, .inl (zI g, 5, .inl Z9)), (h16, .inl (zI g, 20, .inl Z10))]) [0, 4, 1, 2, 3, 5] (by decide) rfl
              exact W.iret (v := y1) hx hb hr (fun t ht hW => ⟨⟨y1, (0 : Nat), rfl, trivial, by rw [ht]; exact hP9, hD9⟩, hS.F ht⟩) hS.2.2 dX4_told_80
            · have i_13 : p2.toInt = 6 := z_eq (rfl) (rfl) c_13
              refine lv_aload_n hx hb dX4_told_59 rfl (lv_at hl 0 rfl) ?_
              refine va_get (D := g.1) (ci := 4) (v := .ref h1) (C := RX4) (T := TX4) (N := 12) hx hb hts zl_X4 hown hK hP 0 rfl rfl 0 (by decide) (hts _ m_f_RX4_10) (fun _ h => h) rfl dX4_told_60 ?_
              refine va_getN (D := g.1) (ci := 0) (v := .ref h14) (C := RX0) (T := TX0) (N := 11) hx hb hts zl_X0 hown hK hP 5 rfl rfl 5 (by decide) (hN.f 12 (q := (RX4, 77, "FishSteps$Books", "purse", "[I")) rfl) (fun _ h => h) rfl dX4_told_63 ?_
              refine lv_iload_n hx hb dX4_told_66 rfl (lv_at hl 1 rfl) ?_
              refine va_iald (D := g.1) hx hb hK hP 2 0 rfl rfl (vp_in_iff.mpr ⟨by omega, by omega⟩) dX4_told_67 ?_
              refine lv_topi (fun y2 ey2 => ?_)
              have qy2_0 : y2.toInt = (Z8 p1.toNatClampNeg).toInt := congrArg Int32.toInt ey2
              have hP9 := hP.sub (ws' := [(h0, .inr (4, [.ref h1, .ref h2, .int f0, .ref h3, .ref h4, .ref h5, .ref h6, .int f1, .ref h7, .ref h8, .ref h9, .ref h10])), (h1, .inr (0, [.ref h11, .int f2, .ref h12, .int f3, .ref h13, .ref h14, .ref h15, .ref h16, .ref h17, .ref h18, .int f4])), (h13, .inl (zI g, 5, .inl Z7)), (h14, .inl (zI g, 5, .inl Z8)), (h15, .inl (zI g, 5, .inl Z9)), (h16, .inl (zI g, 20, .inl Z10))]) [0, 5, 1, 2, 3, 4] rfl
              have hD9 := hD.sub (ws' := [(h0, .inr (4, [.ref h1, .ref h2, .int f0, .ref h3, .ref h4, .ref h5, .ref h6, .int f1, .ref h7, .ref h8, .ref h9, .ref h10])), (h1, .inr (0, [.ref h11, .int f2, .ref h12, .int f3, .ref h13, .ref h14, .ref h15, .ref h16, .ref h17, .ref h18, .int f4])), (h13, .inl (zI g, 5, .inl Z7)), (h14, .inl (zI g, 5, .inl Z8)), (h15, .inl (zI g, 5, .inl Z9)), (h16, .inl (zI g, 20, .inl Z10))]) [0, 5, 1, 2, 3, 4] (by decide) rfl
              exact W.iret (v := y2) hx hb hr (fun t ht hW => ⟨⟨y2, (0 : Nat), rfl, trivial, by rw [ht]; exact hP9, hD9⟩, hS.F ht⟩) hS.2.2 dX4_told_68
          · have i_12 : p2.toInt = 1 := z_eq (rfl) (rfl) c_12
            refine lv_aload_n hx hb dX4_told_43 rfl (lv_at hl 0 rfl) ?_
            refine va_get (D := g.1) (ci := 4) (v := .ref h1) (C := RX4) (T := TX4) (N := 12) hx hb hts zl_X4 hown hK hP 0 rfl rfl 0 (by decide) (hts _ m_f_RX4_10) (fun _ h => h) rfl dX4_told_44 ?_
            refine va_getN (D := g.1) (ci := 0) (v := .ref h15) (C := RX0) (T := TX0) (N := 11) hx hb hts zl_X0 hown hK hP 5 rfl rfl 6 (by decide) (hN.f 14 (q := (RX4, 90, "FishSteps$Books", "margin", "[I")) rfl) (fun _ h => h) rfl dX4_told_47 ?_
            refine lv_iload_n hx hb dX4_told_50 rfl (lv_at hl 1 rfl) ?_
            refine va_iald (D := g.1) hx hb hK hP 3 0 rfl rfl (vp_in_iff.mpr ⟨by omega, by omega⟩) dX4_told_51 ?_
            refine lv_topi (fun y3 ey3 => ?_)
            have qy3_0 : y3.toInt = (Z9 p1.toNatClampNeg).toInt := congrArg Int32.toInt ey3
            have hP9 := hP.sub (ws' := [(h0, .inr (4, [.ref h1, .ref h2, .int f0, .ref h3, .ref h4, .ref h5, .ref h6, .int f1, .ref h7, .ref h8, .ref h9, .ref h10])), (h1, .inr (0, [.ref h11, .int f2, .ref h12, .int f3, .ref h13, .ref h14, .ref h15, .ref h16, .ref h17, .ref h18, .int f4])), (h13, .inl (zI g, 5, .inl Z7)), (h14, .inl (zI g, 5, .inl Z8)), (h15, .inl (zI g, 5, .inl Z9)), (h16, .inl (zI g, 20, .inl Z10))]) [0, 5, 1, 2, 3, 4] rfl
            have hD9 := hD.sub (ws' := [(h0, .inr (4, [.ref h1, .ref h2, .int f0, .ref h3, .ref h4, .ref h5, .ref h6, .int f1, .ref h7, .ref h8, .ref h9, .ref h10])), (h1, .inr (0, [.ref h11, .int f2, .ref h12, .int f3, .ref h13, .ref h14, .ref h15, .ref h16, .ref h17, .ref h18, .int f4])), (h13, .inl (zI g, 5, .inl Z7)), (h14, .inl (zI g, 5, .inl Z8)), (h15, .inl (zI g, 5, .inl Z9)), (h16, .inl (zI g, 20, .inl Z10))]) [0, 5, 1, 2, 3, 4] (by decide) rfl
            exact W.iret (v := y3) hx hb hr (fun t ht hW => ⟨⟨y3, (0 : Nat), rfl, trivial, by rw [ht]; exact hP9, hD9⟩, hS.F ht⟩) hS.2.2 dX4_told_52
        · have i_11 : p2.toInt = 0 := z_eq (rfl) (rfl) c_11
          refine lv_aload_n hx hb dX4_told_28 rfl (lv_at hl 0 rfl) ?_
          refine va_get (D := g.1) (ci := 4) (v := .ref h1) (C := RX4) (T := TX4) (N := 12) hx hb hts zl_X4 hown hK hP 0 rfl rfl 0 (by decide) (hts _ m_f_RX4_10) (fun _ h => h) rfl dX4_told_29 ?_
          refine va_getN (D := g.1) (ci := 0) (v := .ref h13) (C := RX0) (T := TX0) (N := 11) hx hb hts zl_X0 hown hK hP 5 rfl rfl 4 (by decide) (hN.f 9 (q := (RX4, 74, "FishSteps$Books", "sort", "[I")) rfl) (fun _ h => h) rfl dX4_told_32 ?_
          refine lv_iload_n hx hb dX4_told_35 rfl (lv_at hl 1 rfl) ?_
          refine va_iald (D := g.1) hx hb hK hP 1 0 rfl rfl (vp_in_iff.mpr ⟨by omega, by omega⟩) dX4_told_36 ?_
          refine lv_topi (fun y4 ey4 => ?_)
          have qy4_0 : y4.toInt = (Z7 p1.toNatClampNeg).toInt := congrArg Int32.toInt ey4
          have hP9 := hP.sub (ws' := [(h0, .inr (4, [.ref h1, .ref h2, .int f0, .ref h3, .ref h4, .ref h5, .ref h6, .int f1, .ref h7, .ref h8, .ref h9, .ref h10])), (h1, .inr (0, [.ref h11, .int f2, .ref h12, .int f3, .ref h13, .ref h14, .ref h15, .ref h16, .ref h17, .ref h18, .int f4])), (h13, .inl (zI g, 5, .inl Z7)), (h14, .inl (zI g, 5, .inl Z8)), (h15, .inl (zI g, 5, .inl Z9)), (h16, .inl (zI g, 20, .inl Z10))]) [0, 5, 1, 2, 3, 4] rfl
          have hD9 := hD.sub (ws' := [(h0, .inr (4, [.ref h1, .ref h2, .int f0, .ref h3, .ref h4, .ref h5, .ref h6, .int f1, .ref h7, .ref h8, .ref h9, .ref h10])), (h1, .inr (0, [.ref h11, .int f2, .ref h12, .int f3, .ref h13, .ref h14, .ref h15, .ref h16, .ref h17, .ref h18, .int f4])), (h13, .inl (zI g, 5, .inl Z7)), (h14, .inl (zI g, 5, .inl Z8)), (h15, .inl (zI g, 5, .inl Z9)), (h16, .inl (zI g, 20, .inl Z10))]) [0, 5, 1, 2, 3, 4] (by decide) rfl
          exact W.iret (v := y4) hx hb hr (fun t ht hW => ⟨⟨y4, (0 : Nat), rfl, trivial, by rw [ht]; exact hP9, hD9⟩, hS.F ht⟩) hS.2.2 dX4_told_37
      · have i_10 : 6 < p2.toInt := z_nle (rfl) (rfl) c_10
        refine lv_ldc (v := (-100001)) hx hb hown (hts _ m_k_RX4_93) dX4_told_21 ?_
        have hP9 := hP.sub (ws' := [(h0, .inr (4, [.ref h1, .ref h2, .int f0, .ref h3, .ref h4, .ref h5, .ref h6, .int f1, .ref h7, .ref h8, .ref h9, .ref h10])), (h1, .inr (0, [.ref h11, .int f2, .ref h12, .int f3, .ref h13, .ref h14, .ref h15, .ref h16, .ref h17, .ref h18, .int f4])), (h13, .inl (zI g, 5, .inl Z7)), (h14, .inl (zI g, 5, .inl Z8)), (h15, .inl (zI g, 5, .inl Z9)), (h16, .inl (zI g, 20, .inl Z10))]) [0, 5, 1, 2, 3, 4] rfl
        have hD9 := hD.sub (ws' := [(h0, .inr (4, [.ref h1, .ref h2, .int f0, .ref h3, .ref h4, .ref h5, .ref h6, .int f1, .ref h7, .ref h8, .ref h9, .ref h10])), (h1, .inr (0, [.ref h11, .int f2, .ref h12, .int f3, .ref h13, .ref h14, .ref h15, .ref h16, .ref h17, .ref h18, .int f4])), (h13, .inl (zI g, 5, .inl Z7)), (h14, .inl (zI g, 5, .inl Z8)), (h15, .inl (zI g, 5, .inl Z9)), (h16, .inl (zI g, 20, .inl Z10))]) [0, 5, 1, 2, 3, 4] (by decide) rfl
        exact W.iret (v := (-100001)) hx hb hr (fun t ht hW => ⟨⟨(-100001), (0 : Nat), rfl, trivial, by rw [ht]; exact hP9, hD9⟩, hS.F ht⟩) hS.2.2 dX4_told_23
set_option maxHeartbeats 8000000 in
set_option maxRecDepth 100000 in
theorem gX4_earn (l : Launch) (g : zG) (h0 h1 h2 h3 h4 h5 h6 h7 h8 h9 h10 h11 h12 h13 h14 h15 h16 h17 h18 : Nat) (sz : Nat) (p1 : Int32) (p2 : Int32) (f0 : Int32) (f1 : Int32) (f2 : Int32) (f3 : Int32) (f4 : Int32) (Z8 : Nat → Int32) (hf_f2 : 0 ≤ f2.toInt ∧ f2.toInt ≤ 6) (hf_f3 : 0 ≤ f3.toInt ∧ f3.toInt ≤ 5) : Met l yX4_earn (.code yX4_earn cX4_earn 4 (some .int) :: zBig) ({ frames := 1, cells := 0, slots := 0, locals := 21 }) (va_Pc [.ref h0, .int p1, .int p2] (zPre g [(h0, .inr (4, [.ref h1, .ref h2, .int f0, .ref h3, .ref h4, .ref h5, .ref h6, .int f1, .ref h7, .ref h8, .ref h9, .ref h10])), (h1, .inr (0, [.ref h11, .int f2, .ref h12, .int f3, .ref h13, .ref h14, .ref h15, .ref h16, .ref h17, .ref h18, .int f4])), (h14, .inl (zI g, 5, .inl Z8))] sz)) (va_Qi (fun (r : Int32) (u : (Nat → Int32)) => True) (zPost g (fun u : (Nat → Int32) => [(h0, .inr (4, [.ref h1, .ref h2, .int f0, .ref h3, .ref h4, .ref h5, .ref h6, .int f1, .ref h7, .ref h8, .ref h9, .ref h10])), (h1, .inr (0, [.ref h11, .int f2, .ref h12, .int f3, .ref h13, .ref h14, .ref h15, .ref h16, .ref h17, .ref h18, .int f4])), (h14, .inl (zI g, 5, .inl u))]) (va_A [(h0, .inr (4, [.ref h1, .ref h2, .int f0, .ref h3, .ref h4, .ref h5, .ref h6, .int f1, .ref h7, .ref h8, .ref h9, .ref h10])), (h1, .inr (0, [.ref h11, .int f2, .ref h12, .int f3, .ref h13, .ref h14, .ref h15, .ref h16, .ref h17, .ref h18, .int f4])), (h14, .inl (zI g, 5, .inl Z8))] sz)) (va_A [(h0, .inr (4, [.ref h1, .ref h2, .int f0, .ref h3, .ref h4, .ref h5, .ref h6, .int f1, .ref h7, .ref h8, .ref h9, .ref h10])), (h1, .inr (0, [.ref h11, .int f2, .ref h12, .int f3, .ref h13, .ref h14, .ref h15, .ref h16, .ref h17, .ref h18, .int f4])), (h14, .inl (zI g, 5, .inl Z8))] sz)) 0 0 (va_A [(h0, .inr (4, [.ref h1, .ref h2, .int f0, .ref h3, .ref h4, .ref h5, .ref h6, .int f1, .ref h7, .ref h8, .ref h9, .ref h10])), (h1, .inr (0, [.ref h11, .int f2, .ref h12, .int f3, .ref h13, .ref h14, .ref h15, .ref h16, .ref h17, .ref h18, .int f4])), (h14, .inl (zI g, 5, .inl Z8))] sz) := by
  refine zMetI rfl (Nat.le_of_ble_eq_true rfl) ?_
  intro p e s m args below meth c A ls hx hb hml hr hlocks hin hown hts hK hN hZ hP hD hA hS hAe hl
  have hown : s.vm.findClass RX4 = some m.cls := hown
  have hl : lv_has ls 4 [(0, .ref h0), (1, .int p1), (2, .int p2)] := hl
  refine lv_aload_n hx hb dX4_earn_0 rfl (lv_at hl 0 rfl) ?_
  refine va_get (D := g.1) (ci := 4) (v := .ref h1) (C := RX4) (T := TX4) (N := 12) hx hb hts zl_X4 hown hK hP 0 rfl rfl 0 (by decide) (hts _ m_f_RX4_10) (fun _ h => h) rfl dX4_earn_1 ?_
  refine lv_iload_n hx hb dX4_earn_4 rfl (lv_at hl 1 rfl) ?_
  refine z_calli (wr := [(h0, .inr (4, [.ref h1, .ref h2, .int f0, .ref h3, .ref h4, .ref h5, .ref h6, .int f1, .ref h7, .ref h8, .ref h9, .ref h10])), (h14, .inl (zI g, 5, .inl Z8))]) hP hD hS hA [1] [0, 2] (by decide) rfl rfl (by decide) (va_runVN (As := [.int p1]) (rest := []) ⟨hx, hb, hml, hown, hts⟩ (gX0_isThere l g h1 h11 h12 h13 h14 h15 h16 h17 h18 s.heap.size p1 f2 f3 f4 (by constructor <;> omega) (by constructor <;> omega)) ⟨va_cnB 1 hts (zGood m_o_yX0_isThere) rfl rfl rfl (hN.m 4 (q := (RX4, 80, yX0_isThere)) rfl) (hts _ m_z_RX0) ⟨by decide +kernel, by decide +kernel, by decide +kernel⟩ ⟨Nat.le_of_ble_eq_true rfl, Nat.le_of_ble_eq_true rfl⟩, hts _ m_i_yX0_isThere, hts _ m_e_yX0_isThere⟩ (zPreV hK hN hZ hP hD hS hA [1] (by decide) rfl rfl 0 1 rfl rfl) rfl rfl hl.1 rfl (lv_room (Nat.le_of_ble_eq_true rfl)) dX4_earn_5 ⟨Nat.le_of_ble_eq_true rfl, Nat.le_of_ble_eq_true rfl⟩) (fun r u H locs hw hP hD hS => ?_)
  rcases hw with ⟨i_0, rfl⟩ | ⟨i_1, i_2, rfl⟩ | ⟨i_3, i_4, i_5, rfl⟩ | ⟨i_6, i_7, i_8, rfl⟩
  · skip
    have i_0 : p1.toInt < 0 := i_0
    have hP : va_P g.1 vwCl [(h0, .inr (4, [.ref h1, .ref h2, .int f0, .ref h3, .ref h4, .ref h5, .ref h6, .int f1, .ref h7, .ref h8, .ref h9, .ref h10])), (h14, .inl (zI g, 5, .inl Z8)), (h1, .inr (0, [.ref h11, .int f2, .ref h12, .int f3, .ref h13, .ref h14, .ref h15, .ref h16, .ref h17, .ref h18, .int f4]))] H := hP
    have hD : va_D A [(h0, .inr (4, [.ref h1, .ref h2, .int f0, .ref h3, .ref h4, .ref h5, .ref h6, .int f1, .ref h7, .ref h8, .ref h9, .ref h10])), (h14, .inl (zI g, 5, .inl Z8)), (h1, .inr (0, [.ref h11, .int f2, .ref h12, .int f3, .ref h13, .ref h14, .ref h15, .ref h16, .ref h17, .ref h18, .int f4]))] := hD
    refine lv_if_eq (tgt := 23) hx hb dX4_earn_8 (by decide) (fun _ => ?_) (fun h => absurd h (by decide +kernel))
    refine lv_ldc (v := (-100001)) hx hb hown (hts _ m_k_RX4_93) dX4_earn_23 ?_
    have hP9 := hP.sub (ws' := [(h0, .inr (4, [.ref h1, .ref h2, .int f0, .ref h3, .ref h4, .ref h5, .ref h6, .int f1, .ref h7, .ref h8, .ref h9, .ref h10])), (h1, .inr (0, [.ref h11, .int f2, .ref h12, .int f3, .ref h13, .ref h14, .ref h15, .ref h16, .ref h17, .ref h18, .int f4])), (h14, .inl (zI g, 5, .inl Z8))]) [0, 2, 1] rfl
    have hD9 := hD.sub (ws' := [(h0, .inr (4, [.ref h1, .ref h2, .int f0, .ref h3, .ref h4, .ref h5, .ref h6, .int f1, .ref h7, .ref h8, .ref h9, .ref h10])), (h1, .inr (0, [.ref h11, .int f2, .ref h12, .int f3, .ref h13, .ref h14, .ref h15, .ref h16, .ref h17, .ref h18, .int f4])), (h14, .inl (zI g, 5, .inl Z8))]) [0, 2, 1] (by decide) rfl
    exact W.iret (v := (-100001)) hx hb hr (fun t ht hW => ⟨⟨(-100001), Z8, rfl, trivial, by rw [ht]; exact hP9, hD9⟩, hS.F ht⟩) hS.2.2 dX4_earn_25
  · skip
    have i_1 : 0 ≤ p1.toInt := i_1
    have i_2 : 5 ≤ p1.toInt := i_2
    have hP : va_P g.1 vwCl [(h0, .inr (4, [.ref h1, .ref h2, .int f0, .ref h3, .ref h4, .ref h5, .ref h6, .int f1, .ref h7, .ref h8, .ref h9, .ref h10])), (h14, .inl (zI g, 5, .inl Z8)), (h1, .inr (0, [.ref h11, .int f2, .ref h12, .int f3, .ref h13, .ref h14, .ref h15, .ref h16, .ref h17, .ref h18, .int f4]))] H := hP
    have hD : va_D A [(h0, .inr (4, [.ref h1, .ref h2, .int f0, .ref h3, .ref h4, .ref h5, .ref h6, .int f1, .ref h7, .ref h8, .ref h9, .ref h10])), (h14, .inl (zI g, 5, .inl Z8)), (h1, .inr (0, [.ref h11, .int f2, .ref h12, .int f3, .ref h13, .ref h14, .ref h15, .ref h16, .ref h17, .ref h18, .int f4]))] := hD
    refine lv_if_eq (tgt := 23) hx hb dX4_earn_8 (by decide) (fun _ => ?_) (fun h => absurd h (by decide +kernel))
    refine lv_ldc (v := (-100001)) hx hb hown (hts _ m_k_RX4_93) dX4_earn_23 ?_
    have hP9 := hP.sub (ws' := [(h0, .inr (4, [.ref h1, .ref h2, .int f0, .ref h3, .ref h4, .ref h5, .ref h6, .int f1, .ref h7, .ref h8, .ref h9, .ref h10])), (h1, .inr (0, [.ref h11, .int f2, .ref h12, .int f3, .ref h13, .ref h14, .ref h15, .ref h16, .ref h17, .ref h18, .int f4])), (h14, .inl (zI g, 5, .inl Z8))]) [0, 2, 1] rfl
    have hD9 := hD.sub (ws' := [(h0, .inr (4, [.ref h1, .ref h2, .int f0, .ref h3, .ref h4, .ref h5, .ref h6, .int f1, .ref h7, .ref h8, .ref h9, .ref h10])), (h1, .inr (0, [.ref h11, .int f2, .ref h12, .int f3, .ref h13, .ref h14, .ref h15, .ref h16, .ref h17, .ref h18, .int f4])), (h14, .inl (zI g, 5, .inl Z8))]) [0, 2, 1] (by decide) rfl
    exact W.iret (v := (-100001)) hx hb hr (fun t ht hW => ⟨⟨(-100001), Z8, rfl, trivial, by rw [ht]; exact hP9, hD9⟩, hS.F ht⟩) hS.2.2 dX4_earn_25
  · skip
    have i_3 : 0 ≤ p1.toInt := i_3
    have i_4 : p1.toInt < 5 := i_4
    have i_5 : f3.toInt ≤ p1.toInt := i_5
    have hP : va_P g.1 vwCl [(h0, .inr (4, [.ref h1, .ref h2, .int f0, .ref h3, .ref h4, .ref h5, .ref h6, .int f1, .ref h7, .ref h8, .ref h9, .ref h10])), (h14, .inl (zI g, 5, .inl Z8)), (h1, .inr (0, [.ref h11, .int f2, .ref h12, .int f3, .ref h13, .ref h14, .ref h15, .ref h16, .ref h17, .ref h18, .int f4]))] H := hP
    have hD : va_D A [(h0, .inr (4, [.ref h1, .ref h2, .int f0, .ref h3, .ref h4, .ref h5, .ref h6, .int f1, .ref h7, .ref h8, .ref h9, .ref h10])), (h14, .inl (zI g, 5, .inl Z8)), (h1, .inr (0, [.ref h11, .int f2, .ref h12, .int f3, .ref h13, .ref h14, .ref h15, .ref h16, .ref h17, .ref h18, .int f4]))] := hD
    refine lv_if_eq (tgt := 23) hx hb dX4_earn_8 (by decide) (fun _ => ?_) (fun h => absurd h (by decide +kernel))
    refine lv_ldc (v := (-100001)) hx hb hown (hts _ m_k_RX4_93) dX4_earn_23 ?_
    have hP9 := hP.sub (ws' := [(h0, .inr (4, [.ref h1, .ref h2, .int f0, .ref h3, .ref h4, .ref h5, .ref h6, .int f1, .ref h7, .ref h8, .ref h9, .ref h10])), (h1, .inr (0, [.ref h11, .int f2, .ref h12, .int f3, .ref h13, .ref h14, .ref h15, .ref h16, .ref h17, .ref h18, .int f4])), (h14, .inl (zI g, 5, .inl Z8))]) [0, 2, 1] rfl
    have hD9 := hD.sub (ws' := [(h0, .inr (4, [.ref h1, .ref h2, .int f0, .ref h3, .ref h4, .ref h5, .ref h6, .int f1, .ref h7, .ref h8, .ref h9, .ref h10])), (h1, .inr (0, [.ref h11, .int f2, .ref h12, .int f3, .ref h13, .ref h14, .ref h15, .ref h16, .ref h17, .ref h18, .int f4])), (h14, .inl (zI g, 5, .inl Z8))]) [0, 2, 1] (by decide) rfl
    exact W.iret (v := (-100001)) hx hb hr (fun t ht hW => ⟨⟨(-100001), Z8, rfl, trivial, by rw [ht]; exact hP9, hD9⟩, hS.F ht⟩) hS.2.2 dX4_earn_25
  · skip
    have i_6 : 0 ≤ p1.toInt := i_6
    have i_7 : p1.toInt < 5 := i_7
    have i_8 : p1.toInt < f3.toInt := i_8
    have hP : va_P g.1 vwCl [(h0, .inr (4, [.ref h1, .ref h2, .int f0, .ref h3, .ref h4, .ref h5, .ref h6, .int f1, .ref h7, .ref h8, .ref h9, .ref h10])), (h14, .inl (zI g, 5, .inl Z8)), (h1, .inr (0, [.ref h11, .int f2, .ref h12, .int f3, .ref h13, .ref h14, .ref h15, .ref h16, .ref h17, .ref h18, .int f4]))] H := hP
    have hD : va_D A [(h0, .inr (4, [.ref h1, .ref h2, .int f0, .ref h3, .ref h4, .ref h5, .ref h6, .int f1, .ref h7, .ref h8, .ref h9, .ref h10])), (h14, .inl (zI g, 5, .inl Z8)), (h1, .inr (0, [.ref h11, .int f2, .ref h12, .int f3, .ref h13, .ref h14, .ref h15, .ref h16, .ref h17, .ref h18, .int f4]))] := hD
    refine lv_if_eq (tgt := 23) hx hb dX4_earn_8 (by decide) (fun h => absurd h (by decide +kernel)) (fun _ => ?_)
    refine lv_iload_n hx hb dX4_earn_11 rfl (lv_at hl 2 rfl) ?_
    refine lv_iconst (v := 1) hx hb dX4_earn_12 (by decide) ?_
    refine lv_icmp_lt (tgt := 23) hx hb dX4_earn_13 (by decide) (fun c_9 => ?_) (fun c_9 => ?_)
    · have i_9 : p2.toInt < 1 := z_lt (rfl) (rfl) c_9
      refine lv_ldc (v := (-100001)) hx hb hown (hts _ m_k_RX4_93) dX4_earn_23 ?_
      have hP9 := hP.sub (ws' := [(h0, .inr (4, [.ref h1, .ref h2, .int f0, .ref h3, .ref h4, .ref h5, .ref h6, .int f1, .ref h7, .ref h8, .ref h9, .ref h10])), (h1, .inr (0, [.ref h11, .int f2, .ref h12, .int f3, .ref h13, .ref h14, .ref h15, .ref h16, .ref h17, .ref h18, .int f4])), (h14, .inl (zI g, 5, .inl Z8))]) [0, 2, 1] rfl
      have hD9 := hD.sub (ws' := [(h0, .inr (4, [.ref h1, .ref h2, .int f0, .ref h3, .ref h4, .ref h5, .ref h6, .int f1, .ref h7, .ref h8, .ref h9, .ref h10])), (h1, .inr (0, [.ref h11, .int f2, .ref h12, .int f3, .ref h13, .ref h14, .ref h15, .ref h16, .ref h17, .ref h18, .int f4])), (h14, .inl (zI g, 5, .inl Z8))]) [0, 2, 1] (by decide) rfl
      exact W.iret (v := (-100001)) hx hb hr (fun t ht hW => ⟨⟨(-100001), Z8, rfl, trivial, by rw [ht]; exact hP9, hD9⟩, hS.F ht⟩) hS.2.2 dX4_earn_25
    · have i_9 : 1 ≤ p2.toInt := z_nlt (rfl) (rfl) c_9
      refine lv_iload_n hx hb dX4_earn_16 rfl (lv_at hl 2 rfl) ?_
      refine lv_sipush (v := 999) hx hb dX4_earn_17 (by decide) ?_
      refine lv_icmp_le (tgt := 26) hx hb dX4_earn_20 (by decide) (fun c_10 => ?_) (fun c_10 => ?_)
      · have i_10 : p2.toInt ≤ 999 := z_le (rfl) (rfl) c_10
        refine lv_aload_n hx hb dX4_earn_26 rfl (lv_at hl 0 rfl) ?_
        refine va_get (D := g.1) (ci := 4) (v := .ref h1) (C := RX4) (T := TX4) (N := 12) hx hb hts zl_X4 hown hK hP 0 rfl rfl 0 (by decide) (hts _ m_f_RX4_10) (fun _ h => h) rfl dX4_earn_27 ?_
        refine va_getN (D := g.1) (ci := 0) (v := .ref h14) (C := RX0) (T := TX0) (N := 11) hx hb hts zl_X0 hown hK hP 2 rfl rfl 5 (by decide) (hN.f 12 (q := (RX4, 77, "FishSteps$Books", "purse", "[I")) rfl) (fun _ h => h) rfl dX4_earn_30 ?_
        refine lv_iload_n hx hb dX4_earn_33 rfl (lv_at hl 1 rfl) ?_
        refine va_iald (D := g.1) hx hb hK hP 1 0 rfl rfl (vp_in_iff.mpr ⟨by omega, by omega⟩) dX4_earn_34 ?_
        refine lv_topi (fun y0 ey0 => ?_)
        have qy0_0 : y0.toInt = (Z8 p1.toNatClampNeg).toInt := congrArg Int32.toInt ey0
        refine lv_iload_n hx hb dX4_earn_35 rfl (lv_at hl 2 rfl) ?_
        refine lv_iadd hx hb dX4_earn_36 ?_
        refine lv_topi (fun y1 ey1 => ?_)
        refine lv_istore_n (lv' := [(3, .int y1), (0, .ref h0), (1, .int p1), (2, .int p2)]) hx hb dX4_earn_37 rfl hl (by decide) rfl (fun ls hl => ?_)
        refine lv_iload_n hx hb dX4_earn_38 rfl (lv_at hl 0 rfl) ?_
        refine lv_sipush (v := 9999) hx hb dX4_earn_39 (by decide) ?_
        refine lv_icmp_le (tgt := 48) hx hb dX4_earn_42 (by decide) (fun c_11 => ?_) (fun c_11 => ?_)
        · have i_11 : y1.toInt ≤ 9999 := z_le (rfl) (rfl) c_11
          refine lv_aload_n hx hb dX4_earn_48 rfl (lv_at hl 1 rfl) ?_
          refine va_get (D := g.1) (ci := 4) (v := .ref h1) (C := RX4) (T := TX4) (N := 12) hx hb hts zl_X4 hown hK hP 0 rfl rfl 0 (by decide) (hts _ m_f_RX4_10) (fun _ h => h) rfl dX4_earn_49 ?_
          refine va_getN (D := g.1) (ci := 0) (v := .ref h14) (C := RX0) (T := TX0) (N := 11) hx hb hts zl_X0 hown hK hP 2 rfl rfl 5 (by decide) (hN.f 12 (q := (RX4, 77, "FishSteps$Books", "purse", "[I")) rfl) (fun _ h => h) rfl dX4_earn_52 ?_
          refine lv_iload_n hx hb dX4_earn_55 rfl (lv_at hl 2 rfl) ?_
          refine lv_iload_n hx hb dX4_earn_56 rfl (lv_at hl 0 rfl) ?_
          refine va_iast (D := g.1) hx hb hK hP hD hS 1 0 rfl rfl (vp_in_iff.mpr ⟨by omega, by omega⟩) dX4_earn_57 (fun H locs hP hD hS => ?_)
          have hP : va_P g.1 vwCl [(h0, .inr (4, [.ref h1, .ref h2, .int f0, .ref h3, .ref h4, .ref h5, .ref h6, .int f1, .ref h7, .ref h8, .ref h9, .ref h10])), (h14, .inl (zI g, 5, .inl (upd Z8 p1.toNatClampNeg y1))), (h1, .inr (0, [.ref h11, .int f2, .ref h12, .int f3, .ref h13, .ref h14, .ref h15, .ref h16, .ref h17, .ref h18, .int f4]))] H := hP
          have hD : va_D A [(h0, .inr (4, [.ref h1, .ref h2, .int f0, .ref h3, .ref h4, .ref h5, .ref h6, .int f1, .ref h7, .ref h8, .ref h9, .ref h10])), (h14, .inl (zI g, 5, .inl (upd Z8 p1.toNatClampNeg y1))), (h1, .inr (0, [.ref h11, .int f2, .ref h12, .int f3, .ref h13, .ref h14, .ref h15, .ref h16, .ref h17, .ref h18, .int f4]))] := hD
          obtain ⟨R2, eR2⟩ : ∃ z : Nat → Int32, z = (upd Z8 p1.toNatClampNeg y1) := ⟨_, rfl⟩
          rw [← eR2] at hP hD
          refine lv_iload_n hx hb dX4_earn_58 rfl (lv_at hl 0 rfl) ?_
          have hP9 := hP.sub (ws' := [(h0, .inr (4, [.ref h1, .ref h2, .int f0, .ref h3, .ref h4, .ref h5, .ref h6, .int f1, .ref h7, .ref h8, .ref h9, .ref h10])), (h1, .inr (0, [.ref h11, .int f2, .ref h12, .int f3, .ref h13, .ref h14, .ref h15, .ref h16, .ref h17, .ref h18, .int f4])), (h14, .inl (zI g, 5, .inl R2))]) [0, 2, 1] rfl
          have hD9 := hD.sub (ws' := [(h0, .inr (4, [.ref h1, .ref h2, .int f0, .ref h3, .ref h4, .ref h5, .ref h6, .int f1, .ref h7, .ref h8, .ref h9, .ref h10])), (h1, .inr (0, [.ref h11, .int f2, .ref h12, .int f3, .ref h13, .ref h14, .ref h15, .ref h16, .ref h17, .ref h18, .int f4])), (h14, .inl (zI g, 5, .inl R2))]) [0, 2, 1] (by decide) rfl
          exact W.iret (v := y1) hx hb hr (fun t ht hW => ⟨⟨y1, R2, rfl, trivial, by rw [ht]; exact hP9, hD9⟩, hS.F ht⟩) hS.2.2 dX4_earn_59
        · have i_11 : 9999 < y1.toInt := z_nle (rfl) (rfl) c_11
          refine lv_ldc (v := (-100003)) hx hb hown (hts _ m_k_RX4_98) dX4_earn_45 ?_
          have hP9 := hP.sub (ws' := [(h0, .inr (4, [.ref h1, .ref h2, .int f0, .ref h3, .ref h4, .ref h5, .ref h6, .int f1, .ref h7, .ref h8, .ref h9, .ref h10])), (h1, .inr (0, [.ref h11, .int f2, .ref h12, .int f3, .ref h13, .ref h14, .ref h15, .ref h16, .ref h17, .ref h18, .int f4])), (h14, .inl (zI g, 5, .inl Z8))]) [0, 2, 1] rfl
          have hD9 := hD.sub (ws' := [(h0, .inr (4, [.ref h1, .ref h2, .int f0, .ref h3, .ref h4, .ref h5, .ref h6, .int f1, .ref h7, .ref h8, .ref h9, .ref h10])), (h1, .inr (0, [.ref h11, .int f2, .ref h12, .int f3, .ref h13, .ref h14, .ref h15, .ref h16, .ref h17, .ref h18, .int f4])), (h14, .inl (zI g, 5, .inl Z8))]) [0, 2, 1] (by decide) rfl
          exact W.iret (v := (-100003)) hx hb hr (fun t ht hW => ⟨⟨(-100003), Z8, rfl, trivial, by rw [ht]; exact hP9, hD9⟩, hS.F ht⟩) hS.2.2 dX4_earn_47
      · have i_10 : 999 < p2.toInt := z_nle (rfl) (rfl) c_10
        refine lv_ldc (v := (-100001)) hx hb hown (hts _ m_k_RX4_93) dX4_earn_23 ?_
        have hP9 := hP.sub (ws' := [(h0, .inr (4, [.ref h1, .ref h2, .int f0, .ref h3, .ref h4, .ref h5, .ref h6, .int f1, .ref h7, .ref h8, .ref h9, .ref h10])), (h1, .inr (0, [.ref h11, .int f2, .ref h12, .int f3, .ref h13, .ref h14, .ref h15, .ref h16, .ref h17, .ref h18, .int f4])), (h14, .inl (zI g, 5, .inl Z8))]) [0, 2, 1] rfl
        have hD9 := hD.sub (ws' := [(h0, .inr (4, [.ref h1, .ref h2, .int f0, .ref h3, .ref h4, .ref h5, .ref h6, .int f1, .ref h7, .ref h8, .ref h9, .ref h10])), (h1, .inr (0, [.ref h11, .int f2, .ref h12, .int f3, .ref h13, .ref h14, .ref h15, .ref h16, .ref h17, .ref h18, .int f4])), (h14, .inl (zI g, 5, .inl Z8))]) [0, 2, 1] (by decide) rfl
        exact W.iret (v := (-100001)) hx hb hr (fun t ht hW => ⟨⟨(-100001), Z8, rfl, trivial, by rw [ht]; exact hP9, hD9⟩, hS.F ht⟩) hS.2.2 dX4_earn_25
set_option maxHeartbeats 8000000 in
set_option maxRecDepth 100000 in
theorem gX3_byteOf (l : Launch) (g : zG) (sz : Nat) (p0 : Int64) (p1 : Int32) : Met l yX3_byteOf (.code yX3_byteOf cX3_byteOf 3 (some .int) :: zBig) ({ frames := 0, cells := 0, slots := 0, locals := 0 }) (va_Pc [.long p0, .int p1] (zPre g [] sz)) (va_Qi (fun (r : Int32) (u : Nat) => r.toInt = zb8 p0 p1) (zPost g (fun u : Nat => []) (va_A [] sz)) (va_A [] sz)) 0 0 (va_A [] sz) := by
  refine zMetI rfl (Nat.le_of_ble_eq_true rfl) ?_
  intro p e s m args below meth c A ls hx hb hml hr hlocks hin hown hts hK hN hZ hP hD hA hS hAe hl
  have hown : s.vm.findClass RX3 = some m.cls := hown
  have hl : lv_has ls 3 [(0, .long p0), (2, .int p1)] := hl
  refine lv_lload_n hx hb dX3_byteOf_0 rfl (lv_at hl 0 rfl) ?_
  refine lv_bipush (v := 8) hx hb dX3_byteOf_1 (by decide) ?_
  refine lv_iload_n hx hb dX3_byteOf_3 rfl (lv_at hl 1 rfl) ?_
  refine lv_imul hx hb dX3_byteOf_4 ?_
  refine lv_topi (fun y0 ey0 => ?_)
  refine lv_lshr (v := (p0 >>> (y0.toInt64 &&& 63))) hx hb dX3_byteOf_5 rfl ?_
  refine lv_ldc2 (v := 255) hx hb hown (hts _ m_k_RX3_23) dX3_byteOf_6 ?_
  refine lv_land hx hb dX3_byteOf_9 ?_
  refine lv_l2i (v := ((p0 >>> (y0.toInt64 &&& 63)) &&& 255).toInt32) hx hb dX3_byteOf_10 rfl ?_
  have hbz : (((p0 >>> (y0.toInt64 &&& 63)) &&& 255).toInt32).toInt = zb8 p0 p1 := (z_b255 _).trans (by rw [ey0]; rfl)
  have hP9 := hP.sub (ws' := []) [] rfl
  have hD9 := hD.sub (ws' := []) [] (by decide) rfl
  exact W.iret (v := ((p0 >>> (y0.toInt64 &&& 63)) &&& 255).toInt32) hx hb hr (fun t ht hW => ⟨⟨((p0 >>> (y0.toInt64 &&& 63)) &&& 255).toInt32, (0 : Nat), rfl, (by first | omega | decide), by rw [ht]; exact hP9, hD9⟩, hS.F ht⟩) hS.2.2 dX3_byteOf_11
set_option maxHeartbeats 8000000 in
set_option maxRecDepth 100000 in
theorem gX3_append (l : Launch) (g : zG) (h0 h1 : Nat) (sz : Nat) (p1 : Int64) (p2 : Int32) (f0 : Int32) (Z0 : Nat → Int32) (hf_f0 : 0 ≤ f0.toInt ∧ f0.toInt ≤ 60) : Met l yX3_append (.code yX3_append cX3_append 6 (some .int) :: zBig) ({ frames := 1, cells := 0, slots := 0, locals := 22 }) (va_Pc [.ref h0, .long p1, .int p2] (zPre g [(h0, .inr (3, [.ref h1, .int f0])), (h1, .inl (zB g, 60, .inl Z0))] sz)) (va_Qi (fun (r : Int32) (u : Int32 × (Nat → Int32)) => (r.toInt = zTR p1 p2.toInt f0.toInt ∧ u.1.toInt = zTL p1 p2.toInt f0.toInt) ∧ (0 ≤ u.1.toInt ∧ u.1.toInt ≤ 60) ∧ zTy p1 p2.toInt f0.toInt u.1.toInt Z0 u.2) (zPost g (fun u : Int32 × (Nat → Int32) => [(h0, .inr (3, [.ref h1, .int u.1])), (h1, .inl (zB g, 60, .inl u.2))]) (va_A [(h0, .inr (3, [.ref h1, .int f0])), (h1, .inl (zB g, 60, .inl Z0))] sz)) (va_A [(h0, .inr (3, [.ref h1, .int f0])), (h1, .inl (zB g, 60, .inl Z0))] sz)) 0 0 (va_A [(h0, .inr (3, [.ref h1, .int f0])), (h1, .inl (zB g, 60, .inl Z0))] sz) := by
  refine zMetI rfl (Nat.le_of_ble_eq_true rfl) ?_
  intro p e s m args below meth c A ls hx hb hml hr hlocks hin hown hts hK hN hZ hP hD hA hS hAe hl
  have hown : s.vm.findClass RX3 = some m.cls := hown
  have hl : lv_has ls 6 [(0, .ref h0), (1, .long p1), (3, .int p2)] := hl
  have hz01 := zOK_01 p1 p2.toInt
  have hty0 : zTy p1 p2.toInt f0.toInt f0.toInt Z0 Z0 := zTy_0
  refine lv_iload_n hx hb dX3_append_0 rfl (lv_at hl 2 rfl) ?_
  refine lv_iconst (v := 1) hx hb dX3_append_1 (by decide) ?_
  refine lv_icmp_lt (tgt := 11) hx hb dX3_append_2 (by decide) (fun c_0 => ?_) (fun c_0 => ?_)
  · have i_0 : p2.toInt < 1 := z_lt (rfl) (rfl) c_0
    refine lv_iconst (v := (-1)) hx hb dX3_append_11 (by decide) ?_
    have hzR : zTR p1 p2.toInt f0.toInt = (-1) := by unfold zTR; first | rw [if_pos (by omega)] | rw [if_neg (by omega), if_pos (by omega)] | (rw [if_neg (by omega), if_neg (by omega)]; omega)
    have hzL : zTL p1 p2.toInt f0.toInt = f0.toInt := by unfold zTL; first | (rw [if_pos (by omega)]; omega) | rw [if_neg (by omega)]
    have : ((-1) : Int32).toInt = (-1) := rfl
    have hP9 := hP.sub (ws' := [(h0, .inr (3, [.ref h1, .int f0])), (h1, .inl (zB g, 60, .inl Z0))]) [0, 1] rfl
    have hD9 := hD.sub (ws' := [(h0, .inr (3, [.ref h1, .int f0])), (h1, .inl (zB g, 60, .inl Z0))]) [0, 1] (by decide) rfl
    exact W.iret (v := (-1)) hx hb hr (fun t ht hW => ⟨⟨(-1), ⟨f0, Z0⟩, rfl, ⟨⟨(by first | omega | decide), (show f0.toInt = zTL p1 p2.toInt f0.toInt from by first | omega | decide)⟩, ⟨show 0 ≤ f0.toInt from by omega, show f0.toInt ≤ 60 from by omega⟩, hty0⟩, by rw [ht]; exact hP9, hD9⟩, hS.F ht⟩) hS.2.2 dX3_append_12
  · have i_0 : 1 ≤ p2.toInt := z_nlt (rfl) (rfl) c_0
    refine lv_iload_n hx hb dX3_append_5 rfl (lv_at hl 2 rfl) ?_
    refine lv_bipush (v := 8) hx hb dX3_append_6 (by decide) ?_
    refine lv_icmp_le (tgt := 13) hx hb dX3_append_8 (by decide) (fun c_1 => ?_) (fun c_1 => ?_)
    · have i_1 : p2.toInt ≤ 8 := z_le (rfl) (rfl) c_1
      have hz0 : zOK p1 (0 : Int32).toInt = 1 := zOK_0 p1
      refine lv_iconst (v := 0) hx hb dX3_append_13 (by decide) ?_
      refine lv_istore (lv' := [(4, .int 0), (0, .ref h0), (1, .long p1), (3, .int p2)]) hx hb dX3_append_14 hl (by decide) rfl (fun ls hl => ?_)
      have loop16_2 : ∀ (n3 : Nat) (v4_2 : Int32) (n3_0 : 0 ≤ v4_2.toInt) (n3_1 : v4_2.toInt ≤ p2.toInt) (n3_2 : zOK p1 v4_2.toInt = 1) (hm3 : p2.toInt - v4_2.toInt < (n3 : Int)) (H : Heap) (locs : List Loc), va_P g.1 vwCl [(h0, .inr (3, [.ref h1, .int f0])), (h1, .inl (zB g, 60, .inl Z0))] H → va_D A [(h0, .inr (3, [.ref h1, .int f0])), (h1, .inl (zB g, 60, .inl Z0))] → va_S A s.heap H locs → ∀ (ls : Array Slot), lv_has ls 6 [(0, .ref h0), (1, .long p1), (3, .int p2), (4, .int v4_2)] → W p l e ({ frames := 1, cells := 0, slots := 0, locals := 22 }) s m args below meth c H locs 0 0 (MQ below (va_Qi (fun (r : Int32) (u : Int32 × (Nat → Int32)) => (r.toInt = zTR p1 p2.toInt f0.toInt ∧ u.1.toInt = zTL p1 p2.toInt f0.toInt) ∧ (0 ≤ u.1.toInt ∧ u.1.toInt ≤ 60) ∧ zTy p1 p2.toInt f0.toInt u.1.toInt Z0 u.2) (zPost g (fun u : Int32 × (Nat → Int32) => [(h0, .inr (3, [.ref h1, .int u.1])), (h1, .inl (zB g, 60, .inl u.2))]) A) A) args s 0 0 A) (F0 m 16 ls []) := by
        intro n3
        induction n3 with
        | zero => intro v4_2 n3_0 n3_1 n3_2 hm3; exfalso; omega
        | succ n3 ih3 =>
          intro v4_2 n3_0 n3_1 n3_2 hm3 H locs hP hD hS ls hl
          refine lv_iload hx hb dX3_append_16 (lv_at hl 3 rfl) ?_
          refine lv_iload_n hx hb dX3_append_18 rfl (lv_at hl 2 rfl) ?_
          refine lv_icmp_ge (tgt := 52) hx hb dX3_append_19 (by decide) (fun c_3 => ?_) (fun c_3 => ?_)
          · have i_3 : p2.toInt ≤ v4_2.toInt := z_le (rfl) (rfl) c_3
            have hze : p2.toInt = v4_2.toInt := by omega
            have hzn : zOK p1 p2.toInt = 1 := by rw [hze]; assumption
            refine lv_aload_n hx hb dX3_append_52 rfl (lv_at hl 0 rfl) ?_
            refine va_get (D := g.1) (ci := 3) (v := .int f0) (C := RX3) (T := TX3) (N := 2) hx hb hts zl_X3 hown hK hP 0 rfl rfl 1 (by decide) (hts _ m_f_RX3_15) (fun _ h => h) rfl dX3_append_53 ?_
            refine lv_if_lt (tgt := 70) hx hb dX3_append_56 (by decide) (fun c_4 => absurd (show f0.toInt < 0 from z_lt (rfl) (rfl) c_4) (by omega)) (fun c_4 => ?_)
            have i_4 : 0 ≤ f0.toInt := z_nlt (rfl) (rfl) c_4
            refine lv_aload_n hx hb dX3_append_59 rfl (lv_at hl 0 rfl) ?_
            refine va_get (D := g.1) (ci := 3) (v := .int f0) (C := RX3) (T := TX3) (N := 2) hx hb hts zl_X3 hown hK hP 0 rfl rfl 1 (by decide) (hts _ m_f_RX3_15) (fun _ h => h) rfl dX3_append_60 ?_
            refine lv_iload_n hx hb dX3_append_63 rfl (lv_at hl 2 rfl) ?_
            refine lv_iadd hx hb dX3_append_64 ?_
            refine lv_topi (fun y0 ey0 => ?_)
            have qy0_0 : y0.toInt = f0.toInt + p2.toInt := zi_add ey0 (rfl) (rfl) (by omega) (by omega)
            refine lv_bipush (v := 60) hx hb dX3_append_65 (by decide) ?_
            refine lv_icmp_le (tgt := 73) hx hb dX3_append_67 (by decide) (fun c_5 => ?_) (fun c_5 => ?_)
            · have i_5 : y0.toInt ≤ 60 := z_le (rfl) (rfl) c_5
              refine lv_iload_n hx hb dX3_append_73 rfl (lv_at hl 2 rfl) ?_
              refine lv_iconst (v := 1) hx hb dX3_append_74 (by decide) ?_
              refine lv_isub hx hb dX3_append_75 ?_
              refine lv_topi (fun y1 ey1 => ?_)
              have qy1_0 : y1.toInt = p2.toInt - 1 := zi_sub ey1 (rfl) (rfl) (by omega) (by omega)
              refine lv_istore (lv' := [(4, .int y1), (0, .ref h0), (1, .long p1), (3, .int p2)]) hx hb dX3_append_76 hl (by decide) rfl (fun ls hl => ?_)
              have loop78_6 : ∀ (n7 : Nat) (v4_6 : Int32) (g0_6 : Int32) (G1_6 : Nat → Int32) (hg0_6a : 0 ≤ g0_6.toInt) (hg0_6b : g0_6.toInt ≤ 60) (hG1_6 : zTy p1 p2.toInt f0.toInt g0_6.toInt Z0 G1_6) (n7_0 : -1 ≤ v4_6.toInt) (n7_1 : v4_6.toInt ≤ 7) (n7_2 : g0_6.toInt + v4_6.toInt + 1 ≤ 60) (n7_3 : g0_6.toInt + v4_6.toInt + 1 = f0.toInt + p2.toInt) (n7_4 : f0.toInt ≤ g0_6.toInt) (hm7 : v4_6.toInt + 1 < (n7 : Int)) (H : Heap) (locs : List Loc), va_P g.1 vwCl [(h0, .inr (3, [.ref h1, .int g0_6])), (h1, .inl (zB g, 60, .inl G1_6))] H → va_D A [(h0, .inr (3, [.ref h1, .int g0_6])), (h1, .inl (zB g, 60, .inl G1_6))] → va_S A s.heap H locs → ∀ (ls : Array Slot), lv_has ls 6 [(0, .ref h0), (1, .long p1), (3, .int p2), (4, .int v4_6)] → W p l e ({ frames := 1, cells := 0, slots := 0, locals := 22 }) s m args below meth c H locs 0 0 (MQ below (va_Qi (fun (r : Int32) (u : Int32 × (Nat → Int32)) => (r.toInt = zTR p1 p2.toInt f0.toInt ∧ u.1.toInt = zTL p1 p2.toInt f0.toInt) ∧ (0 ≤ u.1.toInt ∧ u.1.toInt ≤ 60) ∧ zTy p1 p2.toInt f0.toInt u.1.toInt Z0 u.2) (zPost g (fun u : Int32 × (Nat → Int32) => [(h0, .inr (3, [.ref h1, .int u.1])), (h1, .inl (zB g, 60, .inl u.2))]) A) A) args s 0 0 A) (F0 m 78 ls []) := by
                intro n7
                induction n7 with
                | zero => intro v4_6 g0_6 G1_6 hg0_6a hg0_6b hG1_6 n7_0 n7_1 n7_2 n7_3 n7_4 hm7; exfalso; omega
                | succ n7 ih7 =>
                  intro v4_6 g0_6 G1_6 hg0_6a hg0_6b hG1_6 n7_0 n7_1 n7_2 n7_3 n7_4 hm7 H locs hP hD hS ls hl
                  refine lv_iload hx hb dX3_append_78 (lv_at hl 3 rfl) ?_
                  refine lv_if_lt (tgt := 115) hx hb dX3_append_80 (by decide) (fun c_7 => ?_) (fun c_7 => ?_)
                  · have i_7 : v4_6.toInt < 0 := z_lt (rfl) (rfl) c_7
                    refine lv_aload_n hx hb dX3_append_115 rfl (lv_at hl 0 rfl) ?_
                    refine va_get (D := g.1) (ci := 3) (v := .int g0_6) (C := RX3) (T := TX3) (N := 2) hx hb hts zl_X3 hown hK hP 0 rfl rfl 1 (by decide) (hts _ m_f_RX3_15) (fun _ h => h) rfl dX3_append_116 ?_
                    have hzR : zTR p1 p2.toInt f0.toInt = g0_6.toInt := by unfold zTR; first | rw [if_pos (by omega)] | rw [if_neg (by omega), if_pos (by omega)] | (rw [if_neg (by omega), if_neg (by omega)]; omega)
                    have hzL : zTL p1 p2.toInt f0.toInt = g0_6.toInt := by unfold zTL; first | (rw [if_pos (by omega)]; omega) | rw [if_neg (by omega)]
                    have hP9 := hP.sub (ws' := [(h0, .inr (3, [.ref h1, .int g0_6])), (h1, .inl (zB g, 60, .inl G1_6))]) [0, 1] rfl
                    have hD9 := hD.sub (ws' := [(h0, .inr (3, [.ref h1, .int g0_6])), (h1, .inl (zB g, 60, .inl G1_6))]) [0, 1] (by decide) rfl
                    exact W.iret (v := g0_6) hx hb hr (fun t ht hW => ⟨⟨g0_6, ⟨g0_6, G1_6⟩, rfl, ⟨⟨(by first | omega | decide), (show g0_6.toInt = zTL p1 p2.toInt f0.toInt from by first | omega | decide)⟩, ⟨show 0 ≤ g0_6.toInt from by omega, show g0_6.toInt ≤ 60 from by omega⟩, hG1_6⟩, by rw [ht]; exact hP9, hD9⟩, hS.F ht⟩) hS.2.2 dX3_append_119
                  · have i_7 : 0 ≤ v4_6.toInt := z_nlt (rfl) (rfl) c_7
                    refine lv_aload_n hx hb dX3_append_83 rfl (lv_at hl 0 rfl) ?_
                    refine va_get (D := g.1) (ci := 3) (v := .ref h1) (C := RX3) (T := TX3) (N := 2) hx hb hts zl_X3 hown hK hP 0 rfl rfl 0 (by decide) (hts _ m_f_RX3_11) (fun _ h => h) rfl dX3_append_84 ?_
                    refine lv_aload_n hx hb dX3_append_87 rfl (lv_at hl 0 rfl) ?_
                    refine va_get (D := g.1) (ci := 3) (v := .int g0_6) (C := RX3) (T := TX3) (N := 2) hx hb hts zl_X3 hown hK hP 0 rfl rfl 1 (by decide) (hts _ m_f_RX3_15) (fun _ h => h) rfl dX3_append_88 ?_
                    refine lv_lload_n hx hb dX3_append_91 rfl (lv_at hl 1 rfl) ?_
                    refine lv_iload hx hb dX3_append_92 (lv_at hl 3 rfl) ?_
                    refine z_calli (wr := [(h0, .inr (3, [.ref h1, .int g0_6])), (h1, .inl (zB g, 60, .inl G1_6))]) hP hD hS hA [] [0, 1] (by decide) rfl rfl (by decide) (va_runS (As := [.long p1, .int v4_6]) (rest := [.int g0_6, .ref h1]) ⟨hx, hb, hml, hown, hts⟩ (gX3_byteOf l g  H.size p1 v4_6) ⟨callB_of 2 hts (zGood m_o_yX3_byteOf) rfl rfl rfl (hts _ m_z_RX3) (hts _ m_m_RX3_19) ⟨by decide +kernel, by decide +kernel, by decide +kernel⟩ ⟨Nat.le_of_ble_eq_true rfl, Nat.le_of_ble_eq_true rfl⟩, hts _ m_s_yX3_byteOf⟩ (zPreS hK hN hZ hP hD hS hA [] (by decide) rfl rfl) rfl rfl hl.1 rfl (lv_room (Nat.le_of_ble_eq_true rfl)) dX3_append_94 ⟨Nat.le_of_ble_eq_true rfl, Nat.le_of_ble_eq_true rfl⟩) (fun r u H locs hw hP hD hS => ?_)
                    obtain ⟨y2, rfl⟩ : ∃ z, z = r := ⟨_, rfl⟩
                    have q3_0 := hw
                    have q3_0 : y2.toInt = zb8 p1 v4_6 := q3_0
                    have hP : va_P g.1 vwCl [(h0, .inr (3, [.ref h1, .int g0_6])), (h1, .inl (zB g, 60, .inl G1_6))] H := hP
                    have hD : va_D A [(h0, .inr (3, [.ref h1, .int g0_6])), (h1, .inl (zB g, 60, .inl G1_6))] := hD
                    have hb1 := zOK_at hzn v4_6 (by omega) (by omega)
                    have hb2 : (vp_nar .byte y2.toInt8.toInt32).toInt = zbI p1 (f0.toInt + p2.toInt - 1 - g0_6.toInt) := by
                      rw [z_nar (by omega) (by omega), show f0.toInt + p2.toInt - 1 - g0_6.toInt = v4_6.toInt by omega, zbI_eq]
                      omega
                    refine lv_i2b (v := y2.toInt8.toInt32) hx hb dX3_append_97 rfl ?_
                    refine va_bast (D := g.1) hx hb hK hP hD hS 1 2 rfl rfl (vp_in_iff.mpr ⟨by omega, by omega⟩) dX3_append_98 (fun H locs hP hD hS => ?_)
                    have hP : va_P g.1 vwCl [(h0, .inr (3, [.ref h1, .int g0_6])), (h1, .inl (zB g, 60, .inl (upd G1_6 g0_6.toNatClampNeg (vp_nar .byte y2.toInt8.toInt32))))] H := hP
                    have hD : va_D A [(h0, .inr (3, [.ref h1, .int g0_6])), (h1, .inl (zB g, 60, .inl (upd G1_6 g0_6.toNatClampNeg (vp_nar .byte y2.toInt8.toInt32))))] := hD
                    have hI4 : zTy p1 p2.toInt f0.toInt (g0_6.toInt + 1) Z0 (upd G1_6 g0_6.toNatClampNeg (vp_nar .byte y2.toInt8.toInt32)) := zTy_put (i := g0_6) (l1 := g0_6.toInt) hG1_6 rfl (by omega) (by omega) hb2
                    obtain ⟨R5, eR5⟩ : ∃ z : Nat → Int32, z = (upd G1_6 g0_6.toNatClampNeg (vp_nar .byte y2.toInt8.toInt32)) := ⟨_, rfl⟩
                    rw [← eR5] at hP hD hI4
                    refine lv_aload_n hx hb dX3_append_99 rfl (lv_at hl 0 rfl) ?_
                    refine lv_dup hx hb dX3_append_100 rfl ?_
                    refine va_get (D := g.1) (ci := 3) (v := .int g0_6) (C := RX3) (T := TX3) (N := 2) hx hb hts zl_X3 hown hK hP 0 rfl rfl 1 (by decide) (hts _ m_f_RX3_15) (fun _ h => h) rfl dX3_append_101 ?_
                    refine lv_iconst (v := 1) hx hb dX3_append_104 (by decide) ?_
                    refine lv_iadd hx hb dX3_append_105 ?_
                    refine lv_topi (fun y6 ey6 => ?_)
                    have qy6_0 : y6.toInt = g0_6.toInt + 1 := zi_add ey6 (rfl) (rfl) (by omega) (by omega)
                    refine va_put (D := g.1) (ci := 3) (v := .int y6) (ty := .int) (C := RX3) (T := TX3) (N := 2) hx hb hts zl_X3 tyX3 tyX3_ok nmX3 hown hK hP hD hS 0 rfl rfl 1 (by decide) (hts _ m_f_RX3_15) (fun _ h => h) rfl (by decide +kernel) rfl rfl (Nat.le_of_ble_eq_true rfl) dX3_append_106 (fun H locs hP hD hS => ?_)
                    have hP : va_P g.1 vwCl [(h0, .inr (3, [.ref h1, .int y6])), (h1, .inl (zB g, 60, .inl R5))] H := hP
                    have hD : va_D A [(h0, .inr (3, [.ref h1, .int y6])), (h1, .inl (zB g, 60, .inl R5))] := hD
                    obtain ⟨y7, ey7⟩ : ∃ z : Int32, z = v4_6 + (-1) := ⟨_, rfl⟩
                    have qy7 : y7.toInt = v4_6.toInt + (-1) := zi_add ey7 (rfl) rfl (by omega) (by omega)
                    refine lv_iinc (v := y7) (lv' := [(4, .int y7), (0, .ref h0), (1, .long p1), (3, .int p2)]) hx hb dX3_append_109 hl (k := 3) rfl ey7.symm (by decide) rfl (fun ls hl => ?_)
                    refine lv_goto (tgt := 78) hx hb dX3_append_112 (by decide) ?_
                    exact ih7 y7 y6 R5 (by omega) (by omega) (zTy_eq hI4 (by omega)) (by omega) (by omega) (by omega) (by omega) (by omega) (by omega) _ _ hP hD hS ls (lv_sub hl [1, 2, 3, 0] rfl)
              exact loop78_6 ((y1.toInt + 1 : Int).toNat + 1) y1 f0 Z0 (by omega) (by omega) (zTy_eq hty0 (by omega)) (by omega) (by omega) (by omega) (by omega) (by omega) (by omega) _ _ hP hD hS ls (lv_sub hl [1, 2, 3, 0] rfl)
            · have i_5 : 60 < y0.toInt := z_nle (rfl) (rfl) c_5
              refine lv_bipush (v := (-3)) hx hb dX3_append_70 (by decide) ?_
              have hzR : zTR p1 p2.toInt f0.toInt = (-3) := by unfold zTR; first | rw [if_pos (by omega)] | rw [if_neg (by omega), if_pos (by omega)] | (rw [if_neg (by omega), if_neg (by omega)]; omega)
              have hzL : zTL p1 p2.toInt f0.toInt = f0.toInt := by unfold zTL; first | (rw [if_pos (by omega)]; omega) | rw [if_neg (by omega)]
              have : ((-3) : Int32).toInt = (-3) := rfl
              have hP9 := hP.sub (ws' := [(h0, .inr (3, [.ref h1, .int f0])), (h1, .inl (zB g, 60, .inl Z0))]) [0, 1] rfl
              have hD9 := hD.sub (ws' := [(h0, .inr (3, [.ref h1, .int f0])), (h1, .inl (zB g, 60, .inl Z0))]) [0, 1] (by decide) rfl
              exact W.iret (v := (-3)) hx hb hr (fun t ht hW => ⟨⟨(-3), ⟨f0, Z0⟩, rfl, ⟨⟨(by first | omega | decide), (show f0.toInt = zTL p1 p2.toInt f0.toInt from by first | omega | decide)⟩, ⟨show 0 ≤ f0.toInt from by omega, show f0.toInt ≤ 60 from by omega⟩, hty0⟩, by rw [ht]; exact hP9, hD9⟩, hS.F ht⟩) hS.2.2 dX3_append_72
          · have i_3 : v4_2.toInt < p2.toInt := z_nle (rfl) (rfl) c_3
            refine lv_lload_n hx hb dX3_append_22 rfl (lv_at hl 1 rfl) ?_
            refine lv_iload hx hb dX3_append_23 (lv_at hl 3 rfl) ?_
            refine z_calli (wr := [(h0, .inr (3, [.ref h1, .int f0])), (h1, .inl (zB g, 60, .inl Z0))]) hP hD hS hA [] [0, 1] (by decide) rfl rfl (by decide) (va_runS (As := [.long p1, .int v4_2]) (rest := []) ⟨hx, hb, hml, hown, hts⟩ (gX3_byteOf l g  H.size p1 v4_2) ⟨callB_of 2 hts (zGood m_o_yX3_byteOf) rfl rfl rfl (hts _ m_z_RX3) (hts _ m_m_RX3_19) ⟨by decide +kernel, by decide +kernel, by decide +kernel⟩ ⟨Nat.le_of_ble_eq_true rfl, Nat.le_of_ble_eq_true rfl⟩, hts _ m_s_yX3_byteOf⟩ (zPreS hK hN hZ hP hD hS hA [] (by decide) rfl rfl) rfl rfl hl.1 rfl (lv_room (Nat.le_of_ble_eq_true rfl)) dX3_append_25 ⟨Nat.le_of_ble_eq_true rfl, Nat.le_of_ble_eq_true rfl⟩) (fun r u H locs hw hP hD hS => ?_)
            obtain ⟨y8, rfl⟩ : ∃ z, z = r := ⟨_, rfl⟩
            have q9_0 := hw
            have q9_0 : y8.toInt = zb8 p1 v4_2 := q9_0
            have hP : va_P g.1 vwCl [(h0, .inr (3, [.ref h1, .int f0])), (h1, .inl (zB g, 60, .inl Z0))] H := hP
            have hD : va_D A [(h0, .inr (3, [.ref h1, .int f0])), (h1, .inl (zB g, 60, .inl Z0))] := hD
            refine lv_istore (lv' := [(5, .int y8), (0, .ref h0), (1, .long p1), (3, .int p2), (4, .int v4_2)]) hx hb dX3_append_28 hl (by decide) rfl (fun ls hl => ?_)
            refine lv_iload hx hb dX3_append_30 (lv_at hl 0 rfl) ?_
            refine lv_bipush (v := 32) hx hb dX3_append_32 (by decide) ?_
            refine lv_icmp_lt (tgt := 44) hx hb dX3_append_34 (by decide) (fun c_8 => ?_) (fun c_8 => ?_)
            · have i_8 : y8.toInt < 32 := z_lt (rfl) (rfl) c_8
              have hzb : zOK p1 p2.toInt = 0 := zOK_b v4_2 (by omega) (by omega) (by omega)
              refine lv_iconst (v := (-1)) hx hb dX3_append_44 (by decide) ?_
              have hzR : zTR p1 p2.toInt f0.toInt = (-1) := by unfold zTR; first | rw [if_pos (by omega)] | rw [if_neg (by omega), if_pos (by omega)] | (rw [if_neg (by omega), if_neg (by omega)]; omega)
              have hzL : zTL p1 p2.toInt f0.toInt = f0.toInt := by unfold zTL; first | (rw [if_pos (by omega)]; omega) | rw [if_neg (by omega)]
              have : ((-1) : Int32).toInt = (-1) := rfl
              have hP9 := hP.sub (ws' := [(h0, .inr (3, [.ref h1, .int f0])), (h1, .inl (zB g, 60, .inl Z0))]) [0, 1] rfl
              have hD9 := hD.sub (ws' := [(h0, .inr (3, [.ref h1, .int f0])), (h1, .inl (zB g, 60, .inl Z0))]) [0, 1] (by decide) rfl
              exact W.iret (v := (-1)) hx hb hr (fun t ht hW => ⟨⟨(-1), ⟨f0, Z0⟩, rfl, ⟨⟨(by first | omega | decide), (show f0.toInt = zTL p1 p2.toInt f0.toInt from by first | omega | decide)⟩, ⟨show 0 ≤ f0.toInt from by omega, show f0.toInt ≤ 60 from by omega⟩, hty0⟩, by rw [ht]; exact hP9, hD9⟩, hS.F ht⟩) hS.2.2 dX3_append_45
            · have i_8 : 32 ≤ y8.toInt := z_nlt (rfl) (rfl) c_8
              refine lv_iload hx hb dX3_append_37 (lv_at hl 0 rfl) ?_
              refine lv_bipush (v := 126) hx hb dX3_append_39 (by decide) ?_
              refine lv_icmp_le (tgt := 46) hx hb dX3_append_41 (by decide) (fun c_9 => ?_) (fun c_9 => ?_)
              · have i_9 : y8.toInt ≤ 126 := z_le (rfl) (rfl) c_9
                obtain ⟨y10, ey10⟩ : ∃ z : Int32, z = v4_2 + 1 := ⟨_, rfl⟩
                have qy10 : y10.toInt = v4_2.toInt + 1 := zi_add ey10 (rfl) rfl (by omega) (by omega)
                refine lv_iinc (v := y10) (lv' := [(4, .int y10), (5, .int y8), (0, .ref h0), (1, .long p1), (3, .int p2)]) hx hb dX3_append_46 hl (k := 4) rfl ey10.symm (by decide) rfl (fun ls hl => ?_)
                have hzs : zOK p1 y10.toInt = 1 := zOK_s (a := v4_2.toInt) (by assumption) v4_2 rfl (by omega) (by omega) (by omega)
                refine lv_goto (tgt := 16) hx hb dX3_append_49 (by decide) ?_
                exact ih3 y10 (by omega) (by omega) (by omega) (by omega) _ _ hP hD hS ls (lv_sub hl [2, 3, 4, 0] rfl)
              · have i_9 : 126 < y8.toInt := z_nle (rfl) (rfl) c_9
                have hzb : zOK p1 p2.toInt = 0 := zOK_b v4_2 (by omega) (by omega) (by omega)
                refine lv_iconst (v := (-1)) hx hb dX3_append_44 (by decide) ?_
                have hzR : zTR p1 p2.toInt f0.toInt = (-1) := by unfold zTR; first | rw [if_pos (by omega)] | rw [if_neg (by omega), if_pos (by omega)] | (rw [if_neg (by omega), if_neg (by omega)]; omega)
                have hzL : zTL p1 p2.toInt f0.toInt = f0.toInt := by unfold zTL; first | (rw [if_pos (by omega)]; omega) | rw [if_neg (by omega)]
                have : ((-1) : Int32).toInt = (-1) := rfl
                have hP9 := hP.sub (ws' := [(h0, .inr (3, [.ref h1, .int f0])), (h1, .inl (zB g, 60, .inl Z0))]) [0, 1] rfl
                have hD9 := hD.sub (ws' := [(h0, .inr (3, [.ref h1, .int f0])), (h1, .inl (zB g, 60, .inl Z0))]) [0, 1] (by decide) rfl
                exact W.iret (v := (-1)) hx hb hr (fun t ht hW => ⟨⟨(-1), ⟨f0, Z0⟩, rfl, ⟨⟨(by first | omega | decide), (show f0.toInt = zTL p1 p2.toInt f0.toInt from by first | omega | decide)⟩, ⟨show 0 ≤ f0.toInt from by omega, show f0.toInt ≤ 60 from by omega⟩, hty0⟩, by rw [ht]; exact hP9, hD9⟩, hS.F ht⟩) hS.2.2 dX3_append_45
      have : (0 : Int32).toInt = 0 := rfl
      exact loop16_2 ((p2.toInt - 0 : Int).toNat + 1) (0 : Int32) (by omega) (by omega) (by omega) (by omega) _ _ hP hD hS ls (lv_sub hl [1, 2, 3, 0] rfl)
    · have i_1 : 8 < p2.toInt := z_nle (rfl) (rfl) c_1
      refine lv_iconst (v := (-1)) hx hb dX3_append_11 (by decide) ?_
      have hzR : zTR p1 p2.toInt f0.toInt = (-1) := by unfold zTR; first | rw [if_pos (by omega)] | rw [if_neg (by omega), if_pos (by omega)] | (rw [if_neg (by omega), if_neg (by omega)]; omega)
      have hzL : zTL p1 p2.toInt f0.toInt = f0.toInt := by unfold zTL; first | (rw [if_pos (by omega)]; omega) | rw [if_neg (by omega)]
      have : ((-1) : Int32).toInt = (-1) := rfl
      have hP9 := hP.sub (ws' := [(h0, .inr (3, [.ref h1, .int f0])), (h1, .inl (zB g, 60, .inl Z0))]) [0, 1] rfl
      have hD9 := hD.sub (ws' := [(h0, .inr (3, [.ref h1, .int f0])), (h1, .inl (zB g, 60, .inl Z0))]) [0, 1] (by decide) rfl
      exact W.iret (v := (-1)) hx hb hr (fun t ht hW => ⟨⟨(-1), ⟨f0, Z0⟩, rfl, ⟨⟨(by first | omega | decide), (show f0.toInt = zTL p1 p2.toInt f0.toInt from by first | omega | decide)⟩, ⟨show 0 ≤ f0.toInt from by omega, show f0.toInt ≤ 60 from by omega⟩, hty0⟩, by rw [ht]; exact hP9, hD9⟩, hS.F ht⟩) hS.2.2 dX3_append_12
set_option maxHeartbeats 8000000 in
set_option maxRecDepth 100000 in
theorem gX4_type (l : Launch) (g : zG) (h0 h1 h2 h3 h4 h5 h6 h7 h8 h9 h10 h37 : Nat) (sz : Nat) (p1 : Int64) (p2 : Int32) (f0 : Int32) (f1 : Int32) (f10 : Int32) (Z31 : Nat → Int32) (hf_f10 : 0 ≤ f10.toInt ∧ f10.toInt ≤ 60) : Met l yX4_type (.code yX4_type cX4_type 4 (some .int) :: zBig) ({ frames := 2, cells := 0, slots := 0, locals := 47 }) (va_Pc [.ref h0, .long p1, .int p2] (zPre g [(h0, .inr (4, [.ref h1, .ref h2, .int f0, .ref h3, .ref h4, .ref h5, .ref h6, .int f1, .ref h7, .ref h8, .ref h9, .ref h10])), (h4, .inr (3, [.ref h37, .int f10])), (h37, .inl (zB g, 60, .inl Z31))] sz)) (va_Qi (fun (r : Int32) (u : Int32 × (Nat → Int32)) => (r.toInt = zTR p1 p2.toInt f10.toInt ∧ u.1.toInt = zTL p1 p2.toInt f10.toInt) ∧ (0 ≤ u.1.toInt ∧ u.1.toInt ≤ 60) ∧ zTy p1 p2.toInt f10.toInt u.1.toInt Z31 u.2) (zPost g (fun u : Int32 × (Nat → Int32) => [(h0, .inr (4, [.ref h1, .ref h2, .int f0, .ref h3, .ref h4, .ref h5, .ref h6, .int f1, .ref h7, .ref h8, .ref h9, .ref h10])), (h4, .inr (3, [.ref h37, .int u.1])), (h37, .inl (zB g, 60, .inl u.2))]) (va_A [(h0, .inr (4, [.ref h1, .ref h2, .int f0, .ref h3, .ref h4, .ref h5, .ref h6, .int f1, .ref h7, .ref h8, .ref h9, .ref h10])), (h4, .inr (3, [.ref h37, .int f10])), (h37, .inl (zB g, 60, .inl Z31))] sz)) (va_A [(h0, .inr (4, [.ref h1, .ref h2, .int f0, .ref h3, .ref h4, .ref h5, .ref h6, .int f1, .ref h7, .ref h8, .ref h9, .ref h10])), (h4, .inr (3, [.ref h37, .int f10])), (h37, .inl (zB g, 60, .inl Z31))] sz)) 0 0 (va_A [(h0, .inr (4, [.ref h1, .ref h2, .int f0, .ref h3, .ref h4, .ref h5, .ref h6, .int f1, .ref h7, .ref h8, .ref h9, .ref h10])), (h4, .inr (3, [.ref h37, .int f10])), (h37, .inl (zB g, 60, .inl Z31))] sz) := by
  refine zMetI rfl (Nat.le_of_ble_eq_true rfl) ?_
  intro p e s m args below meth c A ls hx hb hml hr hlocks hin hown hts hK hN hZ hP hD hA hS hAe hl
  have hown : s.vm.findClass RX4 = some m.cls := hown
  have hl : lv_has ls 4 [(0, .ref h0), (1, .long p1), (3, .int p2)] := hl
  refine lv_aload_n hx hb dX4_type_0 rfl (lv_at hl 0 rfl) ?_
  refine va_get (D := g.1) (ci := 4) (v := .ref h4) (C := RX4) (T := TX4) (N := 12) hx hb hts zl_X4 hown hK hP 0 rfl rfl 4 (by decide) (hts _ m_f_RX4_33) (fun _ h => h) rfl dX4_type_1 ?_
  refine lv_lload_n hx hb dX4_type_4 rfl (lv_at hl 1 rfl) ?_
  refine lv_iload_n hx hb dX4_type_5 rfl (lv_at hl 2 rfl) ?_
  refine z_calli (wr := [(h0, .inr (4, [.ref h1, .ref h2, .int f0, .ref h3, .ref h4, .ref h5, .ref h6, .int f1, .ref h7, .ref h8, .ref h9, .ref h10]))]) hP hD hS hA [1, 2] [0] (by decide) rfl rfl (by decide) (va_runVN (As := [.long p1, .int p2]) (rest := []) ⟨hx, hb, hml, hown, hts⟩ (gX3_append l g h4 h37 s.heap.size p1 p2 f10 Z31 (by constructor <;> omega)) ⟨va_cnB 2 hts (zGood m_o_yX3_append) rfl rfl rfl (hN.m 7 (q := (RX4, 99, yX3_append)) rfl) (hts _ m_z_RX3) ⟨by decide +kernel, by decide +kernel, by decide +kernel⟩ ⟨Nat.le_of_ble_eq_true rfl, Nat.le_of_ble_eq_true rfl⟩, hts _ m_i_yX3_append, hts _ m_e_yX3_append⟩ (zPreV hK hN hZ hP hD hS hA [1, 2] (by decide) rfl rfl 3 1 rfl rfl) rfl rfl hl.1 rfl (lv_room (Nat.le_of_ble_eq_true rfl)) dX4_type_6 ⟨Nat.le_of_ble_eq_true rfl, Nat.le_of_ble_eq_true rfl⟩) (fun r u H locs hw hP hD hS => ?_)
  obtain ⟨w0, R1⟩ := u
  obtain ⟨hw, hI2, hI3⟩ := hw
  obtain ⟨hI2a, hI2b⟩ := hI2
  obtain ⟨y4, rfl⟩ : ∃ z, z = r := ⟨_, rfl⟩
  obtain ⟨q5_0, q5_1⟩ := hw
  have q5_0 : y4.toInt = zTR p1 p2.toInt f10.toInt := q5_0
  have q5_1 : w0.toInt = zTL p1 p2.toInt f10.toInt := q5_1
  have hP : va_P g.1 vwCl [(h0, .inr (4, [.ref h1, .ref h2, .int f0, .ref h3, .ref h4, .ref h5, .ref h6, .int f1, .ref h7, .ref h8, .ref h9, .ref h10])), (h4, .inr (3, [.ref h37, .int w0])), (h37, .inl (zB g, 60, .inl R1))] H := hP
  have hD : va_D A [(h0, .inr (4, [.ref h1, .ref h2, .int f0, .ref h3, .ref h4, .ref h5, .ref h6, .int f1, .ref h7, .ref h8, .ref h9, .ref h10])), (h4, .inr (3, [.ref h37, .int w0])), (h37, .inl (zB g, 60, .inl R1))] := hD
  have hP9 := hP.sub (ws' := [(h0, .inr (4, [.ref h1, .ref h2, .int f0, .ref h3, .ref h4, .ref h5, .ref h6, .int f1, .ref h7, .ref h8, .ref h9, .ref h10])), (h4, .inr (3, [.ref h37, .int w0])), (h37, .inl (zB g, 60, .inl R1))]) [0, 1, 2] rfl
  have hD9 := hD.sub (ws' := [(h0, .inr (4, [.ref h1, .ref h2, .int f0, .ref h3, .ref h4, .ref h5, .ref h6, .int f1, .ref h7, .ref h8, .ref h9, .ref h10])), (h4, .inr (3, [.ref h37, .int w0])), (h37, .inl (zB g, 60, .inl R1))]) [0, 1, 2] (by decide) rfl
  exact W.iret (v := y4) hx hb hr (fun t ht hW => ⟨⟨y4, ⟨w0, R1⟩, rfl, ⟨⟨(by first | omega | decide), (show w0.toInt = zTL p1 p2.toInt f10.toInt from by first | omega | decide)⟩, ⟨show 0 ≤ w0.toInt from by omega, show w0.toInt ≤ 60 from by omega⟩, hI3⟩, by rw [ht]; exact hP9, hD9⟩, hS.F ht⟩) hS.2.2 dX4_type_9
set_option maxHeartbeats 8000000 in
set_option maxRecDepth 100000 in
theorem gJ7_fill_53178_n5 (l : Launch) (g : zG) (h0 : Nat) (sz : Nat) (p1 : Int32) (Z0 : Nat → Int32) : Met l yJ7_fill_53178 (.code yJ7_fill_53178 cJ7_fill_53178 4 none :: zBig) ({ frames := 0, cells := 0, slots := 0, locals := 0 }) (va_Pc [.ref h0, .int p1] (zPre g [(h0, .inl (zI g, 5, .inl Z0))] sz)) (va_Qv (fun u : (Nat → Int32) => (True) ∧ zFilK p1 5 u) (zPost g (fun u : (Nat → Int32) => [(h0, .inl (zI g, 5, .inl u))]) (va_A [(h0, .inl (zI g, 5, .inl Z0))] sz)) (va_A [(h0, .inl (zI g, 5, .inl Z0))] sz)) 0 0 (va_A [(h0, .inl (zI g, 5, .inl Z0))] sz) := by
  refine zMetV rfl (Nat.le_of_ble_eq_true rfl) ?_
  intro p e s m args below meth c A ls hx hb hml hr hlocks hin hown hts hK hN hZ hP hD hA hS hAe hl
  have hown : s.vm.findClass RJ7 = some m.cls := hown
  have hl : lv_has ls 4 [(0, .ref h0), (1, .int p1)] := hl
  refine lv_iconst (v := 0) hx hb dJ7_fill_53178_0 (by decide) ?_
  refine lv_istore_n (lv' := [(2, .int 0), (0, .ref h0), (1, .int p1)]) hx hb dJ7_fill_53178_1 rfl hl (by decide) rfl (fun ls hl => ?_)
  have hI0 : zFilK p1 0 Z0 := zFilK_0
  refine lv_aload_n hx hb dJ7_fill_53178_2 rfl (lv_at hl 1 rfl) ?_
  refine va_alen (D := g.1) hx hb hK hP 0 0 rfl rfl (v := 5) rfl dJ7_fill_53178_3 ?_
  refine lv_istore_n (lv' := [(3, .int 5), (2, .int 0), (0, .ref h0), (1, .int p1)]) hx hb dJ7_fill_53178_4 rfl hl (by decide) rfl (fun ls hl => ?_)
  have loop5_0 : ∀ (n1 : Nat) (v2_0 : Int32) (G0_0 : Nat → Int32) (hG0_0 : zFilK p1 (v2_0.toInt) G0_0) (n1_0 : 0 ≤ v2_0.toInt) (n1_1 : v2_0.toInt ≤ 5) (hm1 : 5 - v2_0.toInt < (n1 : Int)) (H : Heap) (locs : List Loc), va_P g.1 vwCl [(h0, .inl (zI g, 5, .inl G0_0))] H → va_D A [(h0, .inl (zI g, 5, .inl G0_0))] → va_S A s.heap H locs → ∀ (ls : Array Slot), lv_has ls 4 [(0, .ref h0), (1, .int p1), (2, .int v2_0), (3, .int 5)] → W p l e ({ frames := 0, cells := 0, slots := 0, locals := 0 }) s m args below meth c H locs 0 0 (MQ below (va_Qv (fun u : (Nat → Int32) => (True) ∧ zFilK p1 5 u) (zPost g (fun u : (Nat → Int32) => [(h0, .inl (zI g, 5, .inl u))]) A) A) args s 0 0 A) (F0 m 5 ls []) := by
    intro n1
    induction n1 with
    | zero => intro v2_0 G0_0 hG0_0 n1_0 n1_1 hm1; exfalso; omega
    | succ n1 ih1 =>
      intro v2_0 G0_0 hG0_0 n1_0 n1_1 hm1 H locs hP hD hS ls hl
      refine lv_iload_n hx hb dJ7_fill_53178_5 rfl (lv_at hl 2 rfl) ?_
      refine lv_iload_n hx hb dJ7_fill_53178_6 rfl (lv_at hl 3 rfl) ?_
      refine lv_icmp_ge (tgt := 20) hx hb dJ7_fill_53178_7 (by decide) (fun c_1 => ?_) (fun c_1 => ?_)
      · have i_1 : 5 ≤ v2_0.toInt := z_le (rfl) (rfl) c_1
        have hI1 : zFilK p1 5 G0_0 := zFilK_eq hG0_0 (by omega)
        have hP9 := hP.sub (ws' := [(h0, .inl (zI g, 5, .inl G0_0))]) [0] rfl
        have hD9 := hD.sub (ws' := [(h0, .inl (zI g, 5, .inl G0_0))]) [0] (by decide) rfl
        exact W.vret hx hb hr (fun t ht hW => ⟨⟨G0_0, rfl, ⟨trivial, hI1⟩, by rw [ht]; exact hP9, hD9⟩, hS.F ht⟩) hS.2.2 dJ7_fill_53178_20
      · have i_1 : v2_0.toInt < 5 := z_nle (rfl) (rfl) c_1
        refine lv_aload_n hx hb dJ7_fill_53178_10 rfl (lv_at hl 0 rfl) ?_
        refine lv_iload_n hx hb dJ7_fill_53178_11 rfl (lv_at hl 2 rfl) ?_
        refine lv_iload_n hx hb dJ7_fill_53178_12 rfl (lv_at hl 1 rfl) ?_
        refine va_iast (D := g.1) hx hb hK hP hD hS 0 0 rfl rfl (vp_in_iff.mpr ⟨by omega, by omega⟩) dJ7_fill_53178_13 (fun H locs hP hD hS => ?_)
        have hP : va_P g.1 vwCl [(h0, .inl (zI g, 5, .inl (upd G0_0 v2_0.toNatClampNeg p1)))] H := hP
        have hD : va_D A [(h0, .inl (zI g, 5, .inl (upd G0_0 v2_0.toNatClampNeg p1)))] := hD
        have hI2 : zFilK p1 (v2_0.toInt + 1) (upd G0_0 v2_0.toNatClampNeg p1) := zFilK_put (i := v2_0) hG0_0 (rfl)
        obtain ⟨R3, eR3⟩ : ∃ z : Nat → Int32, z = (upd G0_0 v2_0.toNatClampNeg p1) := ⟨_, rfl⟩
        rw [← eR3] at hP hD hI2
        obtain ⟨y4, ey4⟩ : ∃ z : Int32, z = v2_0 + 1 := ⟨_, rfl⟩
        have qy4 : y4.toInt = v2_0.toInt + 1 := zi_add ey4 (rfl) rfl (by omega) (by omega)
        refine lv_iinc (v := y4) (lv' := [(2, .int y4), (0, .ref h0), (1, .int p1), (3, .int 5)]) hx hb dJ7_fill_53178_14 hl (k := 2) rfl ey4.symm (by decide) rfl (fun ls hl => ?_)
        refine lv_goto (tgt := 5) hx hb dJ7_fill_53178_17 (by decide) ?_
        exact ih1 y4 R3 (zFilK_eq hI2 (by omega)) (by omega) (by omega) (by omega) _ _ hP hD hS ls (lv_sub hl [1, 2, 0, 3] rfl)
  have : (0 : Int32).toInt = 0 := rfl
  exact loop5_0 ((5 - 0 : Int).toNat + 1) (0 : Int32) Z0 (zFilK_eq hI0 (by omega)) (by omega) (by omega) (by omega) _ _ hP hD hS ls (lv_sub hl [2, 3, 1, 0] rfl)
set_option maxHeartbeats 8000000 in
set_option maxRecDepth 100000 in
theorem gX3_charAt (l : Launch) (g : zG) (h0 h1 : Nat) (sz : Nat) (p1 : Int32) (f0 : Int32) (Z0 : Nat → Int32) (hf_f0 : 0 ≤ f0.toInt ∧ f0.toInt ≤ 60) : Met l yX3_charAt (.code yX3_charAt cX3_charAt 2 (some .int) :: zBig) ({ frames := 0, cells := 0, slots := 0, locals := 0 }) (va_Pc [.ref h0, .int p1] (zPre g [(h0, .inr (3, [.ref h1, .int f0])), (h1, .inl (zB g, 60, .inl Z0))] sz)) (va_Qi (fun (r : Int32) (u : Nat) => (0 ≤ p1.toInt → p1.toInt < f0.toInt → r.toInt = zc Z0 p1.toInt) ∧ (p1.toInt < 0 ∨ f0.toInt ≤ p1.toInt → r.toInt = 0)) (zPost g (fun u : Nat => [(h0, .inr (3, [.ref h1, .int f0])), (h1, .inl (zB g, 60, .inl Z0))]) (va_A [(h0, .inr (3, [.ref h1, .int f0])), (h1, .inl (zB g, 60, .inl Z0))] sz)) (va_A [(h0, .inr (3, [.ref h1, .int f0])), (h1, .inl (zB g, 60, .inl Z0))] sz)) 0 0 (va_A [(h0, .inr (3, [.ref h1, .int f0])), (h1, .inl (zB g, 60, .inl Z0))] sz) := by
  refine zMetI rfl (Nat.le_of_ble_eq_true rfl) ?_
  intro p e s m args below meth c A ls hx hb hml hr hlocks hin hown hts hK hN hZ hP hD hA hS hAe hl
  have hown : s.vm.findClass RX3 = some m.cls := hown
  have hl : lv_has ls 2 [(0, .ref h0), (1, .int p1)] := hl
  refine lv_iload_n hx hb dX3_charAt_0 rfl (lv_at hl 1 rfl) ?_
  refine lv_if_lt (tgt := 27) hx hb dX3_charAt_1 (by decide) (fun c_0 => ?_) (fun c_0 => ?_)
  · have i_0 : p1.toInt < 0 := z_lt (rfl) (rfl) c_0
    refine lv_iconst (v := 0) hx hb dX3_charAt_27 (by decide) ?_
    have : (0 : Int32).toInt = 0 := rfl
    have hP9 := hP.sub (ws' := [(h0, .inr (3, [.ref h1, .int f0])), (h1, .inl (zB g, 60, .inl Z0))]) [0, 1] rfl
    have hD9 := hD.sub (ws' := [(h0, .inr (3, [.ref h1, .int f0])), (h1, .inl (zB g, 60, .inl Z0))]) [0, 1] (by decide) rfl
    exact W.iret (v := 0) hx hb hr (fun t ht hW => ⟨⟨0, (0 : Nat), rfl, ⟨(by first | omega | decide), (by first | omega | decide)⟩, by rw [ht]; exact hP9, hD9⟩, hS.F ht⟩) hS.2.2 dX3_charAt_28
  · have i_0 : 0 ≤ p1.toInt := z_nlt (rfl) (rfl) c_0
    refine lv_iload_n hx hb dX3_charAt_4 rfl (lv_at hl 1 rfl) ?_
    refine lv_aload_n hx hb dX3_charAt_5 rfl (lv_at hl 0 rfl) ?_
    refine va_get (D := g.1) (ci := 3) (v := .int f0) (C := RX3) (T := TX3) (N := 2) hx hb hts zl_X3 hown hK hP 0 rfl rfl 1 (by decide) (hts _ m_f_RX3_15) (fun _ h => h) rfl dX3_charAt_6 ?_
    refine lv_icmp_ge (tgt := 27) hx hb dX3_charAt_9 (by decide) (fun c_1 => ?_) (fun c_1 => ?_)
    · have i_1 : f0.toInt ≤ p1.toInt := z_le (rfl) (rfl) c_1
      refine lv_iconst (v := 0) hx hb dX3_charAt_27 (by decide) ?_
      have : (0 : Int32).toInt = 0 := rfl
      have hP9 := hP.sub (ws' := [(h0, .inr (3, [.ref h1, .int f0])), (h1, .inl (zB g, 60, .inl Z0))]) [0, 1] rfl
      have hD9 := hD.sub (ws' := [(h0, .inr (3, [.ref h1, .int f0])), (h1, .inl (zB g, 60, .inl Z0))]) [0, 1] (by decide) rfl
      exact W.iret (v := 0) hx hb hr (fun t ht hW => ⟨⟨0, (0 : Nat), rfl, ⟨(by first | omega | decide), (by first | omega | decide)⟩, by rw [ht]; exact hP9, hD9⟩, hS.F ht⟩) hS.2.2 dX3_charAt_28
    · have i_1 : p1.toInt < f0.toInt := z_nle (rfl) (rfl) c_1
      refine lv_iload_n hx hb dX3_charAt_12 rfl (lv_at hl 1 rfl) ?_
      refine lv_bipush (v := 60) hx hb dX3_charAt_13 (by decide) ?_
      refine lv_icmp_ge (tgt := 27) hx hb dX3_charAt_15 (by decide) (fun c_2 => absurd (show 60 ≤ p1.toInt from z_le (rfl) (rfl) c_2) (by omega)) (fun c_2 => ?_)
      have i_2 : p1.toInt < 60 := z_nle (rfl) (rfl) c_2
      refine lv_aload_n hx hb dX3_charAt_18 rfl (lv_at hl 0 rfl) ?_
      refine va_get (D := g.1) (ci := 3) (v := .ref h1) (C := RX3) (T := TX3) (N := 2) hx hb hts zl_X3 hown hK hP 0 rfl rfl 0 (by decide) (hts _ m_f_RX3_11) (fun _ h => h) rfl dX3_charAt_19 ?_
      refine lv_iload_n hx hb dX3_charAt_22 rfl (lv_at hl 1 rfl) ?_
      refine va_bald (D := g.1) hx hb hK hP 1 2 rfl rfl (vp_in_iff.mpr ⟨by omega, by omega⟩) dX3_charAt_23 ?_
      refine lv_topi (fun y0 ey0 => ?_)
      have qy0_0 : y0.toInt = (Z0 p1.toNatClampNeg).toInt := congrArg Int32.toInt ey0
      have py0_0 : y0.toInt = zc Z0 p1.toInt := congrArg Int32.toInt ey0
      refine lv_goto (tgt := 28) hx hb dX3_charAt_24 (by decide) ?_
      have hP9 := hP.sub (ws' := [(h0, .inr (3, [.ref h1, .int f0])), (h1, .inl (zB g, 60, .inl Z0))]) [0, 1] rfl
      have hD9 := hD.sub (ws' := [(h0, .inr (3, [.ref h1, .int f0])), (h1, .inl (zB g, 60, .inl Z0))]) [0, 1] (by decide) rfl
      exact W.iret (v := y0) hx hb hr (fun t ht hW => ⟨⟨y0, (0 : Nat), rfl, ⟨(by first | omega | decide), (by first | omega | decide)⟩, by rw [ht]; exact hP9, hD9⟩, hS.F ht⟩) hS.2.2 dX3_charAt_28
set_option maxHeartbeats 8000000 in
set_option maxRecDepth 100000 in
theorem gX3_behindBlanks (l : Launch) (g : zG) (h0 h1 : Nat) (sz : Nat) (p1 : Int32) (f0 : Int32) (Z0 : Nat → Int32) (hf_f0 : 0 ≤ f0.toInt ∧ f0.toInt ≤ 60) : Met l yX3_behindBlanks (.code yX3_behindBlanks cX3_behindBlanks 3 (some .int) :: zBig) ({ frames := 1, cells := 0, slots := 0, locals := 21 }) (va_Pc [.ref h0, .int p1] (zPre g [(h0, .inr (3, [.ref h1, .int f0])), (h1, .inl (zB g, 60, .inl Z0))] sz)) (va_Qi (fun (r : Int32) (u : Nat) => (0 ≤ p1.toInt → r.toInt = zsk Z0 f0.toInt p1.toInt)) (zPost g (fun u : Nat => [(h0, .inr (3, [.ref h1, .int f0])), (h1, .inl (zB g, 60, .inl Z0))]) (va_A [(h0, .inr (3, [.ref h1, .int f0])), (h1, .inl (zB g, 60, .inl Z0))] sz)) (va_A [(h0, .inr (3, [.ref h1, .int f0])), (h1, .inl (zB g, 60, .inl Z0))] sz)) 0 0 (va_A [(h0, .inr (3, [.ref h1, .int f0])), (h1, .inl (zB g, 60, .inl Z0))] sz) := by
  refine zMetI rfl (Nat.le_of_ble_eq_true rfl) ?_
  intro p e s m args below meth c A ls hx hb hml hr hlocks hin hown hts hK hN hZ hP hD hA hS hAe hl
  have hown : s.vm.findClass RX3 = some m.cls := hown
  have hl : lv_has ls 3 [(0, .ref h0), (1, .int p1)] := hl
  refine lv_iload_n hx hb dX3_behindBlanks_0 rfl (lv_at hl 1 rfl) ?_
  refine lv_istore_n (lv' := [(2, .int p1), (0, .ref h0), (1, .int p1)]) hx hb dX3_behindBlanks_1 rfl hl (by decide) rfl (fun ls hl => ?_)
  have loop2_0 : ∀ (n1 : Nat) (v2_0 : Int32) (n1_0 : (0 ≤ p1.toInt → p1.toInt ≤ v2_0.toInt)) (n1_1 : (0 ≤ p1.toInt → zsk Z0 f0.toInt v2_0.toInt = zsk Z0 f0.toInt p1.toInt)) (hm1 : ((f0.toInt - v2_0.toInt).toNat : Int) < (n1 : Int)) (H : Heap) (locs : List Loc), va_P g.1 vwCl [(h0, .inr (3, [.ref h1, .int f0])), (h1, .inl (zB g, 60, .inl Z0))] H → va_D A [(h0, .inr (3, [.ref h1, .int f0])), (h1, .inl (zB g, 60, .inl Z0))] → va_S A s.heap H locs → ∀ (ls : Array Slot), lv_has ls 3 [(0, .ref h0), (1, .int p1), (2, .int v2_0)] → W p l e ({ frames := 1, cells := 0, slots := 0, locals := 21 }) s m args below meth c H locs 0 0 (MQ below (va_Qi (fun (r : Int32) (u : Nat) => (0 ≤ p1.toInt → r.toInt = zsk Z0 f0.toInt p1.toInt)) (zPost g (fun u : Nat => [(h0, .inr (3, [.ref h1, .int f0])), (h1, .inl (zB g, 60, .inl Z0))]) A) A) args s 0 0 A) (F0 m 2 ls []) := by
    intro n1
    induction n1 with
    | zero => intro v2_0 n1_0 n1_1 hm1; exfalso; omega
    | succ n1 ih1 =>
      intro v2_0 n1_0 n1_1 hm1 H locs hP hD hS ls hl
      refine lv_iload_n hx hb dX3_behindBlanks_2 rfl (lv_at hl 2 rfl) ?_
      refine lv_aload_n hx hb dX3_behindBlanks_3 rfl (lv_at hl 0 rfl) ?_
      refine va_get (D := g.1) (ci := 3) (v := .int f0) (C := RX3) (T := TX3) (N := 2) hx hb hts zl_X3 hown hK hP 0 rfl rfl 1 (by decide) (hts _ m_f_RX3_15) (fun _ h => h) rfl dX3_behindBlanks_4 ?_
      refine lv_icmp_ge (tgt := 26) hx hb dX3_behindBlanks_7 (by decide) (fun c_1 => ?_) (fun c_1 => ?_)
      · have i_1 : f0.toInt ≤ v2_0.toInt := z_le (rfl) (rfl) c_1
        have hze : 0 ≤ p1.toInt → v2_0.toInt = zsk Z0 f0.toInt p1.toInt := fun h0 => by
          rw [← (by assumption : 0 ≤ p1.toInt → zsk Z0 f0.toInt v2_0.toInt = zsk Z0 f0.toInt p1.toInt) h0]
          first | exact (zsk_end (by omega)).symm | exact (zsk_stop (by omega) (by omega)).symm
        refine lv_iload_n hx hb dX3_behindBlanks_26 rfl (lv_at hl 2 rfl) ?_
        have hP9 := hP.sub (ws' := [(h0, .inr (3, [.ref h1, .int f0])), (h1, .inl (zB g, 60, .inl Z0))]) [0, 1] rfl
        have hD9 := hD.sub (ws' := [(h0, .inr (3, [.ref h1, .int f0])), (h1, .inl (zB g, 60, .inl Z0))]) [0, 1] (by decide) rfl
        exact W.iret (v := v2_0) hx hb hr (fun t ht hW => ⟨⟨v2_0, (0 : Nat), rfl, (by first | omega | decide), by rw [ht]; exact hP9, hD9⟩, hS.F ht⟩) hS.2.2 dX3_behindBlanks_27
      · have i_1 : v2_0.toInt < f0.toInt := z_nle (rfl) (rfl) c_1
        refine lv_aload_n hx hb dX3_behindBlanks_10 rfl (lv_at hl 0 rfl) ?_
        refine lv_iload_n hx hb dX3_behindBlanks_11 rfl (lv_at hl 2 rfl) ?_
        refine z_calli (wr := []) hP hD hS hA [0, 1] [] (by decide) rfl rfl (by decide) (va_runV (As := [.int v2_0]) (rest := []) ⟨hx, hb, hml, hown, hts⟩ (gX3_charAt l g h0 h1 H.size v2_0 f0 Z0 (by constructor <;> omega)) ⟨callB_of 1 hts (zGood m_o_yX3_charAt) rfl rfl rfl (hts _ m_z_RX3) (hts _ m_m_RX3_49) ⟨by decide +kernel, by decide +kernel, by decide +kernel⟩ ⟨Nat.le_of_ble_eq_true rfl, Nat.le_of_ble_eq_true rfl⟩, hts _ m_i_yX3_charAt, hts _ m_e_yX3_charAt⟩ (zPreV hK hN hZ hP hD hS hA [0, 1] (by decide) rfl rfl 3 0 rfl rfl) rfl rfl hl.1 rfl (lv_room (Nat.le_of_ble_eq_true rfl)) dX3_behindBlanks_12 ⟨Nat.le_of_ble_eq_true rfl, Nat.le_of_ble_eq_true rfl⟩) (fun r u H locs hw hP hD hS => ?_)
        obtain ⟨y0, rfl⟩ : ∃ z, z = r := ⟨_, rfl⟩
        obtain ⟨q1_0, q1_1⟩ := hw
        have q1_0 : (0 ≤ v2_0.toInt → v2_0.toInt < f0.toInt → y0.toInt = zc Z0 v2_0.toInt) := q1_0
        have q1_1 : (v2_0.toInt < 0 ∨ f0.toInt ≤ v2_0.toInt → y0.toInt = 0) := q1_1
        have hP : va_P g.1 vwCl [(h0, .inr (3, [.ref h1, .int f0])), (h1, .inl (zB g, 60, .inl Z0))] H := hP
        have hD : va_D A [(h0, .inr (3, [.ref h1, .int f0])), (h1, .inl (zB g, 60, .inl Z0))] := hD
        refine lv_bipush (v := 32) hx hb dX3_behindBlanks_15 (by decide) ?_
        refine lv_icmp_ne (tgt := 26) hx hb dX3_behindBlanks_17 (by decide) (fun c_2 => ?_) (fun c_2 => ?_)
        · have i_2 : y0.toInt ≠ 32 := z_ne (rfl) (rfl) c_2
          have hze : 0 ≤ p1.toInt → v2_0.toInt = zsk Z0 f0.toInt p1.toInt := fun h0 => by
            rw [← (by assumption : 0 ≤ p1.toInt → zsk Z0 f0.toInt v2_0.toInt = zsk Z0 f0.toInt p1.toInt) h0]
            first | exact (zsk_end (by omega)).symm | exact (zsk_stop (by omega) (by omega)).symm
          refine lv_iload_n hx hb dX3_behindBlanks_26 rfl (lv_at hl 2 rfl) ?_
          have hP9 := hP.sub (ws' := [(h0, .inr (3, [.ref h1, .int f0])), (h1, .inl (zB g, 60, .inl Z0))]) [0, 1] rfl
          have hD9 := hD.sub (ws' := [(h0, .inr (3, [.ref h1, .int f0])), (h1, .inl (zB g, 60, .inl Z0))]) [0, 1] (by decide) rfl
          exact W.iret (v := v2_0) hx hb hr (fun t ht hW => ⟨⟨v2_0, (0 : Nat), rfl, (by first | omega | decide), by rw [ht]; exact hP9, hD9⟩, hS.F ht⟩) hS.2.2 dX3_behindBlanks_27
        · have i_2 : y0.toInt = 32 := z_eq (rfl) (rfl) c_2
          obtain ⟨y2, ey2⟩ : ∃ z : Int32, z = v2_0 + 1 := ⟨_, rfl⟩
          have := z_rng v2_0
          have := z_rng f0
          have qy2 : y2.toInt = v2_0.toInt + 1 := zi_add ey2 (rfl) rfl (by omega) (by omega)
          refine lv_iinc (v := y2) (lv' := [(2, .int y2), (0, .ref h0), (1, .int p1)]) hx hb dX3_behindBlanks_20 hl (k := 2) rfl ey2.symm (by decide) rfl (fun ls hl => ?_)
          have hzk : 0 ≤ p1.toInt → zsk Z0 f0.toInt y2.toInt = zsk Z0 f0.toInt p1.toInt := fun h0 => by
            have h3 := zsk_blank (F := Z0) (len := f0.toInt) (a := v2_0.toInt) (by omega) (by omega)
            have h4 : y2.toInt = v2_0.toInt + 1 := by omega
            rw [h4, ← h3]
            exact (by assumption : 0 ≤ p1.toInt → zsk Z0 f0.toInt v2_0.toInt = zsk Z0 f0.toInt p1.toInt) h0
          refine lv_goto (tgt := 2) hx hb dX3_behindBlanks_23 (by decide) ?_
          exact ih1 y2 (by omega) (by omega) (by omega) _ _ hP hD hS ls (lv_sub hl [1, 2, 0] rfl)
  exact loop2_0 ((((f0.toInt - p1.toInt).toNat : Int) : Int).toNat + 1) p1 (by omega) (by omega) (by omega) _ _ hP hD hS ls (lv_sub hl [1, 2, 0] rfl)
set_option maxHeartbeats 8000000 in
set_option maxRecDepth 100000 in
theorem gX3_ruleAt (l : Launch) (g : zG) (h0 h1 : Nat) (sz : Nat) (p1 : Int32) (f0 : Int32) (Z0 : Nat → Int32) (hf_f0 : 0 ≤ f0.toInt ∧ f0.toInt ≤ 60) : Met l yX3_ruleAt (.code yX3_ruleAt cX3_ruleAt 2 (some .int) :: zBig) ({ frames := 1, cells := 0, slots := 0, locals := 21 }) (va_Pc [.ref h0, .int p1] (zPre g [(h0, .inr (3, [.ref h1, .int f0])), (h1, .inl (zB g, 60, .inl Z0))] sz)) (va_Qi (fun (r : Int32) (u : Nat) => (0 ≤ p1.toInt → r.toInt = zr Z0 f0.toInt p1.toInt) ∧ -1 ≤ r.toInt ∧ r.toInt ≤ 4) (zPost g (fun u : Nat => [(h0, .inr (3, [.ref h1, .int f0])), (h1, .inl (zB g, 60, .inl Z0))]) (va_A [(h0, .inr (3, [.ref h1, .int f0])), (h1, .inl (zB g, 60, .inl Z0))] sz)) (va_A [(h0, .inr (3, [.ref h1, .int f0])), (h1, .inl (zB g, 60, .inl Z0))] sz)) 0 0 (va_A [(h0, .inr (3, [.ref h1, .int f0])), (h1, .inl (zB g, 60, .inl Z0))] sz) := by
  refine zMetI rfl (Nat.le_of_ble_eq_true rfl) ?_
  intro p e s m args below meth c A ls hx hb hml hr hlocks hin hown hts hK hN hZ hP hD hA hS hAe hl
  have hown : s.vm.findClass RX3 = some m.cls := hown
  have hl : lv_has ls 2 [(0, .ref h0), (1, .int p1)] := hl
  refine lv_aload_n hx hb dX3_ruleAt_0 rfl (lv_at hl 0 rfl) ?_
  refine lv_iload_n hx hb dX3_ruleAt_1 rfl (lv_at hl 1 rfl) ?_
  refine z_calli (wr := []) hP hD hS hA [0, 1] [] (by decide) rfl rfl (by decide) (va_runV (As := [.int p1]) (rest := []) ⟨hx, hb, hml, hown, hts⟩ (gX3_charAt l g h0 h1 s.heap.size p1 f0 Z0 (by constructor <;> omega)) ⟨callB_of 1 hts (zGood m_o_yX3_charAt) rfl rfl rfl (hts _ m_z_RX3) (hts _ m_m_RX3_49) ⟨by decide +kernel, by decide +kernel, by decide +kernel⟩ ⟨Nat.le_of_ble_eq_true rfl, Nat.le_of_ble_eq_true rfl⟩, hts _ m_i_yX3_charAt, hts _ m_e_yX3_charAt⟩ (zPreV hK hN hZ hP hD hS hA [0, 1] (by decide) rfl rfl 3 0 rfl rfl) rfl rfl hl.1 rfl (lv_room (Nat.le_of_ble_eq_true rfl)) dX3_ruleAt_2 ⟨Nat.le_of_ble_eq_true rfl, Nat.le_of_ble_eq_true rfl⟩) (fun r u H locs hw hP hD hS => ?_)
  obtain ⟨y0, rfl⟩ : ∃ z, z = r := ⟨_, rfl⟩
  obtain ⟨q1_0, q1_1⟩ := hw
  have q1_0 : (0 ≤ p1.toInt → p1.toInt < f0.toInt → y0.toInt = zc Z0 p1.toInt) := q1_0
  have q1_1 : (p1.toInt < 0 ∨ f0.toInt ≤ p1.toInt → y0.toInt = 0) := q1_1
  have hP : va_P g.1 vwCl [(h0, .inr (3, [.ref h1, .int f0])), (h1, .inl (zB g, 60, .inl Z0))] H := hP
  have hD : va_D A [(h0, .inr (3, [.ref h1, .int f0])), (h1, .inl (zB g, 60, .inl Z0))] := hD
  by_cases j_0 : y0 = 98
  · refine lv_lookup (x := y0) (off := 57) (tgt := 62) hx hb dX3_ruleAt_5 (by decide) (by rw [j_0]; decide) (by decide) ?_
    refine lv_iconst (v := 3) hx hb dX3_ruleAt_62 (by decide) ?_
    have hzr : 0 ≤ p1.toInt → zr Z0 f0.toInt p1.toInt = 3 := fun h0 => by
      have hc : (if p1.toInt < f0.toInt then zc Z0 p1.toInt else 0) = y0.toInt := by split <;> omega
      unfold zr
      rw [hc]
      rw [j_0]
      decide
    have : (3 : Int32).toInt = 3 := rfl
    have : (3 : Int32).toInt = 3 := rfl
    have hP9 := hP.sub (ws' := [(h0, .inr (3, [.ref h1, .int f0])), (h1, .inl (zB g, 60, .inl Z0))]) [0, 1] rfl
    have hD9 := hD.sub (ws' := [(h0, .inr (3, [.ref h1, .int f0])), (h1, .inl (zB g, 60, .inl Z0))]) [0, 1] (by decide) rfl
    exact W.iret (v := 3) hx hb hr (fun t ht hW => ⟨⟨3, (0 : Nat), rfl, ⟨(by first | omega | decide), (by first | omega | decide), (by first | omega | decide)⟩, by rw [ht]; exact hP9, hD9⟩, hS.F ht⟩) hS.2.2 dX3_ruleAt_63
  by_cases j_1 : y0 = 99
  · refine lv_lookup (x := y0) (off := 59) (tgt := 64) hx hb dX3_ruleAt_5 (by decide) (by rw [j_1]; decide) (by decide) ?_
    refine lv_iconst (v := 4) hx hb dX3_ruleAt_64 (by decide) ?_
    have hzr : 0 ≤ p1.toInt → zr Z0 f0.toInt p1.toInt = 4 := fun h0 => by
      have hc : (if p1.toInt < f0.toInt then zc Z0 p1.toInt else 0) = y0.toInt := by split <;> omega
      unfold zr
      rw [hc]
      rw [j_1]
      decide
    have : (4 : Int32).toInt = 4 := rfl
    have : (4 : Int32).toInt = 4 := rfl
    have hP9 := hP.sub (ws' := [(h0, .inr (3, [.ref h1, .int f0])), (h1, .inl (zB g, 60, .inl Z0))]) [0, 1] rfl
    have hD9 := hD.sub (ws' := [(h0, .inr (3, [.ref h1, .int f0])), (h1, .inl (zB g, 60, .inl Z0))]) [0, 1] (by decide) rfl
    exact W.iret (v := 4) hx hb hr (fun t ht hW => ⟨⟨4, (0 : Nat), rfl, ⟨(by first | omega | decide), (by first | omega | decide), (by first | omega | decide)⟩, by rw [ht]; exact hP9, hD9⟩, hS.F ht⟩) hS.2.2 dX3_ruleAt_65
  by_cases j_2 : y0 = 100
  · refine lv_lookup (x := y0) (off := 53) (tgt := 58) hx hb dX3_ruleAt_5 (by decide) (by rw [j_2]; decide) (by decide) ?_
    refine lv_iconst (v := 1) hx hb dX3_ruleAt_58 (by decide) ?_
    have hzr : 0 ≤ p1.toInt → zr Z0 f0.toInt p1.toInt = 1 := fun h0 => by
      have hc : (if p1.toInt < f0.toInt then zc Z0 p1.toInt else 0) = y0.toInt := by split <;> omega
      unfold zr
      rw [hc]
      rw [j_2]
      decide
    have : (1 : Int32).toInt = 1 := rfl
    have : (1 : Int32).toInt = 1 := rfl
    have hP9 := hP.sub (ws' := [(h0, .inr (3, [.ref h1, .int f0])), (h1, .inl (zB g, 60, .inl Z0))]) [0, 1] rfl
    have hD9 := hD.sub (ws' := [(h0, .inr (3, [.ref h1, .int f0])), (h1, .inl (zB g, 60, .inl Z0))]) [0, 1] (by decide) rfl
    exact W.iret (v := 1) hx hb hr (fun t ht hW => ⟨⟨1, (0 : Nat), rfl, ⟨(by first | omega | decide), (by first | omega | decide), (by first | omega | decide)⟩, by rw [ht]; exact hP9, hD9⟩, hS.F ht⟩) hS.2.2 dX3_ruleAt_59
  by_cases j_3 : y0 = 102
  · refine lv_lookup (x := y0) (off := 55) (tgt := 60) hx hb dX3_ruleAt_5 (by decide) (by rw [j_3]; decide) (by decide) ?_
    refine lv_iconst (v := 2) hx hb dX3_ruleAt_60 (by decide) ?_
    have hzr : 0 ≤ p1.toInt → zr Z0 f0.toInt p1.toInt = 2 := fun h0 => by
      have hc : (if p1.toInt < f0.toInt then zc Z0 p1.toInt else 0) = y0.toInt := by split <;> omega
      unfold zr
      rw [hc]
      rw [j_3]
      decide
    have : (2 : Int32).toInt = 2 := rfl
    have : (2 : Int32).toInt = 2 := rfl
    have hP9 := hP.sub (ws' := [(h0, .inr (3, [.ref h1, .int f0])), (h1, .inl (zB g, 60, .inl Z0))]) [0, 1] rfl
    have hD9 := hD.sub (ws' := [(h0, .inr (3, [.ref h1, .int f0])), (h1, .inl (zB g, 60, .inl Z0))]) [0, 1] (by decide) rfl
    exact W.iret (v := 2) hx hb hr (fun t ht hW => ⟨⟨2, (0 : Nat), rfl, ⟨(by first | omega | decide), (by first | omega | decide), (by first | omega | decide)⟩, by rw [ht]; exact hP9, hD9⟩, hS.F ht⟩) hS.2.2 dX3_ruleAt_61
  by_cases j_4 : y0 = 115
  · refine lv_lookup (x := y0) (off := 51) (tgt := 56) hx hb dX3_ruleAt_5 (by decide) (by rw [j_4]; decide) (by decide) ?_
    refine lv_iconst (v := 0) hx hb dX3_ruleAt_56 (by decide) ?_
    have hzr : 0 ≤ p1.toInt → zr Z0 f0.toInt p1.toInt = 0 := fun h0 => by
      have hc : (if p1.toInt < f0.toInt then zc Z0 p1.toInt else 0) = y0.toInt := by split <;> omega
      unfold zr
      rw [hc]
      rw [j_4]
      decide
    have : (0 : Int32).toInt = 0 := rfl
    have : (0 : Int32).toInt = 0 := rfl
    have hP9 := hP.sub (ws' := [(h0, .inr (3, [.ref h1, .int f0])), (h1, .inl (zB g, 60, .inl Z0))]) [0, 1] rfl
    have hD9 := hD.sub (ws' := [(h0, .inr (3, [.ref h1, .int f0])), (h1, .inl (zB g, 60, .inl Z0))]) [0, 1] (by decide) rfl
    exact W.iret (v := 0) hx hb hr (fun t ht hW => ⟨⟨0, (0 : Nat), rfl, ⟨(by first | omega | decide), (by first | omega | decide), (by first | omega | decide)⟩, by rw [ht]; exact hP9, hD9⟩, hS.F ht⟩) hS.2.2 dX3_ruleAt_57
  refine lv_lookup (x := y0) (off := 61) (tgt := 66) hx hb dX3_ruleAt_5 (by decide) (by rw [lv_osw j_0 (by decide), lv_osw j_1 (by decide), lv_osw j_2 (by decide), lv_osw j_3 (by decide), lv_osw j_4 (by decide)]; rfl) (by decide) ?_
  refine lv_iconst (v := (-1)) hx hb dX3_ruleAt_66 (by decide) ?_
  have hzr : 0 ≤ p1.toInt → zr Z0 f0.toInt p1.toInt = (-1) := fun h0 => by
    have hc : (if p1.toInt < f0.toInt then zc Z0 p1.toInt else 0) = y0.toInt := by split <;> omega
    unfold zr
    rw [hc]
    have n98 : y0.toInt ≠ 98 := fun h => j_0 (Int32.toInt_inj.mp (h.trans rfl))
    have n99 : y0.toInt ≠ 99 := fun h => j_1 (Int32.toInt_inj.mp (h.trans rfl))
    have n100 : y0.toInt ≠ 100 := fun h => j_2 (Int32.toInt_inj.mp (h.trans rfl))
    have n102 : y0.toInt ≠ 102 := fun h => j_3 (Int32.toInt_inj.mp (h.trans rfl))
    have n115 : y0.toInt ≠ 115 := fun h => j_4 (Int32.toInt_inj.mp (h.trans rfl))
    unfold zrl
    rw [if_neg n115, if_neg n100, if_neg n102, if_neg n98, if_neg n99]
  have : ((-1) : Int32).toInt = (-1) := rfl
  have : ((-1) : Int32).toInt = (-1) := rfl
  have hP9 := hP.sub (ws' := [(h0, .inr (3, [.ref h1, .int f0])), (h1, .inl (zB g, 60, .inl Z0))]) [0, 1] rfl
  have hD9 := hD.sub (ws' := [(h0, .inr (3, [.ref h1, .int f0])), (h1, .inl (zB g, 60, .inl Z0))]) [0, 1] (by decide) rfl
  exact W.iret (v := (-1)) hx hb hr (fun t ht hW => ⟨⟨(-1), (0 : Nat), rfl, ⟨(by first | omega | decide), (by first | omega | decide), (by first | omega | decide)⟩, by rw [ht]; exact hP9, hD9⟩, hS.F ht⟩) hS.2.2 dX3_ruleAt_67
set_option maxHeartbeats 8000000 in
set_option maxRecDepth 100000 in
theorem gX3_behindDigits (l : Launch) (g : zG) (h0 h1 : Nat) (sz : Nat) (p1 : Int32) (f0 : Int32) (Z0 : Nat → Int32) (hf_f0 : 0 ≤ f0.toInt ∧ f0.toInt ≤ 60) : Met l yX3_behindDigits (.code yX3_behindDigits cX3_behindDigits 3 (some .int) :: zBig) ({ frames := 1, cells := 0, slots := 0, locals := 21 }) (va_Pc [.ref h0, .int p1] (zPre g [(h0, .inr (3, [.ref h1, .int f0])), (h1, .inl (zB g, 60, .inl Z0))] sz)) (va_Qi (fun (r : Int32) (u : Nat) => (0 ≤ p1.toInt → r.toInt = zdg Z0 f0.toInt p1.toInt)) (zPost g (fun u : Nat => [(h0, .inr (3, [.ref h1, .int f0])), (h1, .inl (zB g, 60, .inl Z0))]) (va_A [(h0, .inr (3, [.ref h1, .int f0])), (h1, .inl (zB g, 60, .inl Z0))] sz)) (va_A [(h0, .inr (3, [.ref h1, .int f0])), (h1, .inl (zB g, 60, .inl Z0))] sz)) 0 0 (va_A [(h0, .inr (3, [.ref h1, .int f0])), (h1, .inl (zB g, 60, .inl Z0))] sz) := by
  refine zMetI rfl (Nat.le_of_ble_eq_true rfl) ?_
  intro p e s m args below meth c A ls hx hb hml hr hlocks hin hown hts hK hN hZ hP hD hA hS hAe hl
  have hown : s.vm.findClass RX3 = some m.cls := hown
  have hl : lv_has ls 3 [(0, .ref h0), (1, .int p1)] := hl
  refine lv_iload_n hx hb dX3_behindDigits_0 rfl (lv_at hl 1 rfl) ?_
  refine lv_istore_n (lv' := [(2, .int p1), (0, .ref h0), (1, .int p1)]) hx hb dX3_behindDigits_1 rfl hl (by decide) rfl (fun ls hl => ?_)
  have loop2_0 : ∀ (n1 : Nat) (v2_0 : Int32) (n1_0 : (0 ≤ p1.toInt → p1.toInt ≤ v2_0.toInt)) (n1_1 : (0 ≤ p1.toInt → zdg Z0 f0.toInt v2_0.toInt = zdg Z0 f0.toInt p1.toInt)) (hm1 : ((f0.toInt - v2_0.toInt).toNat : Int) < (n1 : Int)) (H : Heap) (locs : List Loc), va_P g.1 vwCl [(h0, .inr (3, [.ref h1, .int f0])), (h1, .inl (zB g, 60, .inl Z0))] H → va_D A [(h0, .inr (3, [.ref h1, .int f0])), (h1, .inl (zB g, 60, .inl Z0))] → va_S A s.heap H locs → ∀ (ls : Array Slot), lv_has ls 3 [(0, .ref h0), (1, .int p1), (2, .int v2_0)] → W p l e ({ frames := 1, cells := 0, slots := 0, locals := 21 }) s m args below meth c H locs 0 0 (MQ below (va_Qi (fun (r : Int32) (u : Nat) => (0 ≤ p1.toInt → r.toInt = zdg Z0 f0.toInt p1.toInt)) (zPost g (fun u : Nat => [(h0, .inr (3, [.ref h1, .int f0])), (h1, .inl (zB g, 60, .inl Z0))]) A) A) args s 0 0 A) (F0 m 2 ls []) := by
    intro n1
    induction n1 with
    | zero => intro v2_0 n1_0 n1_1 hm1; exfalso; omega
    | succ n1 ih1 =>
      intro v2_0 n1_0 n1_1 hm1 H locs hP hD hS ls hl
      refine lv_iload_n hx hb dX3_behindDigits_2 rfl (lv_at hl 2 rfl) ?_
      refine lv_aload_n hx hb dX3_behindDigits_3 rfl (lv_at hl 0 rfl) ?_
      refine va_get (D := g.1) (ci := 3) (v := .int f0) (C := RX3) (T := TX3) (N := 2) hx hb hts zl_X3 hown hK hP 0 rfl rfl 1 (by decide) (hts _ m_f_RX3_15) (fun _ h => h) rfl dX3_behindDigits_4 ?_
      refine lv_icmp_ge (tgt := 36) hx hb dX3_behindDigits_7 (by decide) (fun c_1 => ?_) (fun c_1 => ?_)
      · have i_1 : f0.toInt ≤ v2_0.toInt := z_le (rfl) (rfl) c_1
        have hze : 0 ≤ p1.toInt → v2_0.toInt = zdg Z0 f0.toInt p1.toInt := fun h0 => by
          rw [← (by assumption : 0 ≤ p1.toInt → zdg Z0 f0.toInt v2_0.toInt = zdg Z0 f0.toInt p1.toInt) h0]
          first | exact (zdg_end (by omega)).symm | exact (zdg_stop (by omega) (by omega)).symm
        refine lv_iload_n hx hb dX3_behindDigits_36 rfl (lv_at hl 2 rfl) ?_
        have hP9 := hP.sub (ws' := [(h0, .inr (3, [.ref h1, .int f0])), (h1, .inl (zB g, 60, .inl Z0))]) [0, 1] rfl
        have hD9 := hD.sub (ws' := [(h0, .inr (3, [.ref h1, .int f0])), (h1, .inl (zB g, 60, .inl Z0))]) [0, 1] (by decide) rfl
        exact W.iret (v := v2_0) hx hb hr (fun t ht hW => ⟨⟨v2_0, (0 : Nat), rfl, (by first | omega | decide), by rw [ht]; exact hP9, hD9⟩, hS.F ht⟩) hS.2.2 dX3_behindDigits_37
      · have i_1 : v2_0.toInt < f0.toInt := z_nle (rfl) (rfl) c_1
        refine lv_aload_n hx hb dX3_behindDigits_10 rfl (lv_at hl 0 rfl) ?_
        refine lv_iload_n hx hb dX3_behindDigits_11 rfl (lv_at hl 2 rfl) ?_
        refine z_calli (wr := []) hP hD hS hA [0, 1] [] (by decide) rfl rfl (by decide) (va_runV (As := [.int v2_0]) (rest := []) ⟨hx, hb, hml, hown, hts⟩ (gX3_charAt l g h0 h1 H.size v2_0 f0 Z0 (by constructor <;> omega)) ⟨callB_of 1 hts (zGood m_o_yX3_charAt) rfl rfl rfl (hts _ m_z_RX3) (hts _ m_m_RX3_49) ⟨by decide +kernel, by decide +kernel, by decide +kernel⟩ ⟨Nat.le_of_ble_eq_true rfl, Nat.le_of_ble_eq_true rfl⟩, hts _ m_i_yX3_charAt, hts _ m_e_yX3_charAt⟩ (zPreV hK hN hZ hP hD hS hA [0, 1] (by decide) rfl rfl 3 0 rfl rfl) rfl rfl hl.1 rfl (lv_room (Nat.le_of_ble_eq_true rfl)) dX3_behindDigits_12 ⟨Nat.le_of_ble_eq_true rfl, Nat.le_of_ble_eq_true rfl⟩) (fun r u H locs hw hP hD hS => ?_)
        obtain ⟨y0, rfl⟩ : ∃ z, z = r := ⟨_, rfl⟩
        obtain ⟨q1_0, q1_1⟩ := hw
        have q1_0 : (0 ≤ v2_0.toInt → v2_0.toInt < f0.toInt → y0.toInt = zc Z0 v2_0.toInt) := q1_0
        have q1_1 : (v2_0.toInt < 0 ∨ f0.toInt ≤ v2_0.toInt → y0.toInt = 0) := q1_1
        have hP : va_P g.1 vwCl [(h0, .inr (3, [.ref h1, .int f0])), (h1, .inl (zB g, 60, .inl Z0))] H := hP
        have hD : va_D A [(h0, .inr (3, [.ref h1, .int f0])), (h1, .inl (zB g, 60, .inl Z0))] := hD
        refine lv_bipush (v := 48) hx hb dX3_behindDigits_15 (by decide) ?_
        refine lv_icmp_lt (tgt := 36) hx hb dX3_behindDigits_17 (by decide) (fun c_2 => ?_) (fun c_2 => ?_)
        · have i_2 : y0.toInt < 48 := z_lt (rfl) (rfl) c_2
          have hze : 0 ≤ p1.toInt → v2_0.toInt = zdg Z0 f0.toInt p1.toInt := fun h0 => by
            rw [← (by assumption : 0 ≤ p1.toInt → zdg Z0 f0.toInt v2_0.toInt = zdg Z0 f0.toInt p1.toInt) h0]
            first | exact (zdg_end (by omega)).symm | exact (zdg_stop (by omega) (by omega)).symm
          refine lv_iload_n hx hb dX3_behindDigits_36 rfl (lv_at hl 2 rfl) ?_
          have hP9 := hP.sub (ws' := [(h0, .inr (3, [.ref h1, .int f0])), (h1, .inl (zB g, 60, .inl Z0))]) [0, 1] rfl
          have hD9 := hD.sub (ws' := [(h0, .inr (3, [.ref h1, .int f0])), (h1, .inl (zB g, 60, .inl Z0))]) [0, 1] (by decide) rfl
          exact W.iret (v := v2_0) hx hb hr (fun t ht hW => ⟨⟨v2_0, (0 : Nat), rfl, (by first | omega | decide), by rw [ht]; exact hP9, hD9⟩, hS.F ht⟩) hS.2.2 dX3_behindDigits_37
        · have i_2 : 48 ≤ y0.toInt := z_nlt (rfl) (rfl) c_2
          refine lv_aload_n hx hb dX3_behindDigits_20 rfl (lv_at hl 0 rfl) ?_
          refine lv_iload_n hx hb dX3_behindDigits_21 rfl (lv_at hl 2 rfl) ?_
          refine z_calli (wr := []) hP hD hS hA [0, 1] [] (by decide) rfl rfl (by decide) (va_runV (As := [.int v2_0]) (rest := []) ⟨hx, hb, hml, hown, hts⟩ (gX3_charAt l g h0 h1 H.size v2_0 f0 Z0 (by constructor <;> omega)) ⟨callB_of 1 hts (zGood m_o_yX3_charAt) rfl rfl rfl (hts _ m_z_RX3) (hts _ m_m_RX3_49) ⟨by decide +kernel, by decide +kernel, by decide +kernel⟩ ⟨Nat.le_of_ble_eq_true rfl, Nat.le_of_ble_eq_true rfl⟩, hts _ m_i_yX3_charAt, hts _ m_e_yX3_charAt⟩ (zPreV hK hN hZ hP hD hS hA [0, 1] (by decide) rfl rfl 3 0 rfl rfl) rfl rfl hl.1 rfl (lv_room (Nat.le_of_ble_eq_true rfl)) dX3_behindDigits_22 ⟨Nat.le_of_ble_eq_true rfl, Nat.le_of_ble_eq_true rfl⟩) (fun r u H locs hw hP hD hS => ?_)
          obtain ⟨y2, rfl⟩ : ∃ z, z = r := ⟨_, rfl⟩
          obtain ⟨q3_0, q3_1⟩ := hw
          have q3_0 : (0 ≤ v2_0.toInt → v2_0.toInt < f0.toInt → y2.toInt = zc Z0 v2_0.toInt) := q3_0
          have q3_1 : (v2_0.toInt < 0 ∨ f0.toInt ≤ v2_0.toInt → y2.toInt = 0) := q3_1
          have hP : va_P g.1 vwCl [(h0, .inr (3, [.ref h1, .int f0])), (h1, .inl (zB g, 60, .inl Z0))] H := hP
          have hD : va_D A [(h0, .inr (3, [.ref h1, .int f0])), (h1, .inl (zB g, 60, .inl Z0))] := hD
          refine lv_bipush (v := 57) hx hb dX3_behindDigits_25 (by decide) ?_
          refine lv_icmp_gt (tgt := 36) hx hb dX3_behindDigits_27 (by decide) (fun c_3 => ?_) (fun c_3 => ?_)
          · have i_3 : 57 < y2.toInt := z_lt (rfl) (rfl) c_3
            have hze : 0 ≤ p1.toInt → v2_0.toInt = zdg Z0 f0.toInt p1.toInt := fun h0 => by
              rw [← (by assumption : 0 ≤ p1.toInt → zdg Z0 f0.toInt v2_0.toInt = zdg Z0 f0.toInt p1.toInt) h0]
              first | exact (zdg_end (by omega)).symm | exact (zdg_stop (by omega) (by omega)).symm
            refine lv_iload_n hx hb dX3_behindDigits_36 rfl (lv_at hl 2 rfl) ?_
            have hP9 := hP.sub (ws' := [(h0, .inr (3, [.ref h1, .int f0])), (h1, .inl (zB g, 60, .inl Z0))]) [0, 1] rfl
            have hD9 := hD.sub (ws' := [(h0, .inr (3, [.ref h1, .int f0])), (h1, .inl (zB g, 60, .inl Z0))]) [0, 1] (by decide) rfl
            exact W.iret (v := v2_0) hx hb hr (fun t ht hW => ⟨⟨v2_0, (0 : Nat), rfl, (by first | omega | decide), by rw [ht]; exact hP9, hD9⟩, hS.F ht⟩) hS.2.2 dX3_behindDigits_37
          · have i_3 : y2.toInt ≤ 57 := z_nlt (rfl) (rfl) c_3
            obtain ⟨y4, ey4⟩ : ∃ z : Int32, z = v2_0 + 1 := ⟨_, rfl⟩
            have := z_rng v2_0
            have := z_rng f0
            have qy4 : y4.toInt = v2_0.toInt + 1 := zi_add ey4 (rfl) rfl (by omega) (by omega)
            refine lv_iinc (v := y4) (lv' := [(2, .int y4), (0, .ref h0), (1, .int p1)]) hx hb dX3_behindDigits_30 hl (k := 2) rfl ey4.symm (by decide) rfl (fun ls hl => ?_)
            have hzk : 0 ≤ p1.toInt → zdg Z0 f0.toInt y4.toInt = zdg Z0 f0.toInt p1.toInt := fun h0 => by
              have h3 := zdg_dig (F := Z0) (len := f0.toInt) (a := v2_0.toInt) (by omega) (by omega)
              have h4 : y4.toInt = v2_0.toInt + 1 := by omega
              rw [h4, ← h3]
              exact (by assumption : 0 ≤ p1.toInt → zdg Z0 f0.toInt v2_0.toInt = zdg Z0 f0.toInt p1.toInt) h0
            refine lv_goto (tgt := 2) hx hb dX3_behindDigits_33 (by decide) ?_
            exact ih1 y4 (by omega) (by omega) (by omega) _ _ hP hD hS ls (lv_sub hl [1, 2, 0] rfl)
  exact loop2_0 ((((f0.toInt - p1.toInt).toNat : Int) : Int).toNat + 1) p1 (by omega) (by omega) (by omega) _ _ hP hD hS ls (lv_sub hl [1, 2, 0] rfl)
set_option maxHeartbeats 8000000 in
set_option maxRecDepth 100000 in
theorem gX3_numberAt (l : Launch) (g : zG) (h0 h1 : Nat) (sz : Nat) (p1 : Int32) (p2 : Int32) (f0 : Int32) (Z0 : Nat → Int32) (hp0 : zDi Z0 p1.toInt p2.toInt = 1) (hp1 : 0 ≤ p1.toInt) (hp2 : p1.toInt ≤ p2.toInt) (hp3 : p2.toInt ≤ f0.toInt) (hf_f0 : 0 ≤ f0.toInt ∧ f0.toInt ≤ 60) : Met l yX3_numberAt (.code yX3_numberAt cX3_numberAt 5 (some .int) :: zBig) ({ frames := 1, cells := 0, slots := 0, locals := 21 }) (va_Pc [.ref h0, .int p1, .int p2] (zPre g [(h0, .inr (3, [.ref h1, .int f0])), (h1, .inl (zB g, 60, .inl Z0))] sz)) (va_Qi (fun (r : Int32) (u : Nat) => r.toInt = zNu Z0 p2.toInt p1.toInt 0 ∧ 0 ≤ r.toInt ∧ r.toInt ≤ 1000) (zPost g (fun u : Nat => [(h0, .inr (3, [.ref h1, .int f0])), (h1, .inl (zB g, 60, .inl Z0))]) (va_A [(h0, .inr (3, [.ref h1, .int f0])), (h1, .inl (zB g, 60, .inl Z0))] sz)) (va_A [(h0, .inr (3, [.ref h1, .int f0])), (h1, .inl (zB g, 60, .inl Z0))] sz)) 0 0 (va_A [(h0, .inr (3, [.ref h1, .int f0])), (h1, .inl (zB g, 60, .inl Z0))] sz) := by
  refine zMetI rfl (Nat.le_of_ble_eq_true rfl) ?_
  intro p e s m args below meth c A ls hx hb hml hr hlocks hin hown hts hK hN hZ hP hD hA hS hAe hl
  have hown : s.vm.findClass RX3 = some m.cls := hown
  have hl : lv_has ls 5 [(0, .ref h0), (1, .int p1), (2, .int p2)] := hl
  have hz0 : zNu Z0 p2.toInt p1.toInt (0 : Int32).toInt = zNu Z0 p2.toInt p1.toInt 0 := rfl
  refine lv_iconst (v := 0) hx hb dX3_numberAt_0 (by decide) ?_
  refine lv_istore_n (lv' := [(3, .int 0), (0, .ref h0), (1, .int p1), (2, .int p2)]) hx hb dX3_numberAt_1 rfl hl (by decide) rfl (fun ls hl => ?_)
  refine lv_iload_n hx hb dX3_numberAt_2 rfl (lv_at hl 2 rfl) ?_
  refine lv_istore (lv' := [(4, .int p1), (3, .int 0), (0, .ref h0), (1, .int p1), (2, .int p2)]) hx hb dX3_numberAt_3 hl (by decide) rfl (fun ls hl => ?_)
  have loop5_0 : ∀ (n1 : Nat) (v3_0 : Int32) (v4_0 : Int32) (n1_0 : 0 ≤ v3_0.toInt) (n1_1 : v3_0.toInt ≤ 1000) (n1_2 : p1.toInt ≤ v4_0.toInt) (n1_3 : v4_0.toInt ≤ p2.toInt) (n1_4 : zNu Z0 p2.toInt v4_0.toInt v3_0.toInt = zNu Z0 p2.toInt p1.toInt 0) (hm1 : ((p2.toInt - v4_0.toInt).toNat : Int) < (n1 : Int)) (H : Heap) (locs : List Loc), va_P g.1 vwCl [(h0, .inr (3, [.ref h1, .int f0])), (h1, .inl (zB g, 60, .inl Z0))] H → va_D A [(h0, .inr (3, [.ref h1, .int f0])), (h1, .inl (zB g, 60, .inl Z0))] → va_S A s.heap H locs → ∀ (ls : Array Slot), lv_has ls 5 [(0, .ref h0), (1, .int p1), (2, .int p2), (3, .int v3_0), (4, .int v4_0)] → W p l e ({ frames := 1, cells := 0, slots := 0, locals := 21 }) s m args below meth c H locs 0 0 (MQ below (va_Qi (fun (r : Int32) (u : Nat) => r.toInt = zNu Z0 p2.toInt p1.toInt 0 ∧ 0 ≤ r.toInt ∧ r.toInt ≤ 1000) (zPost g (fun u : Nat => [(h0, .inr (3, [.ref h1, .int f0])), (h1, .inl (zB g, 60, .inl Z0))]) A) A) args s 0 0 A) (F0 m 5 ls []) := by
    intro n1
    induction n1 with
    | zero => intro v3_0 v4_0 n1_0 n1_1 n1_2 n1_3 n1_4 hm1; exfalso; omega
    | succ n1 ih1 =>
      intro v3_0 v4_0 n1_0 n1_1 n1_2 n1_3 n1_4 hm1 H locs hP hD hS ls hl
      refine lv_iload hx hb dX3_numberAt_5 (lv_at hl 4 rfl) ?_
      refine lv_iload_n hx hb dX3_numberAt_7 rfl (lv_at hl 2 rfl) ?_
      refine lv_icmp_ge (tgt := 38) hx hb dX3_numberAt_8 (by decide) (fun c_1 => ?_) (fun c_1 => ?_)
      · have i_1 : p2.toInt ≤ v4_0.toInt := z_le (rfl) (rfl) c_1
        have hzf : v3_0.toInt = zNu Z0 p2.toInt p1.toInt 0 := by
          have h1 := zNu_end (F := Z0) (b := p2.toInt) (a := v4_0.toInt) (v := v3_0.toInt) (by omega)
          rw [← h1]
          assumption
        refine lv_iload_n hx hb dX3_numberAt_38 rfl (lv_at hl 3 rfl) ?_
        have hP9 := hP.sub (ws' := [(h0, .inr (3, [.ref h1, .int f0])), (h1, .inl (zB g, 60, .inl Z0))]) [0, 1] rfl
        have hD9 := hD.sub (ws' := [(h0, .inr (3, [.ref h1, .int f0])), (h1, .inl (zB g, 60, .inl Z0))]) [0, 1] (by decide) rfl
        exact W.iret (v := v3_0) hx hb hr (fun t ht hW => ⟨⟨v3_0, (0 : Nat), rfl, ⟨(by first | omega | decide), (by first | omega | decide), (by first | omega | decide)⟩, by rw [ht]; exact hP9, hD9⟩, hS.F ht⟩) hS.2.2 dX3_numberAt_39
      · have i_1 : v4_0.toInt < p2.toInt := z_nle (rfl) (rfl) c_1
        refine lv_sipush (v := 1000) hx hb dX3_numberAt_11 (by decide) ?_
        refine lv_iload_n hx hb dX3_numberAt_14 rfl (lv_at hl 3 rfl) ?_
        refine lv_bipush (v := 10) hx hb dX3_numberAt_15 (by decide) ?_
        refine lv_imul hx hb dX3_numberAt_17 ?_
        refine lv_topi (fun y0 ey0 => ?_)
        have qy0_0 : y0.toInt = v3_0.toInt * 10 := zi_mul ey0 (rfl) (rfl) (by omega) (by omega)
        refine lv_aload_n hx hb dX3_numberAt_18 rfl (lv_at hl 0 rfl) ?_
        refine lv_iload hx hb dX3_numberAt_19 (lv_at hl 4 rfl) ?_
        refine z_calli (wr := []) hP hD hS hA [0, 1] [] (by decide) rfl rfl (by decide) (va_runV (As := [.int v4_0]) (rest := [.int y0, .int 1000]) ⟨hx, hb, hml, hown, hts⟩ (gX3_charAt l g h0 h1 H.size v4_0 f0 Z0 (by constructor <;> omega)) ⟨callB_of 1 hts (zGood m_o_yX3_charAt) rfl rfl rfl (hts _ m_z_RX3) (hts _ m_m_RX3_49) ⟨by decide +kernel, by decide +kernel, by decide +kernel⟩ ⟨Nat.le_of_ble_eq_true rfl, Nat.le_of_ble_eq_true rfl⟩, hts _ m_i_yX3_charAt, hts _ m_e_yX3_charAt⟩ (zPreV hK hN hZ hP hD hS hA [0, 1] (by decide) rfl rfl 3 0 rfl rfl) rfl rfl hl.1 rfl (lv_room (Nat.le_of_ble_eq_true rfl)) dX3_numberAt_21 ⟨Nat.le_of_ble_eq_true rfl, Nat.le_of_ble_eq_true rfl⟩) (fun r u H locs hw hP hD hS => ?_)
        obtain ⟨y1, rfl⟩ : ∃ z, z = r := ⟨_, rfl⟩
        obtain ⟨q2_0, q2_1⟩ := hw
        have q2_0 : (0 ≤ v4_0.toInt → v4_0.toInt < f0.toInt → y1.toInt = zc Z0 v4_0.toInt) := q2_0
        have q2_1 : (v4_0.toInt < 0 ∨ f0.toInt ≤ v4_0.toInt → y1.toInt = 0) := q2_1
        have hP : va_P g.1 vwCl [(h0, .inr (3, [.ref h1, .int f0])), (h1, .inl (zB g, 60, .inl Z0))] H := hP
        have hD : va_D A [(h0, .inr (3, [.ref h1, .int f0])), (h1, .inl (zB g, 60, .inl Z0))] := hD
        have hd := zDi_at (F := Z0) hp0 v4_0.toInt (by omega) (by omega)
        have hd0 : 48 ≤ y1.toInt := by omega
        have hd1 : y1.toInt ≤ 57 := by omega
        refine lv_iadd hx hb dX3_numberAt_24 ?_
        refine lv_topi (fun y3 ey3 => ?_)
        have qy3_0 : y3.toInt = y0.toInt + y1.toInt := zi_add ey3 (rfl) (rfl) (by omega) (by omega)
        refine lv_bipush (v := 48) hx hb dX3_numberAt_25 (by decide) ?_
        refine lv_isub hx hb dX3_numberAt_27 ?_
        refine lv_topi (fun y4 ey4 => ?_)
        have qy4_0 : y4.toInt = y3.toInt - 48 := zi_sub ey4 (rfl) (rfl) (by omega) (by omega)
        refine va_mmin hx hb (hml.trans hl.1.symm) hown (hts _ m_m_RX3_56) (hts _ m_s_Lib_Math_min_name) (hts _ m_z_RJ9) (hts _ m_o_Lib_Math_min_name) (Nat.le_of_ble_eq_true rfl) (Nat.le_of_ble_eq_true rfl) (Nat.le_of_ble_eq_true rfl) (Nat.le_of_ble_eq_true rfl) dX3_numberAt_28 ?_
        refine lv_topi (fun y5 ey5 => ?_)
        have qy5_0 : y5.toInt ≤ 1000 := (zi_min ey5 (rfl) (rfl)).1
        have qy5_1 : y5.toInt ≤ y4.toInt := (zi_min ey5 (rfl) (rfl)).2.1
        have qy5_2 : y5.toInt = 1000 ∨ y5.toInt = y4.toInt := (zi_min ey5 (rfl) (rfl)).2.2
        refine lv_istore_n (lv' := [(3, .int y5), (0, .ref h0), (1, .int p1), (2, .int p2), (4, .int v4_0)]) hx hb dX3_numberAt_31 rfl hl (by decide) rfl (fun ls hl => ?_)
        obtain ⟨y6, ey6⟩ : ∃ z : Int32, z = v4_0 + 1 := ⟨_, rfl⟩
        have qy6 : y6.toInt = v4_0.toInt + 1 := zi_add ey6 (rfl) rfl (by omega) (by omega)
        refine lv_iinc (v := y6) (lv' := [(4, .int y6), (3, .int y5), (0, .ref h0), (1, .int p1), (2, .int p2)]) hx hb dX3_numberAt_32 hl (k := 4) rfl ey6.symm (by decide) rfl (fun ls hl => ?_)
        have hzn9 : zNu Z0 p2.toInt y6.toInt y5.toInt = zNu Z0 p2.toInt p1.toInt 0 := by
          have h1 := zNu_s (F := Z0) (b := p2.toInt) (a := v4_0.toInt) (v := v3_0.toInt) (by omega)
          have e1 : y6.toInt = v4_0.toInt + 1 := by omega
          have e2 : y5.toInt = min 1000 (10 * v3_0.toInt + zc Z0 v4_0.toInt - 48) := by omega
          rw [e1, e2, ← h1]
          assumption
        refine lv_goto (tgt := 5) hx hb dX3_numberAt_35 (by decide) ?_
        exact ih1 y5 y6 (by omega) (by omega) (by omega) (by omega) (by omega) (by omega) _ _ hP hD hS ls (lv_sub hl [2, 3, 4, 1, 0] rfl)
  have : (0 : Int32).toInt = 0 := rfl
  exact loop5_0 ((((p2.toInt - p1.toInt).toNat : Int) : Int).toNat + 1) (0 : Int32) p1 (by omega) (by omega) (by omega) (by omega) (by omega) (by omega) _ _ hP hD hS ls (lv_sub hl [2, 3, 4, 1, 0] rfl)
