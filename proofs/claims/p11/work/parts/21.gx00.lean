set_option maxHeartbeats 8000000 in
set_option maxRecDepth 100000 in
theorem gX4_fitsRule (l : Launch) (g : zG) (sz : Nat) (p0 : Int32) (p1 : Int32) : Met l yX4_fitsRule (.code yX4_fitsRule cX4_fitsRule 2 (some .boolean) :: zBig) ({ frames := 0, cells := 0, slots := 0, locals := 0 }) (va_Pc [.int p0, .int p1] (zPre g [] sz)) (va_Qi (fun (r : Int32) (u : Nat) => (0 ≤ p0.toInt ∧ p0.toInt ≤ 4 ∧ zfI p0.toInt p1.toInt = 1 ∧ r = 1) ∨ (zfI p0.toInt p1.toInt = 0 ∧ r = 0)) (zPost g (fun u : Nat => []) (va_A [] sz)) (va_A [] sz)) 0 0 (va_A [] sz) := by
  refine zMetI rfl (Nat.le_of_ble_eq_true rfl) ?_
  intro p e s m args below meth c A ls hx hb hml hr hlocks hin hown hts hK hN hZ hP hD hA hS hAe hl
  have hown : s.vm.findClass RX4 = some m.cls := hown
  have hl : lv_has ls 2 [(0, .int p0), (1, .int p1)] := hl
  refine lv_iload_n hx hb dX4_fitsRule_0 rfl (lv_at hl 0 rfl) ?_
  refine lv_if_lt (tgt := 31) hx hb dX4_fitsRule_1 (by decide) (fun c_0 => ?_) (fun c_0 => ?_)
  · have i_0 : p0.toInt < 0 := z_lt (rfl) (rfl) c_0
    refine lv_iconst (v := 0) hx hb dX4_fitsRule_31 (by decide) ?_
    have hz : zfI p0.toInt p1.toInt = 0 := zfI_0 (by omega)
    have hP9 := hP.sub (ws' := []) [] rfl
    have hD9 := hD.sub (ws' := []) [] (by decide) rfl
    exact W.zret (v := 0) hx hb hr (by decide) (fun t ht hW => ⟨⟨0, (0 : Nat), rfl, Or.inr (⟨(by first | omega | decide), rfl⟩), by rw [ht]; exact hP9, hD9⟩, hS.F ht⟩) hS.2.2 dX4_fitsRule_32
  · have i_0 : 0 ≤ p0.toInt := z_nlt (rfl) (rfl) c_0
    refine lv_iload_n hx hb dX4_fitsRule_4 rfl (lv_at hl 0 rfl) ?_
    refine lv_iconst (v := 5) hx hb dX4_fitsRule_5 (by decide) ?_
    refine lv_icmp_ge (tgt := 31) hx hb dX4_fitsRule_6 (by decide) (fun c_1 => ?_) (fun c_1 => ?_)
    · have i_1 : 5 ≤ p0.toInt := z_le (rfl) (rfl) c_1
      refine lv_iconst (v := 0) hx hb dX4_fitsRule_31 (by decide) ?_
      have hz : zfI p0.toInt p1.toInt = 0 := zfI_0 (by omega)
      have hP9 := hP.sub (ws' := []) [] rfl
      have hD9 := hD.sub (ws' := []) [] (by decide) rfl
      exact W.zret (v := 0) hx hb hr (by decide) (fun t ht hW => ⟨⟨0, (0 : Nat), rfl, Or.inr (⟨(by first | omega | decide), rfl⟩), by rw [ht]; exact hP9, hD9⟩, hS.F ht⟩) hS.2.2 dX4_fitsRule_32
    · have i_1 : p0.toInt < 5 := z_nle (rfl) (rfl) c_1
      refine lv_iload_n hx hb dX4_fitsRule_9 rfl (lv_at hl 1 rfl) ?_
      refine va_gets (C := "FishSteps") (n := "RULE_LEAST") (d := "[I") hx hb hZ.2.1.1 hS hown (hts _ m_f_RX4_245) (fun _ h => h) dX4_fitsRule_10 ?_
      refine lv_iload_n hx hb dX4_fitsRule_13 rfl (lv_at hl 0 rfl) ?_
      refine va_ti hx hb hZ.2.1.2.1 hS (vp_in_iff.mpr ⟨by omega, by omega⟩) (v := .int (zf2 p0.toNatClampNeg)) rfl dX4_fitsRule_14 ?_
      refine lv_topi (fun y0 ey0 => ?_)
      have py0_0 : y0.toInt = zlo p0.toInt := zf2_at (i := p0) (by omega) (by omega) ey0
      refine lv_icmp_lt (tgt := 31) hx hb dX4_fitsRule_15 (by decide) (fun c_2 => ?_) (fun c_2 => ?_)
      · have i_2 : p1.toInt < y0.toInt := z_lt (rfl) (rfl) c_2
        refine lv_iconst (v := 0) hx hb dX4_fitsRule_31 (by decide) ?_
        have hz : zfI p0.toInt p1.toInt = 0 := zfI_0 (by omega)
        have hP9 := hP.sub (ws' := []) [] rfl
        have hD9 := hD.sub (ws' := []) [] (by decide) rfl
        exact W.zret (v := 0) hx hb hr (by decide) (fun t ht hW => ⟨⟨0, (0 : Nat), rfl, Or.inr (⟨(by first | omega | decide), rfl⟩), by rw [ht]; exact hP9, hD9⟩, hS.F ht⟩) hS.2.2 dX4_fitsRule_32
      · have i_2 : y0.toInt ≤ p1.toInt := z_nlt (rfl) (rfl) c_2
        refine lv_iload_n hx hb dX4_fitsRule_18 rfl (lv_at hl 1 rfl) ?_
        refine va_gets (C := "FishSteps") (n := "RULE_MOST") (d := "[I") hx hb hZ.2.2.1 hS hown (hts _ m_f_RX4_248) (fun _ h => h) dX4_fitsRule_19 ?_
        refine lv_iload_n hx hb dX4_fitsRule_22 rfl (lv_at hl 0 rfl) ?_
        refine va_ti hx hb hZ.2.2.2.1 hS (vp_in_iff.mpr ⟨by omega, by omega⟩) (v := .int (zf3 p0.toNatClampNeg)) rfl dX4_fitsRule_23 ?_
        refine lv_topi (fun y1 ey1 => ?_)
        have py1_0 : y1.toInt = zhi p0.toInt := zf3_at (i := p0) (by omega) (by omega) ey1
        refine lv_icmp_gt (tgt := 31) hx hb dX4_fitsRule_24 (by decide) (fun c_3 => ?_) (fun c_3 => ?_)
        · have i_3 : y1.toInt < p1.toInt := z_lt (rfl) (rfl) c_3
          refine lv_iconst (v := 0) hx hb dX4_fitsRule_31 (by decide) ?_
          have hz : zfI p0.toInt p1.toInt = 0 := zfI_0 (by omega)
          have hP9 := hP.sub (ws' := []) [] rfl
          have hD9 := hD.sub (ws' := []) [] (by decide) rfl
          exact W.zret (v := 0) hx hb hr (by decide) (fun t ht hW => ⟨⟨0, (0 : Nat), rfl, Or.inr (⟨(by first | omega | decide), rfl⟩), by rw [ht]; exact hP9, hD9⟩, hS.F ht⟩) hS.2.2 dX4_fitsRule_32
        · have i_3 : p1.toInt ≤ y1.toInt := z_nlt (rfl) (rfl) c_3
          refine lv_iconst (v := 1) hx hb dX4_fitsRule_27 (by decide) ?_
          refine lv_goto (tgt := 32) hx hb dX4_fitsRule_28 (by decide) ?_
          have hz : zfI p0.toInt p1.toInt = 1 := zfI_1 (by omega) (by omega) (by omega) (by omega)
          have hP9 := hP.sub (ws' := []) [] rfl
          have hD9 := hD.sub (ws' := []) [] (by decide) rfl
          exact W.zret (v := 1) hx hb hr (by decide) (fun t ht hW => ⟨⟨1, (0 : Nat), rfl, Or.inl ⟨(by first | omega | decide), (by first | omega | decide), (by first | omega | decide), rfl⟩, by rw [ht]; exact hP9, hD9⟩, hS.F ht⟩) hS.2.2 dX4_fitsRule_32
set_option maxHeartbeats 8000000 in
set_option maxRecDepth 100000 in
theorem gX4_rule (l : Launch) (g : zG) (h0 h1 h2 h3 h4 h5 h6 h7 h8 h9 h10 h11 h12 h13 h14 h15 h16 h17 h18 : Nat) (sz : Nat) (p1 : Int32) (p2 : Int32) (f0 : Int32) (f1 : Int32) (f2 : Int32) (f3 : Int32) (f4 : Int32) (Z5 : Nat → Int32) (hf_f2 : 0 ≤ f2.toInt ∧ f2.toInt ≤ 6) (hf_f3 : 0 ≤ f3.toInt ∧ f3.toInt ≤ 5) (hf_f4 : 0 ≤ f4.toInt ∧ f4.toInt ≤ 9999) (hF_Z5 : iLaw Z5) : Met l yX4_rule (.code yX4_rule cX4_rule 4 (some .int) :: zBig) ({ frames := 1, cells := 0, slots := 0, locals := 21 }) (va_Pc [.ref h0, .int p1, .int p2] (zPre g [(h0, .inr (4, [.ref h1, .ref h2, .int f0, .ref h3, .ref h4, .ref h5, .ref h6, .int f1, .ref h7, .ref h8, .ref h9, .ref h10])), (h1, .inr (0, [.ref h11, .int f2, .ref h12, .int f3, .ref h13, .ref h14, .ref h15, .ref h16, .ref h17, .ref h18, .int f4])), (h11, .inl (zI g, 5, .inl Z5))] sz)) (va_Qi (fun (r : Int32) (u : (Nat → Int32)) => (r.toInt = zAr Z5 p1.toInt p2.toInt) ∧ iLaw u ∧ u = (if (zfI p1.toInt p2.toInt = 1) then upd Z5 p1.toNatClampNeg p2 else Z5)) (zPost g (fun u : (Nat → Int32) => [(h0, .inr (4, [.ref h1, .ref h2, .int f0, .ref h3, .ref h4, .ref h5, .ref h6, .int f1, .ref h7, .ref h8, .ref h9, .ref h10])), (h1, .inr (0, [.ref h11, .int f2, .ref h12, .int f3, .ref h13, .ref h14, .ref h15, .ref h16, .ref h17, .ref h18, .int f4])), (h11, .inl (zI g, 5, .inl u))]) (va_A [(h0, .inr (4, [.ref h1, .ref h2, .int f0, .ref h3, .ref h4, .ref h5, .ref h6, .int f1, .ref h7, .ref h8, .ref h9, .ref h10])), (h1, .inr (0, [.ref h11, .int f2, .ref h12, .int f3, .ref h13, .ref h14, .ref h15, .ref h16, .ref h17, .ref h18, .int f4])), (h11, .inl (zI g, 5, .inl Z5))] sz)) (va_A [(h0, .inr (4, [.ref h1, .ref h2, .int f0, .ref h3, .ref h4, .ref h5, .ref h6, .int f1, .ref h7, .ref h8, .ref h9, .ref h10])), (h1, .inr (0, [.ref h11, .int f2, .ref h12, .int f3, .ref h13, .ref h14, .ref h15, .ref h16, .ref h17, .ref h18, .int f4])), (h11, .inl (zI g, 5, .inl Z5))] sz)) 0 0 (va_A [(h0, .inr (4, [.ref h1, .ref h2, .int f0, .ref h3, .ref h4, .ref h5, .ref h6, .int f1, .ref h7, .ref h8, .ref h9, .ref h10])), (h1, .inr (0, [.ref h11, .int f2, .ref h12, .int f3, .ref h13, .ref h14, .ref h15, .ref h16, .ref h17, .ref h18, .int f4])), (h11, .inl (zI g, 5, .inl Z5))] sz) := by
  refine zMetI rfl (Nat.le_of_ble_eq_true rfl) ?_
  intro p e s m args below meth c A ls hx hb hml hr hlocks hin hown hts hK hN hZ hP hD hA hS hAe hl
  have hown : s.vm.findClass RX4 = some m.cls := hown
  have hl : lv_has ls 4 [(0, .ref h0), (1, .int p1), (2, .int p2)] := hl
  refine lv_iload_n hx hb dX4_rule_0 rfl (lv_at hl 1 rfl) ?_
  refine lv_iload_n hx hb dX4_rule_1 rfl (lv_at hl 2 rfl) ?_
  refine z_calli (wr := [(h0, .inr (4, [.ref h1, .ref h2, .int f0, .ref h3, .ref h4, .ref h5, .ref h6, .int f1, .ref h7, .ref h8, .ref h9, .ref h10])), (h1, .inr (0, [.ref h11, .int f2, .ref h12, .int f3, .ref h13, .ref h14, .ref h15, .ref h16, .ref h17, .ref h18, .int f4])), (h11, .inl (zI g, 5, .inl Z5))]) hP hD hS hA [] [0, 1, 2] (by decide) rfl rfl (by decide) (va_runS (As := [.int p1, .int p2]) (rest := []) ⟨hx, hb, hml, hown, hts⟩ (gX4_fitsRule l g  s.heap.size p1 p2) ⟨callB_of 2 hts (zGood m_o_yX4_fitsRule) rfl rfl rfl (hts _ m_z_RX4) (hts _ m_m_RX4_64) ⟨by decide +kernel, by decide +kernel, by decide +kernel⟩ ⟨Nat.le_of_ble_eq_true rfl, Nat.le_of_ble_eq_true rfl⟩, hts _ m_s_yX4_fitsRule⟩ (zPreS hK hN hZ hP hD hS hA [] (by decide) rfl rfl) rfl rfl hl.1 rfl (lv_room (Nat.le_of_ble_eq_true rfl)) dX4_rule_2 ⟨Nat.le_of_ble_eq_true rfl, Nat.le_of_ble_eq_true rfl⟩) (fun r u H locs hw hP hD hS => ?_)
  rcases hw with ⟨i_0, i_1, i_2, rfl⟩ | ⟨i_3, rfl⟩
  · skip
    have i_0 : 0 ≤ p1.toInt := i_0
    have i_1 : p1.toInt ≤ 4 := i_1
    have i_2 : zfI p1.toInt p2.toInt = 1 := i_2
    have hP : va_P g.1 vwCl [(h0, .inr (4, [.ref h1, .ref h2, .int f0, .ref h3, .ref h4, .ref h5, .ref h6, .int f1, .ref h7, .ref h8, .ref h9, .ref h10])), (h1, .inr (0, [.ref h11, .int f2, .ref h12, .int f3, .ref h13, .ref h14, .ref h15, .ref h16, .ref h17, .ref h18, .int f4])), (h11, .inl (zI g, 5, .inl Z5))] H := hP
    have hD : va_D A [(h0, .inr (4, [.ref h1, .ref h2, .int f0, .ref h3, .ref h4, .ref h5, .ref h6, .int f1, .ref h7, .ref h8, .ref h9, .ref h10])), (h1, .inr (0, [.ref h11, .int f2, .ref h12, .int f3, .ref h13, .ref h14, .ref h15, .ref h16, .ref h17, .ref h18, .int f4])), (h11, .inl (zI g, 5, .inl Z5))] := hD
    refine lv_if_ne (tgt := 10) hx hb dX4_rule_5 (by decide) (fun _ => ?_) (fun h => absurd h (by decide +kernel))
    refine lv_aload_n hx hb dX4_rule_10 rfl (lv_at hl 0 rfl) ?_
    refine va_get (D := g.1) (ci := 4) (v := .ref h1) (C := RX4) (T := TX4) (N := 12) hx hb hts zl_X4 hown hK hP 0 rfl rfl 0 (by decide) (hts _ m_f_RX4_10) (fun _ h => h) rfl dX4_rule_11 ?_
    refine va_getN (D := g.1) (ci := 0) (v := .ref h11) (C := RX0) (T := TX0) (N := 11) hx hb hts zl_X0 hown hK hP 1 rfl rfl 0 (by decide) (hN.f 1 (q := (RX4, 68, "FishSteps$Books", "law", "[I")) rfl) (fun _ h => h) rfl dX4_rule_14 ?_
    refine lv_iload_n hx hb dX4_rule_17 rfl (lv_at hl 1 rfl) ?_
    refine va_iald (D := g.1) hx hb hK hP 2 0 rfl rfl (vp_in_iff.mpr ⟨by omega, by omega⟩) dX4_rule_18 ?_
    refine lv_topi (fun y0 ey0 => ?_)
    have qy0_0 : y0.toInt = (Z5 p1.toNatClampNeg).toInt := congrArg Int32.toInt ey0
    refine lv_istore_n (lv' := [(3, .int y0), (0, .ref h0), (1, .int p1), (2, .int p2)]) hx hb dX4_rule_19 rfl hl (by decide) rfl (fun ls hl => ?_)
    refine lv_aload_n hx hb dX4_rule_20 rfl (lv_at hl 1 rfl) ?_
    refine va_get (D := g.1) (ci := 4) (v := .ref h1) (C := RX4) (T := TX4) (N := 12) hx hb hts zl_X4 hown hK hP 0 rfl rfl 0 (by decide) (hts _ m_f_RX4_10) (fun _ h => h) rfl dX4_rule_21 ?_
    refine va_getN (D := g.1) (ci := 0) (v := .ref h11) (C := RX0) (T := TX0) (N := 11) hx hb hts zl_X0 hown hK hP 1 rfl rfl 0 (by decide) (hN.f 1 (q := (RX4, 68, "FishSteps$Books", "law", "[I")) rfl) (fun _ h => h) rfl dX4_rule_24 ?_
    refine lv_iload_n hx hb dX4_rule_27 rfl (lv_at hl 2 rfl) ?_
    refine lv_iload_n hx hb dX4_rule_28 rfl (lv_at hl 3 rfl) ?_
    refine va_iast (D := g.1) hx hb hK hP hD hS 2 0 rfl rfl (vp_in_iff.mpr ⟨by omega, by omega⟩) dX4_rule_29 (fun H locs hP hD hS => ?_)
    have hP : va_P g.1 vwCl [(h0, .inr (4, [.ref h1, .ref h2, .int f0, .ref h3, .ref h4, .ref h5, .ref h6, .int f1, .ref h7, .ref h8, .ref h9, .ref h10])), (h1, .inr (0, [.ref h11, .int f2, .ref h12, .int f3, .ref h13, .ref h14, .ref h15, .ref h16, .ref h17, .ref h18, .int f4])), (h11, .inl (zI g, 5, .inl (upd Z5 p1.toNatClampNeg p2)))] H := hP
    have hD : va_D A [(h0, .inr (4, [.ref h1, .ref h2, .int f0, .ref h3, .ref h4, .ref h5, .ref h6, .int f1, .ref h7, .ref h8, .ref h9, .ref h10])), (h1, .inr (0, [.ref h11, .int f2, .ref h12, .int f3, .ref h13, .ref h14, .ref h15, .ref h16, .ref h17, .ref h18, .int f4])), (h11, .inl (zI g, 5, .inl (upd Z5 p1.toNatClampNeg p2)))] := hD
    have hI1 : iLaw (upd Z5 p1.toNatClampNeg p2) := iLaw_put (i := p1) (a := p1.toInt) (v := p2) (b := p2.toInt) hF_Z5 (rfl) (rfl) (by omega) (by omega)
    obtain ⟨R2, eR2⟩ : ∃ z : Nat → Int32, z = (upd Z5 p1.toNatClampNeg p2) := ⟨_, rfl⟩
    rw [← eR2] at hP hD hI1
    refine lv_iload_n hx hb dX4_rule_30 rfl (lv_at hl 0 rfl) ?_
    have hz : zAr Z5 p1.toInt p2.toInt = y0.toInt := by unfold zAr; rw [if_pos (by omega), ← z_tn (i := p1) rfl (by omega)]; omega
    have hP9 := hP.sub (ws' := [(h0, .inr (4, [.ref h1, .ref h2, .int f0, .ref h3, .ref h4, .ref h5, .ref h6, .int f1, .ref h7, .ref h8, .ref h9, .ref h10])), (h1, .inr (0, [.ref h11, .int f2, .ref h12, .int f3, .ref h13, .ref h14, .ref h15, .ref h16, .ref h17, .ref h18, .int f4])), (h11, .inl (zI g, 5, .inl R2))]) [0, 1, 2] rfl
    have hD9 := hD.sub (ws' := [(h0, .inr (4, [.ref h1, .ref h2, .int f0, .ref h3, .ref h4, .ref h5, .ref h6, .int f1, .ref h7, .ref h8, .ref h9, .ref h10])), (h1, .inr (0, [.ref h11, .int f2, .ref h12, .int f3, .ref h13, .ref h14, .ref h15, .ref h16, .ref h17, .ref h18, .int f4])), (h11, .inl (zI g, 5, .inl R2))]) [0, 1, 2] (by decide) rfl
    exact W.iret (v := y0) hx hb hr (fun t ht hW => ⟨⟨y0, R2, rfl, ⟨(by first | omega | decide), hI1, (by rw [if_pos (by omega), eR2])⟩, by rw [ht]; exact hP9, hD9⟩, hS.F ht⟩) hS.2.2 dX4_rule_31
  · skip
    have i_3 : zfI p1.toInt p2.toInt = 0 := i_3
    have hP : va_P g.1 vwCl [(h0, .inr (4, [.ref h1, .ref h2, .int f0, .ref h3, .ref h4, .ref h5, .ref h6, .int f1, .ref h7, .ref h8, .ref h9, .ref h10])), (h1, .inr (0, [.ref h11, .int f2, .ref h12, .int f3, .ref h13, .ref h14, .ref h15, .ref h16, .ref h17, .ref h18, .int f4])), (h11, .inl (zI g, 5, .inl Z5))] H := hP
    have hD : va_D A [(h0, .inr (4, [.ref h1, .ref h2, .int f0, .ref h3, .ref h4, .ref h5, .ref h6, .int f1, .ref h7, .ref h8, .ref h9, .ref h10])), (h1, .inr (0, [.ref h11, .int f2, .ref h12, .int f3, .ref h13, .ref h14, .ref h15, .ref h16, .ref h17, .ref h18, .int f4])), (h11, .inl (zI g, 5, .inl Z5))] := hD
    refine lv_if_ne (tgt := 10) hx hb dX4_rule_5 (by decide) (fun h => absurd h (by decide +kernel)) (fun _ => ?_)
    refine lv_iconst (v := (-1)) hx hb dX4_rule_8 (by decide) ?_
    have hz : zAr Z5 p1.toInt p2.toInt = -1 := by unfold zAr; rw [if_neg (by omega)]
    have : ((-1) : Int32).toInt = (-1) := rfl
    have hP9 := hP.sub (ws' := [(h0, .inr (4, [.ref h1, .ref h2, .int f0, .ref h3, .ref h4, .ref h5, .ref h6, .int f1, .ref h7, .ref h8, .ref h9, .ref h10])), (h1, .inr (0, [.ref h11, .int f2, .ref h12, .int f3, .ref h13, .ref h14, .ref h15, .ref h16, .ref h17, .ref h18, .int f4])), (h11, .inl (zI g, 5, .inl Z5))]) [0, 1, 2] rfl
    have hD9 := hD.sub (ws' := [(h0, .inr (4, [.ref h1, .ref h2, .int f0, .ref h3, .ref h4, .ref h5, .ref h6, .int f1, .ref h7, .ref h8, .ref h9, .ref h10])), (h1, .inr (0, [.ref h11, .int f2, .ref h12, .int f3, .ref h13, .ref h14, .ref h15, .ref h16, .ref h17, .ref h18, .int f4])), (h11, .inl (zI g, 5, .inl Z5))]) [0, 1, 2] (by decide) rfl
    exact W.iret (v := (-1)) hx hb hr (fun t ht hW => ⟨⟨(-1), Z5, rfl, ⟨(by first | omega | decide), hF_Z5, (by rw [if_neg (by omega)])⟩, by rw [ht]; exact hP9, hD9⟩, hS.F ht⟩) hS.2.2 dX4_rule_9
set_option maxHeartbeats 8000000 in
set_option maxRecDepth 100000 in
theorem gX4_buyer (l : Launch) (g : zG) (h0 h1 h2 h3 h4 h5 h6 h7 h8 h9 h10 h11 h12 h13 h14 h15 h16 h17 h18 : Nat) (sz : Nat) (p1 : Int32) (p2 : Int32) (f0 : Int32) (f1 : Int32) (f2 : Int32) (f3 : Int32) (f4 : Int32) (Z7 : Nat → Int32) (Z8 : Nat → Int32) (hf_f2 : 0 ≤ f2.toInt ∧ f2.toInt ≤ 6) (hf_f3 : 0 ≤ f3.toInt ∧ f3.toInt ≤ 5) (hf_f4 : 0 ≤ f4.toInt ∧ f4.toInt ≤ 9999) (hF_Z7 : iSo Z7) (hF_Z8 : iPu Z8) : Met l yX4_buyer (.code yX4_buyer cX4_buyer 4 (some .int) :: zBig) ({ frames := 0, cells := 0, slots := 0, locals := 0 }) (va_Pc [.ref h0, .int p1, .int p2] (zPre g [(h0, .inr (4, [.ref h1, .ref h2, .int f0, .ref h3, .ref h4, .ref h5, .ref h6, .int f1, .ref h7, .ref h8, .ref h9, .ref h10])), (h1, .inr (0, [.ref h11, .int f2, .ref h12, .int f3, .ref h13, .ref h14, .ref h15, .ref h16, .ref h17, .ref h18, .int f4])), (h13, .inl (zI g, 5, .inl Z7)), (h14, .inl (zI g, 5, .inl Z8))] sz)) (va_Qi (fun (r : Int32) (u : Int32 × (Nat → Int32) × (Nat → Int32)) => ((p1.toInt < 0 ∨ 4 < p1.toInt ∨ p2.toInt < 0 ∨ 999 < p2.toInt → r.toInt = -1) ∧ (0 ≤ p1.toInt → p1.toInt ≤ 4 → 0 ≤ p2.toInt → p2.toInt ≤ 999 → (f3.toInt < 0 ∨ 5 ≤ f3.toInt) → r.toInt = -3) ∧ (0 ≤ p1.toInt → p1.toInt ≤ 4 → 0 ≤ p2.toInt → p2.toInt ≤ 999 → 0 ≤ f3.toInt → f3.toInt < 5 → r.toInt = f3.toInt)) ∧ (0 ≤ u.1.toInt ∧ u.1.toInt ≤ 5) ∧ iSo u.2.1 ∧ iPu u.2.2 ∧ (u.1 = (if (0 ≤ p1.toInt ∧ p1.toInt ≤ 4 ∧ 0 ≤ p2.toInt ∧ p2.toInt ≤ 999 ∧ 0 ≤ f3.toInt ∧ f3.toInt < 5) then f3 + 1 else f3)) ∧ (u.2.1 = (if (0 ≤ p1.toInt ∧ p1.toInt ≤ 4 ∧ 0 ≤ p2.toInt ∧ p2.toInt ≤ 999 ∧ 0 ≤ f3.toInt ∧ f3.toInt < 5) then upd Z7 (f3.toInt).toNat p1 else Z7)) ∧ u.2.2 = (if (0 ≤ p1.toInt ∧ p1.toInt ≤ 4 ∧ 0 ≤ p2.toInt ∧ p2.toInt ≤ 999 ∧ 0 ≤ f3.toInt ∧ f3.toInt < 5) then upd Z8 (f3.toInt).toNat p2 else Z8)) (zPost g (fun u : Int32 × (Nat → Int32) × (Nat → Int32) => [(h0, .inr (4, [.ref h1, .ref h2, .int f0, .ref h3, .ref h4, .ref h5, .ref h6, .int f1, .ref h7, .ref h8, .ref h9, .ref h10])), (h1, .inr (0, [.ref h11, .int f2, .ref h12, .int u.1, .ref h13, .ref h14, .ref h15, .ref h16, .ref h17, .ref h18, .int f4])), (h13, .inl (zI g, 5, .inl u.2.1)), (h14, .inl (zI g, 5, .inl u.2.2))]) (va_A [(h0, .inr (4, [.ref h1, .ref h2, .int f0, .ref h3, .ref h4, .ref h5, .ref h6, .int f1, .ref h7, .ref h8, .ref h9, .ref h10])), (h1, .inr (0, [.ref h11, .int f2, .ref h12, .int f3, .ref h13, .ref h14, .ref h15, .ref h16, .ref h17, .ref h18, .int f4])), (h13, .inl (zI g, 5, .inl Z7)), (h14, .inl (zI g, 5, .inl Z8))] sz)) (va_A [(h0, .inr (4, [.ref h1, .ref h2, .int f0, .ref h3, .ref h4, .ref h5, .ref h6, .int f1, .ref h7, .ref h8, .ref h9, .ref h10])), (h1, .inr (0, [.ref h11, .int f2, .ref h12, .int f3, .ref h13, .ref h14, .ref h15, .ref h16, .ref h17, .ref h18, .int f4])), (h13, .inl (zI g, 5, .inl Z7)), (h14, .inl (zI g, 5, .inl Z8))] sz)) 0 0 (va_A [(h0, .inr (4, [.ref h1, .ref h2, .int f0, .ref h3, .ref h4, .ref h5, .ref h6, .int f1, .ref h7, .ref h8, .ref h9, .ref h10])), (h1, .inr (0, [.ref h11, .int f2, .ref h12, .int f3, .ref h13, .ref h14, .ref h15, .ref h16, .ref h17, .ref h18, .int f4])), (h13, .inl (zI g, 5, .inl Z7)), (h14, .inl (zI g, 5, .inl Z8))] sz) := by
  refine zMetI rfl (Nat.le_of_ble_eq_true rfl) ?_
  intro p e s m args below meth c A ls hx hb hml hr hlocks hin hown hts hK hN hZ hP hD hA hS hAe hl
  have hown : s.vm.findClass RX4 = some m.cls := hown
  have hl : lv_has ls 4 [(0, .ref h0), (1, .int p1), (2, .int p2)] := hl
  refine lv_iload_n hx hb dX4_buyer_0 rfl (lv_at hl 1 rfl) ?_
  refine lv_if_lt (tgt := 20) hx hb dX4_buyer_1 (by decide) (fun c_0 => ?_) (fun c_0 => ?_)
  · have i_0 : p1.toInt < 0 := z_lt (rfl) (rfl) c_0
    refine lv_iconst (v := (-1)) hx hb dX4_buyer_20 (by decide) ?_
    have : ((-1) : Int32).toInt = (-1) := rfl
    have hP9 := hP.sub (ws' := [(h0, .inr (4, [.ref h1, .ref h2, .int f0, .ref h3, .ref h4, .ref h5, .ref h6, .int f1, .ref h7, .ref h8, .ref h9, .ref h10])), (h1, .inr (0, [.ref h11, .int f2, .ref h12, .int f3, .ref h13, .ref h14, .ref h15, .ref h16, .ref h17, .ref h18, .int f4])), (h13, .inl (zI g, 5, .inl Z7)), (h14, .inl (zI g, 5, .inl Z8))]) [0, 1, 2, 3] rfl
    have hD9 := hD.sub (ws' := [(h0, .inr (4, [.ref h1, .ref h2, .int f0, .ref h3, .ref h4, .ref h5, .ref h6, .int f1, .ref h7, .ref h8, .ref h9, .ref h10])), (h1, .inr (0, [.ref h11, .int f2, .ref h12, .int f3, .ref h13, .ref h14, .ref h15, .ref h16, .ref h17, .ref h18, .int f4])), (h13, .inl (zI g, 5, .inl Z7)), (h14, .inl (zI g, 5, .inl Z8))]) [0, 1, 2, 3] (by decide) rfl
    exact W.iret (v := (-1)) hx hb hr (fun t ht hW => ⟨⟨(-1), ⟨f3, Z7, Z8⟩, rfl, ⟨⟨(by first | omega | decide), (by first | omega | decide), (by first | omega | decide)⟩, ⟨show 0 ≤ f3.toInt from by omega, show f3.toInt ≤ 5 from by omega⟩, hF_Z7, hF_Z8, (by rw [if_neg (by omega)]), (by rw [if_neg (by omega)]), (by rw [if_neg (by omega)])⟩, by rw [ht]; exact hP9, hD9⟩, hS.F ht⟩) hS.2.2 dX4_buyer_21
  · have i_0 : 0 ≤ p1.toInt := z_nlt (rfl) (rfl) c_0
    refine lv_iload_n hx hb dX4_buyer_4 rfl (lv_at hl 1 rfl) ?_
    refine lv_iconst (v := 4) hx hb dX4_buyer_5 (by decide) ?_
    refine lv_icmp_gt (tgt := 20) hx hb dX4_buyer_6 (by decide) (fun c_1 => ?_) (fun c_1 => ?_)
    · have i_1 : 4 < p1.toInt := z_lt (rfl) (rfl) c_1
      refine lv_iconst (v := (-1)) hx hb dX4_buyer_20 (by decide) ?_
      have : ((-1) : Int32).toInt = (-1) := rfl
      have hP9 := hP.sub (ws' := [(h0, .inr (4, [.ref h1, .ref h2, .int f0, .ref h3, .ref h4, .ref h5, .ref h6, .int f1, .ref h7, .ref h8, .ref h9, .ref h10])), (h1, .inr (0, [.ref h11, .int f2, .ref h12, .int f3, .ref h13, .ref h14, .ref h15, .ref h16, .ref h17, .ref h18, .int f4])), (h13, .inl (zI g, 5, .inl Z7)), (h14, .inl (zI g, 5, .inl Z8))]) [0, 1, 2, 3] rfl
      have hD9 := hD.sub (ws' := [(h0, .inr (4, [.ref h1, .ref h2, .int f0, .ref h3, .ref h4, .ref h5, .ref h6, .int f1, .ref h7, .ref h8, .ref h9, .ref h10])), (h1, .inr (0, [.ref h11, .int f2, .ref h12, .int f3, .ref h13, .ref h14, .ref h15, .ref h16, .ref h17, .ref h18, .int f4])), (h13, .inl (zI g, 5, .inl Z7)), (h14, .inl (zI g, 5, .inl Z8))]) [0, 1, 2, 3] (by decide) rfl
      exact W.iret (v := (-1)) hx hb hr (fun t ht hW => ⟨⟨(-1), ⟨f3, Z7, Z8⟩, rfl, ⟨⟨(by first | omega | decide), (by first | omega | decide), (by first | omega | decide)⟩, ⟨show 0 ≤ f3.toInt from by omega, show f3.toInt ≤ 5 from by omega⟩, hF_Z7, hF_Z8, (by rw [if_neg (by omega)]), (by rw [if_neg (by omega)]), (by rw [if_neg (by omega)])⟩, by rw [ht]; exact hP9, hD9⟩, hS.F ht⟩) hS.2.2 dX4_buyer_21
    · have i_1 : p1.toInt ≤ 4 := z_nlt (rfl) (rfl) c_1
      refine lv_iload_n hx hb dX4_buyer_9 rfl (lv_at hl 2 rfl) ?_
      refine lv_if_lt (tgt := 20) hx hb dX4_buyer_10 (by decide) (fun c_2 => ?_) (fun c_2 => ?_)
      · have i_2 : p2.toInt < 0 := z_lt (rfl) (rfl) c_2
        refine lv_iconst (v := (-1)) hx hb dX4_buyer_20 (by decide) ?_
        have : ((-1) : Int32).toInt = (-1) := rfl
        have hP9 := hP.sub (ws' := [(h0, .inr (4, [.ref h1, .ref h2, .int f0, .ref h3, .ref h4, .ref h5, .ref h6, .int f1, .ref h7, .ref h8, .ref h9, .ref h10])), (h1, .inr (0, [.ref h11, .int f2, .ref h12, .int f3, .ref h13, .ref h14, .ref h15, .ref h16, .ref h17, .ref h18, .int f4])), (h13, .inl (zI g, 5, .inl Z7)), (h14, .inl (zI g, 5, .inl Z8))]) [0, 1, 2, 3] rfl
        have hD9 := hD.sub (ws' := [(h0, .inr (4, [.ref h1, .ref h2, .int f0, .ref h3, .ref h4, .ref h5, .ref h6, .int f1, .ref h7, .ref h8, .ref h9, .ref h10])), (h1, .inr (0, [.ref h11, .int f2, .ref h12, .int f3, .ref h13, .ref h14, .ref h15, .ref h16, .ref h17, .ref h18, .int f4])), (h13, .inl (zI g, 5, .inl Z7)), (h14, .inl (zI g, 5, .inl Z8))]) [0, 1, 2, 3] (by decide) rfl
        exact W.iret (v := (-1)) hx hb hr (fun t ht hW => ⟨⟨(-1), ⟨f3, Z7, Z8⟩, rfl, ⟨⟨(by first | omega | decide), (by first | omega | decide), (by first | omega | decide)⟩, ⟨show 0 ≤ f3.toInt from by omega, show f3.toInt ≤ 5 from by omega⟩, hF_Z7, hF_Z8, (by rw [if_neg (by omega)]), (by rw [if_neg (by omega)]), (by rw [if_neg (by omega)])⟩, by rw [ht]; exact hP9, hD9⟩, hS.F ht⟩) hS.2.2 dX4_buyer_21
      · have i_2 : 0 ≤ p2.toInt := z_nlt (rfl) (rfl) c_2
        refine lv_iload_n hx hb dX4_buyer_13 rfl (lv_at hl 2 rfl) ?_
        refine lv_sipush (v := 999) hx hb dX4_buyer_14 (by decide) ?_
        refine lv_icmp_le (tgt := 22) hx hb dX4_buyer_17 (by decide) (fun c_3 => ?_) (fun c_3 => ?_)
        · have i_3 : p2.toInt ≤ 999 := z_le (rfl) (rfl) c_3
          refine lv_aload_n hx hb dX4_buyer_22 rfl (lv_at hl 0 rfl) ?_
          refine va_get (D := g.1) (ci := 4) (v := .ref h1) (C := RX4) (T := TX4) (N := 12) hx hb hts zl_X4 hown hK hP 0 rfl rfl 0 (by decide) (hts _ m_f_RX4_10) (fun _ h => h) rfl dX4_buyer_23 ?_
          refine va_getN (D := g.1) (ci := 0) (v := .int f3) (C := RX0) (T := TX0) (N := 11) hx hb hts zl_X0 hown hK hP 1 rfl rfl 3 (by decide) (hN.f 7 (q := (RX4, 71, "FishSteps$Books", "buyers", "I")) rfl) (fun _ h => h) rfl dX4_buyer_26 ?_
          refine lv_if_lt (tgt := 43) hx hb dX4_buyer_29 (by decide) (fun c_4 => absurd (show f3.toInt < 0 from z_lt (rfl) (rfl) c_4) (by omega)) (fun c_4 => ?_)
          have i_4 : 0 ≤ f3.toInt := z_nlt (rfl) (rfl) c_4
          refine lv_aload_n hx hb dX4_buyer_32 rfl (lv_at hl 0 rfl) ?_
          refine va_get (D := g.1) (ci := 4) (v := .ref h1) (C := RX4) (T := TX4) (N := 12) hx hb hts zl_X4 hown hK hP 0 rfl rfl 0 (by decide) (hts _ m_f_RX4_10) (fun _ h => h) rfl dX4_buyer_33 ?_
          refine va_getN (D := g.1) (ci := 0) (v := .int f3) (C := RX0) (T := TX0) (N := 11) hx hb hts zl_X0 hown hK hP 1 rfl rfl 3 (by decide) (hN.f 7 (q := (RX4, 71, "FishSteps$Books", "buyers", "I")) rfl) (fun _ h => h) rfl dX4_buyer_36 ?_
          refine lv_iconst (v := 5) hx hb dX4_buyer_39 (by decide) ?_
          refine lv_icmp_lt (tgt := 46) hx hb dX4_buyer_40 (by decide) (fun c_5 => ?_) (fun c_5 => ?_)
          · have i_5 : f3.toInt < 5 := z_lt (rfl) (rfl) c_5
            refine lv_aload_n hx hb dX4_buyer_46 rfl (lv_at hl 0 rfl) ?_
            refine va_get (D := g.1) (ci := 4) (v := .ref h1) (C := RX4) (T := TX4) (N := 12) hx hb hts zl_X4 hown hK hP 0 rfl rfl 0 (by decide) (hts _ m_f_RX4_10) (fun _ h => h) rfl dX4_buyer_47 ?_
            refine va_getN (D := g.1) (ci := 0) (v := .int f3) (C := RX0) (T := TX0) (N := 11) hx hb hts zl_X0 hown hK hP 1 rfl rfl 3 (by decide) (hN.f 7 (q := (RX4, 71, "FishSteps$Books", "buyers", "I")) rfl) (fun _ h => h) rfl dX4_buyer_50 ?_
            refine lv_istore_n (lv' := [(3, .int f3), (0, .ref h0), (1, .int p1), (2, .int p2)]) hx hb dX4_buyer_53 rfl hl (by decide) rfl (fun ls hl => ?_)
            refine lv_aload_n hx hb dX4_buyer_54 rfl (lv_at hl 1 rfl) ?_
            refine va_get (D := g.1) (ci := 4) (v := .ref h1) (C := RX4) (T := TX4) (N := 12) hx hb hts zl_X4 hown hK hP 0 rfl rfl 0 (by decide) (hts _ m_f_RX4_10) (fun _ h => h) rfl dX4_buyer_55 ?_
            refine va_getN (D := g.1) (ci := 0) (v := .ref h13) (C := RX0) (T := TX0) (N := 11) hx hb hts zl_X0 hown hK hP 1 rfl rfl 4 (by decide) (hN.f 9 (q := (RX4, 74, "FishSteps$Books", "sort", "[I")) rfl) (fun _ h => h) rfl dX4_buyer_58 ?_
            refine lv_iload_n hx hb dX4_buyer_61 rfl (lv_at hl 0 rfl) ?_
            refine lv_iload_n hx hb dX4_buyer_62 rfl (lv_at hl 2 rfl) ?_
            refine va_iast (D := g.1) hx hb hK hP hD hS 2 0 rfl rfl (vp_in_iff.mpr ⟨by omega, by omega⟩) dX4_buyer_63 (fun H locs hP hD hS => ?_)
            have hP : va_P g.1 vwCl [(h0, .inr (4, [.ref h1, .ref h2, .int f0, .ref h3, .ref h4, .ref h5, .ref h6, .int f1, .ref h7, .ref h8, .ref h9, .ref h10])), (h1, .inr (0, [.ref h11, .int f2, .ref h12, .int f3, .ref h13, .ref h14, .ref h15, .ref h16, .ref h17, .ref h18, .int f4])), (h13, .inl (zI g, 5, .inl (upd Z7 f3.toNatClampNeg p1))), (h14, .inl (zI g, 5, .inl Z8))] H := hP
            have hD : va_D A [(h0, .inr (4, [.ref h1, .ref h2, .int f0, .ref h3, .ref h4, .ref h5, .ref h6, .int f1, .ref h7, .ref h8, .ref h9, .ref h10])), (h1, .inr (0, [.ref h11, .int f2, .ref h12, .int f3, .ref h13, .ref h14, .ref h15, .ref h16, .ref h17, .ref h18, .int f4])), (h13, .inl (zI g, 5, .inl (upd Z7 f3.toNatClampNeg p1))), (h14, .inl (zI g, 5, .inl Z8))] := hD
            have hI0 : iSo (upd Z7 f3.toNatClampNeg p1) := i_put (N := 5) (lo := 0) (hi := 4) hF_Z7 (by first | omega | decide) (by first | omega | decide)
            obtain ⟨R1, eR1⟩ : ∃ z : Nat → Int32, z = (upd Z7 f3.toNatClampNeg p1) := ⟨_, rfl⟩
            rw [← eR1] at hP hD hI0
            refine lv_aload_n hx hb dX4_buyer_64 rfl (lv_at hl 1 rfl) ?_
            refine va_get (D := g.1) (ci := 4) (v := .ref h1) (C := RX4) (T := TX4) (N := 12) hx hb hts zl_X4 hown hK hP 0 rfl rfl 0 (by decide) (hts _ m_f_RX4_10) (fun _ h => h) rfl dX4_buyer_65 ?_
            refine va_getN (D := g.1) (ci := 0) (v := .ref h14) (C := RX0) (T := TX0) (N := 11) hx hb hts zl_X0 hown hK hP 1 rfl rfl 5 (by decide) (hN.f 12 (q := (RX4, 77, "FishSteps$Books", "purse", "[I")) rfl) (fun _ h => h) rfl dX4_buyer_68 ?_
            refine lv_iload_n hx hb dX4_buyer_71 rfl (lv_at hl 0 rfl) ?_
            refine lv_iload_n hx hb dX4_buyer_72 rfl (lv_at hl 3 rfl) ?_
            refine va_iast (D := g.1) hx hb hK hP hD hS 3 0 rfl rfl (vp_in_iff.mpr ⟨by omega, by omega⟩) dX4_buyer_73 (fun H locs hP hD hS => ?_)
            have hP : va_P g.1 vwCl [(h0, .inr (4, [.ref h1, .ref h2, .int f0, .ref h3, .ref h4, .ref h5, .ref h6, .int f1, .ref h7, .ref h8, .ref h9, .ref h10])), (h1, .inr (0, [.ref h11, .int f2, .ref h12, .int f3, .ref h13, .ref h14, .ref h15, .ref h16, .ref h17, .ref h18, .int f4])), (h13, .inl (zI g, 5, .inl R1)), (h14, .inl (zI g, 5, .inl (upd Z8 f3.toNatClampNeg p2)))] H := hP
            have hD : va_D A [(h0, .inr (4, [.ref h1, .ref h2, .int f0, .ref h3, .ref h4, .ref h5, .ref h6, .int f1, .ref h7, .ref h8, .ref h9, .ref h10])), (h1, .inr (0, [.ref h11, .int f2, .ref h12, .int f3, .ref h13, .ref h14, .ref h15, .ref h16, .ref h17, .ref h18, .int f4])), (h13, .inl (zI g, 5, .inl R1)), (h14, .inl (zI g, 5, .inl (upd Z8 f3.toNatClampNeg p2)))] := hD
            have hI2 : iPu (upd Z8 f3.toNatClampNeg p2) := i_put (N := 5) (lo := (-99)) (hi := 9999) hF_Z8 (by first | omega | decide) (by first | omega | decide)
            obtain ⟨R3, eR3⟩ : ∃ z : Nat → Int32, z = (upd Z8 f3.toNatClampNeg p2) := ⟨_, rfl⟩
            rw [← eR3] at hP hD hI2
            refine lv_aload_n hx hb dX4_buyer_74 rfl (lv_at hl 1 rfl) ?_
            refine va_get (D := g.1) (ci := 4) (v := .ref h1) (C := RX4) (T := TX4) (N := 12) hx hb hts zl_X4 hown hK hP 0 rfl rfl 0 (by decide) (hts _ m_f_RX4_10) (fun _ h => h) rfl dX4_buyer_75 ?_
            refine lv_iload_n hx hb dX4_buyer_78 rfl (lv_at hl 0 rfl) ?_
            refine lv_iconst (v := 1) hx hb dX4_buyer_79 (by decide) ?_
            refine lv_iadd hx hb dX4_buyer_80 ?_
            refine lv_topi (fun y4 ey4 => ?_)
            have qy4_0 : y4.toInt = f3.toInt + 1 := zi_add ey4 (rfl) (rfl) (by omega) (by omega)
            refine va_putN (D := g.1) (ci := 0) (v := .int y4) (ty := .int) (C := RX0) (T := TX0) (N := 11) hx hb hts zl_X0 tyX0 tyX0_ok nmX0 hown hK hP hD hS 1 rfl rfl 3 (by decide) (hN.f 7 (q := (RX4, 71, "FishSteps$Books", "buyers", "I")) rfl) (fun _ h => h) rfl (by decide +kernel) rfl rfl (Nat.le_of_ble_eq_true rfl) dX4_buyer_81 (fun H locs hP hD hS => ?_)
            have hP : va_P g.1 vwCl [(h0, .inr (4, [.ref h1, .ref h2, .int f0, .ref h3, .ref h4, .ref h5, .ref h6, .int f1, .ref h7, .ref h8, .ref h9, .ref h10])), (h1, .inr (0, [.ref h11, .int f2, .ref h12, .int y4, .ref h13, .ref h14, .ref h15, .ref h16, .ref h17, .ref h18, .int f4])), (h13, .inl (zI g, 5, .inl R1)), (h14, .inl (zI g, 5, .inl R3))] H := hP
            have hD : va_D A [(h0, .inr (4, [.ref h1, .ref h2, .int f0, .ref h3, .ref h4, .ref h5, .ref h6, .int f1, .ref h7, .ref h8, .ref h9, .ref h10])), (h1, .inr (0, [.ref h11, .int f2, .ref h12, .int y4, .ref h13, .ref h14, .ref h15, .ref h16, .ref h17, .ref h18, .int f4])), (h13, .inl (zI g, 5, .inl R1)), (h14, .inl (zI g, 5, .inl R3))] := hD
            refine lv_iload_n hx hb dX4_buyer_84 rfl (lv_at hl 0 rfl) ?_
            have hP9 := hP.sub (ws' := [(h0, .inr (4, [.ref h1, .ref h2, .int f0, .ref h3, .ref h4, .ref h5, .ref h6, .int f1, .ref h7, .ref h8, .ref h9, .ref h10])), (h1, .inr (0, [.ref h11, .int f2, .ref h12, .int y4, .ref h13, .ref h14, .ref h15, .ref h16, .ref h17, .ref h18, .int f4])), (h13, .inl (zI g, 5, .inl R1)), (h14, .inl (zI g, 5, .inl R3))]) [0, 1, 2, 3] rfl
            have hD9 := hD.sub (ws' := [(h0, .inr (4, [.ref h1, .ref h2, .int f0, .ref h3, .ref h4, .ref h5, .ref h6, .int f1, .ref h7, .ref h8, .ref h9, .ref h10])), (h1, .inr (0, [.ref h11, .int f2, .ref h12, .int y4, .ref h13, .ref h14, .ref h15, .ref h16, .ref h17, .ref h18, .int f4])), (h13, .inl (zI g, 5, .inl R1)), (h14, .inl (zI g, 5, .inl R3))]) [0, 1, 2, 3] (by decide) rfl
            exact W.iret (v := f3) hx hb hr (fun t ht hW => ⟨⟨f3, ⟨y4, R1, R3⟩, rfl, ⟨⟨(by first | omega | decide), (by first | omega | decide), (by first | omega | decide)⟩, ⟨show 0 ≤ y4.toInt from by omega, show y4.toInt ≤ 5 from by omega⟩, hI0, hI2, (by rw [if_pos (by omega), ey4]), (by rw [if_pos (by omega), eR1, z_tn (i := f3) (a := f3.toInt) rfl (by omega)]), (by rw [if_pos (by omega), eR3, z_tn (i := f3) (a := f3.toInt) rfl (by omega)])⟩, by rw [ht]; exact hP9, hD9⟩, hS.F ht⟩) hS.2.2 dX4_buyer_85
          · have i_5 : 5 ≤ f3.toInt := z_nlt (rfl) (rfl) c_5
            refine lv_bipush (v := (-3)) hx hb dX4_buyer_43 (by decide) ?_
            have : ((-3) : Int32).toInt = (-3) := rfl
            have hP9 := hP.sub (ws' := [(h0, .inr (4, [.ref h1, .ref h2, .int f0, .ref h3, .ref h4, .ref h5, .ref h6, .int f1, .ref h7, .ref h8, .ref h9, .ref h10])), (h1, .inr (0, [.ref h11, .int f2, .ref h12, .int f3, .ref h13, .ref h14, .ref h15, .ref h16, .ref h17, .ref h18, .int f4])), (h13, .inl (zI g, 5, .inl Z7)), (h14, .inl (zI g, 5, .inl Z8))]) [0, 1, 2, 3] rfl
            have hD9 := hD.sub (ws' := [(h0, .inr (4, [.ref h1, .ref h2, .int f0, .ref h3, .ref h4, .ref h5, .ref h6, .int f1, .ref h7, .ref h8, .ref h9, .ref h10])), (h1, .inr (0, [.ref h11, .int f2, .ref h12, .int f3, .ref h13, .ref h14, .ref h15, .ref h16, .ref h17, .ref h18, .int f4])), (h13, .inl (zI g, 5, .inl Z7)), (h14, .inl (zI g, 5, .inl Z8))]) [0, 1, 2, 3] (by decide) rfl
            exact W.iret (v := (-3)) hx hb hr (fun t ht hW => ⟨⟨(-3), ⟨f3, Z7, Z8⟩, rfl, ⟨⟨(by first | omega | decide), (by first | omega | decide), (by first | omega | decide)⟩, ⟨show 0 ≤ f3.toInt from by omega, show f3.toInt ≤ 5 from by omega⟩, hF_Z7, hF_Z8, (by rw [if_neg (by omega)]), (by rw [if_neg (by omega)]), (by rw [if_neg (by omega)])⟩, by rw [ht]; exact hP9, hD9⟩, hS.F ht⟩) hS.2.2 dX4_buyer_45
        · have i_3 : 999 < p2.toInt := z_nle (rfl) (rfl) c_3
          refine lv_iconst (v := (-1)) hx hb dX4_buyer_20 (by decide) ?_
          have : ((-1) : Int32).toInt = (-1) := rfl
          have hP9 := hP.sub (ws' := [(h0, .inr (4, [.ref h1, .ref h2, .int f0, .ref h3, .ref h4, .ref h5, .ref h6, .int f1, .ref h7, .ref h8, .ref h9, .ref h10])), (h1, .inr (0, [.ref h11, .int f2, .ref h12, .int f3, .ref h13, .ref h14, .ref h15, .ref h16, .ref h17, .ref h18, .int f4])), (h13, .inl (zI g, 5, .inl Z7)), (h14, .inl (zI g, 5, .inl Z8))]) [0, 1, 2, 3] rfl
          have hD9 := hD.sub (ws' := [(h0, .inr (4, [.ref h1, .ref h2, .int f0, .ref h3, .ref h4, .ref h5, .ref h6, .int f1, .ref h7, .ref h8, .ref h9, .ref h10])), (h1, .inr (0, [.ref h11, .int f2, .ref h12, .int f3, .ref h13, .ref h14, .ref h15, .ref h16, .ref h17, .ref h18, .int f4])), (h13, .inl (zI g, 5, .inl Z7)), (h14, .inl (zI g, 5, .inl Z8))]) [0, 1, 2, 3] (by decide) rfl
          exact W.iret (v := (-1)) hx hb hr (fun t ht hW => ⟨⟨(-1), ⟨f3, Z7, Z8⟩, rfl, ⟨⟨(by first | omega | decide), (by first | omega | decide), (by first | omega | decide)⟩, ⟨show 0 ≤ f3.toInt from by omega, show f3.toInt ≤ 5 from by omega⟩, hF_Z7, hF_Z8, (by rw [if_neg (by omega)]), (by rw [if_neg (by omega)]), (by rw [if_neg (by omega)])⟩, by rw [ht]; exact hP9, hD9⟩, hS.F ht⟩) hS.2.2 dX4_buyer_21
set_option maxHeartbeats 8000000 in
set_option maxRecDepth 100000 in
theorem gX0_isThere (l : Launch) (g : zG) (h0 h1 h2 h3 h4 h5 h6 h7 h8 : Nat) (sz : Nat) (p1 : Int32) (f0 : Int32) (f1 : Int32) (f2 : Int32) (hf_f0 : 0 ≤ f0.toInt ∧ f0.toInt ≤ 6) (hf_f1 : 0 ≤ f1.toInt ∧ f1.toInt ≤ 5) (hf_f2 : 0 ≤ f2.toInt ∧ f2.toInt ≤ 9999) : Met l yX0_isThere (.code yX0_isThere cX0_isThere 2 (some .boolean) :: zBig) ({ frames := 0, cells := 0, slots := 0, locals := 0 }) (va_Pc [.ref h0, .int p1] (zPre g [(h0, .inr (0, [.ref h1, .int f0, .ref h2, .int f1, .ref h3, .ref h4, .ref h5, .ref h6, .ref h7, .ref h8, .int f2]))] sz)) (va_Qi (fun (r : Int32) (u : Nat) => (p1.toInt < 0 ∧ r = 0) ∨ (0 ≤ p1.toInt ∧ 5 ≤ p1.toInt ∧ r = 0) ∨ (0 ≤ p1.toInt ∧ p1.toInt < 5 ∧ f1.toInt ≤ p1.toInt ∧ r = 0) ∨ (0 ≤ p1.toInt ∧ p1.toInt < 5 ∧ p1.toInt < f1.toInt ∧ r = 1)) (zPost g (fun u : Nat => [(h0, .inr (0, [.ref h1, .int f0, .ref h2, .int f1, .ref h3, .ref h4, .ref h5, .ref h6, .ref h7, .ref h8, .int f2]))]) (va_A [(h0, .inr (0, [.ref h1, .int f0, .ref h2, .int f1, .ref h3, .ref h4, .ref h5, .ref h6, .ref h7, .ref h8, .int f2]))] sz)) (va_A [(h0, .inr (0, [.ref h1, .int f0, .ref h2, .int f1, .ref h3, .ref h4, .ref h5, .ref h6, .ref h7, .ref h8, .int f2]))] sz)) 0 0 (va_A [(h0, .inr (0, [.ref h1, .int f0, .ref h2, .int f1, .ref h3, .ref h4, .ref h5, .ref h6, .ref h7, .ref h8, .int f2]))] sz) := by
  refine zMetI rfl (Nat.le_of_ble_eq_true rfl) ?_
  intro p e s m args below meth c A ls hx hb hml hr hlocks hin hown hts hK hN hZ hP hD hA hS hAe hl
  have hown : s.vm.findClass RX0 = some m.cls := hown
  have hl : lv_has ls 2 [(0, .ref h0), (1, .int p1)] := hl
  refine lv_iload_n hx hb dX0_isThere_0 rfl (lv_at hl 1 rfl) ?_
  refine lv_if_lt (tgt := 21) hx hb dX0_isThere_1 (by decide) (fun c_0 => ?_) (fun c_0 => ?_)
  · have i_0 : p1.toInt < 0 := z_lt (rfl) (rfl) c_0
    refine lv_iconst (v := 0) hx hb dX0_isThere_21 (by decide) ?_
    have hP9 := hP.sub (ws' := [(h0, .inr (0, [.ref h1, .int f0, .ref h2, .int f1, .ref h3, .ref h4, .ref h5, .ref h6, .ref h7, .ref h8, .int f2]))]) [0] rfl
    have hD9 := hD.sub (ws' := [(h0, .inr (0, [.ref h1, .int f0, .ref h2, .int f1, .ref h3, .ref h4, .ref h5, .ref h6, .ref h7, .ref h8, .int f2]))]) [0] (by decide) rfl
    exact W.zret (v := 0) hx hb hr (by decide) (fun t ht hW => ⟨⟨0, (0 : Nat), rfl, Or.inl ⟨i_0, rfl⟩, by rw [ht]; exact hP9, hD9⟩, hS.F ht⟩) hS.2.2 dX0_isThere_22
  · have i_0 : 0 ≤ p1.toInt := z_nlt (rfl) (rfl) c_0
    refine lv_iload_n hx hb dX0_isThere_4 rfl (lv_at hl 1 rfl) ?_
    refine lv_iconst (v := 5) hx hb dX0_isThere_5 (by decide) ?_
    refine lv_icmp_ge (tgt := 21) hx hb dX0_isThere_6 (by decide) (fun c_1 => ?_) (fun c_1 => ?_)
    · have i_1 : 5 ≤ p1.toInt := z_le (rfl) (rfl) c_1
      refine lv_iconst (v := 0) hx hb dX0_isThere_21 (by decide) ?_
      have hP9 := hP.sub (ws' := [(h0, .inr (0, [.ref h1, .int f0, .ref h2, .int f1, .ref h3, .ref h4, .ref h5, .ref h6, .ref h7, .ref h8, .int f2]))]) [0] rfl
      have hD9 := hD.sub (ws' := [(h0, .inr (0, [.ref h1, .int f0, .ref h2, .int f1, .ref h3, .ref h4, .ref h5, .ref h6, .ref h7, .ref h8, .int f2]))]) [0] (by decide) rfl
      exact W.zret (v := 0) hx hb hr (by decide) (fun t ht hW => ⟨⟨0, (0 : Nat), rfl, Or.inr (Or.inl ⟨i_0, i_1, rfl⟩), by rw [ht]; exact hP9, hD9⟩, hS.F ht⟩) hS.2.2 dX0_isThere_22
    · have i_1 : p1.toInt < 5 := z_nle (rfl) (rfl) c_1
      refine lv_iload_n hx hb dX0_isThere_9 rfl (lv_at hl 1 rfl) ?_
      refine lv_aload_n hx hb dX0_isThere_10 rfl (lv_at hl 0 rfl) ?_
      refine va_get (D := g.1) (ci := 0) (v := .int f1) (C := RX0) (T := TX0) (N := 11) hx hb hts zl_X0 hown hK hP 0 rfl rfl 3 (by decide) (hts _ m_f_RX0_30) (fun _ h => h) rfl dX0_isThere_11 ?_
      refine lv_icmp_ge (tgt := 21) hx hb dX0_isThere_14 (by decide) (fun c_2 => ?_) (fun c_2 => ?_)
      · have i_2 : f1.toInt ≤ p1.toInt := z_le (rfl) (rfl) c_2
        refine lv_iconst (v := 0) hx hb dX0_isThere_21 (by decide) ?_
        have hP9 := hP.sub (ws' := [(h0, .inr (0, [.ref h1, .int f0, .ref h2, .int f1, .ref h3, .ref h4, .ref h5, .ref h6, .ref h7, .ref h8, .int f2]))]) [0] rfl
        have hD9 := hD.sub (ws' := [(h0, .inr (0, [.ref h1, .int f0, .ref h2, .int f1, .ref h3, .ref h4, .ref h5, .ref h6, .ref h7, .ref h8, .int f2]))]) [0] (by decide) rfl
        exact W.zret (v := 0) hx hb hr (by decide) (fun t ht hW => ⟨⟨0, (0 : Nat), rfl, Or.inr (Or.inr (Or.inl ⟨i_0, i_1, i_2, rfl⟩)), by rw [ht]; exact hP9, hD9⟩, hS.F ht⟩) hS.2.2 dX0_isThere_22
      · have i_2 : p1.toInt < f1.toInt := z_nle (rfl) (rfl) c_2
        refine lv_iconst (v := 1) hx hb dX0_isThere_17 (by decide) ?_
        refine lv_goto (tgt := 22) hx hb dX0_isThere_18 (by decide) ?_
        have hP9 := hP.sub (ws' := [(h0, .inr (0, [.ref h1, .int f0, .ref h2, .int f1, .ref h3, .ref h4, .ref h5, .ref h6, .ref h7, .ref h8, .int f2]))]) [0] rfl
        have hD9 := hD.sub (ws' := [(h0, .inr (0, [.ref h1, .int f0, .ref h2, .int f1, .ref h3, .ref h4, .ref h5, .ref h6, .ref h7, .ref h8, .int f2]))]) [0] (by decide) rfl
        exact W.zret (v := 1) hx hb hr (by decide) (fun t ht hW => ⟨⟨1, (0 : Nat), rfl, Or.inr (Or.inr (Or.inr (⟨i_0, i_1, i_2, rfl⟩))), by rw [ht]; exact hP9, hD9⟩, hS.F ht⟩) hS.2.2 dX0_isThere_22
set_option maxHeartbeats 8000000 in
set_option maxRecDepth 100000 in
theorem gX4_isKind (l : Launch) (g : zG) (sz : Nat) (p0 : Int32) : Met l yX4_isKind (.code yX4_isKind cX4_isKind 1 (some .boolean) :: zBig) ({ frames := 0, cells := 0, slots := 0, locals := 0 }) (va_Pc [.int p0] (zPre g [] sz)) (va_Qi (fun (r : Int32) (u : Nat) => (p0.toInt < 0 ∧ r = 0) ∨ (0 ≤ p0.toInt ∧ 4 ≤ p0.toInt ∧ r = 0) ∨ (0 ≤ p0.toInt ∧ p0.toInt < 4 ∧ r = 1)) (zPost g (fun u : Nat => []) (va_A [] sz)) (va_A [] sz)) 0 0 (va_A [] sz) := by
  refine zMetI rfl (Nat.le_of_ble_eq_true rfl) ?_
  intro p e s m args below meth c A ls hx hb hml hr hlocks hin hown hts hK hN hZ hP hD hA hS hAe hl
  have hown : s.vm.findClass RX4 = some m.cls := hown
  have hl : lv_has ls 1 [(0, .int p0)] := hl
  refine lv_iload_n hx hb dX4_isKind_0 rfl (lv_at hl 0 rfl) ?_
  refine lv_if_lt (tgt := 13) hx hb dX4_isKind_1 (by decide) (fun c_0 => ?_) (fun c_0 => ?_)
  · have i_0 : p0.toInt < 0 := z_lt (rfl) (rfl) c_0
    refine lv_iconst (v := 0) hx hb dX4_isKind_13 (by decide) ?_
    have hP9 := hP.sub (ws' := []) [] rfl
    have hD9 := hD.sub (ws' := []) [] (by decide) rfl
    exact W.zret (v := 0) hx hb hr (by decide) (fun t ht hW => ⟨⟨0, (0 : Nat), rfl, Or.inl ⟨i_0, rfl⟩, by rw [ht]; exact hP9, hD9⟩, hS.F ht⟩) hS.2.2 dX4_isKind_14
  · have i_0 : 0 ≤ p0.toInt := z_nlt (rfl) (rfl) c_0
    refine lv_iload_n hx hb dX4_isKind_4 rfl (lv_at hl 0 rfl) ?_
    refine lv_iconst (v := 4) hx hb dX4_isKind_5 (by decide) ?_
    refine lv_icmp_ge (tgt := 13) hx hb dX4_isKind_6 (by decide) (fun c_1 => ?_) (fun c_1 => ?_)
    · have i_1 : 4 ≤ p0.toInt := z_le (rfl) (rfl) c_1
      refine lv_iconst (v := 0) hx hb dX4_isKind_13 (by decide) ?_
      have hP9 := hP.sub (ws' := []) [] rfl
      have hD9 := hD.sub (ws' := []) [] (by decide) rfl
      exact W.zret (v := 0) hx hb hr (by decide) (fun t ht hW => ⟨⟨0, (0 : Nat), rfl, Or.inr (Or.inl ⟨i_0, i_1, rfl⟩), by rw [ht]; exact hP9, hD9⟩, hS.F ht⟩) hS.2.2 dX4_isKind_14
    · have i_1 : p0.toInt < 4 := z_nle (rfl) (rfl) c_1
      refine lv_iconst (v := 1) hx hb dX4_isKind_9 (by decide) ?_
      refine lv_goto (tgt := 14) hx hb dX4_isKind_10 (by decide) ?_
      have hP9 := hP.sub (ws' := []) [] rfl
      have hD9 := hD.sub (ws' := []) [] (by decide) rfl
      exact W.zret (v := 1) hx hb hr (by decide) (fun t ht hW => ⟨⟨1, (0 : Nat), rfl, Or.inr (Or.inr (⟨i_0, i_1, rfl⟩)), by rw [ht]; exact hP9, hD9⟩, hS.F ht⟩) hS.2.2 dX4_isKind_14
set_option maxHeartbeats 8000000 in
set_option maxRecDepth 100000 in
theorem gX4_worth (l : Launch) (g : zG) (h0 h1 h2 h3 h4 h5 h6 h7 h8 h9 h10 h11 h12 h13 h14 h15 h16 h17 h18 : Nat) (sz : Nat) (p1 : Int32) (p2 : Int32) (p3 : Int32) (f0 : Int32) (f1 : Int32) (f2 : Int32) (f3 : Int32) (f4 : Int32) (Z10 : Nat → Int32) (hf_f2 : 0 ≤ f2.toInt ∧ f2.toInt ≤ 6) (hf_f3 : 0 ≤ f3.toInt ∧ f3.toInt ≤ 5) (hf_f4 : 0 ≤ f4.toInt ∧ f4.toInt ≤ 9999) (hF_Z10 : iWo Z10) : Met l yX4_worth (.code yX4_worth cX4_worth 6 (some .int) :: zBig) ({ frames := 1, cells := 0, slots := 0, locals := 21 }) (va_Pc [.ref h0, .int p1, .int p2, .int p3] (zPre g [(h0, .inr (4, [.ref h1, .ref h2, .int f0, .ref h3, .ref h4, .ref h5, .ref h6, .int f1, .ref h7, .ref h8, .ref h9, .ref h10])), (h1, .inr (0, [.ref h11, .int f2, .ref h12, .int f3, .ref h13, .ref h14, .ref h15, .ref h16, .ref h17, .ref h18, .int f4])), (h16, .inl (zI g, 20, .inl Z10))] sz)) (va_Qi (fun (r : Int32) (u : (Nat → Int32)) => ((p1.toInt < 0 ∨ 5 ≤ p1.toInt ∨ f3.toInt ≤ p1.toInt ∨ p2.toInt < 0 ∨ 3 < p2.toInt ∨ p3.toInt < 0 ∨ 99 < p3.toInt → r.toInt = -1) ∧ (0 ≤ p1.toInt → p1.toInt < 5 → p1.toInt < f3.toInt → 0 ≤ p2.toInt → p2.toInt ≤ 3 → 0 ≤ p3.toInt → p3.toInt ≤ 99 → r.toInt = (Z10 (4 * p1.toInt + p2.toInt).toNat).toInt)) ∧ iWo u ∧ u = (if (0 ≤ p1.toInt ∧ p1.toInt < 5 ∧ p1.toInt < f3.toInt ∧ 0 ≤ p2.toInt ∧ p2.toInt ≤ 3 ∧ 0 ≤ p3.toInt ∧ p3.toInt ≤ 99) then upd Z10 (4 * p1.toInt + p2.toInt).toNat p3 else Z10)) (zPost g (fun u : (Nat → Int32) => [(h0, .inr (4, [.ref h1, .ref h2, .int f0, .ref h3, .ref h4, .ref h5, .ref h6, .int f1, .ref h7, .ref h8, .ref h9, .ref h10])), (h1, .inr (0, [.ref h11, .int f2, .ref h12, .int f3, .ref h13, .ref h14, .ref h15, .ref h16, .ref h17, .ref h18, .int f4])), (h16, .inl (zI g, 20, .inl u))]) (va_A [(h0, .inr (4, [.ref h1, .ref h2, .int f0, .ref h3, .ref h4, .ref h5, .ref h6, .int f1, .ref h7, .ref h8, .ref h9, .ref h10])), (h1, .inr (0, [.ref h11, .int f2, .ref h12, .int f3, .ref h13, .ref h14, .ref h15, .ref h16, .ref h17, .ref h18, .int f4])), (h16, .inl (zI g, 20, .inl Z10))] sz)) (va_A [(h0, .inr (4, [.ref h1, .ref h2, .int f0, .ref h3, .ref h4, .ref h5, .ref h6, .int f1, .ref h7, .ref h8, .ref h9, .ref h10])), (h1, .inr (0, [.ref h11, .int f2, .ref h12, .int f3, .ref h13, .ref h14, .ref h15, .ref h16, .ref h17, .ref h18, .int f4])), (h16, .inl (zI g, 20, .inl Z10))] sz)) 0 0 (va_A [(h0, .inr (4, [.ref h1, .ref h2, .int f0, .ref h3, .ref h4, .ref h5, .ref h6, .int f1, .ref h7, .ref h8, .ref h9, .ref h10])), (h1, .inr (0, [.ref h11, .int f2, .ref h12, .int f3, .ref h13, .ref h14, .ref h15, .ref h16, .ref h17, .ref h18, .int f4])), (h16, .inl (zI g, 20, .inl Z10))] sz) := by
  refine zMetI rfl (Nat.le_of_ble_eq_true rfl) ?_
  intro p e s m args below meth c A ls hx hb hml hr hlocks hin hown hts hK hN hZ hP hD hA hS hAe hl
  have hown : s.vm.findClass RX4 = some m.cls := hown
  have hl : lv_has ls 6 [(0, .ref h0), (1, .int p1), (2, .int p2), (3, .int p3)] := hl
  refine lv_aload_n hx hb dX4_worth_0 rfl (lv_at hl 0 rfl) ?_
  refine va_get (D := g.1) (ci := 4) (v := .ref h1) (C := RX4) (T := TX4) (N := 12) hx hb hts zl_X4 hown hK hP 0 rfl rfl 0 (by decide) (hts _ m_f_RX4_10) (fun _ h => h) rfl dX4_worth_1 ?_
  refine lv_iload_n hx hb dX4_worth_4 rfl (lv_at hl 1 rfl) ?_
  refine z_calli (wr := [(h0, .inr (4, [.ref h1, .ref h2, .int f0, .ref h3, .ref h4, .ref h5, .ref h6, .int f1, .ref h7, .ref h8, .ref h9, .ref h10])), (h16, .inl (zI g, 20, .inl Z10))]) hP hD hS hA [1] [0, 2] (by decide) rfl rfl (by decide) (va_runVN (As := [.int p1]) (rest := []) ⟨hx, hb, hml, hown, hts⟩ (gX0_isThere l g h1 h11 h12 h13 h14 h15 h16 h17 h18 s.heap.size p1 f2 f3 f4 (by constructor <;> omega) (by constructor <;> omega) (by constructor <;> omega)) ⟨va_cnB 1 hts (zGood m_o_yX0_isThere) rfl rfl rfl (hN.m 4 (q := (RX4, 80, yX0_isThere)) rfl) (hts _ m_z_RX0) ⟨by decide +kernel, by decide +kernel, by decide +kernel⟩ ⟨Nat.le_of_ble_eq_true rfl, Nat.le_of_ble_eq_true rfl⟩, hts _ m_i_yX0_isThere, hts _ m_e_yX0_isThere⟩ (zPreV hK hN hZ hP hD hS hA [1] (by decide) rfl rfl 0 1 rfl rfl) rfl rfl hl.1 rfl (lv_room (Nat.le_of_ble_eq_true rfl)) dX4_worth_5 ⟨Nat.le_of_ble_eq_true rfl, Nat.le_of_ble_eq_true rfl⟩) (fun r u H locs hw hP hD hS => ?_)
  rcases hw with ⟨i_0, rfl⟩ | ⟨i_1, i_2, rfl⟩ | ⟨i_3, i_4, i_5, rfl⟩ | ⟨i_6, i_7, i_8, rfl⟩
  · skip
    have i_0 : p1.toInt < 0 := i_0
    have hP : va_P g.1 vwCl [(h0, .inr (4, [.ref h1, .ref h2, .int f0, .ref h3, .ref h4, .ref h5, .ref h6, .int f1, .ref h7, .ref h8, .ref h9, .ref h10])), (h16, .inl (zI g, 20, .inl Z10)), (h1, .inr (0, [.ref h11, .int f2, .ref h12, .int f3, .ref h13, .ref h14, .ref h15, .ref h16, .ref h17, .ref h18, .int f4]))] H := hP
    have hD : va_D A [(h0, .inr (4, [.ref h1, .ref h2, .int f0, .ref h3, .ref h4, .ref h5, .ref h6, .int f1, .ref h7, .ref h8, .ref h9, .ref h10])), (h16, .inl (zI g, 20, .inl Z10)), (h1, .inr (0, [.ref h11, .int f2, .ref h12, .int f3, .ref h13, .ref h14, .ref h15, .ref h16, .ref h17, .ref h18, .int f4]))] := hD
    refine lv_if_eq (tgt := 28) hx hb dX4_worth_8 (by decide) (fun _ => ?_) (fun h => absurd h (by decide +kernel))
    refine lv_iconst (v := (-1)) hx hb dX4_worth_28 (by decide) ?_
    have : ((-1) : Int32).toInt = (-1) := rfl
    have hP9 := hP.sub (ws' := [(h0, .inr (4, [.ref h1, .ref h2, .int f0, .ref h3, .ref h4, .ref h5, .ref h6, .int f1, .ref h7, .ref h8, .ref h9, .ref h10])), (h1, .inr (0, [.ref h11, .int f2, .ref h12, .int f3, .ref h13, .ref h14, .ref h15, .ref h16, .ref h17, .ref h18, .int f4])), (h16, .inl (zI g, 20, .inl Z10))]) [0, 2, 1] rfl
    have hD9 := hD.sub (ws' := [(h0, .inr (4, [.ref h1, .ref h2, .int f0, .ref h3, .ref h4, .ref h5, .ref h6, .int f1, .ref h7, .ref h8, .ref h9, .ref h10])), (h1, .inr (0, [.ref h11, .int f2, .ref h12, .int f3, .ref h13, .ref h14, .ref h15, .ref h16, .ref h17, .ref h18, .int f4])), (h16, .inl (zI g, 20, .inl Z10))]) [0, 2, 1] (by decide) rfl
    exact W.iret (v := (-1)) hx hb hr (fun t ht hW => ⟨⟨(-1), Z10, rfl, ⟨⟨(by first | omega | decide), (by first | omega | decide)⟩, hF_Z10, (by rw [if_neg (by omega)])⟩, by rw [ht]; exact hP9, hD9⟩, hS.F ht⟩) hS.2.2 dX4_worth_29
  · skip
    have i_1 : 0 ≤ p1.toInt := i_1
    have i_2 : 5 ≤ p1.toInt := i_2
    have hP : va_P g.1 vwCl [(h0, .inr (4, [.ref h1, .ref h2, .int f0, .ref h3, .ref h4, .ref h5, .ref h6, .int f1, .ref h7, .ref h8, .ref h9, .ref h10])), (h16, .inl (zI g, 20, .inl Z10)), (h1, .inr (0, [.ref h11, .int f2, .ref h12, .int f3, .ref h13, .ref h14, .ref h15, .ref h16, .ref h17, .ref h18, .int f4]))] H := hP
    have hD : va_D A [(h0, .inr (4, [.ref h1, .ref h2, .int f0, .ref h3, .ref h4, .ref h5, .ref h6, .int f1, .ref h7, .ref h8, .ref h9, .ref h10])), (h16, .inl (zI g, 20, .inl Z10)), (h1, .inr (0, [.ref h11, .int f2, .ref h12, .int f3, .ref h13, .ref h14, .ref h15, .ref h16, .ref h17, .ref h18, .int f4]))] := hD
    refine lv_if_eq (tgt := 28) hx hb dX4_worth_8 (by decide) (fun _ => ?_) (fun h => absurd h (by decide +kernel))
    refine lv_iconst (v := (-1)) hx hb dX4_worth_28 (by decide) ?_
    have : ((-1) : Int32).toInt = (-1) := rfl
    have hP9 := hP.sub (ws' := [(h0, .inr (4, [.ref h1, .ref h2, .int f0, .ref h3, .ref h4, .ref h5, .ref h6, .int f1, .ref h7, .ref h8, .ref h9, .ref h10])), (h1, .inr (0, [.ref h11, .int f2, .ref h12, .int f3, .ref h13, .ref h14, .ref h15, .ref h16, .ref h17, .ref h18, .int f4])), (h16, .inl (zI g, 20, .inl Z10))]) [0, 2, 1] rfl
    have hD9 := hD.sub (ws' := [(h0, .inr (4, [.ref h1, .ref h2, .int f0, .ref h3, .ref h4, .ref h5, .ref h6, .int f1, .ref h7, .ref h8, .ref h9, .ref h10])), (h1, .inr (0, [.ref h11, .int f2, .ref h12, .int f3, .ref h13, .ref h14, .ref h15, .ref h16, .ref h17, .ref h18, .int f4])), (h16, .inl (zI g, 20, .inl Z10))]) [0, 2, 1] (by decide) rfl
    exact W.iret (v := (-1)) hx hb hr (fun t ht hW => ⟨⟨(-1), Z10, rfl, ⟨⟨(by first | omega | decide), (by first | omega | decide)⟩, hF_Z10, (by rw [if_neg (by omega)])⟩, by rw [ht]; exact hP9, hD9⟩, hS.F ht⟩) hS.2.2 dX4_worth_29
  · skip
    have i_3 : 0 ≤ p1.toInt := i_3
    have i_4 : p1.toInt < 5 := i_4
    have i_5 : f3.toInt ≤ p1.toInt := i_5
    have hP : va_P g.1 vwCl [(h0, .inr (4, [.ref h1, .ref h2, .int f0, .ref h3, .ref h4, .ref h5, .ref h6, .int f1, .ref h7, .ref h8, .ref h9, .ref h10])), (h16, .inl (zI g, 20, .inl Z10)), (h1, .inr (0, [.ref h11, .int f2, .ref h12, .int f3, .ref h13, .ref h14, .ref h15, .ref h16, .ref h17, .ref h18, .int f4]))] H := hP
    have hD : va_D A [(h0, .inr (4, [.ref h1, .ref h2, .int f0, .ref h3, .ref h4, .ref h5, .ref h6, .int f1, .ref h7, .ref h8, .ref h9, .ref h10])), (h16, .inl (zI g, 20, .inl Z10)), (h1, .inr (0, [.ref h11, .int f2, .ref h12, .int f3, .ref h13, .ref h14, .ref h15, .ref h16, .ref h17, .ref h18, .int f4]))] := hD
    refine lv_if_eq (tgt := 28) hx hb dX4_worth_8 (by decide) (fun _ => ?_) (fun h => absurd h (by decide +kernel))
    refine lv_iconst (v := (-1)) hx hb dX4_worth_28 (by decide) ?_
    have : ((-1) : Int32).toInt = (-1) := rfl
    have hP9 := hP.sub (ws' := [(h0, .inr (4, [.ref h1, .ref h2, .int f0, .ref h3, .ref h4, .ref h5, .ref h6, .int f1, .ref h7, .ref h8, .ref h9, .ref h10])), (h1, .inr (0, [.ref h11, .int f2, .ref h12, .int f3, .ref h13, .ref h14, .ref h15, .ref h16, .ref h17, .ref h18, .int f4])), (h16, .inl (zI g, 20, .inl Z10))]) [0, 2, 1] rfl
    have hD9 := hD.sub (ws' := [(h0, .inr (4, [.ref h1, .ref h2, .int f0, .ref h3, .ref h4, .ref h5, .ref h6, .int f1, .ref h7, .ref h8, .ref h9, .ref h10])), (h1, .inr (0, [.ref h11, .int f2, .ref h12, .int f3, .ref h13, .ref h14, .ref h15, .ref h16, .ref h17, .ref h18, .int f4])), (h16, .inl (zI g, 20, .inl Z10))]) [0, 2, 1] (by decide) rfl
    exact W.iret (v := (-1)) hx hb hr (fun t ht hW => ⟨⟨(-1), Z10, rfl, ⟨⟨(by first | omega | decide), (by first | omega | decide)⟩, hF_Z10, (by rw [if_neg (by omega)])⟩, by rw [ht]; exact hP9, hD9⟩, hS.F ht⟩) hS.2.2 dX4_worth_29
  · skip
    have i_6 : 0 ≤ p1.toInt := i_6
    have i_7 : p1.toInt < 5 := i_7
    have i_8 : p1.toInt < f3.toInt := i_8
    have hP : va_P g.1 vwCl [(h0, .inr (4, [.ref h1, .ref h2, .int f0, .ref h3, .ref h4, .ref h5, .ref h6, .int f1, .ref h7, .ref h8, .ref h9, .ref h10])), (h16, .inl (zI g, 20, .inl Z10)), (h1, .inr (0, [.ref h11, .int f2, .ref h12, .int f3, .ref h13, .ref h14, .ref h15, .ref h16, .ref h17, .ref h18, .int f4]))] H := hP
    have hD : va_D A [(h0, .inr (4, [.ref h1, .ref h2, .int f0, .ref h3, .ref h4, .ref h5, .ref h6, .int f1, .ref h7, .ref h8, .ref h9, .ref h10])), (h16, .inl (zI g, 20, .inl Z10)), (h1, .inr (0, [.ref h11, .int f2, .ref h12, .int f3, .ref h13, .ref h14, .ref h15, .ref h16, .ref h17, .ref h18, .int f4]))] := hD
    refine lv_if_eq (tgt := 28) hx hb dX4_worth_8 (by decide) (fun h => absurd h (by decide +kernel)) (fun _ => ?_)
    refine lv_iload_n hx hb dX4_worth_11 rfl (lv_at hl 2 rfl) ?_
    refine z_calli (wr := [(h0, .inr (4, [.ref h1, .ref h2, .int f0, .ref h3, .ref h4, .ref h5, .ref h6, .int f1, .ref h7, .ref h8, .ref h9, .ref h10])), (h16, .inl (zI g, 20, .inl Z10)), (h1, .inr (0, [.ref h11, .int f2, .ref h12, .int f3, .ref h13, .ref h14, .ref h15, .ref h16, .ref h17, .ref h18, .int f4]))]) hP hD hS hA [] [0, 1, 2] (by decide) rfl rfl (by decide) (va_runS (As := [.int p2]) (rest := []) ⟨hx, hb, hml, hown, hts⟩ (gX4_isKind l g  H.size p2) ⟨callB_of 1 hts (zGood m_o_yX4_isKind) rfl rfl rfl (hts _ m_z_RX4) (hts _ m_m_RX4_84) ⟨by decide +kernel, by decide +kernel, by decide +kernel⟩ ⟨Nat.le_of_ble_eq_true rfl, Nat.le_of_ble_eq_true rfl⟩, hts _ m_s_yX4_isKind⟩ (zPreS hK hN hZ hP hD hS hA [] (by decide) rfl rfl) rfl rfl hl.1 rfl (lv_room (Nat.le_of_ble_eq_true rfl)) dX4_worth_12 ⟨Nat.le_of_ble_eq_true rfl, Nat.le_of_ble_eq_true rfl⟩) (fun r u H locs hw hP hD hS => ?_)
    rcases hw with ⟨i_9, rfl⟩ | ⟨i_10, i_11, rfl⟩ | ⟨i_12, i_13, rfl⟩
    · skip
      have i_9 : p2.toInt < 0 := i_9
      have hP : va_P g.1 vwCl [(h0, .inr (4, [.ref h1, .ref h2, .int f0, .ref h3, .ref h4, .ref h5, .ref h6, .int f1, .ref h7, .ref h8, .ref h9, .ref h10])), (h16, .inl (zI g, 20, .inl Z10)), (h1, .inr (0, [.ref h11, .int f2, .ref h12, .int f3, .ref h13, .ref h14, .ref h15, .ref h16, .ref h17, .ref h18, .int f4]))] H := hP
      have hD : va_D A [(h0, .inr (4, [.ref h1, .ref h2, .int f0, .ref h3, .ref h4, .ref h5, .ref h6, .int f1, .ref h7, .ref h8, .ref h9, .ref h10])), (h16, .inl (zI g, 20, .inl Z10)), (h1, .inr (0, [.ref h11, .int f2, .ref h12, .int f3, .ref h13, .ref h14, .ref h15, .ref h16, .ref h17, .ref h18, .int f4]))] := hD
      refine lv_if_eq (tgt := 28) hx hb dX4_worth_15 (by decide) (fun _ => ?_) (fun h => absurd h (by decide +kernel))
      refine lv_iconst (v := (-1)) hx hb dX4_worth_28 (by decide) ?_
      have : ((-1) : Int32).toInt = (-1) := rfl
      have hP9 := hP.sub (ws' := [(h0, .inr (4, [.ref h1, .ref h2, .int f0, .ref h3, .ref h4, .ref h5, .ref h6, .int f1, .ref h7, .ref h8, .ref h9, .ref h10])), (h1, .inr (0, [.ref h11, .int f2, .ref h12, .int f3, .ref h13, .ref h14, .ref h15, .ref h16, .ref h17, .ref h18, .int f4])), (h16, .inl (zI g, 20, .inl Z10))]) [0, 2, 1] rfl
      have hD9 := hD.sub (ws' := [(h0, .inr (4, [.ref h1, .ref h2, .int f0, .ref h3, .ref h4, .ref h5, .ref h6, .int f1, .ref h7, .ref h8, .ref h9, .ref h10])), (h1, .inr (0, [.ref h11, .int f2, .ref h12, .int f3, .ref h13, .ref h14, .ref h15, .ref h16, .ref h17, .ref h18, .int f4])), (h16, .inl (zI g, 20, .inl Z10))]) [0, 2, 1] (by decide) rfl
      exact W.iret (v := (-1)) hx hb hr (fun t ht hW => ⟨⟨(-1), Z10, rfl, ⟨⟨(by first | omega | decide), (by first | omega | decide)⟩, hF_Z10, (by rw [if_neg (by omega)])⟩, by rw [ht]; exact hP9, hD9⟩, hS.F ht⟩) hS.2.2 dX4_worth_29
    · skip
      have i_10 : 0 ≤ p2.toInt := i_10
      have i_11 : 4 ≤ p2.toInt := i_11
      have hP : va_P g.1 vwCl [(h0, .inr (4, [.ref h1, .ref h2, .int f0, .ref h3, .ref h4, .ref h5, .ref h6, .int f1, .ref h7, .ref h8, .ref h9, .ref h10])), (h16, .inl (zI g, 20, .inl Z10)), (h1, .inr (0, [.ref h11, .int f2, .ref h12, .int f3, .ref h13, .ref h14, .ref h15, .ref h16, .ref h17, .ref h18, .int f4]))] H := hP
      have hD : va_D A [(h0, .inr (4, [.ref h1, .ref h2, .int f0, .ref h3, .ref h4, .ref h5, .ref h6, .int f1, .ref h7, .ref h8, .ref h9, .ref h10])), (h16, .inl (zI g, 20, .inl Z10)), (h1, .inr (0, [.ref h11, .int f2, .ref h12, .int f3, .ref h13, .ref h14, .ref h15, .ref h16, .ref h17, .ref h18, .int f4]))] := hD
      refine lv_if_eq (tgt := 28) hx hb dX4_worth_15 (by decide) (fun _ => ?_) (fun h => absurd h (by decide +kernel))
      refine lv_iconst (v := (-1)) hx hb dX4_worth_28 (by decide) ?_
      have : ((-1) : Int32).toInt = (-1) := rfl
      have hP9 := hP.sub (ws' := [(h0, .inr (4, [.ref h1, .ref h2, .int f0, .ref h3, .ref h4, .ref h5, .ref h6, .int f1, .ref h7, .ref h8, .ref h9, .ref h10])), (h1, .inr (0, [.ref h11, .int f2, .ref h12, .int f3, .ref h13, .ref h14, .ref h15, .ref h16, .ref h17, .ref h18, .int f4])), (h16, .inl (zI g, 20, .inl Z10))]) [0, 2, 1] rfl
      have hD9 := hD.sub (ws' := [(h0, .inr (4, [.ref h1, .ref h2, .int f0, .ref h3, .ref h4, .ref h5, .ref h6, .int f1, .ref h7, .ref h8, .ref h9, .ref h10])), (h1, .inr (0, [.ref h11, .int f2, .ref h12, .int f3, .ref h13, .ref h14, .ref h15, .ref h16, .ref h17, .ref h18, .int f4])), (h16, .inl (zI g, 20, .inl Z10))]) [0, 2, 1] (by decide) rfl
      exact W.iret (v := (-1)) hx hb hr (fun t ht hW => ⟨⟨(-1), Z10, rfl, ⟨⟨(by first | omega | decide), (by first | omega | decide)⟩, hF_Z10, (by rw [if_neg (by omega)])⟩, by rw [ht]; exact hP9, hD9⟩, hS.F ht⟩) hS.2.2 dX4_worth_29
    · skip
      have i_12 : 0 ≤ p2.toInt := i_12
      have i_13 : p2.toInt < 4 := i_13
      have hP : va_P g.1 vwCl [(h0, .inr (4, [.ref h1, .ref h2, .int f0, .ref h3, .ref h4, .ref h5, .ref h6, .int f1, .ref h7, .ref h8, .ref h9, .ref h10])), (h16, .inl (zI g, 20, .inl Z10)), (h1, .inr (0, [.ref h11, .int f2, .ref h12, .int f3, .ref h13, .ref h14, .ref h15, .ref h16, .ref h17, .ref h18, .int f4]))] H := hP
      have hD : va_D A [(h0, .inr (4, [.ref h1, .ref h2, .int f0, .ref h3, .ref h4, .ref h5, .ref h6, .int f1, .ref h7, .ref h8, .ref h9, .ref h10])), (h16, .inl (zI g, 20, .inl Z10)), (h1, .inr (0, [.ref h11, .int f2, .ref h12, .int f3, .ref h13, .ref h14, .ref h15, .ref h16, .ref h17, .ref h18, .int f4]))] := hD
      refine lv_if_eq (tgt := 28) hx hb dX4_worth_15 (by decide) (fun h => absurd h (by decide +kernel)) (fun _ => ?_)
      refine lv_iload_n hx hb dX4_worth_18 rfl (lv_at hl 3 rfl) ?_
      refine lv_if_lt (tgt := 28) hx hb dX4_worth_19 (by decide) (fun c_14 => ?_) (fun c_14 => ?_)
      · have i_14 : p3.toInt < 0 := z_lt (rfl) (rfl) c_14
        refine lv_iconst (v := (-1)) hx hb dX4_worth_28 (by decide) ?_
        have : ((-1) : Int32).toInt = (-1) := rfl
        have hP9 := hP.sub (ws' := [(h0, .inr (4, [.ref h1, .ref h2, .int f0, .ref h3, .ref h4, .ref h5, .ref h6, .int f1, .ref h7, .ref h8, .ref h9, .ref h10])), (h1, .inr (0, [.ref h11, .int f2, .ref h12, .int f3, .ref h13, .ref h14, .ref h15, .ref h16, .ref h17, .ref h18, .int f4])), (h16, .inl (zI g, 20, .inl Z10))]) [0, 2, 1] rfl
        have hD9 := hD.sub (ws' := [(h0, .inr (4, [.ref h1, .ref h2, .int f0, .ref h3, .ref h4, .ref h5, .ref h6, .int f1, .ref h7, .ref h8, .ref h9, .ref h10])), (h1, .inr (0, [.ref h11, .int f2, .ref h12, .int f3, .ref h13, .ref h14, .ref h15, .ref h16, .ref h17, .ref h18, .int f4])), (h16, .inl (zI g, 20, .inl Z10))]) [0, 2, 1] (by decide) rfl
        exact W.iret (v := (-1)) hx hb hr (fun t ht hW => ⟨⟨(-1), Z10, rfl, ⟨⟨(by first | omega | decide), (by first | omega | decide)⟩, hF_Z10, (by rw [if_neg (by omega)])⟩, by rw [ht]; exact hP9, hD9⟩, hS.F ht⟩) hS.2.2 dX4_worth_29
      · have i_14 : 0 ≤ p3.toInt := z_nlt (rfl) (rfl) c_14
        refine lv_iload_n hx hb dX4_worth_22 rfl (lv_at hl 3 rfl) ?_
        refine lv_bipush (v := 99) hx hb dX4_worth_23 (by decide) ?_
        refine lv_icmp_le (tgt := 30) hx hb dX4_worth_25 (by decide) (fun c_15 => ?_) (fun c_15 => ?_)
        · have i_15 : p3.toInt ≤ 99 := z_le (rfl) (rfl) c_15
          refine lv_iload_n hx hb dX4_worth_30 rfl (lv_at hl 1 rfl) ?_
          refine lv_iconst (v := 4) hx hb dX4_worth_31 (by decide) ?_
          refine lv_imul hx hb dX4_worth_32 ?_
          refine lv_topi (fun y0 ey0 => ?_)
          have qy0_0 : y0.toInt = p1.toInt * 4 := zi_mul ey0 (rfl) (rfl) (by omega) (by omega)
          refine lv_iload_n hx hb dX4_worth_33 rfl (lv_at hl 2 rfl) ?_
          refine lv_iadd hx hb dX4_worth_34 ?_
          refine lv_topi (fun y1 ey1 => ?_)
          have qy1_0 : y1.toInt = y0.toInt + p2.toInt := zi_add ey1 (rfl) (rfl) (by omega) (by omega)
          refine lv_istore (lv' := [(4, .int y1), (0, .ref h0), (1, .int p1), (2, .int p2), (3, .int p3)]) hx hb dX4_worth_35 hl (by decide) rfl (fun ls hl => ?_)
          refine lv_aload_n hx hb dX4_worth_37 rfl (lv_at hl 1 rfl) ?_
          refine va_get (D := g.1) (ci := 4) (v := .ref h1) (C := RX4) (T := TX4) (N := 12) hx hb hts zl_X4 hown hK hP 0 rfl rfl 0 (by decide) (hts _ m_f_RX4_10) (fun _ h => h) rfl dX4_worth_38 ?_
          refine va_getN (D := g.1) (ci := 0) (v := .ref h16) (C := RX0) (T := TX0) (N := 11) hx hb hts zl_X0 hown hK hP 2 rfl rfl 7 (by decide) (hN.f 15 (q := (RX4, 87, "FishSteps$Books", "worth", "[I")) rfl) (fun _ h => h) rfl dX4_worth_41 ?_
          refine lv_iload hx hb dX4_worth_44 (lv_at hl 0 rfl) ?_
          refine va_iald (D := g.1) hx hb hK hP 1 0 rfl rfl (vp_in_iff.mpr ⟨by omega, by omega⟩) dX4_worth_46 ?_
          refine lv_topi (fun y2 ey2 => ?_)
          have qy2_0 : 0 ≤ y2.toInt := (i_at (N := 20) (lo := 0) (hi := 99) (i := y1) (a := y1.toInt) hF_Z10 (rfl) (by omega) (by omega) ey2).1
          have qy2_1 : y2.toInt ≤ 99 := (i_at (N := 20) (lo := 0) (hi := 99) (i := y1) (a := y1.toInt) hF_Z10 (rfl) (by omega) (by omega) ey2).2
          have qy2_2 : y2.toInt = (Z10 y1.toNatClampNeg).toInt := congrArg Int32.toInt ey2
          have py2_0 : y2.toInt = (Z10 (4 * p1.toInt + p2.toInt).toNat).toInt := by rw [ey2, z_tn (i := y1) (a := 4 * p1.toInt + p2.toInt) (by omega) (by omega)]
          refine lv_istore (lv' := [(5, .int y2), (4, .int y1), (0, .ref h0), (1, .int p1), (2, .int p2), (3, .int p3)]) hx hb dX4_worth_47 hl (by decide) rfl (fun ls hl => ?_)
          refine lv_aload_n hx hb dX4_worth_49 rfl (lv_at hl 2 rfl) ?_
          refine va_get (D := g.1) (ci := 4) (v := .ref h1) (C := RX4) (T := TX4) (N := 12) hx hb hts zl_X4 hown hK hP 0 rfl rfl 0 (by decide) (hts _ m_f_RX4_10) (fun _ h => h) rfl dX4_worth_50 ?_
          refine va_getN (D := g.1) (ci := 0) (v := .ref h16) (C := RX0) (T := TX0) (N := 11) hx hb hts zl_X0 hown hK hP 2 rfl rfl 7 (by decide) (hN.f 15 (q := (RX4, 87, "FishSteps$Books", "worth", "[I")) rfl) (fun _ h => h) rfl dX4_worth_53 ?_
          refine lv_iload hx hb dX4_worth_56 (lv_at hl 1 rfl) ?_
          refine lv_iload_n hx hb dX4_worth_58 rfl (lv_at hl 5 rfl) ?_
          refine va_iast (D := g.1) hx hb hK hP hD hS 1 0 rfl rfl (vp_in_iff.mpr ⟨by omega, by omega⟩) dX4_worth_59 (fun H locs hP hD hS => ?_)
          have hP : va_P g.1 vwCl [(h0, .inr (4, [.ref h1, .ref h2, .int f0, .ref h3, .ref h4, .ref h5, .ref h6, .int f1, .ref h7, .ref h8, .ref h9, .ref h10])), (h16, .inl (zI g, 20, .inl (upd Z10 y1.toNatClampNeg p3))), (h1, .inr (0, [.ref h11, .int f2, .ref h12, .int f3, .ref h13, .ref h14, .ref h15, .ref h16, .ref h17, .ref h18, .int f4]))] H := hP
          have hD : va_D A [(h0, .inr (4, [.ref h1, .ref h2, .int f0, .ref h3, .ref h4, .ref h5, .ref h6, .int f1, .ref h7, .ref h8, .ref h9, .ref h10])), (h16, .inl (zI g, 20, .inl (upd Z10 y1.toNatClampNeg p3))), (h1, .inr (0, [.ref h11, .int f2, .ref h12, .int f3, .ref h13, .ref h14, .ref h15, .ref h16, .ref h17, .ref h18, .int f4]))] := hD
          have hI3 : iWo (upd Z10 y1.toNatClampNeg p3) := i_put (N := 20) (lo := 0) (hi := 99) hF_Z10 (by first | omega | decide) (by first | omega | decide)
          obtain ⟨R4, eR4⟩ : ∃ z : Nat → Int32, z = (upd Z10 y1.toNatClampNeg p3) := ⟨_, rfl⟩
          rw [← eR4] at hP hD hI3
          refine lv_iload hx hb dX4_worth_60 (lv_at hl 0 rfl) ?_
          have hP9 := hP.sub (ws' := [(h0, .inr (4, [.ref h1, .ref h2, .int f0, .ref h3, .ref h4, .ref h5, .ref h6, .int f1, .ref h7, .ref h8, .ref h9, .ref h10])), (h1, .inr (0, [.ref h11, .int f2, .ref h12, .int f3, .ref h13, .ref h14, .ref h15, .ref h16, .ref h17, .ref h18, .int f4])), (h16, .inl (zI g, 20, .inl R4))]) [0, 2, 1] rfl
          have hD9 := hD.sub (ws' := [(h0, .inr (4, [.ref h1, .ref h2, .int f0, .ref h3, .ref h4, .ref h5, .ref h6, .int f1, .ref h7, .ref h8, .ref h9, .ref h10])), (h1, .inr (0, [.ref h11, .int f2, .ref h12, .int f3, .ref h13, .ref h14, .ref h15, .ref h16, .ref h17, .ref h18, .int f4])), (h16, .inl (zI g, 20, .inl R4))]) [0, 2, 1] (by decide) rfl
          exact W.iret (v := y2) hx hb hr (fun t ht hW => ⟨⟨y2, R4, rfl, ⟨⟨(by first | omega | decide), (by first | omega | decide)⟩, hI3, (by rw [if_pos (by omega), eR4, z_tn (i := y1) (a := 4 * p1.toInt + p2.toInt) (by omega) (by omega)])⟩, by rw [ht]; exact hP9, hD9⟩, hS.F ht⟩) hS.2.2 dX4_worth_62
        · have i_15 : 99 < p3.toInt := z_nle (rfl) (rfl) c_15
          refine lv_iconst (v := (-1)) hx hb dX4_worth_28 (by decide) ?_
          have : ((-1) : Int32).toInt = (-1) := rfl
          have hP9 := hP.sub (ws' := [(h0, .inr (4, [.ref h1, .ref h2, .int f0, .ref h3, .ref h4, .ref h5, .ref h6, .int f1, .ref h7, .ref h8, .ref h9, .ref h10])), (h1, .inr (0, [.ref h11, .int f2, .ref h12, .int f3, .ref h13, .ref h14, .ref h15, .ref h16, .ref h17, .ref h18, .int f4])), (h16, .inl (zI g, 20, .inl Z10))]) [0, 2, 1] rfl
          have hD9 := hD.sub (ws' := [(h0, .inr (4, [.ref h1, .ref h2, .int f0, .ref h3, .ref h4, .ref h5, .ref h6, .int f1, .ref h7, .ref h8, .ref h9, .ref h10])), (h1, .inr (0, [.ref h11, .int f2, .ref h12, .int f3, .ref h13, .ref h14, .ref h15, .ref h16, .ref h17, .ref h18, .int f4])), (h16, .inl (zI g, 20, .inl Z10))]) [0, 2, 1] (by decide) rfl
          exact W.iret (v := (-1)) hx hb hr (fun t ht hW => ⟨⟨(-1), Z10, rfl, ⟨⟨(by first | omega | decide), (by first | omega | decide)⟩, hF_Z10, (by rw [if_neg (by omega)])⟩, by rw [ht]; exact hP9, hD9⟩, hS.F ht⟩) hS.2.2 dX4_worth_29
set_option maxHeartbeats 8000000 in
set_option maxRecDepth 100000 in
theorem gX4_margin (l : Launch) (g : zG) (h0 h1 h2 h3 h4 h5 h6 h7 h8 h9 h10 h11 h12 h13 h14 h15 h16 h17 h18 : Nat) (sz : Nat) (p1 : Int32) (p2 : Int32) (f0 : Int32) (f1 : Int32) (f2 : Int32) (f3 : Int32) (f4 : Int32) (Z9 : Nat → Int32) (hf_f2 : 0 ≤ f2.toInt ∧ f2.toInt ≤ 6) (hf_f3 : 0 ≤ f3.toInt ∧ f3.toInt ≤ 5) (hf_f4 : 0 ≤ f4.toInt ∧ f4.toInt ≤ 9999) (hF_Z9 : iMa Z9) : Met l yX4_margin (.code yX4_margin cX4_margin 4 (some .int) :: zBig) ({ frames := 1, cells := 0, slots := 0, locals := 21 }) (va_Pc [.ref h0, .int p1, .int p2] (zPre g [(h0, .inr (4, [.ref h1, .ref h2, .int f0, .ref h3, .ref h4, .ref h5, .ref h6, .int f1, .ref h7, .ref h8, .ref h9, .ref h10])), (h1, .inr (0, [.ref h11, .int f2, .ref h12, .int f3, .ref h13, .ref h14, .ref h15, .ref h16, .ref h17, .ref h18, .int f4])), (h15, .inl (zI g, 5, .inl Z9))] sz)) (va_Qi (fun (r : Int32) (u : (Nat → Int32)) => ((p1.toInt < 0 ∨ 5 ≤ p1.toInt ∨ f3.toInt ≤ p1.toInt ∨ p2.toInt < 0 ∨ 40 < p2.toInt → r.toInt = -1) ∧ (0 ≤ p1.toInt → p1.toInt < 5 → p1.toInt < f3.toInt → 0 ≤ p2.toInt → p2.toInt ≤ 40 → r.toInt = (Z9 p1.toNatClampNeg).toInt)) ∧ iMa u ∧ u = (if (0 ≤ p1.toInt ∧ p1.toInt < 5 ∧ p1.toInt < f3.toInt ∧ 0 ≤ p2.toInt ∧ p2.toInt ≤ 40) then upd Z9 p1.toNatClampNeg p2 else Z9)) (zPost g (fun u : (Nat → Int32) => [(h0, .inr (4, [.ref h1, .ref h2, .int f0, .ref h3, .ref h4, .ref h5, .ref h6, .int f1, .ref h7, .ref h8, .ref h9, .ref h10])), (h1, .inr (0, [.ref h11, .int f2, .ref h12, .int f3, .ref h13, .ref h14, .ref h15, .ref h16, .ref h17, .ref h18, .int f4])), (h15, .inl (zI g, 5, .inl u))]) (va_A [(h0, .inr (4, [.ref h1, .ref h2, .int f0, .ref h3, .ref h4, .ref h5, .ref h6, .int f1, .ref h7, .ref h8, .ref h9, .ref h10])), (h1, .inr (0, [.ref h11, .int f2, .ref h12, .int f3, .ref h13, .ref h14, .ref h15, .ref h16, .ref h17, .ref h18, .int f4])), (h15, .inl (zI g, 5, .inl Z9))] sz)) (va_A [(h0, .inr (4, [.ref h1, .ref h2, .int f0, .ref h3, .ref h4, .ref h5, .ref h6, .int f1, .ref h7, .ref h8, .ref h9, .ref h10])), (h1, .inr (0, [.ref h11, .int f2, .ref h12, .int f3, .ref h13, .ref h14, .ref h15, .ref h16, .ref h17, .ref h18, .int f4])), (h15, .inl (zI g, 5, .inl Z9))] sz)) 0 0 (va_A [(h0, .inr (4, [.ref h1, .ref h2, .int f0, .ref h3, .ref h4, .ref h5, .ref h6, .int f1, .ref h7, .ref h8, .ref h9, .ref h10])), (h1, .inr (0, [.ref h11, .int f2, .ref h12, .int f3, .ref h13, .ref h14, .ref h15, .ref h16, .ref h17, .ref h18, .int f4])), (h15, .inl (zI g, 5, .inl Z9))] sz) := by
  refine zMetI rfl (Nat.le_of_ble_eq_true rfl) ?_
  intro p e s m args below meth c A ls hx hb hml hr hlocks hin hown hts hK hN hZ hP hD hA hS hAe hl
  have hown : s.vm.findClass RX4 = some m.cls := hown
  have hl : lv_has ls 4 [(0, .ref h0), (1, .int p1), (2, .int p2)] := hl
  refine lv_aload_n hx hb dX4_margin_0 rfl (lv_at hl 0 rfl) ?_
  refine va_get (D := g.1) (ci := 4) (v := .ref h1) (C := RX4) (T := TX4) (N := 12) hx hb hts zl_X4 hown hK hP 0 rfl rfl 0 (by decide) (hts _ m_f_RX4_10) (fun _ h => h) rfl dX4_margin_1 ?_
  refine lv_iload_n hx hb dX4_margin_4 rfl (lv_at hl 1 rfl) ?_
  refine z_calli (wr := [(h0, .inr (4, [.ref h1, .ref h2, .int f0, .ref h3, .ref h4, .ref h5, .ref h6, .int f1, .ref h7, .ref h8, .ref h9, .ref h10])), (h15, .inl (zI g, 5, .inl Z9))]) hP hD hS hA [1] [0, 2] (by decide) rfl rfl (by decide) (va_runVN (As := [.int p1]) (rest := []) ⟨hx, hb, hml, hown, hts⟩ (gX0_isThere l g h1 h11 h12 h13 h14 h15 h16 h17 h18 s.heap.size p1 f2 f3 f4 (by constructor <;> omega) (by constructor <;> omega) (by constructor <;> omega)) ⟨va_cnB 1 hts (zGood m_o_yX0_isThere) rfl rfl rfl (hN.m 4 (q := (RX4, 80, yX0_isThere)) rfl) (hts _ m_z_RX0) ⟨by decide +kernel, by decide +kernel, by decide +kernel⟩ ⟨Nat.le_of_ble_eq_true rfl, Nat.le_of_ble_eq_true rfl⟩, hts _ m_i_yX0_isThere, hts _ m_e_yX0_isThere⟩ (zPreV hK hN hZ hP hD hS hA [1] (by decide) rfl rfl 0 1 rfl rfl) rfl rfl hl.1 rfl (lv_room (Nat.le_of_ble_eq_true rfl)) dX4_margin_5 ⟨Nat.le_of_ble_eq_true rfl, Nat.le_of_ble_eq_true rfl⟩) (fun r u H locs hw hP hD hS => ?_)
  rcases hw with ⟨i_0, rfl⟩ | ⟨i_1, i_2, rfl⟩ | ⟨i_3, i_4, i_5, rfl⟩ | ⟨i_6, i_7, i_8, rfl⟩
  · skip
    have i_0 : p1.toInt < 0 := i_0
    have hP : va_P g.1 vwCl [(h0, .inr (4, [.ref h1, .ref h2, .int f0, .ref h3, .ref h4, .ref h5, .ref h6, .int f1, .ref h7, .ref h8, .ref h9, .ref h10])), (h15, .inl (zI g, 5, .inl Z9)), (h1, .inr (0, [.ref h11, .int f2, .ref h12, .int f3, .ref h13, .ref h14, .ref h15, .ref h16, .ref h17, .ref h18, .int f4]))] H := hP
    have hD : va_D A [(h0, .inr (4, [.ref h1, .ref h2, .int f0, .ref h3, .ref h4, .ref h5, .ref h6, .int f1, .ref h7, .ref h8, .ref h9, .ref h10])), (h15, .inl (zI g, 5, .inl Z9)), (h1, .inr (0, [.ref h11, .int f2, .ref h12, .int f3, .ref h13, .ref h14, .ref h15, .ref h16, .ref h17, .ref h18, .int f4]))] := hD
    refine lv_if_eq (tgt := 21) hx hb dX4_margin_8 (by decide) (fun _ => ?_) (fun h => absurd h (by decide +kernel))
    refine lv_iconst (v := (-1)) hx hb dX4_margin_21 (by decide) ?_
    have : ((-1) : Int32).toInt = (-1) := rfl
    have hP9 := hP.sub (ws' := [(h0, .inr (4, [.ref h1, .ref h2, .int f0, .ref h3, .ref h4, .ref h5, .ref h6, .int f1, .ref h7, .ref h8, .ref h9, .ref h10])), (h1, .inr (0, [.ref h11, .int f2, .ref h12, .int f3, .ref h13, .ref h14, .ref h15, .ref h16, .ref h17, .ref h18, .int f4])), (h15, .inl (zI g, 5, .inl Z9))]) [0, 2, 1] rfl
    have hD9 := hD.sub (ws' := [(h0, .inr (4, [.ref h1, .ref h2, .int f0, .ref h3, .ref h4, .ref h5, .ref h6, .int f1, .ref h7, .ref h8, .ref h9, .ref h10])), (h1, .inr (0, [.ref h11, .int f2, .ref h12, .int f3, .ref h13, .ref h14, .ref h15, .ref h16, .ref h17, .ref h18, .int f4])), (h15, .inl (zI g, 5, .inl Z9))]) [0, 2, 1] (by decide) rfl
    exact W.iret (v := (-1)) hx hb hr (fun t ht hW => ⟨⟨(-1), Z9, rfl, ⟨⟨(by first | omega | decide), (by first | omega | decide)⟩, hF_Z9, (by rw [if_neg (by omega)])⟩, by rw [ht]; exact hP9, hD9⟩, hS.F ht⟩) hS.2.2 dX4_margin_22
  · skip
    have i_1 : 0 ≤ p1.toInt := i_1
    have i_2 : 5 ≤ p1.toInt := i_2
    have hP : va_P g.1 vwCl [(h0, .inr (4, [.ref h1, .ref h2, .int f0, .ref h3, .ref h4, .ref h5, .ref h6, .int f1, .ref h7, .ref h8, .ref h9, .ref h10])), (h15, .inl (zI g, 5, .inl Z9)), (h1, .inr (0, [.ref h11, .int f2, .ref h12, .int f3, .ref h13, .ref h14, .ref h15, .ref h16, .ref h17, .ref h18, .int f4]))] H := hP
    have hD : va_D A [(h0, .inr (4, [.ref h1, .ref h2, .int f0, .ref h3, .ref h4, .ref h5, .ref h6, .int f1, .ref h7, .ref h8, .ref h9, .ref h10])), (h15, .inl (zI g, 5, .inl Z9)), (h1, .inr (0, [.ref h11, .int f2, .ref h12, .int f3, .ref h13, .ref h14, .ref h15, .ref h16, .ref h17, .ref h18, .int f4]))] := hD
    refine lv_if_eq (tgt := 21) hx hb dX4_margin_8 (by decide) (fun _ => ?_) (fun h => absurd h (by decide +kernel))
    refine lv_iconst (v := (-1)) hx hb dX4_margin_21 (by decide) ?_
    have : ((-1) : Int32).toInt = (-1) := rfl
    have hP9 := hP.sub (ws' := [(h0, .inr (4, [.ref h1, .ref h2, .int f0, .ref h3, .ref h4, .ref h5, .ref h6, .int f1, .ref h7, .ref h8, .ref h9, .ref h10])), (h1, .inr (0, [.ref h11, .int f2, .ref h12, .int f3, .ref h13, .ref h14, .ref h15, .ref h16, .ref h17, .ref h18, .int f4])), (h15, .inl (zI g, 5, .inl Z9))]) [0, 2, 1] rfl
    have hD9 := hD.sub (ws' := [(h0, .inr (4, [.ref h1, .ref h2, .int f0, .ref h3, .ref h4, .ref h5, .ref h6, .int f1, .ref h7, .ref h8, .ref h9, .ref h10])), (h1, .inr (0, [.ref h11, .int f2, .ref h12, .int f3, .ref h13, .ref h14, .ref h15, .ref h16, .ref h17, .ref h18, .int f4])), (h15, .inl (zI g, 5, .inl Z9))]) [0, 2, 1] (by decide) rfl
    exact W.iret (v := (-1)) hx hb hr (fun t ht hW => ⟨⟨(-1), Z9, rfl, ⟨⟨(by first | omega | decide), (by first | omega | decide)⟩, hF_Z9, (by rw [if_neg (by omega)])⟩, by rw [ht]; exact hP9, hD9⟩, hS.F ht⟩) hS.2.2 dX4_margin_22
  · skip
    have i_3 : 0 ≤ p1.toInt := i_3
    have i_4 : p1.toInt < 5 := i_4
    have i_5 : f3.toInt ≤ p1.toInt := i_5
    have hP : va_P g.1 vwCl [(h0, .inr (4, [.ref h1, .ref h2, .int f0, .ref h3, .ref h4, .ref h5, .ref h6, .int f1, .ref h7, .ref h8, .ref h9, .ref h10])), (h15, .inl (zI g, 5, .inl Z9)), (h1, .inr (0, [.ref h11, .int f2, .ref h12, .int f3, .ref h13, .ref h14, .ref h15, .ref h16, .ref h17, .ref h18, .int f4]))] H := hP
    have hD : va_D A [(h0, .inr (4, [.ref h1, .ref h2, .int f0, .ref h3, .ref h4, .ref h5, .ref h6, .int f1, .ref h7, .ref h8, .ref h9, .ref h10])), (h15, .inl (zI g, 5, .inl Z9)), (h1, .inr (0, [.ref h11, .int f2, .ref h12, .int f3, .ref h13, .ref h14, .ref h15, .ref h16, .ref h17, .ref h18, .int f4]))] := hD
    refine lv_if_eq (tgt := 21) hx hb dX4_margin_8 (by decide) (fun _ => ?_) (fun h => absurd h (by decide +kernel))
    refine lv_iconst (v := (-1)) hx hb dX4_margin_21 (by decide) ?_
    have : ((-1) : Int32).toInt = (-1) := rfl
    have hP9 := hP.sub (ws' := [(h0, .inr (4, [.ref h1, .ref h2, .int f0, .ref h3, .ref h4, .ref h5, .ref h6, .int f1, .ref h7, .ref h8, .ref h9, .ref h10])), (h1, .inr (0, [.ref h11, .int f2, .ref h12, .int f3, .ref h13, .ref h14, .ref h15, .ref h16, .ref h17, .ref h18, .int f4])), (h15, .inl (zI g, 5, .inl Z9))]) [0, 2, 1] rfl
    have hD9 := hD.sub (ws' := [(h0, .inr (4, [.ref h1, .ref h2, .int f0, .ref h3, .ref h4, .ref h5, .ref h6, .int f1, .ref h7, .ref h8, .ref h9, .ref h10])), (h1, .inr (0, [.ref h11, .int f2, .ref h12, .int f3, .ref h13, .ref h14, .ref h15, .ref h16, .ref h17, .ref h18, .int f4])), (h15, .inl (zI g, 5, .inl Z9))]) [0, 2, 1] (by decide) rfl
    exact W.iret (v := (-1)) hx hb hr (fun t ht hW => ⟨⟨(-1), Z9, rfl, ⟨⟨(by first | omega | decide), (by first | omega | decide)⟩, hF_Z9, (by rw [if_neg (by omega)])⟩, by rw [ht]; exact hP9, hD9⟩, hS.F ht⟩) hS.2.2 dX4_margin_22
  · skip
    have i_6 : 0 ≤ p1.toInt := i_6
    have i_7 : p1.toInt < 5 := i_7
    have i_8 : p1.toInt < f3.toInt := i_8
    have hP : va_P g.1 vwCl [(h0, .inr (4, [.ref h1, .ref h2, .int f0, .ref h3, .ref h4, .ref h5, .ref h6, .int f1, .ref h7, .ref h8, .ref h9, .ref h10])), (h15, .inl (zI g, 5, .inl Z9)), (h1, .inr (0, [.ref h11, .int f2, .ref h12, .int f3, .ref h13, .ref h14, .ref h15, .ref h16, .ref h17, .ref h18, .int f4]))] H := hP
    have hD : va_D A [(h0, .inr (4, [.ref h1, .ref h2, .int f0, .ref h3, .ref h4, .ref h5, .ref h6, .int f1, .ref h7, .ref h8, .ref h9, .ref h10])), (h15, .inl (zI g, 5, .inl Z9)), (h1, .inr (0, [.ref h11, .int f2, .ref h12, .int f3, .ref h13, .ref h14, .ref h15, .ref h16, .ref h17, .ref h18, .int f4]))] := hD
    refine lv_if_eq (tgt := 21) hx hb dX4_margin_8 (by decide) (fun h => absurd h (by decide +kernel)) (fun _ => ?_)
    refine lv_iload_n hx hb dX4_margin_11 rfl (lv_at hl 2 rfl) ?_
    refine lv_if_lt (tgt := 21) hx hb dX4_margin_12 (by decide) (fun c_9 => ?_) (fun c_9 => ?_)
    · have i_9 : p2.toInt < 0 := z_lt (rfl) (rfl) c_9
      refine lv_iconst (v := (-1)) hx hb dX4_margin_21 (by decide) ?_
      have : ((-1) : Int32).toInt = (-1) := rfl
      have hP9 := hP.sub (ws' := [(h0, .inr (4, [.ref h1, .ref h2, .int f0, .ref h3, .ref h4, .ref h5, .ref h6, .int f1, .ref h7, .ref h8, .ref h9, .ref h10])), (h1, .inr (0, [.ref h11, .int f2, .ref h12, .int f3, .ref h13, .ref h14, .ref h15, .ref h16, .ref h17, .ref h18, .int f4])), (h15, .inl (zI g, 5, .inl Z9))]) [0, 2, 1] rfl
      have hD9 := hD.sub (ws' := [(h0, .inr (4, [.ref h1, .ref h2, .int f0, .ref h3, .ref h4, .ref h5, .ref h6, .int f1, .ref h7, .ref h8, .ref h9, .ref h10])), (h1, .inr (0, [.ref h11, .int f2, .ref h12, .int f3, .ref h13, .ref h14, .ref h15, .ref h16, .ref h17, .ref h18, .int f4])), (h15, .inl (zI g, 5, .inl Z9))]) [0, 2, 1] (by decide) rfl
      exact W.iret (v := (-1)) hx hb hr (fun t ht hW => ⟨⟨(-1), Z9, rfl, ⟨⟨(by first | omega | decide), (by first | omega | decide)⟩, hF_Z9, (by rw [if_neg (by omega)])⟩, by rw [ht]; exact hP9, hD9⟩, hS.F ht⟩) hS.2.2 dX4_margin_22
    · have i_9 : 0 ≤ p2.toInt := z_nlt (rfl) (rfl) c_9
      refine lv_iload_n hx hb dX4_margin_15 rfl (lv_at hl 2 rfl) ?_
      refine lv_bipush (v := 40) hx hb dX4_margin_16 (by decide) ?_
      refine lv_icmp_le (tgt := 23) hx hb dX4_margin_18 (by decide) (fun c_10 => ?_) (fun c_10 => ?_)
      · have i_10 : p2.toInt ≤ 40 := z_le (rfl) (rfl) c_10
        refine lv_aload_n hx hb dX4_margin_23 rfl (lv_at hl 0 rfl) ?_
        refine va_get (D := g.1) (ci := 4) (v := .ref h1) (C := RX4) (T := TX4) (N := 12) hx hb hts zl_X4 hown hK hP 0 rfl rfl 0 (by decide) (hts _ m_f_RX4_10) (fun _ h => h) rfl dX4_margin_24 ?_
        refine va_getN (D := g.1) (ci := 0) (v := .ref h15) (C := RX0) (T := TX0) (N := 11) hx hb hts zl_X0 hown hK hP 2 rfl rfl 6 (by decide) (hN.f 14 (q := (RX4, 90, "FishSteps$Books", "margin", "[I")) rfl) (fun _ h => h) rfl dX4_margin_27 ?_
        refine lv_iload_n hx hb dX4_margin_30 rfl (lv_at hl 1 rfl) ?_
        refine va_iald (D := g.1) hx hb hK hP 1 0 rfl rfl (vp_in_iff.mpr ⟨by omega, by omega⟩) dX4_margin_31 ?_
        refine lv_topi (fun y0 ey0 => ?_)
        have qy0_0 : 0 ≤ y0.toInt := (i_at (N := 5) (lo := 0) (hi := 40) (i := p1) (a := p1.toInt) hF_Z9 (rfl) (by omega) (by omega) ey0).1
        have qy0_1 : y0.toInt ≤ 40 := (i_at (N := 5) (lo := 0) (hi := 40) (i := p1) (a := p1.toInt) hF_Z9 (rfl) (by omega) (by omega) ey0).2
        have qy0_2 : y0.toInt = (Z9 p1.toNatClampNeg).toInt := congrArg Int32.toInt ey0
        refine lv_istore_n (lv' := [(3, .int y0), (0, .ref h0), (1, .int p1), (2, .int p2)]) hx hb dX4_margin_32 rfl hl (by decide) rfl (fun ls hl => ?_)
        refine lv_aload_n hx hb dX4_margin_33 rfl (lv_at hl 1 rfl) ?_
        refine va_get (D := g.1) (ci := 4) (v := .ref h1) (C := RX4) (T := TX4) (N := 12) hx hb hts zl_X4 hown hK hP 0 rfl rfl 0 (by decide) (hts _ m_f_RX4_10) (fun _ h => h) rfl dX4_margin_34 ?_
        refine va_getN (D := g.1) (ci := 0) (v := .ref h15) (C := RX0) (T := TX0) (N := 11) hx hb hts zl_X0 hown hK hP 2 rfl rfl 6 (by decide) (hN.f 14 (q := (RX4, 90, "FishSteps$Books", "margin", "[I")) rfl) (fun _ h => h) rfl dX4_margin_37 ?_
        refine lv_iload_n hx hb dX4_margin_40 rfl (lv_at hl 2 rfl) ?_
        refine lv_iload_n hx hb dX4_margin_41 rfl (lv_at hl 3 rfl) ?_
        refine va_iast (D := g.1) hx hb hK hP hD hS 1 0 rfl rfl (vp_in_iff.mpr ⟨by omega, by omega⟩) dX4_margin_42 (fun H locs hP hD hS => ?_)
        have hP : va_P g.1 vwCl [(h0, .inr (4, [.ref h1, .ref h2, .int f0, .ref h3, .ref h4, .ref h5, .ref h6, .int f1, .ref h7, .ref h8, .ref h9, .ref h10])), (h15, .inl (zI g, 5, .inl (upd Z9 p1.toNatClampNeg p2))), (h1, .inr (0, [.ref h11, .int f2, .ref h12, .int f3, .ref h13, .ref h14, .ref h15, .ref h16, .ref h17, .ref h18, .int f4]))] H := hP
        have hD : va_D A [(h0, .inr (4, [.ref h1, .ref h2, .int f0, .ref h3, .ref h4, .ref h5, .ref h6, .int f1, .ref h7, .ref h8, .ref h9, .ref h10])), (h15, .inl (zI g, 5, .inl (upd Z9 p1.toNatClampNeg p2))), (h1, .inr (0, [.ref h11, .int f2, .ref h12, .int f3, .ref h13, .ref h14, .ref h15, .ref h16, .ref h17, .ref h18, .int f4]))] := hD
        have hI1 : iMa (upd Z9 p1.toNatClampNeg p2) := i_put (N := 5) (lo := 0) (hi := 40) hF_Z9 (by first | omega | decide) (by first | omega | decide)
        obtain ⟨R2, eR2⟩ : ∃ z : Nat → Int32, z = (upd Z9 p1.toNatClampNeg p2) := ⟨_, rfl⟩
        rw [← eR2] at hP hD hI1
        refine lv_iload_n hx hb dX4_margin_43 rfl (lv_at hl 0 rfl) ?_
        have hP9 := hP.sub (ws' := [(h0, .inr (4, [.ref h1, .ref h2, .int f0, .ref h3, .ref h4, .ref h5, .ref h6, .int f1, .ref h7, .ref h8, .ref h9, .ref h10])), (h1, .inr (0, [.ref h11, .int f2, .ref h12, .int f3, .ref h13, .ref h14, .ref h15, .ref h16, .ref h17, .ref h18, .int f4])), (h15, .inl (zI g, 5, .inl R2))]) [0, 2, 1] rfl
        have hD9 := hD.sub (ws' := [(h0, .inr (4, [.ref h1, .ref h2, .int f0, .ref h3, .ref h4, .ref h5, .ref h6, .int f1, .ref h7, .ref h8, .ref h9, .ref h10])), (h1, .inr (0, [.ref h11, .int f2, .ref h12, .int f3, .ref h13, .ref h14, .ref h15, .ref h16, .ref h17, .ref h18, .int f4])), (h15, .inl (zI g, 5, .inl R2))]) [0, 2, 1] (by decide) rfl
        exact W.iret (v := y0) hx hb hr (fun t ht hW => ⟨⟨y0, R2, rfl, ⟨⟨(by first | omega | decide), (by first | omega | decide)⟩, hI1, (by rw [if_pos (by omega), eR2])⟩, by rw [ht]; exact hP9, hD9⟩, hS.F ht⟩) hS.2.2 dX4_margin_44
      · have i_10 : 40 < p2.toInt := z_nle (rfl) (rfl) c_10
        refine lv_iconst (v := (-1)) hx hb dX4_margin_21 (by decide) ?_
        have : ((-1) : Int32).toInt = (-1) := rfl
        have hP9 := hP.sub (ws' := [(h0, .inr (4, [.ref h1, .ref h2, .int f0, .ref h3, .ref h4, .ref h5, .ref h6, .int f1, .ref h7, .ref h8, .ref h9, .ref h10])), (h1, .inr (0, [.ref h11, .int f2, .ref h12, .int f3, .ref h13, .ref h14, .ref h15, .ref h16, .ref h17, .ref h18, .int f4])), (h15, .inl (zI g, 5, .inl Z9))]) [0, 2, 1] rfl
        have hD9 := hD.sub (ws' := [(h0, .inr (4, [.ref h1, .ref h2, .int f0, .ref h3, .ref h4, .ref h5, .ref h6, .int f1, .ref h7, .ref h8, .ref h9, .ref h10])), (h1, .inr (0, [.ref h11, .int f2, .ref h12, .int f3, .ref h13, .ref h14, .ref h15, .ref h16, .ref h17, .ref h18, .int f4])), (h15, .inl (zI g, 5, .inl Z9))]) [0, 2, 1] (by decide) rfl
        exact W.iret (v := (-1)) hx hb hr (fun t ht hW => ⟨⟨(-1), Z9, rfl, ⟨⟨(by first | omega | decide), (by first | omega | decide)⟩, hF_Z9, (by rw [if_neg (by omega)])⟩, by rw [ht]; exact hP9, hD9⟩, hS.F ht⟩) hS.2.2 dX4_margin_22
set_option maxHeartbeats 8000000 in
set_option maxRecDepth 100000 in
theorem gX0_worthOf (l : Launch) (g : zG) (h0 h1 h2 h3 h4 h5 h6 h7 h8 : Nat) (sz : Nat) (p1 : Int32) (p2 : Int32) (f0 : Int32) (f1 : Int32) (f2 : Int32) (Z5 : Nat → Int32) (hf_f0 : 0 ≤ f0.toInt ∧ f0.toInt ≤ 6) (hf_f1 : 0 ≤ f1.toInt ∧ f1.toInt ≤ 5) (hf_f2 : 0 ≤ f2.toInt ∧ f2.toInt ≤ 9999) (hF_Z5 : iWo Z5) : Met l yX0_worthOf (.code yX0_worthOf cX0_worthOf 3 (some .int) :: zBig) ({ frames := 1, cells := 0, slots := 0, locals := 21 }) (va_Pc [.ref h0, .int p1, .int p2] (zPre g [(h0, .inr (0, [.ref h1, .int f0, .ref h2, .int f1, .ref h3, .ref h4, .ref h5, .ref h6, .ref h7, .ref h8, .int f2])), (h6, .inl (zI g, 20, .inl Z5))] sz)) (va_Qi (fun (r : Int32) (u : Nat) => r.toInt = zWq f1.toInt Z5 p1.toInt p2.toInt ∧ 0 ≤ r.toInt ∧ r.toInt ≤ 99) (zPost g (fun u : Nat => [(h0, .inr (0, [.ref h1, .int f0, .ref h2, .int f1, .ref h3, .ref h4, .ref h5, .ref h6, .ref h7, .ref h8, .int f2])), (h6, .inl (zI g, 20, .inl Z5))]) (va_A [(h0, .inr (0, [.ref h1, .int f0, .ref h2, .int f1, .ref h3, .ref h4, .ref h5, .ref h6, .ref h7, .ref h8, .int f2])), (h6, .inl (zI g, 20, .inl Z5))] sz)) (va_A [(h0, .inr (0, [.ref h1, .int f0, .ref h2, .int f1, .ref h3, .ref h4, .ref h5, .ref h6, .ref h7, .ref h8, .int f2])), (h6, .inl (zI g, 20, .inl Z5))] sz)) 0 0 (va_A [(h0, .inr (0, [.ref h1, .int f0, .ref h2, .int f1, .ref h3, .ref h4, .ref h5, .ref h6, .ref h7, .ref h8, .int f2])), (h6, .inl (zI g, 20, .inl Z5))] sz) := by
  refine zMetI rfl (Nat.le_of_ble_eq_true rfl) ?_
  intro p e s m args below meth c A ls hx hb hml hr hlocks hin hown hts hK hN hZ hP hD hA hS hAe hl
  have hown : s.vm.findClass RX0 = some m.cls := hown
  have hl : lv_has ls 3 [(0, .ref h0), (1, .int p1), (2, .int p2)] := hl
  refine lv_aload_n hx hb dX0_worthOf_0 rfl (lv_at hl 0 rfl) ?_
  refine lv_iload_n hx hb dX0_worthOf_1 rfl (lv_at hl 1 rfl) ?_
  refine z_calli (wr := [(h6, .inl (zI g, 20, .inl Z5))]) hP hD hS hA [0] [1] (by decide) rfl rfl (by decide) (va_runV (As := [.int p1]) (rest := []) ⟨hx, hb, hml, hown, hts⟩ (gX0_isThere l g h0 h1 h2 h3 h4 h5 h6 h7 h8 s.heap.size p1 f0 f1 f2 (by constructor <;> omega) (by constructor <;> omega) (by constructor <;> omega)) ⟨callB_of 1 hts (zGood m_o_yX0_isThere) rfl rfl rfl (hts _ m_z_RX0) (hts _ m_m_RX0_66) ⟨by decide +kernel, by decide +kernel, by decide +kernel⟩ ⟨Nat.le_of_ble_eq_true rfl, Nat.le_of_ble_eq_true rfl⟩, hts _ m_i_yX0_isThere, hts _ m_e_yX0_isThere⟩ (zPreV hK hN hZ hP hD hS hA [0] (by decide) rfl rfl 0 0 rfl rfl) rfl rfl hl.1 rfl (lv_room (Nat.le_of_ble_eq_true rfl)) dX0_worthOf_2 ⟨Nat.le_of_ble_eq_true rfl, Nat.le_of_ble_eq_true rfl⟩) (fun r u H locs hw hP hD hS => ?_)
  rcases hw with ⟨i_0, rfl⟩ | ⟨i_1, i_2, rfl⟩ | ⟨i_3, i_4, i_5, rfl⟩ | ⟨i_6, i_7, i_8, rfl⟩
  · skip
    have i_0 : p1.toInt < 0 := i_0
    have hP : va_P g.1 vwCl [(h6, .inl (zI g, 20, .inl Z5)), (h0, .inr (0, [.ref h1, .int f0, .ref h2, .int f1, .ref h3, .ref h4, .ref h5, .ref h6, .ref h7, .ref h8, .int f2]))] H := hP
    have hD : va_D A [(h6, .inl (zI g, 20, .inl Z5)), (h0, .inr (0, [.ref h1, .int f0, .ref h2, .int f1, .ref h3, .ref h4, .ref h5, .ref h6, .ref h7, .ref h8, .int f2]))] := hD
    refine lv_if_eq (tgt := 15) hx hb dX0_worthOf_5 (by decide) (fun _ => ?_) (fun h => absurd h (by decide +kernel))
    refine lv_iconst (v := 0) hx hb dX0_worthOf_15 (by decide) ?_
    have hz : zWq f1.toInt Z5 p1.toInt p2.toInt = 0 := zWq_out (by omega)
    have : (0 : Int32).toInt = 0 := rfl
    have hP9 := hP.sub (ws' := [(h0, .inr (0, [.ref h1, .int f0, .ref h2, .int f1, .ref h3, .ref h4, .ref h5, .ref h6, .ref h7, .ref h8, .int f2])), (h6, .inl (zI g, 20, .inl Z5))]) [1, 0] rfl
    have hD9 := hD.sub (ws' := [(h0, .inr (0, [.ref h1, .int f0, .ref h2, .int f1, .ref h3, .ref h4, .ref h5, .ref h6, .ref h7, .ref h8, .int f2])), (h6, .inl (zI g, 20, .inl Z5))]) [1, 0] (by decide) rfl
    exact W.iret (v := 0) hx hb hr (fun t ht hW => ⟨⟨0, (0 : Nat), rfl, ⟨(by first | omega | decide), (by first | omega | decide), (by first | omega | decide)⟩, by rw [ht]; exact hP9, hD9⟩, hS.F ht⟩) hS.2.2 dX0_worthOf_16
  · skip
    have i_1 : 0 ≤ p1.toInt := i_1
    have i_2 : 5 ≤ p1.toInt := i_2
    have hP : va_P g.1 vwCl [(h6, .inl (zI g, 20, .inl Z5)), (h0, .inr (0, [.ref h1, .int f0, .ref h2, .int f1, .ref h3, .ref h4, .ref h5, .ref h6, .ref h7, .ref h8, .int f2]))] H := hP
    have hD : va_D A [(h6, .inl (zI g, 20, .inl Z5)), (h0, .inr (0, [.ref h1, .int f0, .ref h2, .int f1, .ref h3, .ref h4, .ref h5, .ref h6, .ref h7, .ref h8, .int f2]))] := hD
    refine lv_if_eq (tgt := 15) hx hb dX0_worthOf_5 (by decide) (fun _ => ?_) (fun h => absurd h (by decide +kernel))
    refine lv_iconst (v := 0) hx hb dX0_worthOf_15 (by decide) ?_
    have hz : zWq f1.toInt Z5 p1.toInt p2.toInt = 0 := zWq_out (by omega)
    have : (0 : Int32).toInt = 0 := rfl
    have hP9 := hP.sub (ws' := [(h0, .inr (0, [.ref h1, .int f0, .ref h2, .int f1, .ref h3, .ref h4, .ref h5, .ref h6, .ref h7, .ref h8, .int f2])), (h6, .inl (zI g, 20, .inl Z5))]) [1, 0] rfl
    have hD9 := hD.sub (ws' := [(h0, .inr (0, [.ref h1, .int f0, .ref h2, .int f1, .ref h3, .ref h4, .ref h5, .ref h6, .ref h7, .ref h8, .int f2])), (h6, .inl (zI g, 20, .inl Z5))]) [1, 0] (by decide) rfl
    exact W.iret (v := 0) hx hb hr (fun t ht hW => ⟨⟨0, (0 : Nat), rfl, ⟨(by first | omega | decide), (by first | omega | decide), (by first | omega | decide)⟩, by rw [ht]; exact hP9, hD9⟩, hS.F ht⟩) hS.2.2 dX0_worthOf_16
  · skip
    have i_3 : 0 ≤ p1.toInt := i_3
    have i_4 : p1.toInt < 5 := i_4
    have i_5 : f1.toInt ≤ p1.toInt := i_5
    have hP : va_P g.1 vwCl [(h6, .inl (zI g, 20, .inl Z5)), (h0, .inr (0, [.ref h1, .int f0, .ref h2, .int f1, .ref h3, .ref h4, .ref h5, .ref h6, .ref h7, .ref h8, .int f2]))] H := hP
    have hD : va_D A [(h6, .inl (zI g, 20, .inl Z5)), (h0, .inr (0, [.ref h1, .int f0, .ref h2, .int f1, .ref h3, .ref h4, .ref h5, .ref h6, .ref h7, .ref h8, .int f2]))] := hD
    refine lv_if_eq (tgt := 15) hx hb dX0_worthOf_5 (by decide) (fun _ => ?_) (fun h => absurd h (by decide +kernel))
    refine lv_iconst (v := 0) hx hb dX0_worthOf_15 (by decide) ?_
    have hz : zWq f1.toInt Z5 p1.toInt p2.toInt = 0 := zWq_out (by omega)
    have : (0 : Int32).toInt = 0 := rfl
    have hP9 := hP.sub (ws' := [(h0, .inr (0, [.ref h1, .int f0, .ref h2, .int f1, .ref h3, .ref h4, .ref h5, .ref h6, .ref h7, .ref h8, .int f2])), (h6, .inl (zI g, 20, .inl Z5))]) [1, 0] rfl
    have hD9 := hD.sub (ws' := [(h0, .inr (0, [.ref h1, .int f0, .ref h2, .int f1, .ref h3, .ref h4, .ref h5, .ref h6, .ref h7, .ref h8, .int f2])), (h6, .inl (zI g, 20, .inl Z5))]) [1, 0] (by decide) rfl
    exact W.iret (v := 0) hx hb hr (fun t ht hW => ⟨⟨0, (0 : Nat), rfl, ⟨(by first | omega | decide), (by first | omega | decide), (by first | omega | decide)⟩, by rw [ht]; exact hP9, hD9⟩, hS.F ht⟩) hS.2.2 dX0_worthOf_16
  · skip
    have i_6 : 0 ≤ p1.toInt := i_6
    have i_7 : p1.toInt < 5 := i_7
    have i_8 : p1.toInt < f1.toInt := i_8
    have hP : va_P g.1 vwCl [(h6, .inl (zI g, 20, .inl Z5)), (h0, .inr (0, [.ref h1, .int f0, .ref h2, .int f1, .ref h3, .ref h4, .ref h5, .ref h6, .ref h7, .ref h8, .int f2]))] H := hP
    have hD : va_D A [(h6, .inl (zI g, 20, .inl Z5)), (h0, .inr (0, [.ref h1, .int f0, .ref h2, .int f1, .ref h3, .ref h4, .ref h5, .ref h6, .ref h7, .ref h8, .int f2]))] := hD
    refine lv_if_eq (tgt := 15) hx hb dX0_worthOf_5 (by decide) (fun h => absurd h (by decide +kernel)) (fun _ => ?_)
    refine lv_iload_n hx hb dX0_worthOf_8 rfl (lv_at hl 2 rfl) ?_
    refine z_calli (wr := [(h6, .inl (zI g, 20, .inl Z5)), (h0, .inr (0, [.ref h1, .int f0, .ref h2, .int f1, .ref h3, .ref h4, .ref h5, .ref h6, .ref h7, .ref h8, .int f2]))]) hP hD hS hA [] [0, 1] (by decide) rfl rfl (by decide) (va_runSN (As := [.int p2]) (rest := []) ⟨hx, hb, hml, hown, hts⟩ (gX4_isKind l g  H.size p2) ⟨va_cnB 1 hts (zGood m_o_yX4_isKind) rfl rfl rfl (hN.m 6 (q := (RX0, 70, yX4_isKind)) rfl) (hts _ m_z_RX4) ⟨by decide +kernel, by decide +kernel, by decide +kernel⟩ ⟨Nat.le_of_ble_eq_true rfl, Nat.le_of_ble_eq_true rfl⟩, hts _ m_s_yX4_isKind, trivial⟩ (zPreS hK hN hZ hP hD hS hA [] (by decide) rfl rfl) rfl rfl hl.1 rfl (lv_room (Nat.le_of_ble_eq_true rfl)) dX0_worthOf_9 ⟨Nat.le_of_ble_eq_true rfl, Nat.le_of_ble_eq_true rfl⟩) (fun r u H locs hw hP hD hS => ?_)
    rcases hw with ⟨i_9, rfl⟩ | ⟨i_10, i_11, rfl⟩ | ⟨i_12, i_13, rfl⟩
    · skip
      have i_9 : p2.toInt < 0 := i_9
      have hP : va_P g.1 vwCl [(h6, .inl (zI g, 20, .inl Z5)), (h0, .inr (0, [.ref h1, .int f0, .ref h2, .int f1, .ref h3, .ref h4, .ref h5, .ref h6, .ref h7, .ref h8, .int f2]))] H := hP
      have hD : va_D A [(h6, .inl (zI g, 20, .inl Z5)), (h0, .inr (0, [.ref h1, .int f0, .ref h2, .int f1, .ref h3, .ref h4, .ref h5, .ref h6, .ref h7, .ref h8, .int f2]))] := hD
      refine lv_if_ne (tgt := 17) hx hb dX0_worthOf_12 (by decide) (fun h => absurd h (by decide +kernel)) (fun _ => ?_)
      refine lv_iconst (v := 0) hx hb dX0_worthOf_15 (by decide) ?_
      have hz : zWq f1.toInt Z5 p1.toInt p2.toInt = 0 := zWq_out (by omega)
      have : (0 : Int32).toInt = 0 := rfl
      have hP9 := hP.sub (ws' := [(h0, .inr (0, [.ref h1, .int f0, .ref h2, .int f1, .ref h3, .ref h4, .ref h5, .ref h6, .ref h7, .ref h8, .int f2])), (h6, .inl (zI g, 20, .inl Z5))]) [1, 0] rfl
      have hD9 := hD.sub (ws' := [(h0, .inr (0, [.ref h1, .int f0, .ref h2, .int f1, .ref h3, .ref h4, .ref h5, .ref h6, .ref h7, .ref h8, .int f2])), (h6, .inl (zI g, 20, .inl Z5))]) [1, 0] (by decide) rfl
      exact W.iret (v := 0) hx hb hr (fun t ht hW => ⟨⟨0, (0 : Nat), rfl, ⟨(by first | omega | decide), (by first | omega | decide), (by first | omega | decide)⟩, by rw [ht]; exact hP9, hD9⟩, hS.F ht⟩) hS.2.2 dX0_worthOf_16
    · skip
      have i_10 : 0 ≤ p2.toInt := i_10
      have i_11 : 4 ≤ p2.toInt := i_11
      have hP : va_P g.1 vwCl [(h6, .inl (zI g, 20, .inl Z5)), (h0, .inr (0, [.ref h1, .int f0, .ref h2, .int f1, .ref h3, .ref h4, .ref h5, .ref h6, .ref h7, .ref h8, .int f2]))] H := hP
      have hD : va_D A [(h6, .inl (zI g, 20, .inl Z5)), (h0, .inr (0, [.ref h1, .int f0, .ref h2, .int f1, .ref h3, .ref h4, .ref h5, .ref h6, .ref h7, .ref h8, .int f2]))] := hD
      refine lv_if_ne (tgt := 17) hx hb dX0_worthOf_12 (by decide) (fun h => absurd h (by decide +kernel)) (fun _ => ?_)
      refine lv_iconst (v := 0) hx hb dX0_worthOf_15 (by decide) ?_
      have hz : zWq f1.toInt Z5 p1.toInt p2.toInt = 0 := zWq_out (by omega)
      have : (0 : Int32).toInt = 0 := rfl
      have hP9 := hP.sub (ws' := [(h0, .inr (0, [.ref h1, .int f0, .ref h2, .int f1, .ref h3, .ref h4, .ref h5, .ref h6, .ref h7, .ref h8, .int f2])), (h6, .inl (zI g, 20, .inl Z5))]) [1, 0] rfl
      have hD9 := hD.sub (ws' := [(h0, .inr (0, [.ref h1, .int f0, .ref h2, .int f1, .ref h3, .ref h4, .ref h5, .ref h6, .ref h7, .ref h8, .int f2])), (h6, .inl (zI g, 20, .inl Z5))]) [1, 0] (by decide) rfl
      exact W.iret (v := 0) hx hb hr (fun t ht hW => ⟨⟨0, (0 : Nat), rfl, ⟨(by first | omega | decide), (by first | omega | decide), (by first | omega | decide)⟩, by rw [ht]; exact hP9, hD9⟩, hS.F ht⟩) hS.2.2 dX0_worthOf_16
    · skip
      have i_12 : 0 ≤ p2.toInt := i_12
      have i_13 : p2.toInt < 4 := i_13
      have hP : va_P g.1 vwCl [(h6, .inl (zI g, 20, .inl Z5)), (h0, .inr (0, [.ref h1, .int f0, .ref h2, .int f1, .ref h3, .ref h4, .ref h5, .ref h6, .ref h7, .ref h8, .int f2]))] H := hP
      have hD : va_D A [(h6, .inl (zI g, 20, .inl Z5)), (h0, .inr (0, [.ref h1, .int f0, .ref h2, .int f1, .ref h3, .ref h4, .ref h5, .ref h6, .ref h7, .ref h8, .int f2]))] := hD
      refine lv_if_ne (tgt := 17) hx hb dX0_worthOf_12 (by decide) (fun _ => ?_) (fun h => absurd h (by decide +kernel))
      refine lv_aload_n hx hb dX0_worthOf_17 rfl (lv_at hl 0 rfl) ?_
      refine va_get (D := g.1) (ci := 0) (v := .ref h6) (C := RX0) (T := TX0) (N := 11) hx hb hts zl_X0 hown hK hP 1 rfl rfl 7 (by decide) (hts _ m_f_RX0_42) (fun _ h => h) rfl dX0_worthOf_18 ?_
      refine lv_iload_n hx hb dX0_worthOf_21 rfl (lv_at hl 1 rfl) ?_
      refine lv_iconst (v := 4) hx hb dX0_worthOf_22 (by decide) ?_
      refine lv_imul hx hb dX0_worthOf_23 ?_
      refine lv_topi (fun y0 ey0 => ?_)
      have qy0_0 : y0.toInt = p1.toInt * 4 := zi_mul ey0 (rfl) (rfl) (by omega) (by omega)
      refine lv_iload_n hx hb dX0_worthOf_24 rfl (lv_at hl 2 rfl) ?_
      refine lv_iadd hx hb dX0_worthOf_25 ?_
      refine lv_topi (fun y1 ey1 => ?_)
      have qy1_0 : y1.toInt = y0.toInt + p2.toInt := zi_add ey1 (rfl) (rfl) (by omega) (by omega)
      refine va_iald (D := g.1) hx hb hK hP 0 0 rfl rfl (vp_in_iff.mpr ⟨by omega, by omega⟩) dX0_worthOf_26 ?_
      refine lv_topi (fun y2 ey2 => ?_)
      have qy2_0 : 0 ≤ y2.toInt := (i_at (N := 20) (lo := 0) (hi := 99) (i := y1) (a := y1.toInt) hF_Z5 (rfl) (by omega) (by omega) ey2).1
      have qy2_1 : y2.toInt ≤ 99 := (i_at (N := 20) (lo := 0) (hi := 99) (i := y1) (a := y1.toInt) hF_Z5 (rfl) (by omega) (by omega) ey2).2
      have qy2_2 : y2.toInt = (Z5 y1.toNatClampNeg).toInt := congrArg Int32.toInt ey2
      have hz : zWq f1.toInt Z5 p1.toInt p2.toInt = y2.toInt := (zWq_in (by omega) (by omega) (by omega) (by omega) (by omega)).trans (by rw [← z_tn (i := y1) (a := 4 * p1.toInt + p2.toInt) (by omega) (by omega)]; omega)
      have hP9 := hP.sub (ws' := [(h0, .inr (0, [.ref h1, .int f0, .ref h2, .int f1, .ref h3, .ref h4, .ref h5, .ref h6, .ref h7, .ref h8, .int f2])), (h6, .inl (zI g, 20, .inl Z5))]) [1, 0] rfl
      have hD9 := hD.sub (ws' := [(h0, .inr (0, [.ref h1, .int f0, .ref h2, .int f1, .ref h3, .ref h4, .ref h5, .ref h6, .ref h7, .ref h8, .int f2])), (h6, .inl (zI g, 20, .inl Z5))]) [1, 0] (by decide) rfl
      exact W.iret (v := y2) hx hb hr (fun t ht hW => ⟨⟨y2, (0 : Nat), rfl, ⟨(by first | omega | decide), (by first | omega | decide), (by first | omega | decide)⟩, by rw [ht]; exact hP9, hD9⟩, hS.F ht⟩) hS.2.2 dX0_worthOf_27
set_option maxHeartbeats 8000000 in
set_option maxRecDepth 100000 in
theorem gX4_told (l : Launch) (g : zG) (h0 h1 h2 h3 h4 h5 h6 h7 h8 h9 h10 h11 h12 h13 h14 h15 h16 h17 h18 : Nat) (sz : Nat) (p1 : Int32) (p2 : Int32) (f0 : Int32) (f1 : Int32) (f2 : Int32) (f3 : Int32) (f4 : Int32) (Z5 : Nat → Int32) (Z6 : Nat → Int32) (Z7 : Nat → Int32) (Z8 : Nat → Int32) (Z9 : Nat → Int32) (Z10 : Nat → Int32) (hf_f2 : 0 ≤ f2.toInt ∧ f2.toInt ≤ 6) (hf_f3 : 0 ≤ f3.toInt ∧ f3.toInt ≤ 5) (hf_f4 : 0 ≤ f4.toInt ∧ f4.toInt ≤ 9999) (hF_Z5 : iLaw Z5) (hF_Z6 : iKd Z6) (hF_Z7 : iSo Z7) (hF_Z8 : iPu Z8) (hF_Z9 : iMa Z9) (hF_Z10 : iWo Z10) : Met l yX4_told (.code yX4_told cX4_told 3 (some .int) :: zBig) ({ frames := 2, cells := 0, slots := 0, locals := 43 }) (va_Pc [.ref h0, .int p1, .int p2] (zPre g [(h0, .inr (4, [.ref h1, .ref h2, .int f0, .ref h3, .ref h4, .ref h5, .ref h6, .int f1, .ref h7, .ref h8, .ref h9, .ref h10])), (h1, .inr (0, [.ref h11, .int f2, .ref h12, .int f3, .ref h13, .ref h14, .ref h15, .ref h16, .ref h17, .ref h18, .int f4])), (h11, .inl (zI g, 5, .inl Z5)), (h12, .inl (zI g, 6, .inl Z6)), (h13, .inl (zI g, 5, .inl Z7)), (h14, .inl (zI g, 5, .inl Z8)), (h15, .inl (zI g, 5, .inl Z9)), (h16, .inl (zI g, 20, .inl Z10))] sz)) (va_Qi (fun (r : Int32) (u : Nat) => r.toInt = zAtold f3.toInt Z7 Z9 Z8 Z10 p1.toInt p2.toInt) (zPost g (fun u : Nat => [(h0, .inr (4, [.ref h1, .ref h2, .int f0, .ref h3, .ref h4, .ref h5, .ref h6, .int f1, .ref h7, .ref h8, .ref h9, .ref h10])), (h1, .inr (0, [.ref h11, .int f2, .ref h12, .int f3, .ref h13, .ref h14, .ref h15, .ref h16, .ref h17, .ref h18, .int f4])), (h11, .inl (zI g, 5, .inl Z5)), (h12, .inl (zI g, 6, .inl Z6)), (h13, .inl (zI g, 5, .inl Z7)), (h14, .inl (zI g, 5, .inl Z8)), (h15, .inl (zI g, 5, .inl Z9)), (h16, .inl (zI g, 20, .inl Z10))]) (va_A [(h0, .inr (4, [.ref h1, .ref h2, .int f0, .ref h3, .ref h4, .ref h5, .ref h6, .int f1, .ref h7, .ref h8, .ref h9, .ref h10])), (h1, .inr (0, [.ref h11, .int f2, .ref h12, .int f3, .ref h13, .ref h14, .ref h15, .ref h16, .ref h17, .ref h18, .int f4])), (h11, .inl (zI g, 5, .inl Z5)), (h12, .inl (zI g, 6, .inl Z6)), (h13, .inl (zI g, 5, .inl Z7)), (h14, .inl (zI g, 5, .inl Z8)), (h15, .inl (zI g, 5, .inl Z9)), (h16, .inl (zI g, 20, .inl Z10))] sz)) (va_A [(h0, .inr (4, [.ref h1, .ref h2, .int f0, .ref h3, .ref h4, .ref h5, .ref h6, .int f1, .ref h7, .ref h8, .ref h9, .ref h10])), (h1, .inr (0, [.ref h11, .int f2, .ref h12, .int f3, .ref h13, .ref h14, .ref h15, .ref h16, .ref h17, .ref h18, .int f4])), (h11, .inl (zI g, 5, .inl Z5)), (h12, .inl (zI g, 6, .inl Z6)), (h13, .inl (zI g, 5, .inl Z7)), (h14, .inl (zI g, 5, .inl Z8)), (h15, .inl (zI g, 5, .inl Z9)), (h16, .inl (zI g, 20, .inl Z10))] sz)) 0 0 (va_A [(h0, .inr (4, [.ref h1, .ref h2, .int f0, .ref h3, .ref h4, .ref h5, .ref h6, .int f1, .ref h7, .ref h8, .ref h9, .ref h10])), (h1, .inr (0, [.ref h11, .int f2, .ref h12, .int f3, .ref h13, .ref h14, .ref h15, .ref h16, .ref h17, .ref h18, .int f4])), (h11, .inl (zI g, 5, .inl Z5)), (h12, .inl (zI g, 6, .inl Z6)), (h13, .inl (zI g, 5, .inl Z7)), (h14, .inl (zI g, 5, .inl Z8)), (h15, .inl (zI g, 5, .inl Z9)), (h16, .inl (zI g, 20, .inl Z10))] sz) := by
  refine zMetI rfl (Nat.le_of_ble_eq_true rfl) ?_
  intro p e s m args below meth c A ls hx hb hml hr hlocks hin hown hts hK hN hZ hP hD hA hS hAe hl
  have hown : s.vm.findClass RX4 = some m.cls := hown
  have hl : lv_has ls 3 [(0, .ref h0), (1, .int p1), (2, .int p2)] := hl
  refine lv_aload_n hx hb dX4_told_0 rfl (lv_at hl 0 rfl) ?_
  refine va_get (D := g.1) (ci := 4) (v := .ref h1) (C := RX4) (T := TX4) (N := 12) hx hb hts zl_X4 hown hK hP 0 rfl rfl 0 (by decide) (hts _ m_f_RX4_10) (fun _ h => h) rfl dX4_told_1 ?_
  refine lv_iload_n hx hb dX4_told_4 rfl (lv_at hl 1 rfl) ?_
  refine z_calli (wr := [(h0, .inr (4, [.ref h1, .ref h2, .int f0, .ref h3, .ref h4, .ref h5, .ref h6, .int f1, .ref h7, .ref h8, .ref h9, .ref h10])), (h11, .inl (zI g, 5, .inl Z5)), (h12, .inl (zI g, 6, .inl Z6)), (h13, .inl (zI g, 5, .inl Z7)), (h14, .inl (zI g, 5, .inl Z8)), (h15, .inl (zI g, 5, .inl Z9)), (h16, .inl (zI g, 20, .inl Z10))]) hP hD hS hA [1] [0, 2, 3, 4, 5, 6, 7] (by decide) rfl rfl (by decide) (va_runVN (As := [.int p1]) (rest := []) ⟨hx, hb, hml, hown, hts⟩ (gX0_isThere l g h1 h11 h12 h13 h14 h15 h16 h17 h18 s.heap.size p1 f2 f3 f4 (by constructor <;> omega) (by constructor <;> omega) (by constructor <;> omega)) ⟨va_cnB 1 hts (zGood m_o_yX0_isThere) rfl rfl rfl (hN.m 4 (q := (RX4, 80, yX0_isThere)) rfl) (hts _ m_z_RX0) ⟨by decide +kernel, by decide +kernel, by decide +kernel⟩ ⟨Nat.le_of_ble_eq_true rfl, Nat.le_of_ble_eq_true rfl⟩, hts _ m_i_yX0_isThere, hts _ m_e_yX0_isThere⟩ (zPreV hK hN hZ hP hD hS hA [1] (by decide) rfl rfl 0 1 rfl rfl) rfl rfl hl.1 rfl (lv_room (Nat.le_of_ble_eq_true rfl)) dX4_told_5 ⟨Nat.le_of_ble_eq_true rfl, Nat.le_of_ble_eq_true rfl⟩) (fun r u H locs hw hP hD hS => ?_)
  rcases hw with ⟨i_0, rfl⟩ | ⟨i_1, i_2, rfl⟩ | ⟨i_3, i_4, i_5, rfl⟩ | ⟨i_6, i_7, i_8, rfl⟩
  · skip
    have i_0 : p1.toInt < 0 := i_0
    have hP : va_P g.1 vwCl [(h0, .inr (4, [.ref h1, .ref h2, .int f0, .ref h3, .ref h4, .ref h5, .ref h6, .int f1, .ref h7, .ref h8, .ref h9, .ref h10])), (h11, .inl (zI g, 5, .inl Z5)), (h12, .inl (zI g, 6, .inl Z6)), (h13, .inl (zI g, 5, .inl Z7)), (h14, .inl (zI g, 5, .inl Z8)), (h15, .inl (zI g, 5, .inl Z9)), (h16, .inl (zI g, 20, .inl Z10)), (h1, .inr (0, [.ref h11, .int f2, .ref h12, .int f3, .ref h13, .ref h14, .ref h15, .ref h16, .ref h17, .ref h18, .int f4]))] H := hP
    have hD : va_D A [(h0, .inr (4, [.ref h1, .ref h2, .int f0, .ref h3, .ref h4, .ref h5, .ref h6, .int f1, .ref h7, .ref h8, .ref h9, .ref h10])), (h11, .inl (zI g, 5, .inl Z5)), (h12, .inl (zI g, 6, .inl Z6)), (h13, .inl (zI g, 5, .inl Z7)), (h14, .inl (zI g, 5, .inl Z8)), (h15, .inl (zI g, 5, .inl Z9)), (h16, .inl (zI g, 20, .inl Z10)), (h1, .inr (0, [.ref h11, .int f2, .ref h12, .int f3, .ref h13, .ref h14, .ref h15, .ref h16, .ref h17, .ref h18, .int f4]))] := hD
    refine lv_if_eq (tgt := 21) hx hb dX4_told_8 (by decide) (fun _ => ?_) (fun h => absurd h (by decide +kernel))
    refine lv_ldc (v := (-100001)) hx hb hown (hts _ m_k_RX4_93) dX4_told_21 ?_
    have : ((-100001) : Int32).toInt = (-100001) := rfl
    have hz : zAtold f3.toInt Z7 Z9 Z8 Z10 p1.toInt p2.toInt = (-100001) := by
      unfold zAtold
      rw [if_pos (by omega)]
    have hP9 := hP.sub (ws' := [(h0, .inr (4, [.ref h1, .ref h2, .int f0, .ref h3, .ref h4, .ref h5, .ref h6, .int f1, .ref h7, .ref h8, .ref h9, .ref h10])), (h1, .inr (0, [.ref h11, .int f2, .ref h12, .int f3, .ref h13, .ref h14, .ref h15, .ref h16, .ref h17, .ref h18, .int f4])), (h11, .inl (zI g, 5, .inl Z5)), (h12, .inl (zI g, 6, .inl Z6)), (h13, .inl (zI g, 5, .inl Z7)), (h14, .inl (zI g, 5, .inl Z8)), (h15, .inl (zI g, 5, .inl Z9)), (h16, .inl (zI g, 20, .inl Z10))]) [0, 7, 1, 2, 3, 4, 5, 6] rfl
    have hD9 := hD.sub (ws' := [(h0, .inr (4, [.ref h1, .ref h2, .int f0, .ref h3, .ref h4, .ref h5, .ref h6, .int f1, .ref h7, .ref h8, .ref h9, .ref h10])), (h1, .inr (0, [.ref h11, .int f2, .ref h12, .int f3, .ref h13, .ref h14, .ref h15, .ref h16, .ref h17, .ref h18, .int f4])), (h11, .inl (zI g, 5, .inl Z5)), (h12, .inl (zI g, 6, .inl Z6)), (h13, .inl (zI g, 5, .inl Z7)), (h14, .inl (zI g, 5, .inl Z8)), (h15, .inl (zI g, 5, .inl Z9)), (h16, .inl (zI g, 20, .inl Z10))]) [0, 7, 1, 2, 3, 4, 5, 6] (by decide) rfl
    exact W.iret (v := (-100001)) hx hb hr (fun t ht hW => ⟨⟨(-100001), (0 : Nat), rfl, (by first | omega | decide), by rw [ht]; exact hP9, hD9⟩, hS.F ht⟩) hS.2.2 dX4_told_23
  · skip
    have i_1 : 0 ≤ p1.toInt := i_1
    have i_2 : 5 ≤ p1.toInt := i_2
    have hP : va_P g.1 vwCl [(h0, .inr (4, [.ref h1, .ref h2, .int f0, .ref h3, .ref h4, .ref h5, .ref h6, .int f1, .ref h7, .ref h8, .ref h9, .ref h10])), (h11, .inl (zI g, 5, .inl Z5)), (h12, .inl (zI g, 6, .inl Z6)), (h13, .inl (zI g, 5, .inl Z7)), (h14, .inl (zI g, 5, .inl Z8)), (h15, .inl (zI g, 5, .inl Z9)), (h16, .inl (zI g, 20, .inl Z10)), (h1, .inr (0, [.ref h11, .int f2, .ref h12, .int f3, .ref h13, .ref h14, .ref h15, .ref h16, .ref h17, .ref h18, .int f4]))] H := hP
    have hD : va_D A [(h0, .inr (4, [.ref h1, .ref h2, .int f0, .ref h3, .ref h4, .ref h5, .ref h6, .int f1, .ref h7, .ref h8, .ref h9, .ref h10])), (h11, .inl (zI g, 5, .inl Z5)), (h12, .inl (zI g, 6, .inl Z6)), (h13, .inl (zI g, 5, .inl Z7)), (h14, .inl (zI g, 5, .inl Z8)), (h15, .inl (zI g, 5, .inl Z9)), (h16, .inl (zI g, 20, .inl Z10)), (h1, .inr (0, [.ref h11, .int f2, .ref h12, .int f3, .ref h13, .ref h14, .ref h15, .ref h16, .ref h17, .ref h18, .int f4]))] := hD
    refine lv_if_eq (tgt := 21) hx hb dX4_told_8 (by decide) (fun _ => ?_) (fun h => absurd h (by decide +kernel))
    refine lv_ldc (v := (-100001)) hx hb hown (hts _ m_k_RX4_93) dX4_told_21 ?_
    have : ((-100001) : Int32).toInt = (-100001) := rfl
    have hz : zAtold f3.toInt Z7 Z9 Z8 Z10 p1.toInt p2.toInt = (-100001) := by
      unfold zAtold
      rw [if_pos (by omega)]
    have hP9 := hP.sub (ws' := [(h0, .inr (4, [.ref h1, .ref h2, .int f0, .ref h3, .ref h4, .ref h5, .ref h6, .int f1, .ref h7, .ref h8, .ref h9, .ref h10])), (h1, .inr (0, [.ref h11, .int f2, .ref h12, .int f3, .ref h13, .ref h14, .ref h15, .ref h16, .ref h17, .ref h18, .int f4])), (h11, .inl (zI g, 5, .inl Z5)), (h12, .inl (zI g, 6, .inl Z6)), (h13, .inl (zI g, 5, .inl Z7)), (h14, .inl (zI g, 5, .inl Z8)), (h15, .inl (zI g, 5, .inl Z9)), (h16, .inl (zI g, 20, .inl Z10))]) [0, 7, 1, 2, 3, 4, 5, 6] rfl
    have hD9 := hD.sub (ws' := [(h0, .inr (4, [.ref h1, .ref h2, .int f0, .ref h3, .ref h4, .ref h5, .ref h6, .int f1, .ref h7, .ref h8, .ref h9, .ref h10])), (h1, .inr (0, [.ref h11, .int f2, .ref h12, .int f3, .ref h13, .ref h14, .ref h15, .ref h16, .ref h17, .ref h18, .int f4])), (h11, .inl (zI g, 5, .inl Z5)), (h12, .inl (zI g, 6, .inl Z6)), (h13, .inl (zI g, 5, .inl Z7)), (h14, .inl (zI g, 5, .inl Z8)), (h15, .inl (zI g, 5, .inl Z9)), (h16, .inl (zI g, 20, .inl Z10))]) [0, 7, 1, 2, 3, 4, 5, 6] (by decide) rfl
    exact W.iret (v := (-100001)) hx hb hr (fun t ht hW => ⟨⟨(-100001), (0 : Nat), rfl, (by first | omega | decide), by rw [ht]; exact hP9, hD9⟩, hS.F ht⟩) hS.2.2 dX4_told_23
  · skip
    have i_3 : 0 ≤ p1.toInt := i_3
    have i_4 : p1.toInt < 5 := i_4
    have i_5 : f3.toInt ≤ p1.toInt := i_5
    have hP : va_P g.1 vwCl [(h0, .inr (4, [.ref h1, .ref h2, .int f0, .ref h3, .ref h4, .ref h5, .ref h6, .int f1, .ref h7, .ref h8, .ref h9, .ref h10])), (h11, .inl (zI g, 5, .inl Z5)), (h12, .inl (zI g, 6, .inl Z6)), (h13, .inl (zI g, 5, .inl Z7)), (h14, .inl (zI g, 5, .inl Z8)), (h15, .inl (zI g, 5, .inl Z9)), (h16, .inl (zI g, 20, .inl Z10)), (h1, .inr (0, [.ref h11, .int f2, .ref h12, .int f3, .ref h13, .ref h14, .ref h15, .ref h16, .ref h17, .ref h18, .int f4]))] H := hP
    have hD : va_D A [(h0, .inr (4, [.ref h1, .ref h2, .int f0, .ref h3, .ref h4, .ref h5, .ref h6, .int f1, .ref h7, .ref h8, .ref h9, .ref h10])), (h11, .inl (zI g, 5, .inl Z5)), (h12, .inl (zI g, 6, .inl Z6)), (h13, .inl (zI g, 5, .inl Z7)), (h14, .inl (zI g, 5, .inl Z8)), (h15, .inl (zI g, 5, .inl Z9)), (h16, .inl (zI g, 20, .inl Z10)), (h1, .inr (0, [.ref h11, .int f2, .ref h12, .int f3, .ref h13, .ref h14, .ref h15, .ref h16, .ref h17, .ref h18, .int f4]))] := hD
    refine lv_if_eq (tgt := 21) hx hb dX4_told_8 (by decide) (fun _ => ?_) (fun h => absurd h (by decide +kernel))
    refine lv_ldc (v := (-100001)) hx hb hown (hts _ m_k_RX4_93) dX4_told_21 ?_
    have : ((-100001) : Int32).toInt = (-100001) := rfl
    have hz : zAtold f3.toInt Z7 Z9 Z8 Z10 p1.toInt p2.toInt = (-100001) := by
      unfold zAtold
      rw [if_pos (by omega)]
    have hP9 := hP.sub (ws' := [(h0, .inr (4, [.ref h1, .ref h2, .int f0, .ref h3, .ref h4, .ref h5, .ref h6, .int f1, .ref h7, .ref h8, .ref h9, .ref h10])), (h1, .inr (0, [.ref h11, .int f2, .ref h12, .int f3, .ref h13, .ref h14, .ref h15, .ref h16, .ref h17, .ref h18, .int f4])), (h11, .inl (zI g, 5, .inl Z5)), (h12, .inl (zI g, 6, .inl Z6)), (h13, .inl (zI g, 5, .inl Z7)), (h14, .inl (zI g, 5, .inl Z8)), (h15, .inl (zI g, 5, .inl Z9)), (h16, .inl (zI g, 20, .inl Z10))]) [0, 7, 1, 2, 3, 4, 5, 6] rfl
    have hD9 := hD.sub (ws' := [(h0, .inr (4, [.ref h1, .ref h2, .int f0, .ref h3, .ref h4, .ref h5, .ref h6, .int f1, .ref h7, .ref h8, .ref h9, .ref h10])), (h1, .inr (0, [.ref h11, .int f2, .ref h12, .int f3, .ref h13, .ref h14, .ref h15, .ref h16, .ref h17, .ref h18, .int f4])), (h11, .inl (zI g, 5, .inl Z5)), (h12, .inl (zI g, 6, .inl Z6)), (h13, .inl (zI g, 5, .inl Z7)), (h14, .inl (zI g, 5, .inl Z8)), (h15, .inl (zI g, 5, .inl Z9)), (h16, .inl (zI g, 20, .inl Z10))]) [0, 7, 1, 2, 3, 4, 5, 6] (by decide) rfl
    exact W.iret (v := (-100001)) hx hb hr (fun t ht hW => ⟨⟨(-100001), (0 : Nat), rfl, (by first | omega | decide), by rw [ht]; exact hP9, hD9⟩, hS.F ht⟩) hS.2.2 dX4_told_23
  · skip
    have i_6 : 0 ≤ p1.toInt := i_6
    have i_7 : p1.toInt < 5 := i_7
    have i_8 : p1.toInt < f3.toInt := i_8
    have hP : va_P g.1 vwCl [(h0, .inr (4, [.ref h1, .ref h2, .int f0, .ref h3, .ref h4, .ref h5, .ref h6, .int f1, .ref h7, .ref h8, .ref h9, .ref h10])), (h11, .inl (zI g, 5, .inl Z5)), (h12, .inl (zI g, 6, .inl Z6)), (h13, .inl (zI g, 5, .inl Z7)), (h14, .inl (zI g, 5, .inl Z8)), (h15, .inl (zI g, 5, .inl Z9)), (h16, .inl (zI g, 20, .inl Z10)), (h1, .inr (0, [.ref h11, .int f2, .ref h12, .int f3, .ref h13, .ref h14, .ref h15, .ref h16, .ref h17, .ref h18, .int f4]))] H := hP
    have hD : va_D A [(h0, .inr (4, [.ref h1, .ref h2, .int f0, .ref h3, .ref h4, .ref h5, .ref h6, .int f1, .ref h7, .ref h8, .ref h9, .ref h10])), (h11, .inl (zI g, 5, .inl Z5)), (h12, .inl (zI g, 6, .inl Z6)), (h13, .inl (zI g, 5, .inl Z7)), (h14, .inl (zI g, 5, .inl Z8)), (h15, .inl (zI g, 5, .inl Z9)), (h16, .inl (zI g, 20, .inl Z10)), (h1, .inr (0, [.ref h11, .int f2, .ref h12, .int f3, .ref h13, .ref h14, .ref h15, .ref h16, .ref h17, .ref h18, .int f4]))] := hD
    refine lv_if_eq (tgt := 21) hx hb dX4_told_8 (by decide) (fun h => absurd h (by decide +kernel)) (fun _ => ?_)
    refine lv_iload_n hx hb dX4_told_11 rfl (lv_at hl 2 rfl) ?_
    refine lv_if_lt (tgt := 21) hx hb dX4_told_12 (by decide) (fun c_9 => ?_) (fun c_9 => ?_)
    · have i_9 : p2.toInt < 0 := z_lt (rfl) (rfl) c_9
      refine lv_ldc (v := (-100001)) hx hb hown (hts _ m_k_RX4_93) dX4_told_21 ?_
      have : ((-100001) : Int32).toInt = (-100001) := rfl
      have hz : zAtold f3.toInt Z7 Z9 Z8 Z10 p1.toInt p2.toInt = (-100001) := by
        unfold zAtold
        rw [if_pos (by omega)]
      have hP9 := hP.sub (ws' := [(h0, .inr (4, [.ref h1, .ref h2, .int f0, .ref h3, .ref h4, .ref h5, .ref h6, .int f1, .ref h7, .ref h8, .ref h9, .ref h10])), (h1, .inr (0, [.ref h11, .int f2, .ref h12, .int f3, .ref h13, .ref h14, .ref h15, .ref h16, .ref h17, .ref h18, .int f4])), (h11, .inl (zI g, 5, .inl Z5)), (h12, .inl (zI g, 6, .inl Z6)), (h13, .inl (zI g, 5, .inl Z7)), (h14, .inl (zI g, 5, .inl Z8)), (h15, .inl (zI g, 5, .inl Z9)), (h16, .inl (zI g, 20, .inl Z10))]) [0, 7, 1, 2, 3, 4, 5, 6] rfl
      have hD9 := hD.sub (ws' := [(h0, .inr (4, [.ref h1, .ref h2, .int f0, .ref h3, .ref h4, .ref h5, .ref h6, .int f1, .ref h7, .ref h8, .ref h9, .ref h10])), (h1, .inr (0, [.ref h11, .int f2, .ref h12, .int f3, .ref h13, .ref h14, .ref h15, .ref h16, .ref h17, .ref h18, .int f4])), (h11, .inl (zI g, 5, .inl Z5)), (h12, .inl (zI g, 6, .inl Z6)), (h13, .inl (zI g, 5, .inl Z7)), (h14, .inl (zI g, 5, .inl Z8)), (h15, .inl (zI g, 5, .inl Z9)), (h16, .inl (zI g, 20, .inl Z10))]) [0, 7, 1, 2, 3, 4, 5, 6] (by decide) rfl
      exact W.iret (v := (-100001)) hx hb hr (fun t ht hW => ⟨⟨(-100001), (0 : Nat), rfl, (by first | omega | decide), by rw [ht]; exact hP9, hD9⟩, hS.F ht⟩) hS.2.2 dX4_told_23
    · have i_9 : 0 ≤ p2.toInt := z_nlt (rfl) (rfl) c_9
      refine lv_iload_n hx hb dX4_told_15 rfl (lv_at hl 2 rfl) ?_
      refine lv_bipush (v := 6) hx hb dX4_told_16 (by decide) ?_
      refine lv_icmp_le (tgt := 24) hx hb dX4_told_18 (by decide) (fun c_10 => ?_) (fun c_10 => ?_)
      · have i_10 : p2.toInt ≤ 6 := z_le (rfl) (rfl) c_10
        refine lv_iload_n hx hb dX4_told_24 rfl (lv_at hl 2 rfl) ?_
        refine lv_if_ne (tgt := 38) hx hb dX4_told_25 (by decide) (fun c_11 => ?_) (fun c_11 => ?_)
        · have i_11 : p2.toInt ≠ 0 := z_ne (rfl) (rfl) c_11
          refine lv_iload_n hx hb dX4_told_38 rfl (lv_at hl 2 rfl) ?_
          refine lv_iconst (v := 1) hx hb dX4_told_39 (by decide) ?_
          refine lv_icmp_ne (tgt := 53) hx hb dX4_told_40 (by decide) (fun c_12 => ?_) (fun c_12 => ?_)
          · have i_12 : p2.toInt ≠ 1 := z_ne (rfl) (rfl) c_12
            refine lv_iload_n hx hb dX4_told_53 rfl (lv_at hl 2 rfl) ?_
            refine lv_bipush (v := 6) hx hb dX4_told_54 (by decide) ?_
            refine lv_icmp_ne (tgt := 69) hx hb dX4_told_56 (by decide) (fun c_13 => ?_) (fun c_13 => ?_)
            · have i_13 : p2.toInt ≠ 6 := z_ne (rfl) (rfl) c_13
              refine lv_aload_n hx hb dX4_told_69 rfl (lv_at hl 0 rfl) ?_
              refine va_get (D := g.1) (ci := 4) (v := .ref h1) (C := RX4) (T := TX4) (N := 12) hx hb hts zl_X4 hown hK hP 0 rfl rfl 0 (by decide) (hts _ m_f_RX4_10) (fun _ h => h) rfl dX4_told_70 ?_
              refine lv_iload_n hx hb dX4_told_73 rfl (lv_at hl 1 rfl) ?_
              refine lv_iload_n hx hb dX4_told_74 rfl (lv_at hl 2 rfl) ?_
              refine lv_iconst (v := 2) hx hb dX4_told_75 (by decide) ?_
              refine lv_isub hx hb dX4_told_76 ?_
              refine lv_topi (fun y0 ey0 => ?_)
              have qy0_0 : y0.toInt = p2.toInt - 2 := zi_sub ey0 (rfl) (rfl) (by omega) (by omega)
              refine z_calli (wr := [(h0, .inr (4, [.ref h1, .ref h2, .int f0, .ref h3, .ref h4, .ref h5, .ref h6, .int f1, .ref h7, .ref h8, .ref h9, .ref h10])), (h11, .inl (zI g, 5, .inl Z5)), (h12, .inl (zI g, 6, .inl Z6)), (h13, .inl (zI g, 5, .inl Z7)), (h14, .inl (zI g, 5, .inl Z8)), (h15, .inl (zI g, 5, .inl Z9))]) hP hD hS hA [7, 6] [0, 1, 2, 3, 4, 5] (by decide) rfl rfl (by decide) (va_runVN (As := [.int p1, .int y0]) (rest := []) ⟨hx, hb, hml, hown, hts⟩ (gX0_worthOf l g h1 h11 h12 h13 h14 h15 h16 h17 h18 H.size p1 y0 f2 f3 f4 Z10 (by constructor <;> omega) (by constructor <;> omega) (by constructor <;> omega) hF_Z10) ⟨va_cnB 2 hts (zGood m_o_yX0_worthOf) rfl rfl rfl (hN.m 5 (q := (RX4, 94, yX0_worthOf)) rfl) (hts _ m_z_RX0) ⟨by decide +kernel, by decide +kernel, by decide +kernel⟩ ⟨Nat.le_of_ble_eq_true rfl, Nat.le_of_ble_eq_true rfl⟩, hts _ m_i_yX0_worthOf, hts _ m_e_yX0_worthOf⟩ (zPreV hK hN hZ hP hD hS hA [7, 6] (by decide) rfl rfl 0 7 rfl rfl) rfl rfl hl.1 rfl (lv_room (Nat.le_of_ble_eq_true rfl)) dX4_told_77 ⟨Nat.le_of_ble_eq_true rfl, Nat.le_of_ble_eq_true rfl⟩) (fun r u H locs hw hP hD hS => ?_)
              obtain ⟨y1, rfl⟩ : ∃ z, z = r := ⟨_, rfl⟩
              obtain ⟨q2_0, q2_1, q2_2⟩ := hw
              have q2_0 : y1.toInt = zWq f3.toInt Z10 p1.toInt y0.toInt := q2_0
              have q2_1 : 0 ≤ y1.toInt := q2_1
              have q2_2 : y1.toInt ≤ 99 := q2_2
              have hP : va_P g.1 vwCl [(h0, .inr (4, [.ref h1, .ref h2, .int f0, .ref h3, .ref h4, .ref h5, .ref h6, .int f1, .ref h7, .ref h8, .ref h9, .ref h10])), (h11, .inl (zI g, 5, .inl Z5)), (h12, .inl (zI g, 6, .inl Z6)), (h13, .inl (zI g, 5, .inl Z7)), (h14, .inl (zI g, 5, .inl Z8)), (h15, .inl (zI g, 5, .inl Z9)), (h1, .inr (0, [.ref h11, .int f2, .ref h12, .int f3, .ref h13, .ref h14, .ref h15, .ref h16, .ref h17, .ref h18, .int f4])), (h16, .inl (zI g, 20, .inl Z10))] H := hP
              have hD : va_D A [(h0, .inr (4, [.ref h1, .ref h2, .int f0, .ref h3, .ref h4, .ref h5, .ref h6, .int f1, .ref h7, .ref h8, .ref h9, .ref h10])), (h11, .inl (zI g, 5, .inl Z5)), (h12, .inl (zI g, 6, .inl Z6)), (h13, .inl (zI g, 5, .inl Z7)), (h14, .inl (zI g, 5, .inl Z8)), (h15, .inl (zI g, 5, .inl Z9)), (h1, .inr (0, [.ref h11, .int f2, .ref h12, .int f3, .ref h13, .ref h14, .ref h15, .ref h16, .ref h17, .ref h18, .int f4])), (h16, .inl (zI g, 20, .inl Z10))] := hD
              have hq9 : zWq f3.toInt Z10 p1.toInt (p2.toInt - 2) = y1.toInt := by rw [← (by omega : y0.toInt = p2.toInt - 2)]; omega
              have hz : zAtold f3.toInt Z7 Z9 Z8 Z10 p1.toInt p2.toInt = y1.toInt := by
                unfold zAtold
                rw [if_neg (by omega), if_neg (by omega), if_neg (by omega), if_neg (by omega)] <;> omega
              have hP9 := hP.sub (ws' := [(h0, .inr (4, [.ref h1, .ref h2, .int f0, .ref h3, .ref h4, .ref h5, .ref h6, .int f1, .ref h7, .ref h8, .ref h9, .ref h10])), (h1, .inr (0, [.ref h11, .int f2, .ref h12, .int f3, .ref h13, .ref h14, .ref h15, .ref h16, .ref h17, .ref h18, .int f4])), (h11, .inl (zI g, 5, .inl Z5)), (h12, .inl (zI g, 6, .inl Z6)), (h13, .inl (zI g, 5, .inl Z7)), (h14, .inl (zI g, 5, .inl Z8)), (h15, .inl (zI g, 5, .inl Z9)), (h16, .inl (zI g, 20, .inl Z10))]) [0, 6, 1, 2, 3, 4, 5, 7] rfl
              have hD9 := hD.sub (ws' := [(h0, .inr (4, [.ref h1, .ref h2, .int f0, .ref h3, .ref h4, .ref h5, .ref h6, .int f1, .ref h7, .ref h8, .ref h9, .ref h10])), (h1, .inr (0, [.ref h11, .int f2, .ref h12, .int f3, .ref h13, .ref h14, .ref h15, .ref h16, .ref h17, .ref h18, .int f4])), (h11, .inl (zI g, 5, .inl Z5)), (h12, .inl (zI g, 6, .inl Z6)), (h13, .inl (zI g, 5, .inl Z7)), (h14, .inl (zI g, 5, .inl Z8)), (h15, .inl (zI g, 5, .inl Z9)), (h16, .inl (zI g, 20, .inl Z10))]) [0, 6, 1, 2, 3, 4, 5, 7] (by decide) rfl
              exact W.iret (v := y1) hx hb hr (fun t ht hW => ⟨⟨y1, (0 : Nat), rfl, (by first | omega | decide), by rw [ht]; exact hP9, hD9⟩, hS.F ht⟩) hS.2.2 dX4_told_80
            · have i_13 : p2.toInt = 6 := z_eq (rfl) (rfl) c_13
              refine lv_aload_n hx hb dX4_told_59 rfl (lv_at hl 0 rfl) ?_
              refine va_get (D := g.1) (ci := 4) (v := .ref h1) (C := RX4) (T := TX4) (N := 12) hx hb hts zl_X4 hown hK hP 0 rfl rfl 0 (by decide) (hts _ m_f_RX4_10) (fun _ h => h) rfl dX4_told_60 ?_
              refine va_getN (D := g.1) (ci := 0) (v := .ref h14) (C := RX0) (T := TX0) (N := 11) hx hb hts zl_X0 hown hK hP 7 rfl rfl 5 (by decide) (hN.f 12 (q := (RX4, 77, "FishSteps$Books", "purse", "[I")) rfl) (fun _ h => h) rfl dX4_told_63 ?_
              refine lv_iload_n hx hb dX4_told_66 rfl (lv_at hl 1 rfl) ?_
              refine va_iald (D := g.1) hx hb hK hP 4 0 rfl rfl (vp_in_iff.mpr ⟨by omega, by omega⟩) dX4_told_67 ?_
              refine lv_topi (fun y3 ey3 => ?_)
              have qy3_0 : (-99) ≤ y3.toInt := (i_at (N := 5) (lo := (-99)) (hi := 9999) (i := p1) (a := p1.toInt) hF_Z8 (rfl) (by omega) (by omega) ey3).1
              have qy3_1 : y3.toInt ≤ 9999 := (i_at (N := 5) (lo := (-99)) (hi := 9999) (i := p1) (a := p1.toInt) hF_Z8 (rfl) (by omega) (by omega) ey3).2
              have qy3_2 : y3.toInt = (Z8 p1.toNatClampNeg).toInt := congrArg Int32.toInt ey3
              have py3_0 : y3.toInt = (Z8 p1.toInt.toNat).toInt := congrArg Int32.toInt ey3
              have hz : zAtold f3.toInt Z7 Z9 Z8 Z10 p1.toInt p2.toInt = y3.toInt := by
                unfold zAtold
                rw [if_neg (by omega), if_neg (by omega), if_neg (by omega), if_pos (by omega)] <;> omega
              have hP9 := hP.sub (ws' := [(h0, .inr (4, [.ref h1, .ref h2, .int f0, .ref h3, .ref h4, .ref h5, .ref h6, .int f1, .ref h7, .ref h8, .ref h9, .ref h10])), (h1, .inr (0, [.ref h11, .int f2, .ref h12, .int f3, .ref h13, .ref h14, .ref h15, .ref h16, .ref h17, .ref h18, .int f4])), (h11, .inl (zI g, 5, .inl Z5)), (h12, .inl (zI g, 6, .inl Z6)), (h13, .inl (zI g, 5, .inl Z7)), (h14, .inl (zI g, 5, .inl Z8)), (h15, .inl (zI g, 5, .inl Z9)), (h16, .inl (zI g, 20, .inl Z10))]) [0, 7, 1, 2, 3, 4, 5, 6] rfl
              have hD9 := hD.sub (ws' := [(h0, .inr (4, [.ref h1, .ref h2, .int f0, .ref h3, .ref h4, .ref h5, .ref h6, .int f1, .ref h7, .ref h8, .ref h9, .ref h10])), (h1, .inr (0, [.ref h11, .int f2, .ref h12, .int f3, .ref h13, .ref h14, .ref h15, .ref h16, .ref h17, .ref h18, .int f4])), (h11, .inl (zI g, 5, .inl Z5)), (h12, .inl (zI g, 6, .inl Z6)), (h13, .inl (zI g, 5, .inl Z7)), (h14, .inl (zI g, 5, .inl Z8)), (h15, .inl (zI g, 5, .inl Z9)), (h16, .inl (zI g, 20, .inl Z10))]) [0, 7, 1, 2, 3, 4, 5, 6] (by decide) rfl
              exact W.iret (v := y3) hx hb hr (fun t ht hW => ⟨⟨y3, (0 : Nat), rfl, (by first | omega | decide), by rw [ht]; exact hP9, hD9⟩, hS.F ht⟩) hS.2.2 dX4_told_68
          · have i_12 : p2.toInt = 1 := z_eq (rfl) (rfl) c_12
            refine lv_aload_n hx hb dX4_told_43 rfl (lv_at hl 0 rfl) ?_
            refine va_get (D := g.1) (ci := 4) (v := .ref h1) (C := RX4) (T := TX4) (N := 12) hx hb hts zl_X4 hown hK hP 0 rfl rfl 0 (by decide) (hts _ m_f_RX4_10) (fun _ h => h) rfl dX4_told_44 ?_
            refine va_getN (D := g.1) (ci := 0) (v := .ref h15) (C := RX0) (T := TX0) (N := 11) hx hb hts zl_X0 hown hK hP 7 rfl rfl 6 (by decide) (hN.f 14 (q := (RX4, 90, "FishSteps$Books", "margin", "[I")) rfl) (fun _ h => h) rfl dX4_told_47 ?_
            refine lv_iload_n hx hb dX4_told_50 rfl (lv_at hl 1 rfl) ?_
            refine va_iald (D := g.1) hx hb hK hP 5 0 rfl rfl (vp_in_iff.mpr ⟨by omega, by omega⟩) dX4_told_51 ?_
            refine lv_topi (fun y4 ey4 => ?_)
            have qy4_0 : 0 ≤ y4.toInt := (i_at (N := 5) (lo := 0) (hi := 40) (i := p1) (a := p1.toInt) hF_Z9 (rfl) (by omega) (by omega) ey4).1
            have qy4_1 : y4.toInt ≤ 40 := (i_at (N := 5) (lo := 0) (hi := 40) (i := p1) (a := p1.toInt) hF_Z9 (rfl) (by omega) (by omega) ey4).2
            have qy4_2 : y4.toInt = (Z9 p1.toNatClampNeg).toInt := congrArg Int32.toInt ey4
            have py4_0 : y4.toInt = (Z9 p1.toInt.toNat).toInt := congrArg Int32.toInt ey4
            have hz : zAtold f3.toInt Z7 Z9 Z8 Z10 p1.toInt p2.toInt = y4.toInt := by
              unfold zAtold
              rw [if_neg (by omega), if_neg (by omega), if_pos (by omega)] <;> omega
            have hP9 := hP.sub (ws' := [(h0, .inr (4, [.ref h1, .ref h2, .int f0, .ref h3, .ref h4, .ref h5, .ref h6, .int f1, .ref h7, .ref h8, .ref h9, .ref h10])), (h1, .inr (0, [.ref h11, .int f2, .ref h12, .int f3, .ref h13, .ref h14, .ref h15, .ref h16, .ref h17, .ref h18, .int f4])), (h11, .inl (zI g, 5, .inl Z5)), (h12, .inl (zI g, 6, .inl Z6)), (h13, .inl (zI g, 5, .inl Z7)), (h14, .inl (zI g, 5, .inl Z8)), (h15, .inl (zI g, 5, .inl Z9)), (h16, .inl (zI g, 20, .inl Z10))]) [0, 7, 1, 2, 3, 4, 5, 6] rfl
            have hD9 := hD.sub (ws' := [(h0, .inr (4, [.ref h1, .ref h2, .int f0, .ref h3, .ref h4, .ref h5, .ref h6, .int f1, .ref h7, .ref h8, .ref h9, .ref h10])), (h1, .inr (0, [.ref h11, .int f2, .ref h12, .int f3, .ref h13, .ref h14, .ref h15, .ref h16, .ref h17, .ref h18, .int f4])), (h11, .inl (zI g, 5, .inl Z5)), (h12, .inl (zI g, 6, .inl Z6)), (h13, .inl (zI g, 5, .inl Z7)), (h14, .inl (zI g, 5, .inl Z8)), (h15, .inl (zI g, 5, .inl Z9)), (h16, .inl (zI g, 20, .inl Z10))]) [0, 7, 1, 2, 3, 4, 5, 6] (by decide) rfl
            exact W.iret (v := y4) hx hb hr (fun t ht hW => ⟨⟨y4, (0 : Nat), rfl, (by first | omega | decide), by rw [ht]; exact hP9, hD9⟩, hS.F ht⟩) hS.2.2 dX4_told_52
        · have i_11 : p2.toInt = 0 := z_eq (rfl) (rfl) c_11
          refine lv_aload_n hx hb dX4_told_28 rfl (lv_at hl 0 rfl) ?_
          refine va_get (D := g.1) (ci := 4) (v := .ref h1) (C := RX4) (T := TX4) (N := 12) hx hb hts zl_X4 hown hK hP 0 rfl rfl 0 (by decide) (hts _ m_f_RX4_10) (fun _ h => h) rfl dX4_told_29 ?_
          refine va_getN (D := g.1) (ci := 0) (v := .ref h13) (C := RX0) (T := TX0) (N := 11) hx hb hts zl_X0 hown hK hP 7 rfl rfl 4 (by decide) (hN.f 9 (q := (RX4, 74, "FishSteps$Books", "sort", "[I")) rfl) (fun _ h => h) rfl dX4_told_32 ?_
          refine lv_iload_n hx hb dX4_told_35 rfl (lv_at hl 1 rfl) ?_
          refine va_iald (D := g.1) hx hb hK hP 3 0 rfl rfl (vp_in_iff.mpr ⟨by omega, by omega⟩) dX4_told_36 ?_
          refine lv_topi (fun y5 ey5 => ?_)
          have qy5_0 : 0 ≤ y5.toInt := (i_at (N := 5) (lo := 0) (hi := 4) (i := p1) (a := p1.toInt) hF_Z7 (rfl) (by omega) (by omega) ey5).1
          have qy5_1 : y5.toInt ≤ 4 := (i_at (N := 5) (lo := 0) (hi := 4) (i := p1) (a := p1.toInt) hF_Z7 (rfl) (by omega) (by omega) ey5).2
          have qy5_2 : y5.toInt = (Z7 p1.toNatClampNeg).toInt := congrArg Int32.toInt ey5
          have py5_0 : y5.toInt = (Z7 p1.toInt.toNat).toInt := congrArg Int32.toInt ey5
          have hz : zAtold f3.toInt Z7 Z9 Z8 Z10 p1.toInt p2.toInt = y5.toInt := by
            unfold zAtold
            rw [if_neg (by omega), if_pos (by omega)] <;> omega
          have hP9 := hP.sub (ws' := [(h0, .inr (4, [.ref h1, .ref h2, .int f0, .ref h3, .ref h4, .ref h5, .ref h6, .int f1, .ref h7, .ref h8, .ref h9, .ref h10])), (h1, .inr (0, [.ref h11, .int f2, .ref h12, .int f3, .ref h13, .ref h14, .ref h15, .ref h16, .ref h17, .ref h18, .int f4])), (h11, .inl (zI g, 5, .inl Z5)), (h12, .inl (zI g, 6, .inl Z6)), (h13, .inl (zI g, 5, .inl Z7)), (h14, .inl (zI g, 5, .inl Z8)), (h15, .inl (zI g, 5, .inl Z9)), (h16, .inl (zI g, 20, .inl Z10))]) [0, 7, 1, 2, 3, 4, 5, 6] rfl
          have hD9 := hD.sub (ws' := [(h0, .inr (4, [.ref h1, .ref h2, .int f0, .ref h3, .ref h4, .ref h5, .ref h6, .int f1, .ref h7, .ref h8, .ref h9, .ref h10])), (h1, .inr (0, [.ref h11, .int f2, .ref h12, .int f3, .ref h13, .ref h14, .ref h15, .ref h16, .ref h17, .ref h18, .int f4])), (h11, .inl (zI g, 5, .inl Z5)), (h12, .inl (zI g, 6, .inl Z6)), (h13, .inl (zI g, 5, .inl Z7)), (h14, .inl (zI g, 5, .inl Z8)), (h15, .inl (zI g, 5, .inl Z9)), (h16, .inl (zI g, 20, .inl Z10))]) [0, 7, 1, 2, 3, 4, 5, 6] (by decide) rfl
          exact W.iret (v := y5) hx hb hr (fun t ht hW => ⟨⟨y5, (0 : Nat), rfl, (by first | omega | decide), by rw [ht]; exact hP9, hD9⟩, hS.F ht⟩) hS.2.2 dX4_told_37
      · have i_10 : 6 < p2.toInt := z_nle (rfl) (rfl) c_10
        refine lv_ldc (v := (-100001)) hx hb hown (hts _ m_k_RX4_93) dX4_told_21 ?_
        have : ((-100001) : Int32).toInt = (-100001) := rfl
        have hz : zAtold f3.toInt Z7 Z9 Z8 Z10 p1.toInt p2.toInt = (-100001) := by
          unfold zAtold
          rw [if_pos (by omega)]
        have hP9 := hP.sub (ws' := [(h0, .inr (4, [.ref h1, .ref h2, .int f0, .ref h3, .ref h4, .ref h5, .ref h6, .int f1, .ref h7, .ref h8, .ref h9, .ref h10])), (h1, .inr (0, [.ref h11, .int f2, .ref h12, .int f3, .ref h13, .ref h14, .ref h15, .ref h16, .ref h17, .ref h18, .int f4])), (h11, .inl (zI g, 5, .inl Z5)), (h12, .inl (zI g, 6, .inl Z6)), (h13, .inl (zI g, 5, .inl Z7)), (h14, .inl (zI g, 5, .inl Z8)), (h15, .inl (zI g, 5, .inl Z9)), (h16, .inl (zI g, 20, .inl Z10))]) [0, 7, 1, 2, 3, 4, 5, 6] rfl
        have hD9 := hD.sub (ws' := [(h0, .inr (4, [.ref h1, .ref h2, .int f0, .ref h3, .ref h4, .ref h5, .ref h6, .int f1, .ref h7, .ref h8, .ref h9, .ref h10])), (h1, .inr (0, [.ref h11, .int f2, .ref h12, .int f3, .ref h13, .ref h14, .ref h15, .ref h16, .ref h17, .ref h18, .int f4])), (h11, .inl (zI g, 5, .inl Z5)), (h12, .inl (zI g, 6, .inl Z6)), (h13, .inl (zI g, 5, .inl Z7)), (h14, .inl (zI g, 5, .inl Z8)), (h15, .inl (zI g, 5, .inl Z9)), (h16, .inl (zI g, 20, .inl Z10))]) [0, 7, 1, 2, 3, 4, 5, 6] (by decide) rfl
        exact W.iret (v := (-100001)) hx hb hr (fun t ht hW => ⟨⟨(-100001), (0 : Nat), rfl, (by first | omega | decide), by rw [ht]; exact hP9, hD9⟩, hS.F ht⟩) hS.2.2 dX4_told_23
set_option maxHeartbeats 8000000 in
set_option maxRecDepth 100000 in
theorem gX4_earn (l : Launch) (g : zG) (h0 h1 h2 h3 h4 h5 h6 h7 h8 h9 h10 h11 h12 h13 h14 h15 h16 h17 h18 : Nat) (sz : Nat) (p1 : Int32) (p2 : Int32) (f0 : Int32) (f1 : Int32) (f2 : Int32) (f3 : Int32) (f4 : Int32) (Z5 : Nat → Int32) (Z6 : Nat → Int32) (Z7 : Nat → Int32) (Z8 : Nat → Int32) (Z9 : Nat → Int32) (Z10 : Nat → Int32) (hf_f2 : 0 ≤ f2.toInt ∧ f2.toInt ≤ 6) (hf_f3 : 0 ≤ f3.toInt ∧ f3.toInt ≤ 5) (hf_f4 : 0 ≤ f4.toInt ∧ f4.toInt ≤ 9999) (hF_Z5 : iLaw Z5) (hF_Z6 : iKd Z6) (hF_Z7 : iSo Z7) (hF_Z8 : iPu Z8) (hF_Z9 : iMa Z9) (hF_Z10 : iWo Z10) : Met l yX4_earn (.code yX4_earn cX4_earn 4 (some .int) :: zBig) ({ frames := 1, cells := 0, slots := 0, locals := 21 }) (va_Pc [.ref h0, .int p1, .int p2] (zPre g [(h0, .inr (4, [.ref h1, .ref h2, .int f0, .ref h3, .ref h4, .ref h5, .ref h6, .int f1, .ref h7, .ref h8, .ref h9, .ref h10])), (h1, .inr (0, [.ref h11, .int f2, .ref h12, .int f3, .ref h13, .ref h14, .ref h15, .ref h16, .ref h17, .ref h18, .int f4])), (h11, .inl (zI g, 5, .inl Z5)), (h12, .inl (zI g, 6, .inl Z6)), (h13, .inl (zI g, 5, .inl Z7)), (h14, .inl (zI g, 5, .inl Z8)), (h15, .inl (zI g, 5, .inl Z9)), (h16, .inl (zI g, 20, .inl Z10))] sz)) (va_Qi (fun (r : Int32) (u : (Nat → Int32)) => (r.toInt = zAearn f3.toInt Z8 p1.toInt p2.toInt) ∧ iPu u ∧ u = (if (0 ≤ p1.toInt ∧ p1.toInt < 5 ∧ p1.toInt < f3.toInt ∧ 1 ≤ p2.toInt ∧ p2.toInt ≤ 999 ∧ (Z8 p1.toInt.toNat).toInt + p2.toInt ≤ 9999) then upd Z8 p1.toNatClampNeg (Z8 p1.toNatClampNeg + p2) else Z8)) (zPost g (fun u : (Nat → Int32) => [(h0, .inr (4, [.ref h1, .ref h2, .int f0, .ref h3, .ref h4, .ref h5, .ref h6, .int f1, .ref h7, .ref h8, .ref h9, .ref h10])), (h1, .inr (0, [.ref h11, .int f2, .ref h12, .int f3, .ref h13, .ref h14, .ref h15, .ref h16, .ref h17, .ref h18, .int f4])), (h11, .inl (zI g, 5, .inl Z5)), (h12, .inl (zI g, 6, .inl Z6)), (h13, .inl (zI g, 5, .inl Z7)), (h14, .inl (zI g, 5, .inl u)), (h15, .inl (zI g, 5, .inl Z9)), (h16, .inl (zI g, 20, .inl Z10))]) (va_A [(h0, .inr (4, [.ref h1, .ref h2, .int f0, .ref h3, .ref h4, .ref h5, .ref h6, .int f1, .ref h7, .ref h8, .ref h9, .ref h10])), (h1, .inr (0, [.ref h11, .int f2, .ref h12, .int f3, .ref h13, .ref h14, .ref h15, .ref h16, .ref h17, .ref h18, .int f4])), (h11, .inl (zI g, 5, .inl Z5)), (h12, .inl (zI g, 6, .inl Z6)), (h13, .inl (zI g, 5, .inl Z7)), (h14, .inl (zI g, 5, .inl Z8)), (h15, .inl (zI g, 5, .inl Z9)), (h16, .inl (zI g, 20, .inl Z10))] sz)) (va_A [(h0, .inr (4, [.ref h1, .ref h2, .int f0, .ref h3, .ref h4, .ref h5, .ref h6, .int f1, .ref h7, .ref h8, .ref h9, .ref h10])), (h1, .inr (0, [.ref h11, .int f2, .ref h12, .int f3, .ref h13, .ref h14, .ref h15, .ref h16, .ref h17, .ref h18, .int f4])), (h11, .inl (zI g, 5, .inl Z5)), (h12, .inl (zI g, 6, .inl Z6)), (h13, .inl (zI g, 5, .inl Z7)), (h14, .inl (zI g, 5, .inl Z8)), (h15, .inl (zI g, 5, .inl Z9)), (h16, .inl (zI g, 20, .inl Z10))] sz)) 0 0 (va_A [(h0, .inr (4, [.ref h1, .ref h2, .int f0, .ref h3, .ref h4, .ref h5, .ref h6, .int f1, .ref h7, .ref h8, .ref h9, .ref h10])), (h1, .inr (0, [.ref h11, .int f2, .ref h12, .int f3, .ref h13, .ref h14, .ref h15, .ref h16, .ref h17, .ref h18, .int f4])), (h11, .inl (zI g, 5, .inl Z5)), (h12, .inl (zI g, 6, .inl Z6)), (h13, .inl (zI g, 5, .inl Z7)), (h14, .inl (zI g, 5, .inl Z8)), (h15, .inl (zI g, 5, .inl Z9)), (h16, .inl (zI g, 20, .inl Z10))] sz) := by
  refine zMetI rfl (Nat.le_of_ble_eq_true rfl) ?_
  intro p e s m args below meth c A ls hx hb hml hr hlocks hin hown hts hK hN hZ hP hD hA hS hAe hl
  have hown : s.vm.findClass RX4 = some m.cls := hown
  have hl : lv_has ls 4 [(0, .ref h0), (1, .int p1), (2, .int p2)] := hl
  refine lv_aload_n hx hb dX4_earn_0 rfl (lv_at hl 0 rfl) ?_
  refine va_get (D := g.1) (ci := 4) (v := .ref h1) (C := RX4) (T := TX4) (N := 12) hx hb hts zl_X4 hown hK hP 0 rfl rfl 0 (by decide) (hts _ m_f_RX4_10) (fun _ h => h) rfl dX4_earn_1 ?_
  refine lv_iload_n hx hb dX4_earn_4 rfl (lv_at hl 1 rfl) ?_
  refine z_calli (wr := [(h0, .inr (4, [.ref h1, .ref h2, .int f0, .ref h3, .ref h4, .ref h5, .ref h6, .int f1, .ref h7, .ref h8, .ref h9, .ref h10])), (h11, .inl (zI g, 5, .inl Z5)), (h12, .inl (zI g, 6, .inl Z6)), (h13, .inl (zI g, 5, .inl Z7)), (h14, .inl (zI g, 5, .inl Z8)), (h15, .inl (zI g, 5, .inl Z9)), (h16, .inl (zI g, 20, .inl Z10))]) hP hD hS hA [1] [0, 2, 3, 4, 5, 6, 7] (by decide) rfl rfl (by decide) (va_runVN (As := [.int p1]) (rest := []) ⟨hx, hb, hml, hown, hts⟩ (gX0_isThere l g h1 h11 h12 h13 h14 h15 h16 h17 h18 s.heap.size p1 f2 f3 f4 (by constructor <;> omega) (by constructor <;> omega) (by constructor <;> omega)) ⟨va_cnB 1 hts (zGood m_o_yX0_isThere) rfl rfl rfl (hN.m 4 (q := (RX4, 80, yX0_isThere)) rfl) (hts _ m_z_RX0) ⟨by decide +kernel, by decide +kernel, by decide +kernel⟩ ⟨Nat.le_of_ble_eq_true rfl, Nat.le_of_ble_eq_true rfl⟩, hts _ m_i_yX0_isThere, hts _ m_e_yX0_isThere⟩ (zPreV hK hN hZ hP hD hS hA [1] (by decide) rfl rfl 0 1 rfl rfl) rfl rfl hl.1 rfl (lv_room (Nat.le_of_ble_eq_true rfl)) dX4_earn_5 ⟨Nat.le_of_ble_eq_true rfl, Nat.le_of_ble_eq_true rfl⟩) (fun r u H locs hw hP hD hS => ?_)
  rcases hw with ⟨i_0, rfl⟩ | ⟨i_1, i_2, rfl⟩ | ⟨i_3, i_4, i_5, rfl⟩ | ⟨i_6, i_7, i_8, rfl⟩
  · skip
    have i_0 : p1.toInt < 0 := i_0
    have hP : va_P g.1 vwCl [(h0, .inr (4, [.ref h1, .ref h2, .int f0, .ref h3, .ref h4, .ref h5, .ref h6, .int f1, .ref h7, .ref h8, .ref h9, .ref h10])), (h11, .inl (zI g, 5, .inl Z5)), (h12, .inl (zI g, 6, .inl Z6)), (h13, .inl (zI g, 5, .inl Z7)), (h14, .inl (zI g, 5, .inl Z8)), (h15, .inl (zI g, 5, .inl Z9)), (h16, .inl (zI g, 20, .inl Z10)), (h1, .inr (0, [.ref h11, .int f2, .ref h12, .int f3, .ref h13, .ref h14, .ref h15, .ref h16, .ref h17, .ref h18, .int f4]))] H := hP
    have hD : va_D A [(h0, .inr (4, [.ref h1, .ref h2, .int f0, .ref h3, .ref h4, .ref h5, .ref h6, .int f1, .ref h7, .ref h8, .ref h9, .ref h10])), (h11, .inl (zI g, 5, .inl Z5)), (h12, .inl (zI g, 6, .inl Z6)), (h13, .inl (zI g, 5, .inl Z7)), (h14, .inl (zI g, 5, .inl Z8)), (h15, .inl (zI g, 5, .inl Z9)), (h16, .inl (zI g, 20, .inl Z10)), (h1, .inr (0, [.ref h11, .int f2, .ref h12, .int f3, .ref h13, .ref h14, .ref h15, .ref h16, .ref h17, .ref h18, .int f4]))] := hD
    refine lv_if_eq (tgt := 23) hx hb dX4_earn_8 (by decide) (fun _ => ?_) (fun h => absurd h (by decide +kernel))
    refine lv_ldc (v := (-100001)) hx hb hown (hts _ m_k_RX4_93) dX4_earn_23 ?_
    have : ((-100001) : Int32).toInt = (-100001) := rfl
    have hz : zAearn f3.toInt Z8 p1.toInt p2.toInt = (-100001) := by
      unfold zAearn
      rw [if_pos (by omega)]
    have hP9 := hP.sub (ws' := [(h0, .inr (4, [.ref h1, .ref h2, .int f0, .ref h3, .ref h4, .ref h5, .ref h6, .int f1, .ref h7, .ref h8, .ref h9, .ref h10])), (h1, .inr (0, [.ref h11, .int f2, .ref h12, .int f3, .ref h13, .ref h14, .ref h15, .ref h16, .ref h17, .ref h18, .int f4])), (h11, .inl (zI g, 5, .inl Z5)), (h12, .inl (zI g, 6, .inl Z6)), (h13, .inl (zI g, 5, .inl Z7)), (h14, .inl (zI g, 5, .inl Z8)), (h15, .inl (zI g, 5, .inl Z9)), (h16, .inl (zI g, 20, .inl Z10))]) [0, 7, 1, 2, 3, 4, 5, 6] rfl
    have hD9 := hD.sub (ws' := [(h0, .inr (4, [.ref h1, .ref h2, .int f0, .ref h3, .ref h4, .ref h5, .ref h6, .int f1, .ref h7, .ref h8, .ref h9, .ref h10])), (h1, .inr (0, [.ref h11, .int f2, .ref h12, .int f3, .ref h13, .ref h14, .ref h15, .ref h16, .ref h17, .ref h18, .int f4])), (h11, .inl (zI g, 5, .inl Z5)), (h12, .inl (zI g, 6, .inl Z6)), (h13, .inl (zI g, 5, .inl Z7)), (h14, .inl (zI g, 5, .inl Z8)), (h15, .inl (zI g, 5, .inl Z9)), (h16, .inl (zI g, 20, .inl Z10))]) [0, 7, 1, 2, 3, 4, 5, 6] (by decide) rfl
    exact W.iret (v := (-100001)) hx hb hr (fun t ht hW => ⟨⟨(-100001), Z8, rfl, ⟨(by first | omega | decide), hF_Z8, (by rw [if_neg (by omega)])⟩, by rw [ht]; exact hP9, hD9⟩, hS.F ht⟩) hS.2.2 dX4_earn_25
  · skip
    have i_1 : 0 ≤ p1.toInt := i_1
    have i_2 : 5 ≤ p1.toInt := i_2
    have hP : va_P g.1 vwCl [(h0, .inr (4, [.ref h1, .ref h2, .int f0, .ref h3, .ref h4, .ref h5, .ref h6, .int f1, .ref h7, .ref h8, .ref h9, .ref h10])), (h11, .inl (zI g, 5, .inl Z5)), (h12, .inl (zI g, 6, .inl Z6)), (h13, .inl (zI g, 5, .inl Z7)), (h14, .inl (zI g, 5, .inl Z8)), (h15, .inl (zI g, 5, .inl Z9)), (h16, .inl (zI g, 20, .inl Z10)), (h1, .inr (0, [.ref h11, .int f2, .ref h12, .int f3, .ref h13, .ref h14, .ref h15, .ref h16, .ref h17, .ref h18, .int f4]))] H := hP
    have hD : va_D A [(h0, .inr (4, [.ref h1, .ref h2, .int f0, .ref h3, .ref h4, .ref h5, .ref h6, .int f1, .ref h7, .ref h8, .ref h9, .ref h10])), (h11, .inl (zI g, 5, .inl Z5)), (h12, .inl (zI g, 6, .inl Z6)), (h13, .inl (zI g, 5, .inl Z7)), (h14, .inl (zI g, 5, .inl Z8)), (h15, .inl (zI g, 5, .inl Z9)), (h16, .inl (zI g, 20, .inl Z10)), (h1, .inr (0, [.ref h11, .int f2, .ref h12, .int f3, .ref h13, .ref h14, .ref h15, .ref h16, .ref h17, .ref h18, .int f4]))] := hD
    refine lv_if_eq (tgt := 23) hx hb dX4_earn_8 (by decide) (fun _ => ?_) (fun h => absurd h (by decide +kernel))
    refine lv_ldc (v := (-100001)) hx hb hown (hts _ m_k_RX4_93) dX4_earn_23 ?_
    have : ((-100001) : Int32).toInt = (-100001) := rfl
    have hz : zAearn f3.toInt Z8 p1.toInt p2.toInt = (-100001) := by
      unfold zAearn
      rw [if_pos (by omega)]
    have hP9 := hP.sub (ws' := [(h0, .inr (4, [.ref h1, .ref h2, .int f0, .ref h3, .ref h4, .ref h5, .ref h6, .int f1, .ref h7, .ref h8, .ref h9, .ref h10])), (h1, .inr (0, [.ref h11, .int f2, .ref h12, .int f3, .ref h13, .ref h14, .ref h15, .ref h16, .ref h17, .ref h18, .int f4])), (h11, .inl (zI g, 5, .inl Z5)), (h12, .inl (zI g, 6, .inl Z6)), (h13, .inl (zI g, 5, .inl Z7)), (h14, .inl (zI g, 5, .inl Z8)), (h15, .inl (zI g, 5, .inl Z9)), (h16, .inl (zI g, 20, .inl Z10))]) [0, 7, 1, 2, 3, 4, 5, 6] rfl
    have hD9 := hD.sub (ws' := [(h0, .inr (4, [.ref h1, .ref h2, .int f0, .ref h3, .ref h4, .ref h5, .ref h6, .int f1, .ref h7, .ref h8, .ref h9, .ref h10])), (h1, .inr (0, [.ref h11, .int f2, .ref h12, .int f3, .ref h13, .ref h14, .ref h15, .ref h16, .ref h17, .ref h18, .int f4])), (h11, .inl (zI g, 5, .inl Z5)), (h12, .inl (zI g, 6, .inl Z6)), (h13, .inl (zI g, 5, .inl Z7)), (h14, .inl (zI g, 5, .inl Z8)), (h15, .inl (zI g, 5, .inl Z9)), (h16, .inl (zI g, 20, .inl Z10))]) [0, 7, 1, 2, 3, 4, 5, 6] (by decide) rfl
    exact W.iret (v := (-100001)) hx hb hr (fun t ht hW => ⟨⟨(-100001), Z8, rfl, ⟨(by first | omega | decide), hF_Z8, (by rw [if_neg (by omega)])⟩, by rw [ht]; exact hP9, hD9⟩, hS.F ht⟩) hS.2.2 dX4_earn_25
  · skip
    have i_3 : 0 ≤ p1.toInt := i_3
    have i_4 : p1.toInt < 5 := i_4
    have i_5 : f3.toInt ≤ p1.toInt := i_5
    have hP : va_P g.1 vwCl [(h0, .inr (4, [.ref h1, .ref h2, .int f0, .ref h3, .ref h4, .ref h5, .ref h6, .int f1, .ref h7, .ref h8, .ref h9, .ref h10])), (h11, .inl (zI g, 5, .inl Z5)), (h12, .inl (zI g, 6, .inl Z6)), (h13, .inl (zI g, 5, .inl Z7)), (h14, .inl (zI g, 5, .inl Z8)), (h15, .inl (zI g, 5, .inl Z9)), (h16, .inl (zI g, 20, .inl Z10)), (h1, .inr (0, [.ref h11, .int f2, .ref h12, .int f3, .ref h13, .ref h14, .ref h15, .ref h16, .ref h17, .ref h18, .int f4]))] H := hP
    have hD : va_D A [(h0, .inr (4, [.ref h1, .ref h2, .int f0, .ref h3, .ref h4, .ref h5, .ref h6, .int f1, .ref h7, .ref h8, .ref h9, .ref h10])), (h11, .inl (zI g, 5, .inl Z5)), (h12, .inl (zI g, 6, .inl Z6)), (h13, .inl (zI g, 5, .inl Z7)), (h14, .inl (zI g, 5, .inl Z8)), (h15, .inl (zI g, 5, .inl Z9)), (h16, .inl (zI g, 20, .inl Z10)), (h1, .inr (0, [.ref h11, .int f2, .ref h12, .int f3, .ref h13, .ref h14, .ref h15, .ref h16, .ref h17, .ref h18, .int f4]))] := hD
    refine lv_if_eq (tgt := 23) hx hb dX4_earn_8 (by decide) (fun _ => ?_) (fun h => absurd h (by decide +kernel))
    refine lv_ldc (v := (-100001)) hx hb hown (hts _ m_k_RX4_93) dX4_earn_23 ?_
    have : ((-100001) : Int32).toInt = (-100001) := rfl
    have hz : zAearn f3.toInt Z8 p1.toInt p2.toInt = (-100001) := by
      unfold zAearn
      rw [if_pos (by omega)]
    have hP9 := hP.sub (ws' := [(h0, .inr (4, [.ref h1, .ref h2, .int f0, .ref h3, .ref h4, .ref h5, .ref h6, .int f1, .ref h7, .ref h8, .ref h9, .ref h10])), (h1, .inr (0, [.ref h11, .int f2, .ref h12, .int f3, .ref h13, .ref h14, .ref h15, .ref h16, .ref h17, .ref h18, .int f4])), (h11, .inl (zI g, 5, .inl Z5)), (h12, .inl (zI g, 6, .inl Z6)), (h13, .inl (zI g, 5, .inl Z7)), (h14, .inl (zI g, 5, .inl Z8)), (h15, .inl (zI g, 5, .inl Z9)), (h16, .inl (zI g, 20, .inl Z10))]) [0, 7, 1, 2, 3, 4, 5, 6] rfl
    have hD9 := hD.sub (ws' := [(h0, .inr (4, [.ref h1, .ref h2, .int f0, .ref h3, .ref h4, .ref h5, .ref h6, .int f1, .ref h7, .ref h8, .ref h9, .ref h10])), (h1, .inr (0, [.ref h11, .int f2, .ref h12, .int f3, .ref h13, .ref h14, .ref h15, .ref h16, .ref h17, .ref h18, .int f4])), (h11, .inl (zI g, 5, .inl Z5)), (h12, .inl (zI g, 6, .inl Z6)), (h13, .inl (zI g, 5, .inl Z7)), (h14, .inl (zI g, 5, .inl Z8)), (h15, .inl (zI g, 5, .inl Z9)), (h16, .inl (zI g, 20, .inl Z10))]) [0, 7, 1, 2, 3, 4, 5, 6] (by decide) rfl
    exact W.iret (v := (-100001)) hx hb hr (fun t ht hW => ⟨⟨(-100001), Z8, rfl, ⟨(by first | omega | decide), hF_Z8, (by rw [if_neg (by omega)])⟩, by rw [ht]; exact hP9, hD9⟩, hS.F ht⟩) hS.2.2 dX4_earn_25
  · skip
    have i_6 : 0 ≤ p1.toInt := i_6
    have i_7 : p1.toInt < 5 := i_7
    have i_8 : p1.toInt < f3.toInt := i_8
    have hP : va_P g.1 vwCl [(h0, .inr (4, [.ref h1, .ref h2, .int f0, .ref h3, .ref h4, .ref h5, .ref h6, .int f1, .ref h7, .ref h8, .ref h9, .ref h10])), (h11, .inl (zI g, 5, .inl Z5)), (h12, .inl (zI g, 6, .inl Z6)), (h13, .inl (zI g, 5, .inl Z7)), (h14, .inl (zI g, 5, .inl Z8)), (h15, .inl (zI g, 5, .inl Z9)), (h16, .inl (zI g, 20, .inl Z10)), (h1, .inr (0, [.ref h11, .int f2, .ref h12, .int f3, .ref h13, .ref h14, .ref h15, .ref h16, .ref h17, .ref h18, .int f4]))] H := hP
    have hD : va_D A [(h0, .inr (4, [.ref h1, .ref h2, .int f0, .ref h3, .ref h4, .ref h5, .ref h6, .int f1, .ref h7, .ref h8, .ref h9, .ref h10])), (h11, .inl (zI g, 5, .inl Z5)), (h12, .inl (zI g, 6, .inl Z6)), (h13, .inl (zI g, 5, .inl Z7)), (h14, .inl (zI g, 5, .inl Z8)), (h15, .inl (zI g, 5, .inl Z9)), (h16, .inl (zI g, 20, .inl Z10)), (h1, .inr (0, [.ref h11, .int f2, .ref h12, .int f3, .ref h13, .ref h14, .ref h15, .ref h16, .ref h17, .ref h18, .int f4]))] := hD
    refine lv_if_eq (tgt := 23) hx hb dX4_earn_8 (by decide) (fun h => absurd h (by decide +kernel)) (fun _ => ?_)
    refine lv_iload_n hx hb dX4_earn_11 rfl (lv_at hl 2 rfl) ?_
    refine lv_iconst (v := 1) hx hb dX4_earn_12 (by decide) ?_
    refine lv_icmp_lt (tgt := 23) hx hb dX4_earn_13 (by decide) (fun c_9 => ?_) (fun c_9 => ?_)
    · have i_9 : p2.toInt < 1 := z_lt (rfl) (rfl) c_9
      refine lv_ldc (v := (-100001)) hx hb hown (hts _ m_k_RX4_93) dX4_earn_23 ?_
      have : ((-100001) : Int32).toInt = (-100001) := rfl
      have hz : zAearn f3.toInt Z8 p1.toInt p2.toInt = (-100001) := by
        unfold zAearn
        rw [if_pos (by omega)]
      have hP9 := hP.sub (ws' := [(h0, .inr (4, [.ref h1, .ref h2, .int f0, .ref h3, .ref h4, .ref h5, .ref h6, .int f1, .ref h7, .ref h8, .ref h9, .ref h10])), (h1, .inr (0, [.ref h11, .int f2, .ref h12, .int f3, .ref h13, .ref h14, .ref h15, .ref h16, .ref h17, .ref h18, .int f4])), (h11, .inl (zI g, 5, .inl Z5)), (h12, .inl (zI g, 6, .inl Z6)), (h13, .inl (zI g, 5, .inl Z7)), (h14, .inl (zI g, 5, .inl Z8)), (h15, .inl (zI g, 5, .inl Z9)), (h16, .inl (zI g, 20, .inl Z10))]) [0, 7, 1, 2, 3, 4, 5, 6] rfl
      have hD9 := hD.sub (ws' := [(h0, .inr (4, [.ref h1, .ref h2, .int f0, .ref h3, .ref h4, .ref h5, .ref h6, .int f1, .ref h7, .ref h8, .ref h9, .ref h10])), (h1, .inr (0, [.ref h11, .int f2, .ref h12, .int f3, .ref h13, .ref h14, .ref h15, .ref h16, .ref h17, .ref h18, .int f4])), (h11, .inl (zI g, 5, .inl Z5)), (h12, .inl (zI g, 6, .inl Z6)), (h13, .inl (zI g, 5, .inl Z7)), (h14, .inl (zI g, 5, .inl Z8)), (h15, .inl (zI g, 5, .inl Z9)), (h16, .inl (zI g, 20, .inl Z10))]) [0, 7, 1, 2, 3, 4, 5, 6] (by decide) rfl
      exact W.iret (v := (-100001)) hx hb hr (fun t ht hW => ⟨⟨(-100001), Z8, rfl, ⟨(by first | omega | decide), hF_Z8, (by rw [if_neg (by omega)])⟩, by rw [ht]; exact hP9, hD9⟩, hS.F ht⟩) hS.2.2 dX4_earn_25
    · have i_9 : 1 ≤ p2.toInt := z_nlt (rfl) (rfl) c_9
      refine lv_iload_n hx hb dX4_earn_16 rfl (lv_at hl 2 rfl) ?_
      refine lv_sipush (v := 999) hx hb dX4_earn_17 (by decide) ?_
      refine lv_icmp_le (tgt := 26) hx hb dX4_earn_20 (by decide) (fun c_10 => ?_) (fun c_10 => ?_)
      · have i_10 : p2.toInt ≤ 999 := z_le (rfl) (rfl) c_10
        refine lv_aload_n hx hb dX4_earn_26 rfl (lv_at hl 0 rfl) ?_
        refine va_get (D := g.1) (ci := 4) (v := .ref h1) (C := RX4) (T := TX4) (N := 12) hx hb hts zl_X4 hown hK hP 0 rfl rfl 0 (by decide) (hts _ m_f_RX4_10) (fun _ h => h) rfl dX4_earn_27 ?_
        refine va_getN (D := g.1) (ci := 0) (v := .ref h14) (C := RX0) (T := TX0) (N := 11) hx hb hts zl_X0 hown hK hP 7 rfl rfl 5 (by decide) (hN.f 12 (q := (RX4, 77, "FishSteps$Books", "purse", "[I")) rfl) (fun _ h => h) rfl dX4_earn_30 ?_
        refine lv_iload_n hx hb dX4_earn_33 rfl (lv_at hl 1 rfl) ?_
        refine va_iald (D := g.1) hx hb hK hP 4 0 rfl rfl (vp_in_iff.mpr ⟨by omega, by omega⟩) dX4_earn_34 ?_
        refine lv_topi (fun y0 ey0 => ?_)
        have qy0_0 : (-99) ≤ y0.toInt := (i_at (N := 5) (lo := (-99)) (hi := 9999) (i := p1) (a := p1.toInt) hF_Z8 (rfl) (by omega) (by omega) ey0).1
        have qy0_1 : y0.toInt ≤ 9999 := (i_at (N := 5) (lo := (-99)) (hi := 9999) (i := p1) (a := p1.toInt) hF_Z8 (rfl) (by omega) (by omega) ey0).2
        have qy0_2 : y0.toInt = (Z8 p1.toNatClampNeg).toInt := congrArg Int32.toInt ey0
        have py0_0 : y0.toInt = (Z8 p1.toInt.toNat).toInt := congrArg Int32.toInt ey0
        refine lv_iload_n hx hb dX4_earn_35 rfl (lv_at hl 2 rfl) ?_
        refine lv_iadd hx hb dX4_earn_36 ?_
        refine lv_topi (fun y1 ey1 => ?_)
        have qy1_0 : y1.toInt = y0.toInt + p2.toInt := zi_add ey1 (rfl) (rfl) (by omega) (by omega)
        refine lv_istore_n (lv' := [(3, .int y1), (0, .ref h0), (1, .int p1), (2, .int p2)]) hx hb dX4_earn_37 rfl hl (by decide) rfl (fun ls hl => ?_)
        refine lv_iload_n hx hb dX4_earn_38 rfl (lv_at hl 0 rfl) ?_
        refine lv_sipush (v := 9999) hx hb dX4_earn_39 (by decide) ?_
        refine lv_icmp_le (tgt := 48) hx hb dX4_earn_42 (by decide) (fun c_11 => ?_) (fun c_11 => ?_)
        · have i_11 : y1.toInt ≤ 9999 := z_le (rfl) (rfl) c_11
          refine lv_aload_n hx hb dX4_earn_48 rfl (lv_at hl 1 rfl) ?_
          refine va_get (D := g.1) (ci := 4) (v := .ref h1) (C := RX4) (T := TX4) (N := 12) hx hb hts zl_X4 hown hK hP 0 rfl rfl 0 (by decide) (hts _ m_f_RX4_10) (fun _ h => h) rfl dX4_earn_49 ?_
          refine va_getN (D := g.1) (ci := 0) (v := .ref h14) (C := RX0) (T := TX0) (N := 11) hx hb hts zl_X0 hown hK hP 7 rfl rfl 5 (by decide) (hN.f 12 (q := (RX4, 77, "FishSteps$Books", "purse", "[I")) rfl) (fun _ h => h) rfl dX4_earn_52 ?_
          refine lv_iload_n hx hb dX4_earn_55 rfl (lv_at hl 2 rfl) ?_
          refine lv_iload_n hx hb dX4_earn_56 rfl (lv_at hl 0 rfl) ?_
          refine va_iast (D := g.1) hx hb hK hP hD hS 4 0 rfl rfl (vp_in_iff.mpr ⟨by omega, by omega⟩) dX4_earn_57 (fun H locs hP hD hS => ?_)
          have hP : va_P g.1 vwCl [(h0, .inr (4, [.ref h1, .ref h2, .int f0, .ref h3, .ref h4, .ref h5, .ref h6, .int f1, .ref h7, .ref h8, .ref h9, .ref h10])), (h11, .inl (zI g, 5, .inl Z5)), (h12, .inl (zI g, 6, .inl Z6)), (h13, .inl (zI g, 5, .inl Z7)), (h14, .inl (zI g, 5, .inl (upd Z8 p1.toNatClampNeg y1))), (h15, .inl (zI g, 5, .inl Z9)), (h16, .inl (zI g, 20, .inl Z10)), (h1, .inr (0, [.ref h11, .int f2, .ref h12, .int f3, .ref h13, .ref h14, .ref h15, .ref h16, .ref h17, .ref h18, .int f4]))] H := hP
          have hD : va_D A [(h0, .inr (4, [.ref h1, .ref h2, .int f0, .ref h3, .ref h4, .ref h5, .ref h6, .int f1, .ref h7, .ref h8, .ref h9, .ref h10])), (h11, .inl (zI g, 5, .inl Z5)), (h12, .inl (zI g, 6, .inl Z6)), (h13, .inl (zI g, 5, .inl Z7)), (h14, .inl (zI g, 5, .inl (upd Z8 p1.toNatClampNeg y1))), (h15, .inl (zI g, 5, .inl Z9)), (h16, .inl (zI g, 20, .inl Z10)), (h1, .inr (0, [.ref h11, .int f2, .ref h12, .int f3, .ref h13, .ref h14, .ref h15, .ref h16, .ref h17, .ref h18, .int f4]))] := hD
          have hI2 : iPu (upd Z8 p1.toNatClampNeg y1) := i_put (N := 5) (lo := (-99)) (hi := 9999) hF_Z8 (by first | omega | decide) (by first | omega | decide)
          obtain ⟨R3, eR3⟩ : ∃ z : Nat → Int32, z = (upd Z8 p1.toNatClampNeg y1) := ⟨_, rfl⟩
          rw [← eR3] at hP hD hI2
          refine lv_iload_n hx hb dX4_earn_58 rfl (lv_at hl 0 rfl) ?_
          have hz : zAearn f3.toInt Z8 p1.toInt p2.toInt = y1.toInt := by
            unfold zAearn
            rw [if_neg (by omega), if_neg (by omega)] <;> omega
          have hP9 := hP.sub (ws' := [(h0, .inr (4, [.ref h1, .ref h2, .int f0, .ref h3, .ref h4, .ref h5, .ref h6, .int f1, .ref h7, .ref h8, .ref h9, .ref h10])), (h1, .inr (0, [.ref h11, .int f2, .ref h12, .int f3, .ref h13, .ref h14, .ref h15, .ref h16, .ref h17, .ref h18, .int f4])), (h11, .inl (zI g, 5, .inl Z5)), (h12, .inl (zI g, 6, .inl Z6)), (h13, .inl (zI g, 5, .inl Z7)), (h14, .inl (zI g, 5, .inl R3)), (h15, .inl (zI g, 5, .inl Z9)), (h16, .inl (zI g, 20, .inl Z10))]) [0, 7, 1, 2, 3, 4, 5, 6] rfl
          have hD9 := hD.sub (ws' := [(h0, .inr (4, [.ref h1, .ref h2, .int f0, .ref h3, .ref h4, .ref h5, .ref h6, .int f1, .ref h7, .ref h8, .ref h9, .ref h10])), (h1, .inr (0, [.ref h11, .int f2, .ref h12, .int f3, .ref h13, .ref h14, .ref h15, .ref h16, .ref h17, .ref h18, .int f4])), (h11, .inl (zI g, 5, .inl Z5)), (h12, .inl (zI g, 6, .inl Z6)), (h13, .inl (zI g, 5, .inl Z7)), (h14, .inl (zI g, 5, .inl R3)), (h15, .inl (zI g, 5, .inl Z9)), (h16, .inl (zI g, 20, .inl Z10))]) [0, 7, 1, 2, 3, 4, 5, 6] (by decide) rfl
          exact W.iret (v := y1) hx hb hr (fun t ht hW => ⟨⟨y1, R3, rfl, ⟨(by first | omega | decide), hI2, (by rw [if_pos (by omega), eR3, ey1, ey0])⟩, by rw [ht]; exact hP9, hD9⟩, hS.F ht⟩) hS.2.2 dX4_earn_59
        · have i_11 : 9999 < y1.toInt := z_nle (rfl) (rfl) c_11
          refine lv_ldc (v := (-100003)) hx hb hown (hts _ m_k_RX4_98) dX4_earn_45 ?_
          have : ((-100003) : Int32).toInt = (-100003) := rfl
          have hz : zAearn f3.toInt Z8 p1.toInt p2.toInt = (-100003) := by
            unfold zAearn
            rw [if_neg (by omega), if_pos (by omega)]
          have hP9 := hP.sub (ws' := [(h0, .inr (4, [.ref h1, .ref h2, .int f0, .ref h3, .ref h4, .ref h5, .ref h6, .int f1, .ref h7, .ref h8, .ref h9, .ref h10])), (h1, .inr (0, [.ref h11, .int f2, .ref h12, .int f3, .ref h13, .ref h14, .ref h15, .ref h16, .ref h17, .ref h18, .int f4])), (h11, .inl (zI g, 5, .inl Z5)), (h12, .inl (zI g, 6, .inl Z6)), (h13, .inl (zI g, 5, .inl Z7)), (h14, .inl (zI g, 5, .inl Z8)), (h15, .inl (zI g, 5, .inl Z9)), (h16, .inl (zI g, 20, .inl Z10))]) [0, 7, 1, 2, 3, 4, 5, 6] rfl
          have hD9 := hD.sub (ws' := [(h0, .inr (4, [.ref h1, .ref h2, .int f0, .ref h3, .ref h4, .ref h5, .ref h6, .int f1, .ref h7, .ref h8, .ref h9, .ref h10])), (h1, .inr (0, [.ref h11, .int f2, .ref h12, .int f3, .ref h13, .ref h14, .ref h15, .ref h16, .ref h17, .ref h18, .int f4])), (h11, .inl (zI g, 5, .inl Z5)), (h12, .inl (zI g, 6, .inl Z6)), (h13, .inl (zI g, 5, .inl Z7)), (h14, .inl (zI g, 5, .inl Z8)), (h15, .inl (zI g, 5, .inl Z9)), (h16, .inl (zI g, 20, .inl Z10))]) [0, 7, 1, 2, 3, 4, 5, 6] (by decide) rfl
          exact W.iret (v := (-100003)) hx hb hr (fun t ht hW => ⟨⟨(-100003), Z8, rfl, ⟨(by first | omega | decide), hF_Z8, (by rw [if_neg (by omega)])⟩, by rw [ht]; exact hP9, hD9⟩, hS.F ht⟩) hS.2.2 dX4_earn_47
      · have i_10 : 999 < p2.toInt := z_nle (rfl) (rfl) c_10
        refine lv_ldc (v := (-100001)) hx hb hown (hts _ m_k_RX4_93) dX4_earn_23 ?_
        have : ((-100001) : Int32).toInt = (-100001) := rfl
        have hz : zAearn f3.toInt Z8 p1.toInt p2.toInt = (-100001) := by
          unfold zAearn
          rw [if_pos (by omega)]
        have hP9 := hP.sub (ws' := [(h0, .inr (4, [.ref h1, .ref h2, .int f0, .ref h3, .ref h4, .ref h5, .ref h6, .int f1, .ref h7, .ref h8, .ref h9, .ref h10])), (h1, .inr (0, [.ref h11, .int f2, .ref h12, .int f3, .ref h13, .ref h14, .ref h15, .ref h16, .ref h17, .ref h18, .int f4])), (h11, .inl (zI g, 5, .inl Z5)), (h12, .inl (zI g, 6, .inl Z6)), (h13, .inl (zI g, 5, .inl Z7)), (h14, .inl (zI g, 5, .inl Z8)), (h15, .inl (zI g, 5, .inl Z9)), (h16, .inl (zI g, 20, .inl Z10))]) [0, 7, 1, 2, 3, 4, 5, 6] rfl
        have hD9 := hD.sub (ws' := [(h0, .inr (4, [.ref h1, .ref h2, .int f0, .ref h3, .ref h4, .ref h5, .ref h6, .int f1, .ref h7, .ref h8, .ref h9, .ref h10])), (h1, .inr (0, [.ref h11, .int f2, .ref h12, .int f3, .ref h13, .ref h14, .ref h15, .ref h16, .ref h17, .ref h18, .int f4])), (h11, .inl (zI g, 5, .inl Z5)), (h12, .inl (zI g, 6, .inl Z6)), (h13, .inl (zI g, 5, .inl Z7)), (h14, .inl (zI g, 5, .inl Z8)), (h15, .inl (zI g, 5, .inl Z9)), (h16, .inl (zI g, 20, .inl Z10))]) [0, 7, 1, 2, 3, 4, 5, 6] (by decide) rfl
        exact W.iret (v := (-100001)) hx hb hr (fun t ht hW => ⟨⟨(-100001), Z8, rfl, ⟨(by first | omega | decide), hF_Z8, (by rw [if_neg (by omega)])⟩, by rw [ht]; exact hP9, hD9⟩, hS.F ht⟩) hS.2.2 dX4_earn_25
set_option maxHeartbeats 8000000 in
set_option maxRecDepth 100000 in
theorem gX3_byteOf (l : Launch) (g : zG) (sz : Nat) (p0 : Int64) (p1 : Int32) : Met l yX3_byteOf (.code yX3_byteOf cX3_byteOf 3 (some .int) :: zBig) ({ frames := 0, cells := 0, slots := 0, locals := 0 }) (va_Pc [.long p0, .int p1] (zPre g [] sz)) (va_Qi (fun (r : Int32) (u : Nat) => r.toInt = zb8 p0 p1) (zPost g (fun u : Nat => []) (va_A [] sz)) (va_A [] sz)) 0 0 (va_A [] sz) := by
  refine zMetI rfl (Nat.le_of_ble_eq_true rfl) ?_
  intro p e s m args below meth c A ls hx hb hml hr hlocks hin hown hts hK hN hZ hP hD hA hS hAe hl
  have hown : s.vm.findClass RX3 = some m.cls := hown
  have hl : lv_has ls 3 [(0, .long p0), (2, .int p1)] := hl
  refine lv_lload_n hx hb dX3_byteOf_0 rfl (lv_at hl 0 rfl) ?_
  refine lv_bipush (v := 8) hx hb dX3_byteOf_1 (by decide) ?_
  refine lv_iload_n hx hb dX3_byteOf_3 rfl (lv_at hl 1 rfl) ?_
  refine lv_imul hx hb dX3_byteOf_4 ?_
  refine lv_topi (fun y0 ey0 => ?_)
  refine lv_lshr (v := (p0 >>> (y0.toInt64 &&& 63))) hx hb dX3_byteOf_5 rfl ?_
  refine lv_ldc2 (v := 255) hx hb hown (hts _ m_k_RX3_23) dX3_byteOf_6 ?_
  refine lv_land hx hb dX3_byteOf_9 ?_
  refine lv_l2i (v := ((p0 >>> (y0.toInt64 &&& 63)) &&& 255).toInt32) hx hb dX3_byteOf_10 rfl ?_
  have hbz : (((p0 >>> (y0.toInt64 &&& 63)) &&& 255).toInt32).toInt = zb8 p0 p1 := (z_b255 _).trans (by rw [ey0]; rfl)
  have hP9 := hP.sub (ws' := []) [] rfl
  have hD9 := hD.sub (ws' := []) [] (by decide) rfl
  exact W.iret (v := ((p0 >>> (y0.toInt64 &&& 63)) &&& 255).toInt32) hx hb hr (fun t ht hW => ⟨⟨((p0 >>> (y0.toInt64 &&& 63)) &&& 255).toInt32, (0 : Nat), rfl, (by first | omega | decide), by rw [ht]; exact hP9, hD9⟩, hS.F ht⟩) hS.2.2 dX3_byteOf_11
