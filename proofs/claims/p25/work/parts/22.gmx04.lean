set_option maxHeartbeats 8000000 in
set_option maxRecDepth 100000 in
theorem gX5_payOf (l : Launch) (g : zG) (K : Prop) (B C : zBk) (h0 h1 h2 h3 h4 h5 h6 h7 h8 h9 h10 h11 h12 h13 h14 h15 h16 h17 h18 h19 h20 h21 h22 : Nat) (sz : Nat) (p1 : Int32) (f0 : Int32) (f1 : Int32) (f2 : Int32) (f3 : Int32) (f4 : Int32) (Z0 : Nat → Int32) (Z6 : Nat → Int32) (hp0 : 0 ≤ p1.toInt) (hp1 : p1.toInt ≤ 4) (hf_f1 : 0 ≤ f1.toInt ∧ f1.toInt ≤ 60) (hf_f2 : 0 ≤ f2.toInt ∧ f2.toInt ≤ 60) (hF_Z0 : iW K B C Z0) : Met l yX5_payOf (.code yX5_payOf cX5_payOf 2 (some .int) :: zBig) ({ frames := 0, cells := 0, slots := 0, locals := 0 }) (va_Pc [.ref h0, .int p1] (zPre g [(h0, .inr (5, [.ref h1, .int f0, .ref h2, .int f1, .int f2, .ref h3, .ref h4, .ref h5, .ref h6, .int f3, .ref h7, .ref h8, .ref h9, .int f4, .ref h10, .ref h11, .ref h12, .ref h13, .ref h14, .ref h15, .ref h16, .ref h17, .ref h18, .ref h19, .ref h20, .ref h21, .ref h22])), (h1, .inl (zI g, 180, .inl Z0)), (h7, .inl (zI g, 5, .inl Z6))] sz)) (va_Qi (fun (r : Int32) (u : Nat) => True) (zPost g (fun u : Nat => [(h0, .inr (5, [.ref h1, .int f0, .ref h2, .int f1, .int f2, .ref h3, .ref h4, .ref h5, .ref h6, .int f3, .ref h7, .ref h8, .ref h9, .int f4, .ref h10, .ref h11, .ref h12, .ref h13, .ref h14, .ref h15, .ref h16, .ref h17, .ref h18, .ref h19, .ref h20, .ref h21, .ref h22])), (h1, .inl (zI g, 180, .inl Z0)), (h7, .inl (zI g, 5, .inl Z6))]) (va_A [(h0, .inr (5, [.ref h1, .int f0, .ref h2, .int f1, .int f2, .ref h3, .ref h4, .ref h5, .ref h6, .int f3, .ref h7, .ref h8, .ref h9, .int f4, .ref h10, .ref h11, .ref h12, .ref h13, .ref h14, .ref h15, .ref h16, .ref h17, .ref h18, .ref h19, .ref h20, .ref h21, .ref h22])), (h1, .inl (zI g, 180, .inl Z0)), (h7, .inl (zI g, 5, .inl Z6))] sz)) (va_A [(h0, .inr (5, [.ref h1, .int f0, .ref h2, .int f1, .int f2, .ref h3, .ref h4, .ref h5, .ref h6, .int f3, .ref h7, .ref h8, .ref h9, .int f4, .ref h10, .ref h11, .ref h12, .ref h13, .ref h14, .ref h15, .ref h16, .ref h17, .ref h18, .ref h19, .ref h20, .ref h21, .ref h22])), (h1, .inl (zI g, 180, .inl Z0)), (h7, .inl (zI g, 5, .inl Z6))] sz)) 0 0 (va_A [(h0, .inr (5, [.ref h1, .int f0, .ref h2, .int f1, .int f2, .ref h3, .ref h4, .ref h5, .ref h6, .int f3, .ref h7, .ref h8, .ref h9, .int f4, .ref h10, .ref h11, .ref h12, .ref h13, .ref h14, .ref h15, .ref h16, .ref h17, .ref h18, .ref h19, .ref h20, .ref h21, .ref h22])), (h1, .inl (zI g, 180, .inl Z0)), (h7, .inl (zI g, 5, .inl Z6))] sz) := by
  refine zMetI rfl (Nat.le_of_ble_eq_true rfl) ?_
  intro p e s m args below meth c A ls hx hb hml hr hlocks hin hown hts hK hN hZ hP hD hA hS hAe hl
  have hown : s.vm.findClass RX5 = some m.cls := hown
  have hl : lv_has ls 2 [(0, .ref h0), (1, .int p1)] := hl
  refine lv_aload_n hx hb dX5_payOf_0 rfl (lv_at hl 0 rfl) ?_
  refine va_get (D := g.1) (ci := 5) (v := .ref h7) (C := RX5) (T := TX5) (N := 27) hx hb hts zl_X5 hown hK hP 0 rfl rfl 10 (by decide) (hts _ m_f_RX5_28) (fun _ h => h) rfl dX5_payOf_1 ?_
  refine lv_iload_n hx hb dX5_payOf_4 rfl (lv_at hl 1 rfl) ?_
  refine va_iald (D := g.1) hx hb hK hP 2 0 rfl rfl (vp_in_iff.mpr ⟨by omega, by omega⟩) dX5_payOf_5 ?_
  refine lv_topi (fun y0 ey0 => ?_)
  have qy0_0 : y0.toInt = (Z6 p1.toNatClampNeg).toInt := congrArg Int32.toInt ey0
  refine lv_aload_n hx hb dX5_payOf_6 rfl (lv_at hl 0 rfl) ?_
  refine va_get (D := g.1) (ci := 5) (v := .ref h1) (C := RX5) (T := TX5) (N := 27) hx hb hts zl_X5 hown hK hP 0 rfl rfl 0 (by decide) (hts _ m_f_RX5_7) (fun _ h => h) rfl dX5_payOf_7 ?_
  refine lv_bipush (v := 13) hx hb dX5_payOf_10 (by decide) ?_
  refine lv_iload_n hx hb dX5_payOf_12 rfl (lv_at hl 1 rfl) ?_
  refine lv_iadd hx hb dX5_payOf_13 ?_
  refine lv_topi (fun y1 ey1 => ?_)
  have qy1_0 : y1.toInt = 13 + p1.toInt := zi_add ey1 (rfl) (rfl) (by omega) (by omega)
  refine va_iald (D := g.1) hx hb hK hP 1 0 rfl rfl (vp_in_iff.mpr ⟨by omega, by omega⟩) dX5_payOf_14 ?_
  refine lv_topi (fun y2 ey2 => ?_)
  have qy2_0 : y2.toInt = (Z0 y1.toNatClampNeg).toInt := congrArg Int32.toInt ey2
  refine lv_iconst (v := 4) hx hb dX5_payOf_15 (by decide) ?_
  refine lv_icmp_ne (tgt := 28) hx hb dX5_payOf_16 (by decide) (fun c_0 => ?_) (fun c_0 => ?_)
  · have i_0 : y2.toInt ≠ 4 := z_ne (rfl) (rfl) c_0
    refine lv_iconst (v := 0) hx hb dX5_payOf_28 (by decide) ?_
    refine lv_iadd hx hb dX5_payOf_29 ?_
    have := z_rng y0
    refine lv_topi (fun y3 ey3 => ?_)
    have qy3_0 : y3.toInt = y0.toInt + 0 := zi_add ey3 (rfl) (rfl) (by omega) (by omega)
    have hP9 := hP.sub (ws' := [(h0, .inr (5, [.ref h1, .int f0, .ref h2, .int f1, .int f2, .ref h3, .ref h4, .ref h5, .ref h6, .int f3, .ref h7, .ref h8, .ref h9, .int f4, .ref h10, .ref h11, .ref h12, .ref h13, .ref h14, .ref h15, .ref h16, .ref h17, .ref h18, .ref h19, .ref h20, .ref h21, .ref h22])), (h1, .inl (zI g, 180, .inl Z0)), (h7, .inl (zI g, 5, .inl Z6))]) [0, 1, 2] rfl
    have hD9 := hD.sub (ws' := [(h0, .inr (5, [.ref h1, .int f0, .ref h2, .int f1, .int f2, .ref h3, .ref h4, .ref h5, .ref h6, .int f3, .ref h7, .ref h8, .ref h9, .int f4, .ref h10, .ref h11, .ref h12, .ref h13, .ref h14, .ref h15, .ref h16, .ref h17, .ref h18, .ref h19, .ref h20, .ref h21, .ref h22])), (h1, .inl (zI g, 180, .inl Z0)), (h7, .inl (zI g, 5, .inl Z6))]) [0, 1, 2] (by decide) rfl
    exact W.iret (v := y3) hx hb hr (fun t ht hW => ⟨⟨y3, (0 : Nat), rfl, trivial, by rw [ht]; exact hP9, hD9⟩, hS.F ht⟩) hS.2.2 dX5_payOf_30
  · have i_0 : y2.toInt = 4 := z_eq (rfl) (rfl) c_0
    refine lv_aload_n hx hb dX5_payOf_19 rfl (lv_at hl 0 rfl) ?_
    refine va_get (D := g.1) (ci := 5) (v := .ref h1) (C := RX5) (T := TX5) (N := 27) hx hb hts zl_X5 hown hK hP 0 rfl rfl 0 (by decide) (hts _ m_f_RX5_7) (fun _ h => h) rfl dX5_payOf_20 ?_
    refine lv_iconst (v := 4) hx hb dX5_payOf_23 (by decide) ?_
    refine va_iald (D := g.1) hx hb hK hP 1 0 rfl rfl (vp_in_iff.mpr (by decide +kernel)) dX5_payOf_24 ?_
    refine lv_topi (fun y4 ey4 => ?_)
    have qy4_0 : y4.toInt = (Z0 4).toInt := congrArg Int32.toInt ey4
    refine lv_goto (tgt := 29) hx hb dX5_payOf_25 (by decide) ?_
    refine lv_iadd hx hb dX5_payOf_29 ?_
    refine lv_topi (fun y5 ey5 => ?_)
    have hP9 := hP.sub (ws' := [(h0, .inr (5, [.ref h1, .int f0, .ref h2, .int f1, .int f2, .ref h3, .ref h4, .ref h5, .ref h6, .int f3, .ref h7, .ref h8, .ref h9, .int f4, .ref h10, .ref h11, .ref h12, .ref h13, .ref h14, .ref h15, .ref h16, .ref h17, .ref h18, .ref h19, .ref h20, .ref h21, .ref h22])), (h1, .inl (zI g, 180, .inl Z0)), (h7, .inl (zI g, 5, .inl Z6))]) [0, 1, 2] rfl
    have hD9 := hD.sub (ws' := [(h0, .inr (5, [.ref h1, .int f0, .ref h2, .int f1, .int f2, .ref h3, .ref h4, .ref h5, .ref h6, .int f3, .ref h7, .ref h8, .ref h9, .int f4, .ref h10, .ref h11, .ref h12, .ref h13, .ref h14, .ref h15, .ref h16, .ref h17, .ref h18, .ref h19, .ref h20, .ref h21, .ref h22])), (h1, .inl (zI g, 180, .inl Z0)), (h7, .inl (zI g, 5, .inl Z6))]) [0, 1, 2] (by decide) rfl
    exact W.iret (v := y5) hx hb hr (fun t ht hW => ⟨⟨y5, (0 : Nat), rfl, trivial, by rw [ht]; exact hP9, hD9⟩, hS.F ht⟩) hS.2.2 dX5_payOf_30
set_option maxHeartbeats 8000000 in
set_option maxRecDepth 100000 in
theorem gX5_up (l : Launch) (g : zG) (sz : Nat) (p0 : Int32) (p1 : Int32) (hp0 : 1 ≤ p1.toInt) (hp1 : p1.toInt ≤ 9) : Met l yX5_up (.code yX5_up cX5_up 2 (some .int) :: zBig) ({ frames := 0, cells := 0, slots := 0, locals := 0 }) (va_Pc [.int p0, .int p1] (zPre g [] sz)) (va_Qi (fun (r : Int32) (u : Nat) => True) (zPost g (fun u : Nat => []) (va_A [] sz)) (va_A [] sz)) 0 0 (va_A [] sz) := by
  refine zMetI rfl (Nat.le_of_ble_eq_true rfl) ?_
  intro p e s m args below meth c A ls hx hb hml hr hlocks hin hown hts hK hN hZ hP hD hA hS hAe hl
  have hown : s.vm.findClass RX5 = some m.cls := hown
  have hl : lv_has ls 2 [(0, .int p0), (1, .int p1)] := hl
  refine lv_iload_n hx hb dX5_up_0 rfl (lv_at hl 0 rfl) ?_
  refine lv_if_gt (tgt := 8) hx hb dX5_up_1 (by decide) (fun c_0 => ?_) (fun c_0 => ?_)
  · have i_0 : 0 < p0.toInt := z_lt (rfl) (rfl) c_0
    refine lv_iload_n hx hb dX5_up_8 rfl (lv_at hl 0 rfl) ?_
    refine lv_iload_n hx hb dX5_up_9 rfl (lv_at hl 1 rfl) ?_
    refine lv_iadd hx hb dX5_up_10 ?_
    refine lv_topi (fun y0 ey0 => ?_)
    refine lv_iconst (v := 1) hx hb dX5_up_11 (by decide) ?_
    refine lv_isub hx hb dX5_up_12 ?_
    refine lv_topi (fun y1 ey1 => ?_)
    refine lv_iload_n hx hb dX5_up_13 rfl (lv_at hl 1 rfl) ?_
    refine lv_idiv hx hb dX5_up_14 (z_nz rfl (by omega)) ?_
    refine lv_topi (fun y2 ey2 => ?_)
    have hP9 := hP.sub (ws' := []) [] rfl
    have hD9 := hD.sub (ws' := []) [] (by decide) rfl
    exact W.iret (v := y2) hx hb hr (fun t ht hW => ⟨⟨y2, (0 : Nat), rfl, trivial, by rw [ht]; exact hP9, hD9⟩, hS.F ht⟩) hS.2.2 dX5_up_15
  · have i_0 : p0.toInt ≤ 0 := z_nlt (rfl) (rfl) c_0
    refine lv_iconst (v := 0) hx hb dX5_up_4 (by decide) ?_
    refine lv_goto (tgt := 15) hx hb dX5_up_5 (by decide) ?_
    have hP9 := hP.sub (ws' := []) [] rfl
    have hD9 := hD.sub (ws' := []) [] (by decide) rfl
    exact W.iret (v := 0) hx hb hr (fun t ht hW => ⟨⟨0, (0 : Nat), rfl, trivial, by rw [ht]; exact hP9, hD9⟩, hS.F ht⟩) hS.2.2 dX5_up_15
set_option maxHeartbeats 8000000 in
set_option maxRecDepth 100000 in
theorem gX5_greater (l : Launch) (g : zG) (sz : Nat) (p0 : Int32) (p1 : Int32) : Met l yX5_greater (.code yX5_greater cX5_greater 2 (some .int) :: zBig) ({ frames := 0, cells := 0, slots := 0, locals := 0 }) (va_Pc [.int p0, .int p1] (zPre g [] sz)) (va_Qi (fun (r : Int32) (u : Nat) => p0.toInt ≤ r.toInt ∧ p1.toInt ≤ r.toInt ∧ (r.toInt = p0.toInt ∨ r.toInt = p1.toInt)) (zPost g (fun u : Nat => []) (va_A [] sz)) (va_A [] sz)) 0 0 (va_A [] sz) := by
  refine zMetI rfl (Nat.le_of_ble_eq_true rfl) ?_
  intro p e s m args below meth c A ls hx hb hml hr hlocks hin hown hts hK hN hZ hP hD hA hS hAe hl
  have hown : s.vm.findClass RX5 = some m.cls := hown
  have hl : lv_has ls 2 [(0, .int p0), (1, .int p1)] := hl
  refine lv_iload_n hx hb dX5_greater_0 rfl (lv_at hl 0 rfl) ?_
  refine lv_iload_n hx hb dX5_greater_1 rfl (lv_at hl 1 rfl) ?_
  refine lv_icmp_le (tgt := 9) hx hb dX5_greater_2 (by decide) (fun c_0 => ?_) (fun c_0 => ?_)
  · have i_0 : p0.toInt ≤ p1.toInt := z_le (rfl) (rfl) c_0
    refine lv_iload_n hx hb dX5_greater_9 rfl (lv_at hl 1 rfl) ?_
    have hP9 := hP.sub (ws' := []) [] rfl
    have hD9 := hD.sub (ws' := []) [] (by decide) rfl
    exact W.iret (v := p1) hx hb hr (fun t ht hW => ⟨⟨p1, (0 : Nat), rfl, ⟨(by first | omega | decide), (by first | omega | decide), (by first | omega | decide)⟩, by rw [ht]; exact hP9, hD9⟩, hS.F ht⟩) hS.2.2 dX5_greater_10
  · have i_0 : p1.toInt < p0.toInt := z_nle (rfl) (rfl) c_0
    refine lv_iload_n hx hb dX5_greater_5 rfl (lv_at hl 0 rfl) ?_
    refine lv_goto (tgt := 10) hx hb dX5_greater_6 (by decide) ?_
    have hP9 := hP.sub (ws' := []) [] rfl
    have hD9 := hD.sub (ws' := []) [] (by decide) rfl
    exact W.iret (v := p0) hx hb hr (fun t ht hW => ⟨⟨p0, (0 : Nat), rfl, ⟨(by first | omega | decide), (by first | omega | decide), (by first | omega | decide)⟩, by rw [ht]; exact hP9, hD9⟩, hS.F ht⟩) hS.2.2 dX5_greater_10
set_option maxHeartbeats 8000000 in
set_option maxRecDepth 100000 in
theorem gX5_waits (l : Launch) (g : zG) (K : Prop) (B C : zBk) (h0 h1 h2 h3 h4 h5 h6 h7 h8 h9 h10 h11 h12 h13 h14 h15 h16 h17 h18 h19 h20 h21 h22 : Nat) (sz : Nat) (p1 : Int32) (p2 : Int32) (p3 : Int32) (p4 : Int32) (f0 : Int32) (f1 : Int32) (f2 : Int32) (f3 : Int32) (f4 : Int32) (Z0 : Nat → Int32) (Z5 : Nat → Int32) (Z6 : Nat → Int32) (hp0 : 0 ≤ p1.toInt) (hp1 : p1.toInt ≤ 4) (hp2 : 0 ≤ p2.toInt) (hp3 : p2.toInt ≤ 3) (hf_f1 : 0 ≤ f1.toInt ∧ f1.toInt ≤ 60) (hf_f2 : 0 ≤ f2.toInt ∧ f2.toInt ≤ 60) (hF_Z0 : iW K B C Z0) : Met l yX5_waits (.code yX5_waits cX5_waits 7 (some .int) :: zBig) ({ frames := 1, cells := 0, slots := 0, locals := 22 }) (va_Pc [.ref h0, .int p1, .int p2, .int p3, .int p4] (zPre g [(h0, .inr (5, [.ref h1, .int f0, .ref h2, .int f1, .int f2, .ref h3, .ref h4, .ref h5, .ref h6, .int f3, .ref h7, .ref h8, .ref h9, .int f4, .ref h10, .ref h11, .ref h12, .ref h13, .ref h14, .ref h15, .ref h16, .ref h17, .ref h18, .ref h19, .ref h20, .ref h21, .ref h22])), (h1, .inl (zI g, 180, .inl Z0)), (h6, .inl (zI g, 5, .inl Z5)), (h7, .inl (zI g, 5, .inl Z6))] sz)) (va_Qi (fun (r : Int32) (u : Nat) => True) (zPost g (fun u : Nat => [(h0, .inr (5, [.ref h1, .int f0, .ref h2, .int f1, .int f2, .ref h3, .ref h4, .ref h5, .ref h6, .int f3, .ref h7, .ref h8, .ref h9, .int f4, .ref h10, .ref h11, .ref h12, .ref h13, .ref h14, .ref h15, .ref h16, .ref h17, .ref h18, .ref h19, .ref h20, .ref h21, .ref h22])), (h1, .inl (zI g, 180, .inl Z0)), (h6, .inl (zI g, 5, .inl Z5)), (h7, .inl (zI g, 5, .inl Z6))]) (va_A [(h0, .inr (5, [.ref h1, .int f0, .ref h2, .int f1, .int f2, .ref h3, .ref h4, .ref h5, .ref h6, .int f3, .ref h7, .ref h8, .ref h9, .int f4, .ref h10, .ref h11, .ref h12, .ref h13, .ref h14, .ref h15, .ref h16, .ref h17, .ref h18, .ref h19, .ref h20, .ref h21, .ref h22])), (h1, .inl (zI g, 180, .inl Z0)), (h6, .inl (zI g, 5, .inl Z5)), (h7, .inl (zI g, 5, .inl Z6))] sz)) (va_A [(h0, .inr (5, [.ref h1, .int f0, .ref h2, .int f1, .int f2, .ref h3, .ref h4, .ref h5, .ref h6, .int f3, .ref h7, .ref h8, .ref h9, .int f4, .ref h10, .ref h11, .ref h12, .ref h13, .ref h14, .ref h15, .ref h16, .ref h17, .ref h18, .ref h19, .ref h20, .ref h21, .ref h22])), (h1, .inl (zI g, 180, .inl Z0)), (h6, .inl (zI g, 5, .inl Z5)), (h7, .inl (zI g, 5, .inl Z6))] sz)) 0 0 (va_A [(h0, .inr (5, [.ref h1, .int f0, .ref h2, .int f1, .int f2, .ref h3, .ref h4, .ref h5, .ref h6, .int f3, .ref h7, .ref h8, .ref h9, .int f4, .ref h10, .ref h11, .ref h12, .ref h13, .ref h14, .ref h15, .ref h16, .ref h17, .ref h18, .ref h19, .ref h20, .ref h21, .ref h22])), (h1, .inl (zI g, 180, .inl Z0)), (h6, .inl (zI g, 5, .inl Z5)), (h7, .inl (zI g, 5, .inl Z6))] sz) := by
  refine zMetI rfl (Nat.le_of_ble_eq_true rfl) ?_
  intro p e s m args below meth c A ls hx hb hml hr hlocks hin hown hts hK hN hZ hP hD hA hS hAe hl
  have hown : s.vm.findClass RX5 = some m.cls := hown
  have hl : lv_has ls 7 [(0, .ref h0), (1, .int p1), (2, .int p2), (3, .int p3), (4, .int p4)] := hl
  refine lv_aload_n hx hb dX5_waits_0 rfl (lv_at hl 0 rfl) ?_
  refine lv_iload_n hx hb dX5_waits_1 rfl (lv_at hl 1 rfl) ?_
  refine lv_iload_n hx hb dX5_waits_2 rfl (lv_at hl 2 rfl) ?_
  refine z_calli (wr := [(h6, .inl (zI g, 5, .inl Z5)), (h7, .inl (zI g, 5, .inl Z6))]) hP hD hS hA [0, 1] [2, 3] (by decide) rfl rfl (by decide) (va_runV (As := [.int p1, .int p2]) (rest := []) ⟨hx, hb, hml, hown, hts⟩ (gX5_worthOf l g K B C h0 h1 h2 h3 h4 h5 h6 h7 h8 h9 h10 h11 h12 h13 h14 h15 h16 h17 h18 h19 h20 h21 h22 s.heap.size p1 p2 f0 f1 f2 f3 f4 Z0 (by omega) (by omega) (by omega) (by omega) (by constructor <;> omega) (by constructor <;> omega) hF_Z0) ⟨callB_of 2 hts (zGood m_o_yX5_worthOf) rfl rfl rfl (hts _ m_z_RX5) (hts _ m_m_RX5_150) ⟨by decide +kernel, by decide +kernel, by decide +kernel⟩ ⟨Nat.le_of_ble_eq_true rfl, Nat.le_of_ble_eq_true rfl⟩, hts _ m_i_yX5_worthOf, hts _ m_e_yX5_worthOf⟩ (zPreV hK hN hZ hP hD hS hA [0, 1] (by decide) rfl rfl 5 0 rfl rfl) rfl rfl hl.1 rfl (lv_room (Nat.le_of_ble_eq_true rfl)) dX5_waits_3 ⟨Nat.le_of_ble_eq_true rfl, Nat.le_of_ble_eq_true rfl⟩) (fun r u H locs hw hP hD hS => ?_)
  obtain ⟨y0, rfl⟩ : ∃ z, z = r := ⟨_, rfl⟩
  have hP : va_P g.1 vwCl [(h6, .inl (zI g, 5, .inl Z5)), (h7, .inl (zI g, 5, .inl Z6)), (h0, .inr (5, [.ref h1, .int f0, .ref h2, .int f1, .int f2, .ref h3, .ref h4, .ref h5, .ref h6, .int f3, .ref h7, .ref h8, .ref h9, .int f4, .ref h10, .ref h11, .ref h12, .ref h13, .ref h14, .ref h15, .ref h16, .ref h17, .ref h18, .ref h19, .ref h20, .ref h21, .ref h22])), (h1, .inl (zI g, 180, .inl Z0))] H := hP
  have hD : va_D A [(h6, .inl (zI g, 5, .inl Z5)), (h7, .inl (zI g, 5, .inl Z6)), (h0, .inr (5, [.ref h1, .int f0, .ref h2, .int f1, .int f2, .ref h3, .ref h4, .ref h5, .ref h6, .int f3, .ref h7, .ref h8, .ref h9, .int f4, .ref h10, .ref h11, .ref h12, .ref h13, .ref h14, .ref h15, .ref h16, .ref h17, .ref h18, .ref h19, .ref h20, .ref h21, .ref h22])), (h1, .inl (zI g, 180, .inl Z0))] := hD
  refine lv_aload_n hx hb dX5_waits_6 rfl (lv_at hl 0 rfl) ?_
  refine lv_iload_n hx hb dX5_waits_7 rfl (lv_at hl 1 rfl) ?_
  refine z_calli (wr := [(h7, .inl (zI g, 5, .inl Z6))]) hP hD hS hA [2, 3, 0] [1] (by decide) rfl rfl (by decide) (va_runV (As := [.int p1]) (rest := [.int y0]) ⟨hx, hb, hml, hown, hts⟩ (gX5_marginOf l g K B C h0 h1 h2 h3 h4 h5 h6 h7 h8 h9 h10 h11 h12 h13 h14 h15 h16 h17 h18 h19 h20 h21 h22 H.size p1 f0 f1 f2 f3 f4 Z0 Z5 (by omega) (by omega) (by constructor <;> omega) (by constructor <;> omega) hF_Z0) ⟨callB_of 1 hts (zGood m_o_yX5_marginOf) rfl rfl rfl (hts _ m_z_RX5) (hts _ m_m_RX5_160) ⟨by decide +kernel, by decide +kernel, by decide +kernel⟩ ⟨Nat.le_of_ble_eq_true rfl, Nat.le_of_ble_eq_true rfl⟩, hts _ m_i_yX5_marginOf, hts _ m_e_yX5_marginOf⟩ (zPreV hK hN hZ hP hD hS hA [2, 3, 0] (by decide) rfl rfl 5 2 rfl rfl) rfl rfl hl.1 rfl (lv_room (Nat.le_of_ble_eq_true rfl)) dX5_waits_8 ⟨Nat.le_of_ble_eq_true rfl, Nat.le_of_ble_eq_true rfl⟩) (fun r u H locs hw hP hD hS => ?_)
  obtain ⟨y1, rfl⟩ : ∃ z, z = r := ⟨_, rfl⟩
  have hP : va_P g.1 vwCl [(h7, .inl (zI g, 5, .inl Z6)), (h0, .inr (5, [.ref h1, .int f0, .ref h2, .int f1, .int f2, .ref h3, .ref h4, .ref h5, .ref h6, .int f3, .ref h7, .ref h8, .ref h9, .int f4, .ref h10, .ref h11, .ref h12, .ref h13, .ref h14, .ref h15, .ref h16, .ref h17, .ref h18, .ref h19, .ref h20, .ref h21, .ref h22])), (h1, .inl (zI g, 180, .inl Z0)), (h6, .inl (zI g, 5, .inl Z5))] H := hP
  have hD : va_D A [(h7, .inl (zI g, 5, .inl Z6)), (h0, .inr (5, [.ref h1, .int f0, .ref h2, .int f1, .int f2, .ref h3, .ref h4, .ref h5, .ref h6, .int f3, .ref h7, .ref h8, .ref h9, .int f4, .ref h10, .ref h11, .ref h12, .ref h13, .ref h14, .ref h15, .ref h16, .ref h17, .ref h18, .ref h19, .ref h20, .ref h21, .ref h22])), (h1, .inl (zI g, 180, .inl Z0)), (h6, .inl (zI g, 5, .inl Z5))] := hD
  refine lv_isub hx hb dX5_waits_11 ?_
  refine lv_topi (fun y2 ey2 => ?_)
  refine lv_istore (lv' := [(5, .int y2), (0, .ref h0), (1, .int p1), (2, .int p2), (3, .int p3), (4, .int p4)]) hx hb dX5_waits_12 hl (by decide) rfl (fun ls hl => ?_)
  refine lv_iload_n hx hb dX5_waits_14 rfl (lv_at hl 4 rfl) ?_
  refine lv_aload_n hx hb dX5_waits_15 rfl (lv_at hl 1 rfl) ?_
  refine lv_iload_n hx hb dX5_waits_16 rfl (lv_at hl 2 rfl) ?_
  refine z_calli (wr := [(h6, .inl (zI g, 5, .inl Z5))]) hP hD hS hA [1, 2, 0] [3] (by decide) rfl rfl (by decide) (va_runV (As := [.int p1]) (rest := [.int p3]) ⟨hx, hb, hml, hown, hts⟩ (gX5_payOf l g K B C h0 h1 h2 h3 h4 h5 h6 h7 h8 h9 h10 h11 h12 h13 h14 h15 h16 h17 h18 h19 h20 h21 h22 H.size p1 f0 f1 f2 f3 f4 Z0 Z6 (by omega) (by omega) (by constructor <;> omega) (by constructor <;> omega) hF_Z0) ⟨callB_of 1 hts (zGood m_o_yX5_payOf) rfl rfl rfl (hts _ m_z_RX5) (hts _ m_m_RX5_163) ⟨by decide +kernel, by decide +kernel, by decide +kernel⟩ ⟨Nat.le_of_ble_eq_true rfl, Nat.le_of_ble_eq_true rfl⟩, hts _ m_i_yX5_payOf, hts _ m_e_yX5_payOf⟩ (zPreV hK hN hZ hP hD hS hA [1, 2, 0] (by decide) rfl rfl 5 1 rfl rfl) rfl rfl hl.1 rfl (lv_room (Nat.le_of_ble_eq_true rfl)) dX5_waits_17 ⟨Nat.le_of_ble_eq_true rfl, Nat.le_of_ble_eq_true rfl⟩) (fun r u H locs hw hP hD hS => ?_)
  obtain ⟨y3, rfl⟩ : ∃ z, z = r := ⟨_, rfl⟩
  have hP : va_P g.1 vwCl [(h6, .inl (zI g, 5, .inl Z5)), (h0, .inr (5, [.ref h1, .int f0, .ref h2, .int f1, .int f2, .ref h3, .ref h4, .ref h5, .ref h6, .int f3, .ref h7, .ref h8, .ref h9, .int f4, .ref h10, .ref h11, .ref h12, .ref h13, .ref h14, .ref h15, .ref h16, .ref h17, .ref h18, .ref h19, .ref h20, .ref h21, .ref h22])), (h1, .inl (zI g, 180, .inl Z0)), (h7, .inl (zI g, 5, .inl Z6))] H := hP
  have hD : va_D A [(h6, .inl (zI g, 5, .inl Z5)), (h0, .inr (5, [.ref h1, .int f0, .ref h2, .int f1, .int f2, .ref h3, .ref h4, .ref h5, .ref h6, .int f3, .ref h7, .ref h8, .ref h9, .int f4, .ref h10, .ref h11, .ref h12, .ref h13, .ref h14, .ref h15, .ref h16, .ref h17, .ref h18, .ref h19, .ref h20, .ref h21, .ref h22])), (h1, .inl (zI g, 180, .inl Z0)), (h7, .inl (zI g, 5, .inl Z6))] := hD
  refine lv_isub hx hb dX5_waits_20 ?_
  refine lv_topi (fun y4 ey4 => ?_)
  refine lv_aload_n hx hb dX5_waits_21 rfl (lv_at hl 1 rfl) ?_
  refine va_get (D := g.1) (ci := 5) (v := .ref h1) (C := RX5) (T := TX5) (N := 27) hx hb hts zl_X5 hown hK hP 1 rfl rfl 0 (by decide) (hts _ m_f_RX5_7) (fun _ h => h) rfl dX5_waits_22 ?_
  refine lv_iconst (v := 1) hx hb dX5_waits_25 (by decide) ?_
  refine va_iald (D := g.1) hx hb hK hP 2 0 rfl rfl (vp_in_iff.mpr (by decide +kernel)) dX5_waits_26 ?_
  refine lv_topi (fun y5 ey5 => ?_)
  have qy5_0 : 1 ≤ y5.toInt := ((iW_at (i := (1 : Int32)) (a := 1) hF_Z0 (rfl) (by omega) (by omega) ey5).2.1 (by omega)).1
  have qy5_1 : y5.toInt ≤ 9 := ((iW_at (i := (1 : Int32)) (a := 1) hF_Z0 (rfl) (by omega) (by omega) ey5).2.1 (by omega)).2
  have qy5_2 : y5.toInt = (Z0 1).toInt := congrArg Int32.toInt ey5
  refine z_calli (wr := [(h6, .inl (zI g, 5, .inl Z5)), (h0, .inr (5, [.ref h1, .int f0, .ref h2, .int f1, .int f2, .ref h3, .ref h4, .ref h5, .ref h6, .int f3, .ref h7, .ref h8, .ref h9, .int f4, .ref h10, .ref h11, .ref h12, .ref h13, .ref h14, .ref h15, .ref h16, .ref h17, .ref h18, .ref h19, .ref h20, .ref h21, .ref h22])), (h1, .inl (zI g, 180, .inl Z0)), (h7, .inl (zI g, 5, .inl Z6))]) hP hD hS hA [] [0, 1, 2, 3] (by decide) rfl rfl (by decide) (va_runS (As := [.int y4, .int y5]) (rest := []) ⟨hx, hb, hml, hown, hts⟩ (gX5_up l g  H.size y4 y5 (by omega) (by omega)) ⟨callB_of 2 hts (zGood m_o_yX5_up) rfl rfl rfl (hts _ m_z_RX5) (hts _ m_m_RX5_166) ⟨by decide +kernel, by decide +kernel, by decide +kernel⟩ ⟨Nat.le_of_ble_eq_true rfl, Nat.le_of_ble_eq_true rfl⟩, hts _ m_s_yX5_up⟩ (zPreS hK hN hZ hP hD hS hA [] (by decide) rfl rfl) rfl rfl hl.1 rfl (lv_room (Nat.le_of_ble_eq_true rfl)) dX5_waits_27 ⟨Nat.le_of_ble_eq_true rfl, Nat.le_of_ble_eq_true rfl⟩) (fun r u H locs hw hP hD hS => ?_)
  obtain ⟨y6, rfl⟩ : ∃ z, z = r := ⟨_, rfl⟩
  have hP : va_P g.1 vwCl [(h6, .inl (zI g, 5, .inl Z5)), (h0, .inr (5, [.ref h1, .int f0, .ref h2, .int f1, .int f2, .ref h3, .ref h4, .ref h5, .ref h6, .int f3, .ref h7, .ref h8, .ref h9, .int f4, .ref h10, .ref h11, .ref h12, .ref h13, .ref h14, .ref h15, .ref h16, .ref h17, .ref h18, .ref h19, .ref h20, .ref h21, .ref h22])), (h1, .inl (zI g, 180, .inl Z0)), (h7, .inl (zI g, 5, .inl Z6))] H := hP
  have hD : va_D A [(h6, .inl (zI g, 5, .inl Z5)), (h0, .inr (5, [.ref h1, .int f0, .ref h2, .int f1, .int f2, .ref h3, .ref h4, .ref h5, .ref h6, .int f3, .ref h7, .ref h8, .ref h9, .int f4, .ref h10, .ref h11, .ref h12, .ref h13, .ref h14, .ref h15, .ref h16, .ref h17, .ref h18, .ref h19, .ref h20, .ref h21, .ref h22])), (h1, .inl (zI g, 180, .inl Z0)), (h7, .inl (zI g, 5, .inl Z6))] := hD
  refine lv_istore (lv' := [(6, .int y6), (5, .int y2), (0, .ref h0), (1, .int p1), (2, .int p2), (3, .int p3), (4, .int p4)]) hx hb dX5_waits_30 hl (by decide) rfl (fun ls hl => ?_)
  refine lv_aload_n hx hb dX5_waits_32 rfl (lv_at hl 2 rfl) ?_
  refine va_get (D := g.1) (ci := 5) (v := .ref h1) (C := RX5) (T := TX5) (N := 27) hx hb hts zl_X5 hown hK hP 1 rfl rfl 0 (by decide) (hts _ m_f_RX5_7) (fun _ h => h) rfl dX5_waits_33 ?_
  refine lv_bipush (v := 13) hx hb dX5_waits_36 (by decide) ?_
  refine lv_iload_n hx hb dX5_waits_38 rfl (lv_at hl 3 rfl) ?_
  refine lv_iadd hx hb dX5_waits_39 ?_
  refine lv_topi (fun y7 ey7 => ?_)
  have qy7_0 : y7.toInt = 13 + p1.toInt := zi_add ey7 (rfl) (rfl) (by omega) (by omega)
  refine va_iald (D := g.1) hx hb hK hP 2 0 rfl rfl (vp_in_iff.mpr ⟨by omega, by omega⟩) dX5_waits_40 ?_
  refine lv_topi (fun y8 ey8 => ?_)
  have qy8_0 : y8.toInt = (Z0 y7.toNatClampNeg).toInt := congrArg Int32.toInt ey8
  refine lv_iconst (v := 1) hx hb dX5_waits_41 (by decide) ?_
  refine lv_icmp_eq (tgt := 64) hx hb dX5_waits_42 (by decide) (fun c_0 => ?_) (fun c_0 => ?_)
  · have i_0 : y8.toInt = 1 := z_eq (rfl) (rfl) c_0
    refine lv_iload hx hb dX5_waits_64 (lv_at hl 6 rfl) ?_
    refine lv_iload hx hb dX5_waits_66 (lv_at hl 1 rfl) ?_
    refine lv_icmp_gt (tgt := 80) hx hb dX5_waits_68 (by decide) (fun c_1 => ?_) (fun c_1 => ?_)
    · have i_1 : y2.toInt < p4.toInt := z_lt (rfl) (rfl) c_1
      refine lv_iload hx hb dX5_waits_80 (lv_at hl 0 rfl) ?_
      refine lv_iconst (v := 1) hx hb dX5_waits_82 (by decide) ?_
      refine lv_iload_n hx hb dX5_waits_83 rfl (lv_at hl 5 rfl) ?_
      refine lv_iload hx hb dX5_waits_84 (lv_at hl 1 rfl) ?_
      refine lv_isub hx hb dX5_waits_86 ?_
      refine lv_topi (fun y9 ey9 => ?_)
      refine lv_aload_n hx hb dX5_waits_87 rfl (lv_at hl 2 rfl) ?_
      refine va_get (D := g.1) (ci := 5) (v := .ref h1) (C := RX5) (T := TX5) (N := 27) hx hb hts zl_X5 hown hK hP 1 rfl rfl 0 (by decide) (hts _ m_f_RX5_7) (fun _ h => h) rfl dX5_waits_88 ?_
      refine lv_iconst (v := 1) hx hb dX5_waits_91 (by decide) ?_
      refine va_iald (D := g.1) hx hb hK hP 2 0 rfl rfl (vp_in_iff.mpr (by decide +kernel)) dX5_waits_92 ?_
      refine lv_topi (fun y10 ey10 => ?_)
      have qy10_0 : 1 ≤ y10.toInt := ((iW_at (i := (1 : Int32)) (a := 1) hF_Z0 (rfl) (by omega) (by omega) ey10).2.1 (by omega)).1
      have qy10_1 : y10.toInt ≤ 9 := ((iW_at (i := (1 : Int32)) (a := 1) hF_Z0 (rfl) (by omega) (by omega) ey10).2.1 (by omega)).2
      have qy10_2 : y10.toInt = (Z0 1).toInt := congrArg Int32.toInt ey10
      refine z_calli (wr := [(h6, .inl (zI g, 5, .inl Z5)), (h0, .inr (5, [.ref h1, .int f0, .ref h2, .int f1, .int f2, .ref h3, .ref h4, .ref h5, .ref h6, .int f3, .ref h7, .ref h8, .ref h9, .int f4, .ref h10, .ref h11, .ref h12, .ref h13, .ref h14, .ref h15, .ref h16, .ref h17, .ref h18, .ref h19, .ref h20, .ref h21, .ref h22])), (h1, .inl (zI g, 180, .inl Z0)), (h7, .inl (zI g, 5, .inl Z6))]) hP hD hS hA [] [0, 1, 2, 3] (by decide) rfl rfl (by decide) (va_runS (As := [.int y9, .int y10]) (rest := [.int 1, .int y6]) ⟨hx, hb, hml, hown, hts⟩ (gX5_up l g  H.size y9 y10 (by omega) (by omega)) ⟨callB_of 2 hts (zGood m_o_yX5_up) rfl rfl rfl (hts _ m_z_RX5) (hts _ m_m_RX5_166) ⟨by decide +kernel, by decide +kernel, by decide +kernel⟩ ⟨Nat.le_of_ble_eq_true rfl, Nat.le_of_ble_eq_true rfl⟩, hts _ m_s_yX5_up⟩ (zPreS hK hN hZ hP hD hS hA [] (by decide) rfl rfl) rfl rfl hl.1 rfl (lv_room (Nat.le_of_ble_eq_true rfl)) dX5_waits_93 ⟨Nat.le_of_ble_eq_true rfl, Nat.le_of_ble_eq_true rfl⟩) (fun r u H locs hw hP hD hS => ?_)
      obtain ⟨y11, rfl⟩ : ∃ z, z = r := ⟨_, rfl⟩
      have hP : va_P g.1 vwCl [(h6, .inl (zI g, 5, .inl Z5)), (h0, .inr (5, [.ref h1, .int f0, .ref h2, .int f1, .int f2, .ref h3, .ref h4, .ref h5, .ref h6, .int f3, .ref h7, .ref h8, .ref h9, .int f4, .ref h10, .ref h11, .ref h12, .ref h13, .ref h14, .ref h15, .ref h16, .ref h17, .ref h18, .ref h19, .ref h20, .ref h21, .ref h22])), (h1, .inl (zI g, 180, .inl Z0)), (h7, .inl (zI g, 5, .inl Z6))] H := hP
      have hD : va_D A [(h6, .inl (zI g, 5, .inl Z5)), (h0, .inr (5, [.ref h1, .int f0, .ref h2, .int f1, .int f2, .ref h3, .ref h4, .ref h5, .ref h6, .int f3, .ref h7, .ref h8, .ref h9, .int f4, .ref h10, .ref h11, .ref h12, .ref h13, .ref h14, .ref h15, .ref h16, .ref h17, .ref h18, .ref h19, .ref h20, .ref h21, .ref h22])), (h1, .inl (zI g, 180, .inl Z0)), (h7, .inl (zI g, 5, .inl Z6))] := hD
      refine lv_iadd hx hb dX5_waits_96 ?_
      refine lv_topi (fun y12 ey12 => ?_)
      refine z_calli (wr := [(h6, .inl (zI g, 5, .inl Z5)), (h0, .inr (5, [.ref h1, .int f0, .ref h2, .int f1, .int f2, .ref h3, .ref h4, .ref h5, .ref h6, .int f3, .ref h7, .ref h8, .ref h9, .int f4, .ref h10, .ref h11, .ref h12, .ref h13, .ref h14, .ref h15, .ref h16, .ref h17, .ref h18, .ref h19, .ref h20, .ref h21, .ref h22])), (h1, .inl (zI g, 180, .inl Z0)), (h7, .inl (zI g, 5, .inl Z6))]) hP hD hS hA [] [0, 1, 2, 3] (by decide) rfl rfl (by decide) (va_runS (As := [.int y6, .int y12]) (rest := []) ⟨hx, hb, hml, hown, hts⟩ (gX5_greater l g  H.size y6 y12) ⟨callB_of 2 hts (zGood m_o_yX5_greater) rfl rfl rfl (hts _ m_z_RX5) (hts _ m_m_RX5_169) ⟨by decide +kernel, by decide +kernel, by decide +kernel⟩ ⟨Nat.le_of_ble_eq_true rfl, Nat.le_of_ble_eq_true rfl⟩, hts _ m_s_yX5_greater⟩ (zPreS hK hN hZ hP hD hS hA [] (by decide) rfl rfl) rfl rfl hl.1 rfl (lv_room (Nat.le_of_ble_eq_true rfl)) dX5_waits_97 ⟨Nat.le_of_ble_eq_true rfl, Nat.le_of_ble_eq_true rfl⟩) (fun r u H locs hw hP hD hS => ?_)
      obtain ⟨y13, rfl⟩ : ∃ z, z = r := ⟨_, rfl⟩
      obtain ⟨q14_0, q14_1, q14_2⟩ := hw
      have q14_0 : y6.toInt ≤ y13.toInt := q14_0
      have q14_1 : y12.toInt ≤ y13.toInt := q14_1
      have q14_2 : (y13.toInt = y6.toInt ∨ y13.toInt = y12.toInt) := q14_2
      have hP : va_P g.1 vwCl [(h6, .inl (zI g, 5, .inl Z5)), (h0, .inr (5, [.ref h1, .int f0, .ref h2, .int f1, .int f2, .ref h3, .ref h4, .ref h5, .ref h6, .int f3, .ref h7, .ref h8, .ref h9, .int f4, .ref h10, .ref h11, .ref h12, .ref h13, .ref h14, .ref h15, .ref h16, .ref h17, .ref h18, .ref h19, .ref h20, .ref h21, .ref h22])), (h1, .inl (zI g, 180, .inl Z0)), (h7, .inl (zI g, 5, .inl Z6))] H := hP
      have hD : va_D A [(h6, .inl (zI g, 5, .inl Z5)), (h0, .inr (5, [.ref h1, .int f0, .ref h2, .int f1, .int f2, .ref h3, .ref h4, .ref h5, .ref h6, .int f3, .ref h7, .ref h8, .ref h9, .int f4, .ref h10, .ref h11, .ref h12, .ref h13, .ref h14, .ref h15, .ref h16, .ref h17, .ref h18, .ref h19, .ref h20, .ref h21, .ref h22])), (h1, .inl (zI g, 180, .inl Z0)), (h7, .inl (zI g, 5, .inl Z6))] := hD
      have hP9 := hP.sub (ws' := [(h0, .inr (5, [.ref h1, .int f0, .ref h2, .int f1, .int f2, .ref h3, .ref h4, .ref h5, .ref h6, .int f3, .ref h7, .ref h8, .ref h9, .int f4, .ref h10, .ref h11, .ref h12, .ref h13, .ref h14, .ref h15, .ref h16, .ref h17, .ref h18, .ref h19, .ref h20, .ref h21, .ref h22])), (h1, .inl (zI g, 180, .inl Z0)), (h6, .inl (zI g, 5, .inl Z5)), (h7, .inl (zI g, 5, .inl Z6))]) [1, 2, 0, 3] rfl
      have hD9 := hD.sub (ws' := [(h0, .inr (5, [.ref h1, .int f0, .ref h2, .int f1, .int f2, .ref h3, .ref h4, .ref h5, .ref h6, .int f3, .ref h7, .ref h8, .ref h9, .int f4, .ref h10, .ref h11, .ref h12, .ref h13, .ref h14, .ref h15, .ref h16, .ref h17, .ref h18, .ref h19, .ref h20, .ref h21, .ref h22])), (h1, .inl (zI g, 180, .inl Z0)), (h6, .inl (zI g, 5, .inl Z5)), (h7, .inl (zI g, 5, .inl Z6))]) [1, 2, 0, 3] (by decide) rfl
      exact W.iret (v := y13) hx hb hr (fun t ht hW => ⟨⟨y13, (0 : Nat), rfl, trivial, by rw [ht]; exact hP9, hD9⟩, hS.F ht⟩) hS.2.2 dX5_waits_100
    · have i_1 : p4.toInt ≤ y2.toInt := z_nlt (rfl) (rfl) c_1
      refine lv_iload hx hb dX5_waits_71 (lv_at hl 0 rfl) ?_
      refine lv_if_ne (tgt := 80) hx hb dX5_waits_73 (by decide) (fun c_2 => ?_) (fun c_2 => ?_)
      · have i_2 : y6.toInt ≠ 0 := z_ne (rfl) (rfl) c_2
        refine lv_iload hx hb dX5_waits_80 (lv_at hl 0 rfl) ?_
        refine lv_iconst (v := 1) hx hb dX5_waits_82 (by decide) ?_
        refine lv_iload_n hx hb dX5_waits_83 rfl (lv_at hl 5 rfl) ?_
        refine lv_iload hx hb dX5_waits_84 (lv_at hl 1 rfl) ?_
        refine lv_isub hx hb dX5_waits_86 ?_
        refine lv_topi (fun y16 ey16 => ?_)
        refine lv_aload_n hx hb dX5_waits_87 rfl (lv_at hl 2 rfl) ?_
        refine va_get (D := g.1) (ci := 5) (v := .ref h1) (C := RX5) (T := TX5) (N := 27) hx hb hts zl_X5 hown hK hP 1 rfl rfl 0 (by decide) (hts _ m_f_RX5_7) (fun _ h => h) rfl dX5_waits_88 ?_
        refine lv_iconst (v := 1) hx hb dX5_waits_91 (by decide) ?_
        refine va_iald (D := g.1) hx hb hK hP 2 0 rfl rfl (vp_in_iff.mpr (by decide +kernel)) dX5_waits_92 ?_
        refine lv_topi (fun y17 ey17 => ?_)
        have qy17_0 : 1 ≤ y17.toInt := ((iW_at (i := (1 : Int32)) (a := 1) hF_Z0 (rfl) (by omega) (by omega) ey17).2.1 (by omega)).1
        have qy17_1 : y17.toInt ≤ 9 := ((iW_at (i := (1 : Int32)) (a := 1) hF_Z0 (rfl) (by omega) (by omega) ey17).2.1 (by omega)).2
        have qy17_2 : y17.toInt = (Z0 1).toInt := congrArg Int32.toInt ey17
        refine z_calli (wr := [(h6, .inl (zI g, 5, .inl Z5)), (h0, .inr (5, [.ref h1, .int f0, .ref h2, .int f1, .int f2, .ref h3, .ref h4, .ref h5, .ref h6, .int f3, .ref h7, .ref h8, .ref h9, .int f4, .ref h10, .ref h11, .ref h12, .ref h13, .ref h14, .ref h15, .ref h16, .ref h17, .ref h18, .ref h19, .ref h20, .ref h21, .ref h22])), (h1, .inl (zI g, 180, .inl Z0)), (h7, .inl (zI g, 5, .inl Z6))]) hP hD hS hA [] [0, 1, 2, 3] (by decide) rfl rfl (by decide) (va_runS (As := [.int y16, .int y17]) (rest := [.int 1, .int y6]) ⟨hx, hb, hml, hown, hts⟩ (gX5_up l g  H.size y16 y17 (by omega) (by omega)) ⟨callB_of 2 hts (zGood m_o_yX5_up) rfl rfl rfl (hts _ m_z_RX5) (hts _ m_m_RX5_166) ⟨by decide +kernel, by decide +kernel, by decide +kernel⟩ ⟨Nat.le_of_ble_eq_true rfl, Nat.le_of_ble_eq_true rfl⟩, hts _ m_s_yX5_up⟩ (zPreS hK hN hZ hP hD hS hA [] (by decide) rfl rfl) rfl rfl hl.1 rfl (lv_room (Nat.le_of_ble_eq_true rfl)) dX5_waits_93 ⟨Nat.le_of_ble_eq_true rfl, Nat.le_of_ble_eq_true rfl⟩) (fun r u H locs hw hP hD hS => ?_)
        obtain ⟨y18, rfl⟩ : ∃ z, z = r := ⟨_, rfl⟩
        have hP : va_P g.1 vwCl [(h6, .inl (zI g, 5, .inl Z5)), (h0, .inr (5, [.ref h1, .int f0, .ref h2, .int f1, .int f2, .ref h3, .ref h4, .ref h5, .ref h6, .int f3, .ref h7, .ref h8, .ref h9, .int f4, .ref h10, .ref h11, .ref h12, .ref h13, .ref h14, .ref h15, .ref h16, .ref h17, .ref h18, .ref h19, .ref h20, .ref h21, .ref h22])), (h1, .inl (zI g, 180, .inl Z0)), (h7, .inl (zI g, 5, .inl Z6))] H := hP
        have hD : va_D A [(h6, .inl (zI g, 5, .inl Z5)), (h0, .inr (5, [.ref h1, .int f0, .ref h2, .int f1, .int f2, .ref h3, .ref h4, .ref h5, .ref h6, .int f3, .ref h7, .ref h8, .ref h9, .int f4, .ref h10, .ref h11, .ref h12, .ref h13, .ref h14, .ref h15, .ref h16, .ref h17, .ref h18, .ref h19, .ref h20, .ref h21, .ref h22])), (h1, .inl (zI g, 180, .inl Z0)), (h7, .inl (zI g, 5, .inl Z6))] := hD
        refine lv_iadd hx hb dX5_waits_96 ?_
        refine lv_topi (fun y19 ey19 => ?_)
        refine z_calli (wr := [(h6, .inl (zI g, 5, .inl Z5)), (h0, .inr (5, [.ref h1, .int f0, .ref h2, .int f1, .int f2, .ref h3, .ref h4, .ref h5, .ref h6, .int f3, .ref h7, .ref h8, .ref h9, .int f4, .ref h10, .ref h11, .ref h12, .ref h13, .ref h14, .ref h15, .ref h16, .ref h17, .ref h18, .ref h19, .ref h20, .ref h21, .ref h22])), (h1, .inl (zI g, 180, .inl Z0)), (h7, .inl (zI g, 5, .inl Z6))]) hP hD hS hA [] [0, 1, 2, 3] (by decide) rfl rfl (by decide) (va_runS (As := [.int y6, .int y19]) (rest := []) ⟨hx, hb, hml, hown, hts⟩ (gX5_greater l g  H.size y6 y19) ⟨callB_of 2 hts (zGood m_o_yX5_greater) rfl rfl rfl (hts _ m_z_RX5) (hts _ m_m_RX5_169) ⟨by decide +kernel, by decide +kernel, by decide +kernel⟩ ⟨Nat.le_of_ble_eq_true rfl, Nat.le_of_ble_eq_true rfl⟩, hts _ m_s_yX5_greater⟩ (zPreS hK hN hZ hP hD hS hA [] (by decide) rfl rfl) rfl rfl hl.1 rfl (lv_room (Nat.le_of_ble_eq_true rfl)) dX5_waits_97 ⟨Nat.le_of_ble_eq_true rfl, Nat.le_of_ble_eq_true rfl⟩) (fun r u H locs hw hP hD hS => ?_)
        obtain ⟨y20, rfl⟩ : ∃ z, z = r := ⟨_, rfl⟩
        obtain ⟨q21_0, q21_1, q21_2⟩ := hw
        have q21_0 : y6.toInt ≤ y20.toInt := q21_0
        have q21_1 : y19.toInt ≤ y20.toInt := q21_1
        have q21_2 : (y20.toInt = y6.toInt ∨ y20.toInt = y19.toInt) := q21_2
        have hP : va_P g.1 vwCl [(h6, .inl (zI g, 5, .inl Z5)), (h0, .inr (5, [.ref h1, .int f0, .ref h2, .int f1, .int f2, .ref h3, .ref h4, .ref h5, .ref h6, .int f3, .ref h7, .ref h8, .ref h9, .int f4, .ref h10, .ref h11, .ref h12, .ref h13, .ref h14, .ref h15, .ref h16, .ref h17, .ref h18, .ref h19, .ref h20, .ref h21, .ref h22])), (h1, .inl (zI g, 180, .inl Z0)), (h7, .inl (zI g, 5, .inl Z6))] H := hP
        have hD : va_D A [(h6, .inl (zI g, 5, .inl Z5)), (h0, .inr (5, [.ref h1, .int f0, .ref h2, .int f1, .int f2, .ref h3, .ref h4, .ref h5, .ref h6, .int f3, .ref h7, .ref h8, .ref h9, .int f4, .ref h10, .ref h11, .ref h12, .ref h13, .ref h14, .ref h15, .ref h16, .ref h17, .ref h18, .ref h19, .ref h20, .ref h21, .ref h22])), (h1, .inl (zI g, 180, .inl Z0)), (h7, .inl (zI g, 5, .inl Z6))] := hD
        have hP9 := hP.sub (ws' := [(h0, .inr (5, [.ref h1, .int f0, .ref h2, .int f1, .int f2, .ref h3, .ref h4, .ref h5, .ref h6, .int f3, .ref h7, .ref h8, .ref h9, .int f4, .ref h10, .ref h11, .ref h12, .ref h13, .ref h14, .ref h15, .ref h16, .ref h17, .ref h18, .ref h19, .ref h20, .ref h21, .ref h22])), (h1, .inl (zI g, 180, .inl Z0)), (h6, .inl (zI g, 5, .inl Z5)), (h7, .inl (zI g, 5, .inl Z6))]) [1, 2, 0, 3] rfl
        have hD9 := hD.sub (ws' := [(h0, .inr (5, [.ref h1, .int f0, .ref h2, .int f1, .int f2, .ref h3, .ref h4, .ref h5, .ref h6, .int f3, .ref h7, .ref h8, .ref h9, .int f4, .ref h10, .ref h11, .ref h12, .ref h13, .ref h14, .ref h15, .ref h16, .ref h17, .ref h18, .ref h19, .ref h20, .ref h21, .ref h22])), (h1, .inl (zI g, 180, .inl Z0)), (h6, .inl (zI g, 5, .inl Z5)), (h7, .inl (zI g, 5, .inl Z6))]) [1, 2, 0, 3] (by decide) rfl
        exact W.iret (v := y20) hx hb hr (fun t ht hW => ⟨⟨y20, (0 : Nat), rfl, trivial, by rw [ht]; exact hP9, hD9⟩, hS.F ht⟩) hS.2.2 dX5_waits_100
      · have i_2 : y6.toInt = 0 := z_eq (rfl) (rfl) c_2
        refine lv_iconst (v := 0) hx hb dX5_waits_76 (by decide) ?_
        refine lv_goto (tgt := 100) hx hb dX5_waits_77 (by decide) ?_
        have hP9 := hP.sub (ws' := [(h0, .inr (5, [.ref h1, .int f0, .ref h2, .int f1, .int f2, .ref h3, .ref h4, .ref h5, .ref h6, .int f3, .ref h7, .ref h8, .ref h9, .int f4, .ref h10, .ref h11, .ref h12, .ref h13, .ref h14, .ref h15, .ref h16, .ref h17, .ref h18, .ref h19, .ref h20, .ref h21, .ref h22])), (h1, .inl (zI g, 180, .inl Z0)), (h6, .inl (zI g, 5, .inl Z5)), (h7, .inl (zI g, 5, .inl Z6))]) [1, 2, 0, 3] rfl
        have hD9 := hD.sub (ws' := [(h0, .inr (5, [.ref h1, .int f0, .ref h2, .int f1, .int f2, .ref h3, .ref h4, .ref h5, .ref h6, .int f3, .ref h7, .ref h8, .ref h9, .int f4, .ref h10, .ref h11, .ref h12, .ref h13, .ref h14, .ref h15, .ref h16, .ref h17, .ref h18, .ref h19, .ref h20, .ref h21, .ref h22])), (h1, .inl (zI g, 180, .inl Z0)), (h6, .inl (zI g, 5, .inl Z5)), (h7, .inl (zI g, 5, .inl Z6))]) [1, 2, 0, 3] (by decide) rfl
        exact W.iret (v := 0) hx hb hr (fun t ht hW => ⟨⟨0, (0 : Nat), rfl, trivial, by rw [ht]; exact hP9, hD9⟩, hS.F ht⟩) hS.2.2 dX5_waits_100
  · have i_0 : y8.toInt ≠ 1 := z_ne (rfl) (rfl) c_0
    refine lv_iload hx hb dX5_waits_45 (lv_at hl 0 rfl) ?_
    refine lv_iload_n hx hb dX5_waits_47 rfl (lv_at hl 5 rfl) ?_
    refine lv_iload hx hb dX5_waits_48 (lv_at hl 1 rfl) ?_
    refine lv_isub hx hb dX5_waits_50 ?_
    refine lv_topi (fun y23 ey23 => ?_)
    refine lv_aload_n hx hb dX5_waits_51 rfl (lv_at hl 2 rfl) ?_
    refine va_get (D := g.1) (ci := 5) (v := .ref h1) (C := RX5) (T := TX5) (N := 27) hx hb hts zl_X5 hown hK hP 1 rfl rfl 0 (by decide) (hts _ m_f_RX5_7) (fun _ h => h) rfl dX5_waits_52 ?_
    refine lv_iconst (v := 1) hx hb dX5_waits_55 (by decide) ?_
    refine va_iald (D := g.1) hx hb hK hP 2 0 rfl rfl (vp_in_iff.mpr (by decide +kernel)) dX5_waits_56 ?_
    refine lv_topi (fun y24 ey24 => ?_)
    have qy24_0 : 1 ≤ y24.toInt := ((iW_at (i := (1 : Int32)) (a := 1) hF_Z0 (rfl) (by omega) (by omega) ey24).2.1 (by omega)).1
    have qy24_1 : y24.toInt ≤ 9 := ((iW_at (i := (1 : Int32)) (a := 1) hF_Z0 (rfl) (by omega) (by omega) ey24).2.1 (by omega)).2
    have qy24_2 : y24.toInt = (Z0 1).toInt := congrArg Int32.toInt ey24
    refine z_calli (wr := [(h6, .inl (zI g, 5, .inl Z5)), (h0, .inr (5, [.ref h1, .int f0, .ref h2, .int f1, .int f2, .ref h3, .ref h4, .ref h5, .ref h6, .int f3, .ref h7, .ref h8, .ref h9, .int f4, .ref h10, .ref h11, .ref h12, .ref h13, .ref h14, .ref h15, .ref h16, .ref h17, .ref h18, .ref h19, .ref h20, .ref h21, .ref h22])), (h1, .inl (zI g, 180, .inl Z0)), (h7, .inl (zI g, 5, .inl Z6))]) hP hD hS hA [] [0, 1, 2, 3] (by decide) rfl rfl (by decide) (va_runS (As := [.int y23, .int y24]) (rest := [.int y6]) ⟨hx, hb, hml, hown, hts⟩ (gX5_up l g  H.size y23 y24 (by omega) (by omega)) ⟨callB_of 2 hts (zGood m_o_yX5_up) rfl rfl rfl (hts _ m_z_RX5) (hts _ m_m_RX5_166) ⟨by decide +kernel, by decide +kernel, by decide +kernel⟩ ⟨Nat.le_of_ble_eq_true rfl, Nat.le_of_ble_eq_true rfl⟩, hts _ m_s_yX5_up⟩ (zPreS hK hN hZ hP hD hS hA [] (by decide) rfl rfl) rfl rfl hl.1 rfl (lv_room (Nat.le_of_ble_eq_true rfl)) dX5_waits_57 ⟨Nat.le_of_ble_eq_true rfl, Nat.le_of_ble_eq_true rfl⟩) (fun r u H locs hw hP hD hS => ?_)
    obtain ⟨y25, rfl⟩ : ∃ z, z = r := ⟨_, rfl⟩
    have hP : va_P g.1 vwCl [(h6, .inl (zI g, 5, .inl Z5)), (h0, .inr (5, [.ref h1, .int f0, .ref h2, .int f1, .int f2, .ref h3, .ref h4, .ref h5, .ref h6, .int f3, .ref h7, .ref h8, .ref h9, .int f4, .ref h10, .ref h11, .ref h12, .ref h13, .ref h14, .ref h15, .ref h16, .ref h17, .ref h18, .ref h19, .ref h20, .ref h21, .ref h22])), (h1, .inl (zI g, 180, .inl Z0)), (h7, .inl (zI g, 5, .inl Z6))] H := hP
    have hD : va_D A [(h6, .inl (zI g, 5, .inl Z5)), (h0, .inr (5, [.ref h1, .int f0, .ref h2, .int f1, .int f2, .ref h3, .ref h4, .ref h5, .ref h6, .int f3, .ref h7, .ref h8, .ref h9, .int f4, .ref h10, .ref h11, .ref h12, .ref h13, .ref h14, .ref h15, .ref h16, .ref h17, .ref h18, .ref h19, .ref h20, .ref h21, .ref h22])), (h1, .inl (zI g, 180, .inl Z0)), (h7, .inl (zI g, 5, .inl Z6))] := hD
    refine z_calli (wr := [(h6, .inl (zI g, 5, .inl Z5)), (h0, .inr (5, [.ref h1, .int f0, .ref h2, .int f1, .int f2, .ref h3, .ref h4, .ref h5, .ref h6, .int f3, .ref h7, .ref h8, .ref h9, .int f4, .ref h10, .ref h11, .ref h12, .ref h13, .ref h14, .ref h15, .ref h16, .ref h17, .ref h18, .ref h19, .ref h20, .ref h21, .ref h22])), (h1, .inl (zI g, 180, .inl Z0)), (h7, .inl (zI g, 5, .inl Z6))]) hP hD hS hA [] [0, 1, 2, 3] (by decide) rfl rfl (by decide) (va_runS (As := [.int y6, .int y25]) (rest := []) ⟨hx, hb, hml, hown, hts⟩ (gX5_greater l g  H.size y6 y25) ⟨callB_of 2 hts (zGood m_o_yX5_greater) rfl rfl rfl (hts _ m_z_RX5) (hts _ m_m_RX5_169) ⟨by decide +kernel, by decide +kernel, by decide +kernel⟩ ⟨Nat.le_of_ble_eq_true rfl, Nat.le_of_ble_eq_true rfl⟩, hts _ m_s_yX5_greater⟩ (zPreS hK hN hZ hP hD hS hA [] (by decide) rfl rfl) rfl rfl hl.1 rfl (lv_room (Nat.le_of_ble_eq_true rfl)) dX5_waits_60 ⟨Nat.le_of_ble_eq_true rfl, Nat.le_of_ble_eq_true rfl⟩) (fun r u H locs hw hP hD hS => ?_)
    obtain ⟨y26, rfl⟩ : ∃ z, z = r := ⟨_, rfl⟩
    obtain ⟨q27_0, q27_1, q27_2⟩ := hw
    have q27_0 : y6.toInt ≤ y26.toInt := q27_0
    have q27_1 : y25.toInt ≤ y26.toInt := q27_1
    have q27_2 : (y26.toInt = y6.toInt ∨ y26.toInt = y25.toInt) := q27_2
    have hP : va_P g.1 vwCl [(h6, .inl (zI g, 5, .inl Z5)), (h0, .inr (5, [.ref h1, .int f0, .ref h2, .int f1, .int f2, .ref h3, .ref h4, .ref h5, .ref h6, .int f3, .ref h7, .ref h8, .ref h9, .int f4, .ref h10, .ref h11, .ref h12, .ref h13, .ref h14, .ref h15, .ref h16, .ref h17, .ref h18, .ref h19, .ref h20, .ref h21, .ref h22])), (h1, .inl (zI g, 180, .inl Z0)), (h7, .inl (zI g, 5, .inl Z6))] H := hP
    have hD : va_D A [(h6, .inl (zI g, 5, .inl Z5)), (h0, .inr (5, [.ref h1, .int f0, .ref h2, .int f1, .int f2, .ref h3, .ref h4, .ref h5, .ref h6, .int f3, .ref h7, .ref h8, .ref h9, .int f4, .ref h10, .ref h11, .ref h12, .ref h13, .ref h14, .ref h15, .ref h16, .ref h17, .ref h18, .ref h19, .ref h20, .ref h21, .ref h22])), (h1, .inl (zI g, 180, .inl Z0)), (h7, .inl (zI g, 5, .inl Z6))] := hD
    have hP9 := hP.sub (ws' := [(h0, .inr (5, [.ref h1, .int f0, .ref h2, .int f1, .int f2, .ref h3, .ref h4, .ref h5, .ref h6, .int f3, .ref h7, .ref h8, .ref h9, .int f4, .ref h10, .ref h11, .ref h12, .ref h13, .ref h14, .ref h15, .ref h16, .ref h17, .ref h18, .ref h19, .ref h20, .ref h21, .ref h22])), (h1, .inl (zI g, 180, .inl Z0)), (h6, .inl (zI g, 5, .inl Z5)), (h7, .inl (zI g, 5, .inl Z6))]) [1, 2, 0, 3] rfl
    have hD9 := hD.sub (ws' := [(h0, .inr (5, [.ref h1, .int f0, .ref h2, .int f1, .int f2, .ref h3, .ref h4, .ref h5, .ref h6, .int f3, .ref h7, .ref h8, .ref h9, .int f4, .ref h10, .ref h11, .ref h12, .ref h13, .ref h14, .ref h15, .ref h16, .ref h17, .ref h18, .ref h19, .ref h20, .ref h21, .ref h22])), (h1, .inl (zI g, 180, .inl Z0)), (h6, .inl (zI g, 5, .inl Z5)), (h7, .inl (zI g, 5, .inl Z6))]) [1, 2, 0, 3] (by decide) rfl
    exact W.iret (v := y26) hx hb hr (fun t ht hW => ⟨⟨y26, (0 : Nat), rfl, trivial, by rw [ht]; exact hP9, hD9⟩, hS.F ht⟩) hS.2.2 dX5_waits_63
set_option maxHeartbeats 8000000 in
set_option maxRecDepth 100000 in
theorem gX5_sell (l : Launch) (g : zG) (K : Prop) (B C : zBk) (h0 h1 h2 h3 h4 h5 h6 h7 h8 h9 h10 h11 h12 h13 h14 h15 h16 h17 h18 h19 h20 h21 h22 : Nat) (sz : Nat) (p1 : Int32) (p2 : Int32) (p3 : Int32) (f0 : Int32) (f1 : Int32) (f2 : Int32) (f3 : Int32) (f4 : Int32) (Z0 : Nat → Int32) (Z6 : Nat → Int32) (Z7 : Nat → Int32) (Z8 : Nat → Int32) (hp0 : 0 ≤ p1.toInt) (hp1 : p1.toInt ≤ 4) (hp2 : 0 ≤ p2.toInt) (hp3 : p2.toInt ≤ 3) (hf_f1 : 0 ≤ f1.toInt ∧ f1.toInt ≤ 60) (hf_f2 : 0 ≤ f2.toInt ∧ f2.toInt ≤ 60) (hF_Z0 : iW K B C Z0) : Met l yX5_sell (.code yX5_sell cX5_sell 4 none :: zBig) ({ frames := 1, cells := 0, slots := 0, locals := 22 }) (va_Pc [.ref h0, .int p1, .int p2, .int p3] (zPre g [(h0, .inr (5, [.ref h1, .int f0, .ref h2, .int f1, .int f2, .ref h3, .ref h4, .ref h5, .ref h6, .int f3, .ref h7, .ref h8, .ref h9, .int f4, .ref h10, .ref h11, .ref h12, .ref h13, .ref h14, .ref h15, .ref h16, .ref h17, .ref h18, .ref h19, .ref h20, .ref h21, .ref h22])), (h1, .inl (zI g, 180, .inl Z0)), (h7, .inl (zI g, 5, .inl Z6)), (h8, .inl (zI g, 5, .inl Z7)), (h9, .inl (zI g, 5, .inl Z8))] sz)) (va_Qv (fun u : Int32 × (Nat → Int32) × (Nat → Int32) × (Nat → Int32) => True) (zPost g (fun u : Int32 × (Nat → Int32) × (Nat → Int32) × (Nat → Int32) => [(h0, .inr (5, [.ref h1, .int f0, .ref h2, .int f1, .int f2, .ref h3, .ref h4, .ref h5, .ref h6, .int f3, .ref h7, .ref h8, .ref h9, .int u.1, .ref h10, .ref h11, .ref h12, .ref h13, .ref h14, .ref h15, .ref h16, .ref h17, .ref h18, .ref h19, .ref h20, .ref h21, .ref h22])), (h1, .inl (zI g, 180, .inl Z0)), (h7, .inl (zI g, 5, .inl u.2.1)), (h8, .inl (zI g, 5, .inl u.2.2.1)), (h9, .inl (zI g, 5, .inl u.2.2.2))]) (va_A [(h0, .inr (5, [.ref h1, .int f0, .ref h2, .int f1, .int f2, .ref h3, .ref h4, .ref h5, .ref h6, .int f3, .ref h7, .ref h8, .ref h9, .int f4, .ref h10, .ref h11, .ref h12, .ref h13, .ref h14, .ref h15, .ref h16, .ref h17, .ref h18, .ref h19, .ref h20, .ref h21, .ref h22])), (h1, .inl (zI g, 180, .inl Z0)), (h7, .inl (zI g, 5, .inl Z6)), (h8, .inl (zI g, 5, .inl Z7)), (h9, .inl (zI g, 5, .inl Z8))] sz)) (va_A [(h0, .inr (5, [.ref h1, .int f0, .ref h2, .int f1, .int f2, .ref h3, .ref h4, .ref h5, .ref h6, .int f3, .ref h7, .ref h8, .ref h9, .int f4, .ref h10, .ref h11, .ref h12, .ref h13, .ref h14, .ref h15, .ref h16, .ref h17, .ref h18, .ref h19, .ref h20, .ref h21, .ref h22])), (h1, .inl (zI g, 180, .inl Z0)), (h7, .inl (zI g, 5, .inl Z6)), (h8, .inl (zI g, 5, .inl Z7)), (h9, .inl (zI g, 5, .inl Z8))] sz)) 0 0 (va_A [(h0, .inr (5, [.ref h1, .int f0, .ref h2, .int f1, .int f2, .ref h3, .ref h4, .ref h5, .ref h6, .int f3, .ref h7, .ref h8, .ref h9, .int f4, .ref h10, .ref h11, .ref h12, .ref h13, .ref h14, .ref h15, .ref h16, .ref h17, .ref h18, .ref h19, .ref h20, .ref h21, .ref h22])), (h1, .inl (zI g, 180, .inl Z0)), (h7, .inl (zI g, 5, .inl Z6)), (h8, .inl (zI g, 5, .inl Z7)), (h9, .inl (zI g, 5, .inl Z8))] sz) := by
  refine zMetV rfl (Nat.le_of_ble_eq_true rfl) ?_
  intro p e s m args below meth c A ls hx hb hml hr hlocks hin hown hts hK hN hZ hP hD hA hS hAe hl
  have hown : s.vm.findClass RX5 = some m.cls := hown
  have hl : lv_has ls 4 [(0, .ref h0), (1, .int p1), (2, .int p2), (3, .int p3)] := hl
  refine lv_aload_n hx hb dX5_sell_0 rfl (lv_at hl 0 rfl) ?_
  refine lv_dup hx hb dX5_sell_1 rfl ?_
  refine va_get (D := g.1) (ci := 5) (v := .int f4) (C := RX5) (T := TX5) (N := 27) hx hb hts zl_X5 hown hK hP 0 rfl rfl 13 (by decide) (hts _ m_f_RX5_147) (fun _ h => h) rfl dX5_sell_2 ?_
  refine lv_iload_n hx hb dX5_sell_5 rfl (lv_at hl 3 rfl) ?_
  refine lv_iadd hx hb dX5_sell_6 ?_
  refine lv_topi (fun y0 ey0 => ?_)
  refine va_put (D := g.1) (ci := 5) (v := .int y0) (ty := .int) (C := RX5) (T := TX5) (N := 27) hx hb hts zl_X5 tyX5 tyX5_ok nmX5 hown hK hP hD hS 0 rfl rfl 13 (by decide) (hts _ m_f_RX5_147) (fun _ h => h) rfl (by decide +kernel) rfl rfl (Nat.le_of_ble_eq_true rfl) dX5_sell_7 (fun H locs hP hD hS => ?_)
  have hP : va_P g.1 vwCl [(h0, .inr (5, [.ref h1, .int f0, .ref h2, .int f1, .int f2, .ref h3, .ref h4, .ref h5, .ref h6, .int f3, .ref h7, .ref h8, .ref h9, .int y0, .ref h10, .ref h11, .ref h12, .ref h13, .ref h14, .ref h15, .ref h16, .ref h17, .ref h18, .ref h19, .ref h20, .ref h21, .ref h22])), (h1, .inl (zI g, 180, .inl Z0)), (h7, .inl (zI g, 5, .inl Z6)), (h8, .inl (zI g, 5, .inl Z7)), (h9, .inl (zI g, 5, .inl Z8))] H := hP
  have hD : va_D A [(h0, .inr (5, [.ref h1, .int f0, .ref h2, .int f1, .int f2, .ref h3, .ref h4, .ref h5, .ref h6, .int f3, .ref h7, .ref h8, .ref h9, .int y0, .ref h10, .ref h11, .ref h12, .ref h13, .ref h14, .ref h15, .ref h16, .ref h17, .ref h18, .ref h19, .ref h20, .ref h21, .ref h22])), (h1, .inl (zI g, 180, .inl Z0)), (h7, .inl (zI g, 5, .inl Z6)), (h8, .inl (zI g, 5, .inl Z7)), (h9, .inl (zI g, 5, .inl Z8))] := hD
  refine lv_aload_n hx hb dX5_sell_10 rfl (lv_at hl 0 rfl) ?_
  refine va_get (D := g.1) (ci := 5) (v := .ref h7) (C := RX5) (T := TX5) (N := 27) hx hb hts zl_X5 hown hK hP 0 rfl rfl 10 (by decide) (hts _ m_f_RX5_28) (fun _ h => h) rfl dX5_sell_11 ?_
  refine lv_iload_n hx hb dX5_sell_14 rfl (lv_at hl 1 rfl) ?_
  refine lv_dup2_11 hx hb dX5_sell_15 rfl rfl ?_
  refine va_iald (D := g.1) hx hb hK hP 2 0 rfl rfl (vp_in_iff.mpr ⟨by omega, by omega⟩) dX5_sell_16 ?_
  refine lv_topi (fun y1 ey1 => ?_)
  have qy1_0 : y1.toInt = (Z6 p1.toNatClampNeg).toInt := congrArg Int32.toInt ey1
  refine lv_iload_n hx hb dX5_sell_17 rfl (lv_at hl 3 rfl) ?_
  refine lv_isub hx hb dX5_sell_18 ?_
  refine lv_topi (fun y2 ey2 => ?_)
  refine va_iast (D := g.1) hx hb hK hP hD hS 2 0 rfl rfl (vp_in_iff.mpr ⟨by omega, by omega⟩) dX5_sell_19 (fun H locs hP hD hS => ?_)
  have hP : va_P g.1 vwCl [(h0, .inr (5, [.ref h1, .int f0, .ref h2, .int f1, .int f2, .ref h3, .ref h4, .ref h5, .ref h6, .int f3, .ref h7, .ref h8, .ref h9, .int y0, .ref h10, .ref h11, .ref h12, .ref h13, .ref h14, .ref h15, .ref h16, .ref h17, .ref h18, .ref h19, .ref h20, .ref h21, .ref h22])), (h1, .inl (zI g, 180, .inl Z0)), (h7, .inl (zI g, 5, .inl (upd Z6 p1.toNatClampNeg y2))), (h8, .inl (zI g, 5, .inl Z7)), (h9, .inl (zI g, 5, .inl Z8))] H := hP
  have hD : va_D A [(h0, .inr (5, [.ref h1, .int f0, .ref h2, .int f1, .int f2, .ref h3, .ref h4, .ref h5, .ref h6, .int f3, .ref h7, .ref h8, .ref h9, .int y0, .ref h10, .ref h11, .ref h12, .ref h13, .ref h14, .ref h15, .ref h16, .ref h17, .ref h18, .ref h19, .ref h20, .ref h21, .ref h22])), (h1, .inl (zI g, 180, .inl Z0)), (h7, .inl (zI g, 5, .inl (upd Z6 p1.toNatClampNeg y2))), (h8, .inl (zI g, 5, .inl Z7)), (h9, .inl (zI g, 5, .inl Z8))] := hD
  obtain ⟨R3, eR3⟩ : ∃ z : Nat → Int32, z = (upd Z6 p1.toNatClampNeg y2) := ⟨_, rfl⟩
  rw [← eR3] at hP hD
  refine lv_aload_n hx hb dX5_sell_20 rfl (lv_at hl 0 rfl) ?_
  refine va_get (D := g.1) (ci := 5) (v := .ref h8) (C := RX5) (T := TX5) (N := 27) hx hb hts zl_X5 hown hK hP 0 rfl rfl 11 (by decide) (hts _ m_f_RX5_31) (fun _ h => h) rfl dX5_sell_21 ?_
  refine lv_iload_n hx hb dX5_sell_24 rfl (lv_at hl 1 rfl) ?_
  refine lv_dup2_11 hx hb dX5_sell_25 rfl rfl ?_
  refine va_iald (D := g.1) hx hb hK hP 3 0 rfl rfl (vp_in_iff.mpr ⟨by omega, by omega⟩) dX5_sell_26 ?_
  refine lv_topi (fun y4 ey4 => ?_)
  have qy4_0 : y4.toInt = (Z7 p1.toNatClampNeg).toInt := congrArg Int32.toInt ey4
  refine lv_iconst (v := 1) hx hb dX5_sell_27 (by decide) ?_
  refine lv_isub hx hb dX5_sell_28 ?_
  refine lv_topi (fun y5 ey5 => ?_)
  refine va_iast (D := g.1) hx hb hK hP hD hS 3 0 rfl rfl (vp_in_iff.mpr ⟨by omega, by omega⟩) dX5_sell_29 (fun H locs hP hD hS => ?_)
  have hP : va_P g.1 vwCl [(h0, .inr (5, [.ref h1, .int f0, .ref h2, .int f1, .int f2, .ref h3, .ref h4, .ref h5, .ref h6, .int f3, .ref h7, .ref h8, .ref h9, .int y0, .ref h10, .ref h11, .ref h12, .ref h13, .ref h14, .ref h15, .ref h16, .ref h17, .ref h18, .ref h19, .ref h20, .ref h21, .ref h22])), (h1, .inl (zI g, 180, .inl Z0)), (h7, .inl (zI g, 5, .inl R3)), (h8, .inl (zI g, 5, .inl (upd Z7 p1.toNatClampNeg y5))), (h9, .inl (zI g, 5, .inl Z8))] H := hP
  have hD : va_D A [(h0, .inr (5, [.ref h1, .int f0, .ref h2, .int f1, .int f2, .ref h3, .ref h4, .ref h5, .ref h6, .int f3, .ref h7, .ref h8, .ref h9, .int y0, .ref h10, .ref h11, .ref h12, .ref h13, .ref h14, .ref h15, .ref h16, .ref h17, .ref h18, .ref h19, .ref h20, .ref h21, .ref h22])), (h1, .inl (zI g, 180, .inl Z0)), (h7, .inl (zI g, 5, .inl R3)), (h8, .inl (zI g, 5, .inl (upd Z7 p1.toNatClampNeg y5))), (h9, .inl (zI g, 5, .inl Z8))] := hD
  obtain ⟨R6, eR6⟩ : ∃ z : Nat → Int32, z = (upd Z7 p1.toNatClampNeg y5) := ⟨_, rfl⟩
  rw [← eR6] at hP hD
  refine lv_aload_n hx hb dX5_sell_30 rfl (lv_at hl 0 rfl) ?_
  refine va_get (D := g.1) (ci := 5) (v := .ref h9) (C := RX5) (T := TX5) (N := 27) hx hb hts zl_X5 hown hK hP 0 rfl rfl 12 (by decide) (hts _ m_f_RX5_34) (fun _ h => h) rfl dX5_sell_31 ?_
  refine lv_iload_n hx hb dX5_sell_34 rfl (lv_at hl 1 rfl) ?_
  refine lv_dup2_11 hx hb dX5_sell_35 rfl rfl ?_
  refine va_iald (D := g.1) hx hb hK hP 4 0 rfl rfl (vp_in_iff.mpr ⟨by omega, by omega⟩) dX5_sell_36 ?_
  refine lv_topi (fun y7 ey7 => ?_)
  have qy7_0 : y7.toInt = (Z8 p1.toNatClampNeg).toInt := congrArg Int32.toInt ey7
  refine lv_aload_n hx hb dX5_sell_37 rfl (lv_at hl 0 rfl) ?_
  refine lv_iload_n hx hb dX5_sell_38 rfl (lv_at hl 1 rfl) ?_
  refine lv_iload_n hx hb dX5_sell_39 rfl (lv_at hl 2 rfl) ?_
  refine z_calli (wr := [(h7, .inl (zI g, 5, .inl R3)), (h8, .inl (zI g, 5, .inl R6)), (h9, .inl (zI g, 5, .inl Z8))]) hP hD hS hA [0, 1] [2, 3, 4] (by decide) rfl rfl (by decide) (va_runV (As := [.int p1, .int p2]) (rest := [.int y7, .int p1, .ref h9]) ⟨hx, hb, hml, hown, hts⟩ (gX5_worthOf l g K B C h0 h1 h2 h3 h4 h5 h6 h7 h8 h9 h10 h11 h12 h13 h14 h15 h16 h17 h18 h19 h20 h21 h22 H.size p1 p2 f0 f1 f2 f3 y0 Z0 (by omega) (by omega) (by omega) (by omega) (by constructor <;> omega) (by constructor <;> omega) hF_Z0) ⟨callB_of 2 hts (zGood m_o_yX5_worthOf) rfl rfl rfl (hts _ m_z_RX5) (hts _ m_m_RX5_150) ⟨by decide +kernel, by decide +kernel, by decide +kernel⟩ ⟨Nat.le_of_ble_eq_true rfl, Nat.le_of_ble_eq_true rfl⟩, hts _ m_i_yX5_worthOf, hts _ m_e_yX5_worthOf⟩ (zPreV hK hN hZ hP hD hS hA [0, 1] (by decide) rfl rfl 5 0 rfl rfl) rfl rfl hl.1 rfl (lv_room (Nat.le_of_ble_eq_true rfl)) dX5_sell_40 ⟨Nat.le_of_ble_eq_true rfl, Nat.le_of_ble_eq_true rfl⟩) (fun r u H locs hw hP hD hS => ?_)
  obtain ⟨y8, rfl⟩ : ∃ z, z = r := ⟨_, rfl⟩
  have hP : va_P g.1 vwCl [(h7, .inl (zI g, 5, .inl R3)), (h8, .inl (zI g, 5, .inl R6)), (h9, .inl (zI g, 5, .inl Z8)), (h0, .inr (5, [.ref h1, .int f0, .ref h2, .int f1, .int f2, .ref h3, .ref h4, .ref h5, .ref h6, .int f3, .ref h7, .ref h8, .ref h9, .int y0, .ref h10, .ref h11, .ref h12, .ref h13, .ref h14, .ref h15, .ref h16, .ref h17, .ref h18, .ref h19, .ref h20, .ref h21, .ref h22])), (h1, .inl (zI g, 180, .inl Z0))] H := hP
  have hD : va_D A [(h7, .inl (zI g, 5, .inl R3)), (h8, .inl (zI g, 5, .inl R6)), (h9, .inl (zI g, 5, .inl Z8)), (h0, .inr (5, [.ref h1, .int f0, .ref h2, .int f1, .int f2, .ref h3, .ref h4, .ref h5, .ref h6, .int f3, .ref h7, .ref h8, .ref h9, .int y0, .ref h10, .ref h11, .ref h12, .ref h13, .ref h14, .ref h15, .ref h16, .ref h17, .ref h18, .ref h19, .ref h20, .ref h21, .ref h22])), (h1, .inl (zI g, 180, .inl Z0))] := hD
  refine lv_iload_n hx hb dX5_sell_43 rfl (lv_at hl 3 rfl) ?_
  refine lv_isub hx hb dX5_sell_44 ?_
  refine lv_topi (fun y9 ey9 => ?_)
  refine lv_iadd hx hb dX5_sell_45 ?_
  refine lv_topi (fun y10 ey10 => ?_)
  refine va_iast (D := g.1) hx hb hK hP hD hS 2 0 rfl rfl (vp_in_iff.mpr ⟨by omega, by omega⟩) dX5_sell_46 (fun H locs hP hD hS => ?_)
  have hP : va_P g.1 vwCl [(h7, .inl (zI g, 5, .inl R3)), (h8, .inl (zI g, 5, .inl R6)), (h9, .inl (zI g, 5, .inl (upd Z8 p1.toNatClampNeg y10))), (h0, .inr (5, [.ref h1, .int f0, .ref h2, .int f1, .int f2, .ref h3, .ref h4, .ref h5, .ref h6, .int f3, .ref h7, .ref h8, .ref h9, .int y0, .ref h10, .ref h11, .ref h12, .ref h13, .ref h14, .ref h15, .ref h16, .ref h17, .ref h18, .ref h19, .ref h20, .ref h21, .ref h22])), (h1, .inl (zI g, 180, .inl Z0))] H := hP
  have hD : va_D A [(h7, .inl (zI g, 5, .inl R3)), (h8, .inl (zI g, 5, .inl R6)), (h9, .inl (zI g, 5, .inl (upd Z8 p1.toNatClampNeg y10))), (h0, .inr (5, [.ref h1, .int f0, .ref h2, .int f1, .int f2, .ref h3, .ref h4, .ref h5, .ref h6, .int f3, .ref h7, .ref h8, .ref h9, .int y0, .ref h10, .ref h11, .ref h12, .ref h13, .ref h14, .ref h15, .ref h16, .ref h17, .ref h18, .ref h19, .ref h20, .ref h21, .ref h22])), (h1, .inl (zI g, 180, .inl Z0))] := hD
  obtain ⟨R11, eR11⟩ : ∃ z : Nat → Int32, z = (upd Z8 p1.toNatClampNeg y10) := ⟨_, rfl⟩
  rw [← eR11] at hP hD
  have hP9 := hP.sub (ws' := [(h0, .inr (5, [.ref h1, .int f0, .ref h2, .int f1, .int f2, .ref h3, .ref h4, .ref h5, .ref h6, .int f3, .ref h7, .ref h8, .ref h9, .int y0, .ref h10, .ref h11, .ref h12, .ref h13, .ref h14, .ref h15, .ref h16, .ref h17, .ref h18, .ref h19, .ref h20, .ref h21, .ref h22])), (h1, .inl (zI g, 180, .inl Z0)), (h7, .inl (zI g, 5, .inl R3)), (h8, .inl (zI g, 5, .inl R6)), (h9, .inl (zI g, 5, .inl R11))]) [3, 4, 0, 1, 2] rfl
  have hD9 := hD.sub (ws' := [(h0, .inr (5, [.ref h1, .int f0, .ref h2, .int f1, .int f2, .ref h3, .ref h4, .ref h5, .ref h6, .int f3, .ref h7, .ref h8, .ref h9, .int y0, .ref h10, .ref h11, .ref h12, .ref h13, .ref h14, .ref h15, .ref h16, .ref h17, .ref h18, .ref h19, .ref h20, .ref h21, .ref h22])), (h1, .inl (zI g, 180, .inl Z0)), (h7, .inl (zI g, 5, .inl R3)), (h8, .inl (zI g, 5, .inl R6)), (h9, .inl (zI g, 5, .inl R11))]) [3, 4, 0, 1, 2] (by decide) rfl
  exact W.vret hx hb hr (fun t ht hW => ⟨⟨⟨y0, R3, R6, R11⟩, rfl, trivial, by rw [ht]; exact hP9, hD9⟩, hS.F ht⟩) hS.2.2 dX5_sell_47
