set_option maxHeartbeats 8000000 in
set_option maxRecDepth 100000 in
theorem gX5_sell (l : Launch) (g : zG) (K : Prop) (B C : zBk) (hB : bOk B) (h0 h1 h2 h3 h4 h5 h6 h7 h8 h9 h10 h11 h12 h13 h14 h15 h16 h17 h18 h19 h20 h21 h22 : Nat) (sz : Nat) (p1 : Int32) (p2 : Int32) (p3 : Int32) (f0 : Int32) (f1 : Int32) (f2 : Int32) (f3 : Int32) (f4 : Int32) (Z0 : Nat → Int32) (Z6 : Nat → Int32) (Z7 : Nat → Int32) (Z8 : Nat → Int32) (hp0 : 0 ≤ p1.toInt) (hp1 : p1.toInt < B.n) (hp2 : 0 ≤ p2.toInt) (hp3 : p2.toInt ≤ 3) (hp4 : 0 ≤ p3.toInt) (hp5 : p3.toInt ≤ 99) (hp6 : p3.toInt ≤ (Z6 p1.toNatClampNeg).toInt + 99) (hp7 : 1 ≤ (Z7 p1.toNatClampNeg).toInt) (hp8 : -900 ≤ (Z8 p1.toNatClampNeg).toInt) (hp9 : (Z8 p1.toNatClampNeg).toInt ≤ 900) (hp10 : f4.toInt ≤ 900) (hf_f1 : 0 ≤ f1.toInt ∧ f1.toInt ≤ 60) (hf_f2 : 0 ≤ f2.toInt ∧ f2.toInt ≤ 60) (hf_f3 : 0 ≤ f3.toInt ∧ f3.toInt ≤ 31) (hf_f4 : 0 ≤ f4.toInt ∧ f4.toInt ≤ 1000) (hF_Z0 : iW K B C Z0) (hF_Z6 : iPu Z6) (hF_Z7 : iRo Z7) (hF_Z8 : iGa Z8) : Met l yX5_sell (.code yX5_sell cX5_sell 4 none :: zBig) ({ frames := 1, cells := 0, slots := 0, locals := 22 }) (va_Pc [.ref h0, .int p1, .int p2, .int p3] (zPre g [(h0, .inr (5, [.ref h1, .int f0, .ref h2, .int f1, .int f2, .ref h3, .ref h4, .ref h5, .ref h6, .int f3, .ref h7, .ref h8, .ref h9, .int f4, .ref h10, .ref h11, .ref h12, .ref h13, .ref h14, .ref h15, .ref h16, .ref h17, .ref h18, .ref h19, .ref h20, .ref h21, .ref h22])), (h1, .inl (zI g, 180, .inl Z0)), (h7, .inl (zI g, 5, .inl Z6)), (h8, .inl (zI g, 5, .inl Z7)), (h9, .inl (zI g, 5, .inl Z8))] sz)) (va_Qv (fun u : Int32 × (Nat → Int32) × (Nat → Int32) × (Nat → Int32) => (u.1.toInt = f4.toInt + p3.toInt) ∧ (0 ≤ u.1.toInt ∧ u.1.toInt ≤ 1000) ∧ zU iPu B.n p1.toInt (-p3.toInt) Z6 u.2.1 ∧ zUr B.n B.S p1.toInt Z7 u.2.2.1 ∧ zU iGa B.n p1.toInt (zWq B.n B.V p1.toInt p2.toInt - p3.toInt) Z8 u.2.2.2) (zPost g (fun u : Int32 × (Nat → Int32) × (Nat → Int32) × (Nat → Int32) => [(h0, .inr (5, [.ref h1, .int f0, .ref h2, .int f1, .int f2, .ref h3, .ref h4, .ref h5, .ref h6, .int f3, .ref h7, .ref h8, .ref h9, .int u.1, .ref h10, .ref h11, .ref h12, .ref h13, .ref h14, .ref h15, .ref h16, .ref h17, .ref h18, .ref h19, .ref h20, .ref h21, .ref h22])), (h1, .inl (zI g, 180, .inl Z0)), (h7, .inl (zI g, 5, .inl u.2.1)), (h8, .inl (zI g, 5, .inl u.2.2.1)), (h9, .inl (zI g, 5, .inl u.2.2.2))]) (va_A [(h0, .inr (5, [.ref h1, .int f0, .ref h2, .int f1, .int f2, .ref h3, .ref h4, .ref h5, .ref h6, .int f3, .ref h7, .ref h8, .ref h9, .int f4, .ref h10, .ref h11, .ref h12, .ref h13, .ref h14, .ref h15, .ref h16, .ref h17, .ref h18, .ref h19, .ref h20, .ref h21, .ref h22])), (h1, .inl (zI g, 180, .inl Z0)), (h7, .inl (zI g, 5, .inl Z6)), (h8, .inl (zI g, 5, .inl Z7)), (h9, .inl (zI g, 5, .inl Z8))] sz)) (va_A [(h0, .inr (5, [.ref h1, .int f0, .ref h2, .int f1, .int f2, .ref h3, .ref h4, .ref h5, .ref h6, .int f3, .ref h7, .ref h8, .ref h9, .int f4, .ref h10, .ref h11, .ref h12, .ref h13, .ref h14, .ref h15, .ref h16, .ref h17, .ref h18, .ref h19, .ref h20, .ref h21, .ref h22])), (h1, .inl (zI g, 180, .inl Z0)), (h7, .inl (zI g, 5, .inl Z6)), (h8, .inl (zI g, 5, .inl Z7)), (h9, .inl (zI g, 5, .inl Z8))] sz)) 0 0 (va_A [(h0, .inr (5, [.ref h1, .int f0, .ref h2, .int f1, .int f2, .ref h3, .ref h4, .ref h5, .ref h6, .int f3, .ref h7, .ref h8, .ref h9, .int f4, .ref h10, .ref h11, .ref h12, .ref h13, .ref h14, .ref h15, .ref h16, .ref h17, .ref h18, .ref h19, .ref h20, .ref h21, .ref h22])), (h1, .inl (zI g, 180, .inl Z0)), (h7, .inl (zI g, 5, .inl Z6)), (h8, .inl (zI g, 5, .inl Z7)), (h9, .inl (zI g, 5, .inl Z8))] sz) := by
  refine zMetV rfl (Nat.le_of_ble_eq_true rfl) ?_
  intro p e s m args below meth c A ls hx hb hml hr hlocks hin hown hts hK hN hZ hP hD hA hS hAe hl
  have hown : s.vm.findClass RX5 = some m.cls := hown
  have hl : lv_has ls 4 [(0, .ref h0), (1, .int p1), (2, .int p2), (3, .int p3)] := hl
  have hnr := iW_nr hF_Z0
  refine lv_aload_n hx hb dX5_sell_0 rfl (lv_at hl 0 rfl) ?_
  refine lv_dup hx hb dX5_sell_1 rfl ?_
  refine va_get (D := g.1) (ci := 5) (v := .int f4) (C := RX5) (T := TX5) (N := 27) hx hb hts zl_X5 hown hK hP 0 rfl rfl 13 (by decide) (hts _ m_f_RX5_147) (fun _ h => h) rfl dX5_sell_2 ?_
  refine lv_iload_n hx hb dX5_sell_5 rfl (lv_at hl 3 rfl) ?_
  refine lv_iadd hx hb dX5_sell_6 ?_
  refine lv_topi (fun y0 ey0 => ?_)
  have qy0_0 : y0.toInt = f4.toInt + p3.toInt := zi_add ey0 (rfl) (rfl) (by omega) (by omega)
  refine va_put (D := g.1) (ci := 5) (v := .int y0) (ty := .int) (C := RX5) (T := TX5) (N := 27) hx hb hts zl_X5 tyX5 tyX5_ok nmX5 hown hK hP hD hS 0 rfl rfl 13 (by decide) (hts _ m_f_RX5_147) (fun _ h => h) rfl (by decide +kernel) rfl rfl (Nat.le_of_ble_eq_true rfl) dX5_sell_7 (fun H locs hP hD hS => ?_)
  have hP : va_P g.1 vwCl [(h0, .inr (5, [.ref h1, .int f0, .ref h2, .int f1, .int f2, .ref h3, .ref h4, .ref h5, .ref h6, .int f3, .ref h7, .ref h8, .ref h9, .int y0, .ref h10, .ref h11, .ref h12, .ref h13, .ref h14, .ref h15, .ref h16, .ref h17, .ref h18, .ref h19, .ref h20, .ref h21, .ref h22])), (h1, .inl (zI g, 180, .inl Z0)), (h7, .inl (zI g, 5, .inl Z6)), (h8, .inl (zI g, 5, .inl Z7)), (h9, .inl (zI g, 5, .inl Z8))] H := hP
  have hD : va_D A [(h0, .inr (5, [.ref h1, .int f0, .ref h2, .int f1, .int f2, .ref h3, .ref h4, .ref h5, .ref h6, .int f3, .ref h7, .ref h8, .ref h9, .int y0, .ref h10, .ref h11, .ref h12, .ref h13, .ref h14, .ref h15, .ref h16, .ref h17, .ref h18, .ref h19, .ref h20, .ref h21, .ref h22])), (h1, .inl (zI g, 180, .inl Z0)), (h7, .inl (zI g, 5, .inl Z6)), (h8, .inl (zI g, 5, .inl Z7)), (h9, .inl (zI g, 5, .inl Z8))] := hD
  refine lv_aload_n hx hb dX5_sell_10 rfl (lv_at hl 0 rfl) ?_
  refine va_get (D := g.1) (ci := 5) (v := .ref h7) (C := RX5) (T := TX5) (N := 27) hx hb hts zl_X5 hown hK hP 0 rfl rfl 10 (by decide) (hts _ m_f_RX5_28) (fun _ h => h) rfl dX5_sell_11 ?_
  refine lv_iload_n hx hb dX5_sell_14 rfl (lv_at hl 1 rfl) ?_
  refine lv_dup2_11 hx hb dX5_sell_15 rfl rfl ?_
  refine va_iald (D := g.1) hx hb hK hP 2 0 rfl rfl (vp_in_iff.mpr ⟨by omega, by omega⟩) dX5_sell_16 ?_
  refine lv_topi (fun y1 ey1 => ?_)
  have qy1_0 : (-99) ≤ y1.toInt := (i_at (N := 5) (lo := (-99)) (hi := 9999) (i := p1) (a := p1.toInt) hF_Z6 (rfl) (by omega) (by omega) ey1).1
  have qy1_1 : y1.toInt ≤ 9999 := (i_at (N := 5) (lo := (-99)) (hi := 9999) (i := p1) (a := p1.toInt) hF_Z6 (rfl) (by omega) (by omega) ey1).2
  have qy1_2 : y1.toInt = (Z6 p1.toNatClampNeg).toInt := congrArg Int32.toInt ey1
  refine lv_iload_n hx hb dX5_sell_17 rfl (lv_at hl 3 rfl) ?_
  refine lv_isub hx hb dX5_sell_18 ?_
  refine lv_topi (fun y2 ey2 => ?_)
  have qy2_0 : y2.toInt = y1.toInt - p3.toInt := zi_sub ey2 (rfl) (rfl) (by omega) (by omega)
  refine va_iast (D := g.1) hx hb hK hP hD hS 2 0 rfl rfl (vp_in_iff.mpr ⟨by omega, by omega⟩) dX5_sell_19 (fun H locs hP hD hS => ?_)
  have hP : va_P g.1 vwCl [(h0, .inr (5, [.ref h1, .int f0, .ref h2, .int f1, .int f2, .ref h3, .ref h4, .ref h5, .ref h6, .int f3, .ref h7, .ref h8, .ref h9, .int y0, .ref h10, .ref h11, .ref h12, .ref h13, .ref h14, .ref h15, .ref h16, .ref h17, .ref h18, .ref h19, .ref h20, .ref h21, .ref h22])), (h1, .inl (zI g, 180, .inl Z0)), (h7, .inl (zI g, 5, .inl (upd Z6 p1.toNatClampNeg y2))), (h8, .inl (zI g, 5, .inl Z7)), (h9, .inl (zI g, 5, .inl Z8))] H := hP
  have hD : va_D A [(h0, .inr (5, [.ref h1, .int f0, .ref h2, .int f1, .int f2, .ref h3, .ref h4, .ref h5, .ref h6, .int f3, .ref h7, .ref h8, .ref h9, .int y0, .ref h10, .ref h11, .ref h12, .ref h13, .ref h14, .ref h15, .ref h16, .ref h17, .ref h18, .ref h19, .ref h20, .ref h21, .ref h22])), (h1, .inl (zI g, 180, .inl Z0)), (h7, .inl (zI g, 5, .inl (upd Z6 p1.toNatClampNeg y2))), (h8, .inl (zI g, 5, .inl Z7)), (h9, .inl (zI g, 5, .inl Z8))] := hD
  have hI3 : zU iPu B.n p1.toInt (-p3.toInt) Z6 (upd Z6 p1.toNatClampNeg y2) := zU_put (i := p1) (i_put (N := 5) (lo := (-99)) (hi := 9999) hF_Z6 (by omega) (by omega)) (by omega) (by omega) (by omega) (by omega)
  obtain ⟨R4, eR4⟩ : ∃ z : Nat → Int32, z = (upd Z6 p1.toNatClampNeg y2) := ⟨_, rfl⟩
  rw [← eR4] at hP hD hI3
  refine lv_aload_n hx hb dX5_sell_20 rfl (lv_at hl 0 rfl) ?_
  refine va_get (D := g.1) (ci := 5) (v := .ref h8) (C := RX5) (T := TX5) (N := 27) hx hb hts zl_X5 hown hK hP 0 rfl rfl 11 (by decide) (hts _ m_f_RX5_31) (fun _ h => h) rfl dX5_sell_21 ?_
  refine lv_iload_n hx hb dX5_sell_24 rfl (lv_at hl 1 rfl) ?_
  refine lv_dup2_11 hx hb dX5_sell_25 rfl rfl ?_
  refine va_iald (D := g.1) hx hb hK hP 3 0 rfl rfl (vp_in_iff.mpr ⟨by omega, by omega⟩) dX5_sell_26 ?_
  refine lv_topi (fun y5 ey5 => ?_)
  have qy5_0 : 0 ≤ y5.toInt := (i_at (N := 5) (lo := 0) (hi := 2) (i := p1) (a := p1.toInt) hF_Z7 (rfl) (by omega) (by omega) ey5).1
  have qy5_1 : y5.toInt ≤ 2 := (i_at (N := 5) (lo := 0) (hi := 2) (i := p1) (a := p1.toInt) hF_Z7 (rfl) (by omega) (by omega) ey5).2
  have qy5_2 : y5.toInt = (Z7 p1.toNatClampNeg).toInt := congrArg Int32.toInt ey5
  refine lv_iconst (v := 1) hx hb dX5_sell_27 (by decide) ?_
  refine lv_isub hx hb dX5_sell_28 ?_
  refine lv_topi (fun y6 ey6 => ?_)
  have qy6_0 : y6.toInt = y5.toInt - 1 := zi_sub ey6 (rfl) (rfl) (by omega) (by omega)
  refine va_iast (D := g.1) hx hb hK hP hD hS 3 0 rfl rfl (vp_in_iff.mpr ⟨by omega, by omega⟩) dX5_sell_29 (fun H locs hP hD hS => ?_)
  have hP : va_P g.1 vwCl [(h0, .inr (5, [.ref h1, .int f0, .ref h2, .int f1, .int f2, .ref h3, .ref h4, .ref h5, .ref h6, .int f3, .ref h7, .ref h8, .ref h9, .int y0, .ref h10, .ref h11, .ref h12, .ref h13, .ref h14, .ref h15, .ref h16, .ref h17, .ref h18, .ref h19, .ref h20, .ref h21, .ref h22])), (h1, .inl (zI g, 180, .inl Z0)), (h7, .inl (zI g, 5, .inl R4)), (h8, .inl (zI g, 5, .inl (upd Z7 p1.toNatClampNeg y6))), (h9, .inl (zI g, 5, .inl Z8))] H := hP
  have hD : va_D A [(h0, .inr (5, [.ref h1, .int f0, .ref h2, .int f1, .int f2, .ref h3, .ref h4, .ref h5, .ref h6, .int f3, .ref h7, .ref h8, .ref h9, .int y0, .ref h10, .ref h11, .ref h12, .ref h13, .ref h14, .ref h15, .ref h16, .ref h17, .ref h18, .ref h19, .ref h20, .ref h21, .ref h22])), (h1, .inl (zI g, 180, .inl Z0)), (h7, .inl (zI g, 5, .inl R4)), (h8, .inl (zI g, 5, .inl (upd Z7 p1.toNatClampNeg y6))), (h9, .inl (zI g, 5, .inl Z8))] := hD
  have hI7 : zUr B.n B.S p1.toInt Z7 (upd Z7 p1.toNatClampNeg y6) := zUr_put (i := p1) (i_put (N := 5) (lo := 0) (hi := 2) hF_Z7 (by omega) (by omega)) (by omega) (by omega) (by omega) (by omega)
  obtain ⟨R8, eR8⟩ : ∃ z : Nat → Int32, z = (upd Z7 p1.toNatClampNeg y6) := ⟨_, rfl⟩
  rw [← eR8] at hP hD hI7
  refine lv_aload_n hx hb dX5_sell_30 rfl (lv_at hl 0 rfl) ?_
  refine va_get (D := g.1) (ci := 5) (v := .ref h9) (C := RX5) (T := TX5) (N := 27) hx hb hts zl_X5 hown hK hP 0 rfl rfl 12 (by decide) (hts _ m_f_RX5_34) (fun _ h => h) rfl dX5_sell_31 ?_
  refine lv_iload_n hx hb dX5_sell_34 rfl (lv_at hl 1 rfl) ?_
  refine lv_dup2_11 hx hb dX5_sell_35 rfl rfl ?_
  refine va_iald (D := g.1) hx hb hK hP 4 0 rfl rfl (vp_in_iff.mpr ⟨by omega, by omega⟩) dX5_sell_36 ?_
  refine lv_topi (fun y9 ey9 => ?_)
  have qy9_0 : (-1000) ≤ y9.toInt := (i_at (N := 5) (lo := (-1000)) (hi := 1000) (i := p1) (a := p1.toInt) hF_Z8 (rfl) (by omega) (by omega) ey9).1
  have qy9_1 : y9.toInt ≤ 1000 := (i_at (N := 5) (lo := (-1000)) (hi := 1000) (i := p1) (a := p1.toInt) hF_Z8 (rfl) (by omega) (by omega) ey9).2
  have qy9_2 : y9.toInt = (Z8 p1.toNatClampNeg).toInt := congrArg Int32.toInt ey9
  refine lv_aload_n hx hb dX5_sell_37 rfl (lv_at hl 0 rfl) ?_
  refine lv_iload_n hx hb dX5_sell_38 rfl (lv_at hl 1 rfl) ?_
  refine lv_iload_n hx hb dX5_sell_39 rfl (lv_at hl 2 rfl) ?_
  refine z_calli (wr := [(h7, .inl (zI g, 5, .inl R4)), (h8, .inl (zI g, 5, .inl R8)), (h9, .inl (zI g, 5, .inl Z8))]) hP hD hS hA [0, 1] [2, 3, 4] (by decide) rfl rfl (by decide) (va_runV (As := [.int p1, .int p2]) (rest := [.int y9, .int p1, .ref h9]) ⟨hx, hb, hml, hown, hts⟩ (gX5_worthOf l g K B C hB h0 h1 h2 h3 h4 h5 h6 h7 h8 h9 h10 h11 h12 h13 h14 h15 h16 h17 h18 h19 h20 h21 h22 H.size p1 p2 f0 f1 f2 f3 y0 Z0 (by omega) (by omega) (by omega) (by omega) (by constructor <;> omega) (by constructor <;> omega) (by constructor <;> omega) (by constructor <;> omega) hF_Z0) ⟨callB_of 2 hts (zGood m_o_yX5_worthOf) rfl rfl rfl (hts _ m_z_RX5) (hts _ m_m_RX5_150) ⟨by decide +kernel, by decide +kernel, by decide +kernel⟩ ⟨Nat.le_of_ble_eq_true rfl, Nat.le_of_ble_eq_true rfl⟩, hts _ m_i_yX5_worthOf, hts _ m_e_yX5_worthOf⟩ (zPreV hK hN hZ hP hD hS hA [0, 1] (by decide) rfl rfl 5 0 rfl rfl) rfl rfl hl.1 rfl (lv_room (Nat.le_of_ble_eq_true rfl)) dX5_sell_40 ⟨Nat.le_of_ble_eq_true rfl, Nat.le_of_ble_eq_true rfl⟩) (fun r u H locs hw hP hD hS => ?_)
  obtain ⟨y10, rfl⟩ : ∃ z, z = r := ⟨_, rfl⟩
  obtain ⟨q11_0, q11_1, q11_2⟩ := hw
  have q11_0 : y10.toInt = zWq B.n B.V p1.toInt p2.toInt := q11_0
  have q11_1 : 0 ≤ y10.toInt := q11_1
  have q11_2 : y10.toInt ≤ 99 := q11_2
  have hP : va_P g.1 vwCl [(h7, .inl (zI g, 5, .inl R4)), (h8, .inl (zI g, 5, .inl R8)), (h9, .inl (zI g, 5, .inl Z8)), (h0, .inr (5, [.ref h1, .int f0, .ref h2, .int f1, .int f2, .ref h3, .ref h4, .ref h5, .ref h6, .int f3, .ref h7, .ref h8, .ref h9, .int y0, .ref h10, .ref h11, .ref h12, .ref h13, .ref h14, .ref h15, .ref h16, .ref h17, .ref h18, .ref h19, .ref h20, .ref h21, .ref h22])), (h1, .inl (zI g, 180, .inl Z0))] H := hP
  have hD : va_D A [(h7, .inl (zI g, 5, .inl R4)), (h8, .inl (zI g, 5, .inl R8)), (h9, .inl (zI g, 5, .inl Z8)), (h0, .inr (5, [.ref h1, .int f0, .ref h2, .int f1, .int f2, .ref h3, .ref h4, .ref h5, .ref h6, .int f3, .ref h7, .ref h8, .ref h9, .int y0, .ref h10, .ref h11, .ref h12, .ref h13, .ref h14, .ref h15, .ref h16, .ref h17, .ref h18, .ref h19, .ref h20, .ref h21, .ref h22])), (h1, .inl (zI g, 180, .inl Z0))] := hD
  refine lv_iload_n hx hb dX5_sell_43 rfl (lv_at hl 3 rfl) ?_
  refine lv_isub hx hb dX5_sell_44 ?_
  refine lv_topi (fun y12 ey12 => ?_)
  have qy12_0 : y12.toInt = y10.toInt - p3.toInt := zi_sub ey12 (rfl) (rfl) (by omega) (by omega)
  refine lv_iadd hx hb dX5_sell_45 ?_
  refine lv_topi (fun y13 ey13 => ?_)
  have qy13_0 : y13.toInt = y9.toInt + y12.toInt := zi_add ey13 (rfl) (rfl) (by omega) (by omega)
  refine va_iast (D := g.1) hx hb hK hP hD hS 2 0 rfl rfl (vp_in_iff.mpr ⟨by omega, by omega⟩) dX5_sell_46 (fun H locs hP hD hS => ?_)
  have hP : va_P g.1 vwCl [(h7, .inl (zI g, 5, .inl R4)), (h8, .inl (zI g, 5, .inl R8)), (h9, .inl (zI g, 5, .inl (upd Z8 p1.toNatClampNeg y13))), (h0, .inr (5, [.ref h1, .int f0, .ref h2, .int f1, .int f2, .ref h3, .ref h4, .ref h5, .ref h6, .int f3, .ref h7, .ref h8, .ref h9, .int y0, .ref h10, .ref h11, .ref h12, .ref h13, .ref h14, .ref h15, .ref h16, .ref h17, .ref h18, .ref h19, .ref h20, .ref h21, .ref h22])), (h1, .inl (zI g, 180, .inl Z0))] H := hP
  have hD : va_D A [(h7, .inl (zI g, 5, .inl R4)), (h8, .inl (zI g, 5, .inl R8)), (h9, .inl (zI g, 5, .inl (upd Z8 p1.toNatClampNeg y13))), (h0, .inr (5, [.ref h1, .int f0, .ref h2, .int f1, .int f2, .ref h3, .ref h4, .ref h5, .ref h6, .int f3, .ref h7, .ref h8, .ref h9, .int y0, .ref h10, .ref h11, .ref h12, .ref h13, .ref h14, .ref h15, .ref h16, .ref h17, .ref h18, .ref h19, .ref h20, .ref h21, .ref h22])), (h1, .inl (zI g, 180, .inl Z0))] := hD
  have hI14 : zU iGa B.n p1.toInt (zWq B.n B.V p1.toInt p2.toInt - p3.toInt) Z8 (upd Z8 p1.toNatClampNeg y13) := zU_put (i := p1) (i_put (N := 5) (lo := (-1000)) (hi := 1000) hF_Z8 (by omega) (by omega)) (by omega) (by omega) (by omega) (by omega)
  obtain ⟨R15, eR15⟩ : ∃ z : Nat → Int32, z = (upd Z8 p1.toNatClampNeg y13) := ⟨_, rfl⟩
  rw [← eR15] at hP hD hI14
  have hP9 := hP.sub (ws' := [(h0, .inr (5, [.ref h1, .int f0, .ref h2, .int f1, .int f2, .ref h3, .ref h4, .ref h5, .ref h6, .int f3, .ref h7, .ref h8, .ref h9, .int y0, .ref h10, .ref h11, .ref h12, .ref h13, .ref h14, .ref h15, .ref h16, .ref h17, .ref h18, .ref h19, .ref h20, .ref h21, .ref h22])), (h1, .inl (zI g, 180, .inl Z0)), (h7, .inl (zI g, 5, .inl R4)), (h8, .inl (zI g, 5, .inl R8)), (h9, .inl (zI g, 5, .inl R15))]) [3, 4, 0, 1, 2] rfl
  have hD9 := hD.sub (ws' := [(h0, .inr (5, [.ref h1, .int f0, .ref h2, .int f1, .int f2, .ref h3, .ref h4, .ref h5, .ref h6, .int f3, .ref h7, .ref h8, .ref h9, .int y0, .ref h10, .ref h11, .ref h12, .ref h13, .ref h14, .ref h15, .ref h16, .ref h17, .ref h18, .ref h19, .ref h20, .ref h21, .ref h22])), (h1, .inl (zI g, 180, .inl Z0)), (h7, .inl (zI g, 5, .inl R4)), (h8, .inl (zI g, 5, .inl R8)), (h9, .inl (zI g, 5, .inl R15))]) [3, 4, 0, 1, 2] (by decide) rfl
  exact W.vret hx hb hr (fun t ht hW => ⟨⟨⟨y0, R4, R8, R15⟩, rfl, ⟨(show y0.toInt = f4.toInt + p3.toInt from by first | omega | decide), ⟨show 0 ≤ y0.toInt from by omega, show y0.toInt ≤ 1000 from by omega⟩, hI3, hI7, hI14⟩, by rw [ht]; exact hP9, hD9⟩, hS.F ht⟩) hS.2.2 dX5_sell_47
