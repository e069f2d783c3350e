set_option maxHeartbeats 8000000 in
set_option maxRecDepth 100000 in
theorem gX5_drop (l : Launch) (g : zG) (h0 h1 h2 h3 h4 h5 h6 h7 h8 h9 h10 h11 h12 h13 h14 h15 h16 h17 h18 h19 h20 h21 h22 : Nat) (sz : Nat) (p1 : Int32) (f0 : Int32) (f1 : Int32) (f2 : Int32) (f3 : Int32) (f4 : Int32) (Z18 : Nat → Int32) (Z19 : Nat → Int32) (hf_f1 : 0 ≤ f1.toInt ∧ f1.toInt ≤ 60) (hf_f2 : 0 ≤ f2.toInt ∧ f2.toInt ≤ 60) (hf_f3 : 0 ≤ f3.toInt ∧ f3.toInt ≤ 31) (hf_f4 : 0 ≤ f4.toInt ∧ f4.toInt ≤ 1000) (hF_Z19 : iSize Z19) : Met l yX5_drop (.code yX5_drop cX5_drop 2 (some .int) :: zBig) ({ frames := 2, cells := 0, slots := 0, locals := 45 }) (va_Pc [.ref h0, .int p1] (zPre g [(h0, .inr (5, [.ref h1, .int f0, .ref h2, .int f1, .int f2, .ref h3, .ref h4, .ref h5, .ref h6, .int f3, .ref h7, .ref h8, .ref h9, .int f4, .ref h10, .ref h11, .ref h12, .ref h13, .ref h14, .ref h15, .ref h16, .ref h17, .ref h18, .ref h19, .ref h20, .ref h21, .ref h22])), (h19, .inl (zI g, 4, .inl Z18)), (h20, .inl (zI g, 4, .inl Z19))] sz)) (va_Qi (fun (r : Int32) (u : (Nat → Int32)) => ((p1.toInt < 0 ∨ 3 < p1.toInt → r.toInt = -1) ∧ (0 ≤ p1.toInt → p1.toInt ≤ 3 → (Z18 p1.toNatClampNeg).toInt < 0 → r.toInt = -11) ∧ (0 ≤ p1.toInt → p1.toInt ≤ 3 → 0 ≤ (Z18 p1.toNatClampNeg).toInt → r.toInt = (Z19 p1.toNatClampNeg).toInt)) ∧ u = (if (0 ≤ p1.toInt ∧ p1.toInt ≤ 3 ∧ 0 ≤ (Z18 p1.toNatClampNeg).toInt) then upd Z18 p1.toNatClampNeg (-1) else Z18)) (zPost g (fun u : (Nat → Int32) => [(h0, .inr (5, [.ref h1, .int f0, .ref h2, .int f1, .int f2, .ref h3, .ref h4, .ref h5, .ref h6, .int f3, .ref h7, .ref h8, .ref h9, .int f4, .ref h10, .ref h11, .ref h12, .ref h13, .ref h14, .ref h15, .ref h16, .ref h17, .ref h18, .ref h19, .ref h20, .ref h21, .ref h22])), (h19, .inl (zI g, 4, .inl u)), (h20, .inl (zI g, 4, .inl Z19))]) (va_A [(h0, .inr (5, [.ref h1, .int f0, .ref h2, .int f1, .int f2, .ref h3, .ref h4, .ref h5, .ref h6, .int f3, .ref h7, .ref h8, .ref h9, .int f4, .ref h10, .ref h11, .ref h12, .ref h13, .ref h14, .ref h15, .ref h16, .ref h17, .ref h18, .ref h19, .ref h20, .ref h21, .ref h22])), (h19, .inl (zI g, 4, .inl Z18)), (h20, .inl (zI g, 4, .inl Z19))] sz)) (va_A [(h0, .inr (5, [.ref h1, .int f0, .ref h2, .int f1, .int f2, .ref h3, .ref h4, .ref h5, .ref h6, .int f3, .ref h7, .ref h8, .ref h9, .int f4, .ref h10, .ref h11, .ref h12, .ref h13, .ref h14, .ref h15, .ref h16, .ref h17, .ref h18, .ref h19, .ref h20, .ref h21, .ref h22])), (h19, .inl (zI g, 4, .inl Z18)), (h20, .inl (zI g, 4, .inl Z19))] sz)) 0 0 (va_A [(h0, .inr (5, [.ref h1, .int f0, .ref h2, .int f1, .int f2, .ref h3, .ref h4, .ref h5, .ref h6, .int f3, .ref h7, .ref h8, .ref h9, .int f4, .ref h10, .ref h11, .ref h12, .ref h13, .ref h14, .ref h15, .ref h16, .ref h17, .ref h18, .ref h19, .ref h20, .ref h21, .ref h22])), (h19, .inl (zI g, 4, .inl Z18)), (h20, .inl (zI g, 4, .inl Z19))] sz) := by
  refine zMetI rfl (Nat.le_of_ble_eq_true rfl) ?_
  intro p e s m args below meth c A ls hx hb hml hr hlocks hin hown hts hK hN hZ hP hD hA hS hAe hl
  have hown : s.vm.findClass RX5 = some m.cls := hown
  have hl : lv_has ls 2 [(0, .ref h0), (1, .int p1)] := hl
  refine lv_iload_n hx hb dX5_drop_0 rfl (lv_at hl 1 rfl) ?_
  refine z_calli (wr := [(h0, .inr (5, [.ref h1, .int f0, .ref h2, .int f1, .int f2, .ref h3, .ref h4, .ref h5, .ref h6, .int f3, .ref h7, .ref h8, .ref h9, .int f4, .ref h10, .ref h11, .ref h12, .ref h13, .ref h14, .ref h15, .ref h16, .ref h17, .ref h18, .ref h19, .ref h20, .ref h21, .ref h22])), (h19, .inl (zI g, 4, .inl Z18)), (h20, .inl (zI g, 4, .inl Z19))]) hP hD hS hA [] [0, 1, 2] (by decide) rfl rfl (by decide) (va_runS (As := [.int p1]) (rest := []) ⟨hx, hb, hml, hown, hts⟩ (gX5_isSheet l g  s.heap.size p1) ⟨callB_of 1 hts (zGood m_o_yX5_isSheet) rfl rfl rfl (hts _ m_z_RX5) (hts _ m_m_RX5_225) ⟨by decide +kernel, by decide +kernel, by decide +kernel⟩ ⟨Nat.le_of_ble_eq_true rfl, Nat.le_of_ble_eq_true rfl⟩, hts _ m_s_yX5_isSheet⟩ (zPreS hK hN hZ hP hD hS hA [] (by decide) rfl rfl) rfl rfl hl.1 rfl (lv_room (Nat.le_of_ble_eq_true rfl)) dX5_drop_1 ⟨Nat.le_of_ble_eq_true rfl, Nat.le_of_ble_eq_true rfl⟩) (fun r u H locs hw hP hD hS => ?_)
  rcases hw with ⟨i_0, rfl⟩ | ⟨i_1, i_2, rfl⟩ | ⟨i_3, i_4, rfl⟩
  · skip
    have i_0 : p1.toInt < 0 := i_0
    have hP : va_P g.1 vwCl [(h0, .inr (5, [.ref h1, .int f0, .ref h2, .int f1, .int f2, .ref h3, .ref h4, .ref h5, .ref h6, .int f3, .ref h7, .ref h8, .ref h9, .int f4, .ref h10, .ref h11, .ref h12, .ref h13, .ref h14, .ref h15, .ref h16, .ref h17, .ref h18, .ref h19, .ref h20, .ref h21, .ref h22])), (h19, .inl (zI g, 4, .inl Z18)), (h20, .inl (zI g, 4, .inl Z19))] H := hP
    have hD : va_D A [(h0, .inr (5, [.ref h1, .int f0, .ref h2, .int f1, .int f2, .ref h3, .ref h4, .ref h5, .ref h6, .int f3, .ref h7, .ref h8, .ref h9, .int f4, .ref h10, .ref h11, .ref h12, .ref h13, .ref h14, .ref h15, .ref h16, .ref h17, .ref h18, .ref h19, .ref h20, .ref h21, .ref h22])), (h19, .inl (zI g, 4, .inl Z18)), (h20, .inl (zI g, 4, .inl Z19))] := hD
    refine lv_if_ne (tgt := 9) hx hb dX5_drop_4 (by decide) (fun h => absurd h (by decide +kernel)) (fun _ => ?_)
    refine lv_iconst (v := (-1)) hx hb dX5_drop_7 (by decide) ?_
    have : ((-1) : Int32).toInt = (-1) := rfl
    have hP9 := hP.sub (ws' := [(h0, .inr (5, [.ref h1, .int f0, .ref h2, .int f1, .int f2, .ref h3, .ref h4, .ref h5, .ref h6, .int f3, .ref h7, .ref h8, .ref h9, .int f4, .ref h10, .ref h11, .ref h12, .ref h13, .ref h14, .ref h15, .ref h16, .ref h17, .ref h18, .ref h19, .ref h20, .ref h21, .ref h22])), (h19, .inl (zI g, 4, .inl Z18)), (h20, .inl (zI g, 4, .inl Z19))]) [0, 1, 2] rfl
    have hD9 := hD.sub (ws' := [(h0, .inr (5, [.ref h1, .int f0, .ref h2, .int f1, .int f2, .ref h3, .ref h4, .ref h5, .ref h6, .int f3, .ref h7, .ref h8, .ref h9, .int f4, .ref h10, .ref h11, .ref h12, .ref h13, .ref h14, .ref h15, .ref h16, .ref h17, .ref h18, .ref h19, .ref h20, .ref h21, .ref h22])), (h19, .inl (zI g, 4, .inl Z18)), (h20, .inl (zI g, 4, .inl Z19))]) [0, 1, 2] (by decide) rfl
    exact W.iret (v := (-1)) hx hb hr (fun t ht hW => ⟨⟨(-1), Z18, rfl, ⟨⟨(by first | omega | decide), (by first | omega | decide), (by first | omega | decide)⟩, (by rw [if_neg (by omega)])⟩, by rw [ht]; exact hP9, hD9⟩, hS.F ht⟩) hS.2.2 dX5_drop_8
  · skip
    have i_1 : 0 ≤ p1.toInt := i_1
    have i_2 : 3 < p1.toInt := i_2
    have hP : va_P g.1 vwCl [(h0, .inr (5, [.ref h1, .int f0, .ref h2, .int f1, .int f2, .ref h3, .ref h4, .ref h5, .ref h6, .int f3, .ref h7, .ref h8, .ref h9, .int f4, .ref h10, .ref h11, .ref h12, .ref h13, .ref h14, .ref h15, .ref h16, .ref h17, .ref h18, .ref h19, .ref h20, .ref h21, .ref h22])), (h19, .inl (zI g, 4, .inl Z18)), (h20, .inl (zI g, 4, .inl Z19))] H := hP
    have hD : va_D A [(h0, .inr (5, [.ref h1, .int f0, .ref h2, .int f1, .int f2, .ref h3, .ref h4, .ref h5, .ref h6, .int f3, .ref h7, .ref h8, .ref h9, .int f4, .ref h10, .ref h11, .ref h12, .ref h13, .ref h14, .ref h15, .ref h16, .ref h17, .ref h18, .ref h19, .ref h20, .ref h21, .ref h22])), (h19, .inl (zI g, 4, .inl Z18)), (h20, .inl (zI g, 4, .inl Z19))] := hD
    refine lv_if_ne (tgt := 9) hx hb dX5_drop_4 (by decide) (fun h => absurd h (by decide +kernel)) (fun _ => ?_)
    refine lv_iconst (v := (-1)) hx hb dX5_drop_7 (by decide) ?_
    have : ((-1) : Int32).toInt = (-1) := rfl
    have hP9 := hP.sub (ws' := [(h0, .inr (5, [.ref h1, .int f0, .ref h2, .int f1, .int f2, .ref h3, .ref h4, .ref h5, .ref h6, .int f3, .ref h7, .ref h8, .ref h9, .int f4, .ref h10, .ref h11, .ref h12, .ref h13, .ref h14, .ref h15, .ref h16, .ref h17, .ref h18, .ref h19, .ref h20, .ref h21, .ref h22])), (h19, .inl (zI g, 4, .inl Z18)), (h20, .inl (zI g, 4, .inl Z19))]) [0, 1, 2] rfl
    have hD9 := hD.sub (ws' := [(h0, .inr (5, [.ref h1, .int f0, .ref h2, .int f1, .int f2, .ref h3, .ref h4, .ref h5, .ref h6, .int f3, .ref h7, .ref h8, .ref h9, .int f4, .ref h10, .ref h11, .ref h12, .ref h13, .ref h14, .ref h15, .ref h16, .ref h17, .ref h18, .ref h19, .ref h20, .ref h21, .ref h22])), (h19, .inl (zI g, 4, .inl Z18)), (h20, .inl (zI g, 4, .inl Z19))]) [0, 1, 2] (by decide) rfl
    exact W.iret (v := (-1)) hx hb hr (fun t ht hW => ⟨⟨(-1), Z18, rfl, ⟨⟨(by first | omega | decide), (by first | omega | decide), (by first | omega | decide)⟩, (by rw [if_neg (by omega)])⟩, by rw [ht]; exact hP9, hD9⟩, hS.F ht⟩) hS.2.2 dX5_drop_8
  · skip
    have i_3 : 0 ≤ p1.toInt := i_3
    have i_4 : p1.toInt ≤ 3 := i_4
    have hP : va_P g.1 vwCl [(h0, .inr (5, [.ref h1, .int f0, .ref h2, .int f1, .int f2, .ref h3, .ref h4, .ref h5, .ref h6, .int f3, .ref h7, .ref h8, .ref h9, .int f4, .ref h10, .ref h11, .ref h12, .ref h13, .ref h14, .ref h15, .ref h16, .ref h17, .ref h18, .ref h19, .ref h20, .ref h21, .ref h22])), (h19, .inl (zI g, 4, .inl Z18)), (h20, .inl (zI g, 4, .inl Z19))] H := hP
    have hD : va_D A [(h0, .inr (5, [.ref h1, .int f0, .ref h2, .int f1, .int f2, .ref h3, .ref h4, .ref h5, .ref h6, .int f3, .ref h7, .ref h8, .ref h9, .int f4, .ref h10, .ref h11, .ref h12, .ref h13, .ref h14, .ref h15, .ref h16, .ref h17, .ref h18, .ref h19, .ref h20, .ref h21, .ref h22])), (h19, .inl (zI g, 4, .inl Z18)), (h20, .inl (zI g, 4, .inl Z19))] := hD
    refine lv_if_ne (tgt := 9) hx hb dX5_drop_4 (by decide) (fun _ => ?_) (fun h => absurd h (by decide +kernel))
    refine lv_aload_n hx hb dX5_drop_9 rfl (lv_at hl 0 rfl) ?_
    refine va_get (D := g.1) (ci := 5) (v := .ref h19) (C := RX5) (T := TX5) (N := 27) hx hb hts zl_X5 hown hK hP 0 rfl rfl 23 (by decide) (hts _ m_f_RX5_64) (fun _ h => h) rfl dX5_drop_10 ?_
    refine lv_iload_n hx hb dX5_drop_13 rfl (lv_at hl 1 rfl) ?_
    refine va_iald (D := g.1) hx hb hK hP 1 0 rfl rfl (vp_in_iff.mpr ⟨by omega, by omega⟩) dX5_drop_14 ?_
    refine lv_topi (fun y0 ey0 => ?_)
    have qy0_0 : y0.toInt = (Z18 p1.toNatClampNeg).toInt := congrArg Int32.toInt ey0
    refine lv_if_ge (tgt := 21) hx hb dX5_drop_15 (by decide) (fun c_5 => ?_) (fun c_5 => ?_)
    · have i_5 : 0 ≤ y0.toInt := z_le (rfl) (rfl) c_5
      refine lv_aload_n hx hb dX5_drop_21 rfl (lv_at hl 0 rfl) ?_
      refine va_get (D := g.1) (ci := 5) (v := .ref h19) (C := RX5) (T := TX5) (N := 27) hx hb hts zl_X5 hown hK hP 0 rfl rfl 23 (by decide) (hts _ m_f_RX5_64) (fun _ h => h) rfl dX5_drop_22 ?_
      refine lv_iload_n hx hb dX5_drop_25 rfl (lv_at hl 1 rfl) ?_
      refine lv_iconst (v := (-1)) hx hb dX5_drop_26 (by decide) ?_
      refine va_iast (D := g.1) hx hb hK hP hD hS 1 0 rfl rfl (vp_in_iff.mpr ⟨by omega, by omega⟩) dX5_drop_27 (fun H locs hP hD hS => ?_)
      have hP : va_P g.1 vwCl [(h0, .inr (5, [.ref h1, .int f0, .ref h2, .int f1, .int f2, .ref h3, .ref h4, .ref h5, .ref h6, .int f3, .ref h7, .ref h8, .ref h9, .int f4, .ref h10, .ref h11, .ref h12, .ref h13, .ref h14, .ref h15, .ref h16, .ref h17, .ref h18, .ref h19, .ref h20, .ref h21, .ref h22])), (h19, .inl (zI g, 4, .inl (upd Z18 p1.toNatClampNeg (-1)))), (h20, .inl (zI g, 4, .inl Z19))] H := hP
      have hD : va_D A [(h0, .inr (5, [.ref h1, .int f0, .ref h2, .int f1, .int f2, .ref h3, .ref h4, .ref h5, .ref h6, .int f3, .ref h7, .ref h8, .ref h9, .int f4, .ref h10, .ref h11, .ref h12, .ref h13, .ref h14, .ref h15, .ref h16, .ref h17, .ref h18, .ref h19, .ref h20, .ref h21, .ref h22])), (h19, .inl (zI g, 4, .inl (upd Z18 p1.toNatClampNeg (-1)))), (h20, .inl (zI g, 4, .inl Z19))] := hD
      obtain ⟨R1, eR1⟩ : ∃ z : Nat → Int32, z = (upd Z18 p1.toNatClampNeg (-1)) := ⟨_, rfl⟩
      rw [← eR1] at hP hD
      refine lv_aload_n hx hb dX5_drop_28 rfl (lv_at hl 0 rfl) ?_
      refine va_get (D := g.1) (ci := 5) (v := .ref h20) (C := RX5) (T := TX5) (N := 27) hx hb hts zl_X5 hown hK hP 0 rfl rfl 24 (by decide) (hts _ m_f_RX5_67) (fun _ h => h) rfl dX5_drop_29 ?_
      refine lv_iload_n hx hb dX5_drop_32 rfl (lv_at hl 1 rfl) ?_
      refine va_iald (D := g.1) hx hb hK hP 2 0 rfl rfl (vp_in_iff.mpr ⟨by omega, by omega⟩) dX5_drop_33 ?_
      refine lv_topi (fun y2 ey2 => ?_)
      have qy2_0 : 0 ≤ y2.toInt := (ey2 ▸ (hF_Z19 _ (z_idx (vp_in_iff.mpr ⟨by omega, by omega⟩))).1)
      have qy2_1 : y2.toInt ≤ 16 := (ey2 ▸ (hF_Z19 _ (z_idx (vp_in_iff.mpr ⟨by omega, by omega⟩))).2)
      have qy2_2 : y2.toInt = (Z19 p1.toNatClampNeg).toInt := congrArg Int32.toInt ey2
      have hP9 := hP.sub (ws' := [(h0, .inr (5, [.ref h1, .int f0, .ref h2, .int f1, .int f2, .ref h3, .ref h4, .ref h5, .ref h6, .int f3, .ref h7, .ref h8, .ref h9, .int f4, .ref h10, .ref h11, .ref h12, .ref h13, .ref h14, .ref h15, .ref h16, .ref h17, .ref h18, .ref h19, .ref h20, .ref h21, .ref h22])), (h19, .inl (zI g, 4, .inl R1)), (h20, .inl (zI g, 4, .inl Z19))]) [0, 1, 2] rfl
      have hD9 := hD.sub (ws' := [(h0, .inr (5, [.ref h1, .int f0, .ref h2, .int f1, .int f2, .ref h3, .ref h4, .ref h5, .ref h6, .int f3, .ref h7, .ref h8, .ref h9, .int f4, .ref h10, .ref h11, .ref h12, .ref h13, .ref h14, .ref h15, .ref h16, .ref h17, .ref h18, .ref h19, .ref h20, .ref h21, .ref h22])), (h19, .inl (zI g, 4, .inl R1)), (h20, .inl (zI g, 4, .inl Z19))]) [0, 1, 2] (by decide) rfl
      exact W.iret (v := y2) hx hb hr (fun t ht hW => ⟨⟨y2, R1, rfl, ⟨⟨(by first | omega | decide), (by first | omega | decide), (by first | omega | decide)⟩, (by rw [if_pos (by omega), eR1])⟩, by rw [ht]; exact hP9, hD9⟩, hS.F ht⟩) hS.2.2 dX5_drop_34
    · have i_5 : y0.toInt < 0 := z_nle (rfl) (rfl) c_5
      refine lv_bipush (v := (-11)) hx hb dX5_drop_18 (by decide) ?_
      have : ((-11) : Int32).toInt = (-11) := rfl
      have hP9 := hP.sub (ws' := [(h0, .inr (5, [.ref h1, .int f0, .ref h2, .int f1, .int f2, .ref h3, .ref h4, .ref h5, .ref h6, .int f3, .ref h7, .ref h8, .ref h9, .int f4, .ref h10, .ref h11, .ref h12, .ref h13, .ref h14, .ref h15, .ref h16, .ref h17, .ref h18, .ref h19, .ref h20, .ref h21, .ref h22])), (h19, .inl (zI g, 4, .inl Z18)), (h20, .inl (zI g, 4, .inl Z19))]) [0, 1, 2] rfl
      have hD9 := hD.sub (ws' := [(h0, .inr (5, [.ref h1, .int f0, .ref h2, .int f1, .int f2, .ref h3, .ref h4, .ref h5, .ref h6, .int f3, .ref h7, .ref h8, .ref h9, .int f4, .ref h10, .ref h11, .ref h12, .ref h13, .ref h14, .ref h15, .ref h16, .ref h17, .ref h18, .ref h19, .ref h20, .ref h21, .ref h22])), (h19, .inl (zI g, 4, .inl Z18)), (h20, .inl (zI g, 4, .inl Z19))]) [0, 1, 2] (by decide) rfl
      exact W.iret (v := (-11)) hx hb hr (fun t ht hW => ⟨⟨(-11), Z18, rfl, ⟨⟨(by first | omega | decide), (by first | omega | decide), (by first | omega | decide)⟩, (by rw [if_neg (by omega)])⟩, by rw [ht]; exact hP9, hD9⟩, hS.F ht⟩) hS.2.2 dX5_drop_20
set_option maxHeartbeats 8000000 in
set_option maxRecDepth 100000 in
theorem gX5_cut (l : Launch) (g : zG) (sz : Nat) (p0 : Int32) (p1 : Int64) : Met l yX5_cut (.code yX5_cut cX5_cut 3 (some .long) :: zBig) ({ frames := 0, cells := 0, slots := 0, locals := 0 }) (va_Pc [.int p0, .long p1] (zPre g [] sz)) (va_Ql (fun (r : Int64) (u : Nat) => True) (zPost g (fun u : Nat => []) (va_A [] sz)) (va_A [] sz)) 0 0 (va_A [] sz) := by
  refine zMetL rfl (Nat.le_of_ble_eq_true rfl) ?_
  intro p e s m args below meth c A ls hx hb hml hr hlocks hin hown hts hK hN hZ hP hD hA hS hAe hl
  have hown : s.vm.findClass RX5 = some m.cls := hown
  have hl : lv_has ls 3 [(0, .int p0), (1, .long p1)] := hl
  refine lv_iload_n hx hb dX5_cut_0 rfl (lv_at hl 0 rfl) ?_
  refine lv_if_ne (tgt := 11) hx hb dX5_cut_1 (by decide) (fun c_0 => ?_) (fun c_0 => ?_)
  · have i_0 : p0.toInt ≠ 0 := z_ne (rfl) (rfl) c_0
    refine lv_iload_n hx hb dX5_cut_11 rfl (lv_at hl 0 rfl) ?_
    refine lv_iconst (v := 1) hx hb dX5_cut_12 (by decide) ?_
    refine lv_icmp_ne (tgt := 22) hx hb dX5_cut_13 (by decide) (fun c_1 => ?_) (fun c_1 => ?_)
    · have i_1 : p0.toInt ≠ 1 := z_ne (rfl) (rfl) c_1
      refine lv_lload_n hx hb dX5_cut_22 rfl (lv_at hl 1 rfl) ?_
      have hP9 := hP.sub (ws' := []) [] rfl
      have hD9 := hD.sub (ws' := []) [] (by decide) rfl
      exact W.lret (v := p1) hx hb hr (fun t ht hW => ⟨⟨p1, (0 : Nat), rfl, trivial, by rw [ht]; exact hP9, hD9⟩, hS.F ht⟩) hS.2.2 dX5_cut_23
    · have i_1 : p0.toInt = 1 := z_eq (rfl) (rfl) c_1
      refine lv_lload_n hx hb dX5_cut_16 rfl (lv_at hl 1 rfl) ?_
      refine lv_l2i (v := p1.toInt32) hx hb dX5_cut_17 rfl ?_
      refine lv_i2l (v := p1.toInt32.toInt64) hx hb dX5_cut_18 rfl ?_
      refine lv_goto (tgt := 23) hx hb dX5_cut_19 (by decide) ?_
      have hP9 := hP.sub (ws' := []) [] rfl
      have hD9 := hD.sub (ws' := []) [] (by decide) rfl
      exact W.lret (v := p1.toInt32.toInt64) hx hb hr (fun t ht hW => ⟨⟨p1.toInt32.toInt64, (0 : Nat), rfl, trivial, by rw [ht]; exact hP9, hD9⟩, hS.F ht⟩) hS.2.2 dX5_cut_23
  · have i_0 : p0.toInt = 0 := z_eq (rfl) (rfl) c_0
    refine lv_lload_n hx hb dX5_cut_4 rfl (lv_at hl 1 rfl) ?_
    refine lv_l2i (v := p1.toInt32) hx hb dX5_cut_5 rfl ?_
    refine lv_i2b (v := p1.toInt32.toInt8.toInt32) hx hb dX5_cut_6 rfl ?_
    refine lv_i2l (v := p1.toInt32.toInt8.toInt32.toInt64) hx hb dX5_cut_7 rfl ?_
    refine lv_goto (tgt := 23) hx hb dX5_cut_8 (by decide) ?_
    have hP9 := hP.sub (ws' := []) [] rfl
    have hD9 := hD.sub (ws' := []) [] (by decide) rfl
    exact W.lret (v := p1.toInt32.toInt8.toInt32.toInt64) hx hb hr (fun t ht hW => ⟨⟨p1.toInt32.toInt8.toInt32.toInt64, (0 : Nat), rfl, trivial, by rw [ht]; exact hP9, hD9⟩, hS.F ht⟩) hS.2.2 dX5_cut_23
set_option maxHeartbeats 8000000 in
set_option maxRecDepth 100000 in
theorem gX5_item (l : Launch) (g : zG) (h0 h1 h2 h3 h4 h5 h6 h7 h8 h9 h10 h11 h12 h13 h14 h15 h16 h17 h18 h19 h20 h21 h22 : Nat) (sz : Nat) (p1 : Int32) (p2 : Int32) (p3 : Int32) (p4 : Int64) (f0 : Int32) (f1 : Int32) (f2 : Int32) (f3 : Int32) (f4 : Int32) (Z18 : Nat → Int32) (Z19 : Nat → Int32) (Z20 : Nat → Int64) (hf_f1 : 0 ≤ f1.toInt ∧ f1.toInt ≤ 60) (hf_f2 : 0 ≤ f2.toInt ∧ f2.toInt ≤ 60) (hf_f3 : 0 ≤ f3.toInt ∧ f3.toInt ≤ 31) (hf_f4 : 0 ≤ f4.toInt ∧ f4.toInt ≤ 1000) (hF_Z19 : iSize Z19) : Met l yX5_item (.code yX5_item cX5_item 7 (some .int) :: zBig) ({ frames := 2, cells := 0, slots := 0, locals := 45 }) (va_Pc [.ref h0, .int p1, .int p2, .int p3, .long p4] (zPre g [(h0, .inr (5, [.ref h1, .int f0, .ref h2, .int f1, .int f2, .ref h3, .ref h4, .ref h5, .ref h6, .int f3, .ref h7, .ref h8, .ref h9, .int f4, .ref h10, .ref h11, .ref h12, .ref h13, .ref h14, .ref h15, .ref h16, .ref h17, .ref h18, .ref h19, .ref h20, .ref h21, .ref h22])), (h19, .inl (zI g, 4, .inl Z18)), (h20, .inl (zI g, 4, .inl Z19)), (h21, .inl (zJ g, 64, .inr (.inl Z20)))] sz)) (va_Qi (fun (r : Int32) (u : (Nat → Int64)) => (p1.toInt < 0 ∨ 3 < p1.toInt ∨ p2.toInt < 0 ∨ 2 < p2.toInt → r.toInt = -1) ∧ (0 ≤ p1.toInt → p1.toInt ≤ 3 → 0 ≤ p2.toInt → p2.toInt ≤ 2 → (Z18 p1.toNatClampNeg).toInt < 0 → r.toInt = -11) ∧ (0 ≤ p1.toInt → p1.toInt ≤ 3 → 0 ≤ p2.toInt → p2.toInt ≤ 2 → 0 ≤ (Z18 p1.toNatClampNeg).toInt → (Z18 p1.toNatClampNeg).toInt ≠ p2.toInt → r.toInt = -12) ∧ (0 ≤ p1.toInt → p1.toInt ≤ 3 → 0 ≤ p2.toInt → p2.toInt ≤ 2 → (Z18 p1.toNatClampNeg).toInt = p2.toInt → (p3.toInt < 0 ∨ 1 < 0 ∨ (Z19 p1.toNatClampNeg).toInt < p3.toInt + 1) → r.toInt = -13) ∧ (0 ≤ p1.toInt → p1.toInt ≤ 3 → 0 ≤ p2.toInt → p2.toInt ≤ 2 → (Z18 p1.toNatClampNeg).toInt = p2.toInt → 0 ≤ p3.toInt → p3.toInt + 1 ≤ (Z19 p1.toNatClampNeg).toInt → r.toInt = 1)) (zPost g (fun u : (Nat → Int64) => [(h0, .inr (5, [.ref h1, .int f0, .ref h2, .int f1, .int f2, .ref h3, .ref h4, .ref h5, .ref h6, .int f3, .ref h7, .ref h8, .ref h9, .int f4, .ref h10, .ref h11, .ref h12, .ref h13, .ref h14, .ref h15, .ref h16, .ref h17, .ref h18, .ref h19, .ref h20, .ref h21, .ref h22])), (h19, .inl (zI g, 4, .inl Z18)), (h20, .inl (zI g, 4, .inl Z19)), (h21, .inl (zJ g, 64, .inr (.inl u)))]) (va_A [(h0, .inr (5, [.ref h1, .int f0, .ref h2, .int f1, .int f2, .ref h3, .ref h4, .ref h5, .ref h6, .int f3, .ref h7, .ref h8, .ref h9, .int f4, .ref h10, .ref h11, .ref h12, .ref h13, .ref h14, .ref h15, .ref h16, .ref h17, .ref h18, .ref h19, .ref h20, .ref h21, .ref h22])), (h19, .inl (zI g, 4, .inl Z18)), (h20, .inl (zI g, 4, .inl Z19)), (h21, .inl (zJ g, 64, .inr (.inl Z20)))] sz)) (va_A [(h0, .inr (5, [.ref h1, .int f0, .ref h2, .int f1, .int f2, .ref h3, .ref h4, .ref h5, .ref h6, .int f3, .ref h7, .ref h8, .ref h9, .int f4, .ref h10, .ref h11, .ref h12, .ref h13, .ref h14, .ref h15, .ref h16, .ref h17, .ref h18, .ref h19, .ref h20, .ref h21, .ref h22])), (h19, .inl (zI g, 4, .inl Z18)), (h20, .inl (zI g, 4, .inl Z19)), (h21, .inl (zJ g, 64, .inr (.inl Z20)))] sz)) 0 0 (va_A [(h0, .inr (5, [.ref h1, .int f0, .ref h2, .int f1, .int f2, .ref h3, .ref h4, .ref h5, .ref h6, .int f3, .ref h7, .ref h8, .ref h9, .int f4, .ref h10, .ref h11, .ref h12, .ref h13, .ref h14, .ref h15, .ref h16, .ref h17, .ref h18, .ref h19, .ref h20, .ref h21, .ref h22])), (h19, .inl (zI g, 4, .inl Z18)), (h20, .inl (zI g, 4, .inl Z19)), (h21, .inl (zJ g, 64, .inr (.inl Z20)))] sz) := by
  refine zMetI rfl (Nat.le_of_ble_eq_true rfl) ?_
  intro p e s m args below meth c A ls hx hb hml hr hlocks hin hown hts hK hN hZ hP hD hA hS hAe hl
  have hown : s.vm.findClass RX5 = some m.cls := hown
  have hl : lv_has ls 7 [(0, .ref h0), (1, .int p1), (2, .int p2), (3, .int p3), (4, .long p4)] := hl
  refine lv_iload_n hx hb dX5_item_0 rfl (lv_at hl 1 rfl) ?_
  refine z_calli (wr := [(h0, .inr (5, [.ref h1, .int f0, .ref h2, .int f1, .int f2, .ref h3, .ref h4, .ref h5, .ref h6, .int f3, .ref h7, .ref h8, .ref h9, .int f4, .ref h10, .ref h11, .ref h12, .ref h13, .ref h14, .ref h15, .ref h16, .ref h17, .ref h18, .ref h19, .ref h20, .ref h21, .ref h22])), (h19, .inl (zI g, 4, .inl Z18)), (h20, .inl (zI g, 4, .inl Z19)), (h21, .inl (zJ g, 64, .inr (.inl Z20)))]) hP hD hS hA [] [0, 1, 2, 3] (by decide) rfl rfl (by decide) (va_runS (As := [.int p1]) (rest := []) ⟨hx, hb, hml, hown, hts⟩ (gX5_isSheet l g  s.heap.size p1) ⟨callB_of 1 hts (zGood m_o_yX5_isSheet) rfl rfl rfl (hts _ m_z_RX5) (hts _ m_m_RX5_225) ⟨by decide +kernel, by decide +kernel, by decide +kernel⟩ ⟨Nat.le_of_ble_eq_true rfl, Nat.le_of_ble_eq_true rfl⟩, hts _ m_s_yX5_isSheet⟩ (zPreS hK hN hZ hP hD hS hA [] (by decide) rfl rfl) rfl rfl hl.1 rfl (lv_room (Nat.le_of_ble_eq_true rfl)) dX5_item_1 ⟨Nat.le_of_ble_eq_true rfl, Nat.le_of_ble_eq_true rfl⟩) (fun r u H locs hw hP hD hS => ?_)
  rcases hw with ⟨i_0, rfl⟩ | ⟨i_1, i_2, rfl⟩ | ⟨i_3, i_4, rfl⟩
  · skip
    have i_0 : p1.toInt < 0 := i_0
    have hP : va_P g.1 vwCl [(h0, .inr (5, [.ref h1, .int f0, .ref h2, .int f1, .int f2, .ref h3, .ref h4, .ref h5, .ref h6, .int f3, .ref h7, .ref h8, .ref h9, .int f4, .ref h10, .ref h11, .ref h12, .ref h13, .ref h14, .ref h15, .ref h16, .ref h17, .ref h18, .ref h19, .ref h20, .ref h21, .ref h22])), (h19, .inl (zI g, 4, .inl Z18)), (h20, .inl (zI g, 4, .inl Z19)), (h21, .inl (zJ g, 64, .inr (.inl Z20)))] H := hP
    have hD : va_D A [(h0, .inr (5, [.ref h1, .int f0, .ref h2, .int f1, .int f2, .ref h3, .ref h4, .ref h5, .ref h6, .int f3, .ref h7, .ref h8, .ref h9, .int f4, .ref h10, .ref h11, .ref h12, .ref h13, .ref h14, .ref h15, .ref h16, .ref h17, .ref h18, .ref h19, .ref h20, .ref h21, .ref h22])), (h19, .inl (zI g, 4, .inl Z18)), (h20, .inl (zI g, 4, .inl Z19)), (h21, .inl (zJ g, 64, .inr (.inl Z20)))] := hD
    refine lv_if_eq (tgt := 19) hx hb dX5_item_4 (by decide) (fun _ => ?_) (fun h => absurd h (by decide +kernel))
    refine lv_iconst (v := (-1)) hx hb dX5_item_19 (by decide) ?_
    have : ((-1) : Int32).toInt = (-1) := rfl
    have hP9 := hP.sub (ws' := [(h0, .inr (5, [.ref h1, .int f0, .ref h2, .int f1, .int f2, .ref h3, .ref h4, .ref h5, .ref h6, .int f3, .ref h7, .ref h8, .ref h9, .int f4, .ref h10, .ref h11, .ref h12, .ref h13, .ref h14, .ref h15, .ref h16, .ref h17, .ref h18, .ref h19, .ref h20, .ref h21, .ref h22])), (h19, .inl (zI g, 4, .inl Z18)), (h20, .inl (zI g, 4, .inl Z19)), (h21, .inl (zJ g, 64, .inr (.inl Z20)))]) [0, 1, 2, 3] rfl
    have hD9 := hD.sub (ws' := [(h0, .inr (5, [.ref h1, .int f0, .ref h2, .int f1, .int f2, .ref h3, .ref h4, .ref h5, .ref h6, .int f3, .ref h7, .ref h8, .ref h9, .int f4, .ref h10, .ref h11, .ref h12, .ref h13, .ref h14, .ref h15, .ref h16, .ref h17, .ref h18, .ref h19, .ref h20, .ref h21, .ref h22])), (h19, .inl (zI g, 4, .inl Z18)), (h20, .inl (zI g, 4, .inl Z19)), (h21, .inl (zJ g, 64, .inr (.inl Z20)))]) [0, 1, 2, 3] (by decide) rfl
    exact W.iret (v := (-1)) hx hb hr (fun t ht hW => ⟨⟨(-1), Z20, rfl, ⟨(by first | omega | decide), (by first | omega | decide), (by first | omega | decide), (by first | omega | decide), (by first | omega | decide)⟩, by rw [ht]; exact hP9, hD9⟩, hS.F ht⟩) hS.2.2 dX5_item_20
  · skip
    have i_1 : 0 ≤ p1.toInt := i_1
    have i_2 : 3 < p1.toInt := i_2
    have hP : va_P g.1 vwCl [(h0, .inr (5, [.ref h1, .int f0, .ref h2, .int f1, .int f2, .ref h3, .ref h4, .ref h5, .ref h6, .int f3, .ref h7, .ref h8, .ref h9, .int f4, .ref h10, .ref h11, .ref h12, .ref h13, .ref h14, .ref h15, .ref h16, .ref h17, .ref h18, .ref h19, .ref h20, .ref h21, .ref h22])), (h19, .inl (zI g, 4, .inl Z18)), (h20, .inl (zI g, 4, .inl Z19)), (h21, .inl (zJ g, 64, .inr (.inl Z20)))] H := hP
    have hD : va_D A [(h0, .inr (5, [.ref h1, .int f0, .ref h2, .int f1, .int f2, .ref h3, .ref h4, .ref h5, .ref h6, .int f3, .ref h7, .ref h8, .ref h9, .int f4, .ref h10, .ref h11, .ref h12, .ref h13, .ref h14, .ref h15, .ref h16, .ref h17, .ref h18, .ref h19, .ref h20, .ref h21, .ref h22])), (h19, .inl (zI g, 4, .inl Z18)), (h20, .inl (zI g, 4, .inl Z19)), (h21, .inl (zJ g, 64, .inr (.inl Z20)))] := hD
    refine lv_if_eq (tgt := 19) hx hb dX5_item_4 (by decide) (fun _ => ?_) (fun h => absurd h (by decide +kernel))
    refine lv_iconst (v := (-1)) hx hb dX5_item_19 (by decide) ?_
    have : ((-1) : Int32).toInt = (-1) := rfl
    have hP9 := hP.sub (ws' := [(h0, .inr (5, [.ref h1, .int f0, .ref h2, .int f1, .int f2, .ref h3, .ref h4, .ref h5, .ref h6, .int f3, .ref h7, .ref h8, .ref h9, .int f4, .ref h10, .ref h11, .ref h12, .ref h13, .ref h14, .ref h15, .ref h16, .ref h17, .ref h18, .ref h19, .ref h20, .ref h21, .ref h22])), (h19, .inl (zI g, 4, .inl Z18)), (h20, .inl (zI g, 4, .inl Z19)), (h21, .inl (zJ g, 64, .inr (.inl Z20)))]) [0, 1, 2, 3] rfl
    have hD9 := hD.sub (ws' := [(h0, .inr (5, [.ref h1, .int f0, .ref h2, .int f1, .int f2, .ref h3, .ref h4, .ref h5, .ref h6, .int f3, .ref h7, .ref h8, .ref h9, .int f4, .ref h10, .ref h11, .ref h12, .ref h13, .ref h14, .ref h15, .ref h16, .ref h17, .ref h18, .ref h19, .ref h20, .ref h21, .ref h22])), (h19, .inl (zI g, 4, .inl Z18)), (h20, .inl (zI g, 4, .inl Z19)), (h21, .inl (zJ g, 64, .inr (.inl Z20)))]) [0, 1, 2, 3] (by decide) rfl
    exact W.iret (v := (-1)) hx hb hr (fun t ht hW => ⟨⟨(-1), Z20, rfl, ⟨(by first | omega | decide), (by first | omega | decide), (by first | omega | decide), (by first | omega | decide), (by first | omega | decide)⟩, by rw [ht]; exact hP9, hD9⟩, hS.F ht⟩) hS.2.2 dX5_item_20
  · skip
    have i_3 : 0 ≤ p1.toInt := i_3
    have i_4 : p1.toInt ≤ 3 := i_4
    have hP : va_P g.1 vwCl [(h0, .inr (5, [.ref h1, .int f0, .ref h2, .int f1, .int f2, .ref h3, .ref h4, .ref h5, .ref h6, .int f3, .ref h7, .ref h8, .ref h9, .int f4, .ref h10, .ref h11, .ref h12, .ref h13, .ref h14, .ref h15, .ref h16, .ref h17, .ref h18, .ref h19, .ref h20, .ref h21, .ref h22])), (h19, .inl (zI g, 4, .inl Z18)), (h20, .inl (zI g, 4, .inl Z19)), (h21, .inl (zJ g, 64, .inr (.inl Z20)))] H := hP
    have hD : va_D A [(h0, .inr (5, [.ref h1, .int f0, .ref h2, .int f1, .int f2, .ref h3, .ref h4, .ref h5, .ref h6, .int f3, .ref h7, .ref h8, .ref h9, .int f4, .ref h10, .ref h11, .ref h12, .ref h13, .ref h14, .ref h15, .ref h16, .ref h17, .ref h18, .ref h19, .ref h20, .ref h21, .ref h22])), (h19, .inl (zI g, 4, .inl Z18)), (h20, .inl (zI g, 4, .inl Z19)), (h21, .inl (zJ g, 64, .inr (.inl Z20)))] := hD
    refine lv_if_eq (tgt := 19) hx hb dX5_item_4 (by decide) (fun h => absurd h (by decide +kernel)) (fun _ => ?_)
    refine lv_iload_n hx hb dX5_item_7 rfl (lv_at hl 2 rfl) ?_
    refine lv_i2l (v := p2.toInt64) hx hb dX5_item_8 rfl ?_
    refine lv_lconst (v := 0) hx hb dX5_item_9 (by decide) ?_
    refine lv_ldc2 (v := 2) hx hb hown (hts _ m_k_RX5_197) dX5_item_10 ?_
    refine z_calli (wr := [(h0, .inr (5, [.ref h1, .int f0, .ref h2, .int f1, .int f2, .ref h3, .ref h4, .ref h5, .ref h6, .int f3, .ref h7, .ref h8, .ref h9, .int f4, .ref h10, .ref h11, .ref h12, .ref h13, .ref h14, .ref h15, .ref h16, .ref h17, .ref h18, .ref h19, .ref h20, .ref h21, .ref h22])), (h19, .inl (zI g, 4, .inl Z18)), (h20, .inl (zI g, 4, .inl Z19)), (h21, .inl (zJ g, 64, .inr (.inl Z20)))]) hP hD hS hA [] [0, 1, 2, 3] (by decide) rfl rfl (by decide) (va_runS (As := [.long p2.toInt64, .long 0, .long 2]) (rest := []) ⟨hx, hb, hml, hown, hts⟩ (gX5_in l g  H.size p2.toInt64 (0 : Int64) (2 : Int64)) ⟨callB_of 3 hts (zGood m_o_yX5_in) rfl rfl rfl (hts _ m_z_RX5) (hts _ m_m_RX5_77) ⟨by decide +kernel, by decide +kernel, by decide +kernel⟩ ⟨Nat.le_of_ble_eq_true rfl, Nat.le_of_ble_eq_true rfl⟩, hts _ m_s_yX5_in⟩ (zPreS hK hN hZ hP hD hS hA [] (by decide) rfl rfl) rfl rfl hl.1 rfl (lv_room (Nat.le_of_ble_eq_true rfl)) dX5_item_13 ⟨Nat.le_of_ble_eq_true rfl, Nat.le_of_ble_eq_true rfl⟩) (fun r u H locs hw hP hD hS => ?_)
    rcases hw with ⟨i_5, rfl⟩ | ⟨i_6, i_7, rfl⟩ | ⟨i_8, i_9, rfl⟩
    · skip
      have i_5 : p2.toInt < 0 := by (try simp only [Int32.toInt_toInt64] at i_5); exact i_5
      have hP : va_P g.1 vwCl [(h0, .inr (5, [.ref h1, .int f0, .ref h2, .int f1, .int f2, .ref h3, .ref h4, .ref h5, .ref h6, .int f3, .ref h7, .ref h8, .ref h9, .int f4, .ref h10, .ref h11, .ref h12, .ref h13, .ref h14, .ref h15, .ref h16, .ref h17, .ref h18, .ref h19, .ref h20, .ref h21, .ref h22])), (h19, .inl (zI g, 4, .inl Z18)), (h20, .inl (zI g, 4, .inl Z19)), (h21, .inl (zJ g, 64, .inr (.inl Z20)))] H := hP
      have hD : va_D A [(h0, .inr (5, [.ref h1, .int f0, .ref h2, .int f1, .int f2, .ref h3, .ref h4, .ref h5, .ref h6, .int f3, .ref h7, .ref h8, .ref h9, .int f4, .ref h10, .ref h11, .ref h12, .ref h13, .ref h14, .ref h15, .ref h16, .ref h17, .ref h18, .ref h19, .ref h20, .ref h21, .ref h22])), (h19, .inl (zI g, 4, .inl Z18)), (h20, .inl (zI g, 4, .inl Z19)), (h21, .inl (zJ g, 64, .inr (.inl Z20)))] := hD
      refine lv_if_ne (tgt := 21) hx hb dX5_item_16 (by decide) (fun h => absurd h (by decide +kernel)) (fun _ => ?_)
      refine lv_iconst (v := (-1)) hx hb dX5_item_19 (by decide) ?_
      have : ((-1) : Int32).toInt = (-1) := rfl
      have hP9 := hP.sub (ws' := [(h0, .inr (5, [.ref h1, .int f0, .ref h2, .int f1, .int f2, .ref h3, .ref h4, .ref h5, .ref h6, .int f3, .ref h7, .ref h8, .ref h9, .int f4, .ref h10, .ref h11, .ref h12, .ref h13, .ref h14, .ref h15, .ref h16, .ref h17, .ref h18, .ref h19, .ref h20, .ref h21, .ref h22])), (h19, .inl (zI g, 4, .inl Z18)), (h20, .inl (zI g, 4, .inl Z19)), (h21, .inl (zJ g, 64, .inr (.inl Z20)))]) [0, 1, 2, 3] rfl
      have hD9 := hD.sub (ws' := [(h0, .inr (5, [.ref h1, .int f0, .ref h2, .int f1, .int f2, .ref h3, .ref h4, .ref h5, .ref h6, .int f3, .ref h7, .ref h8, .ref h9, .int f4, .ref h10, .ref h11, .ref h12, .ref h13, .ref h14, .ref h15, .ref h16, .ref h17, .ref h18, .ref h19, .ref h20, .ref h21, .ref h22])), (h19, .inl (zI g, 4, .inl Z18)), (h20, .inl (zI g, 4, .inl Z19)), (h21, .inl (zJ g, 64, .inr (.inl Z20)))]) [0, 1, 2, 3] (by decide) rfl
      exact W.iret (v := (-1)) hx hb hr (fun t ht hW => ⟨⟨(-1), Z20, rfl, ⟨(by first | omega | decide), (by first | omega | decide), (by first | omega | decide), (by first | omega | decide), (by first | omega | decide)⟩, by rw [ht]; exact hP9, hD9⟩, hS.F ht⟩) hS.2.2 dX5_item_20
    · skip
      have i_6 : 0 ≤ p2.toInt := by (try simp only [Int32.toInt_toInt64] at i_6); exact i_6
      have i_7 : 2 < p2.toInt := by (try simp only [Int32.toInt_toInt64] at i_7); exact i_7
      have hP : va_P g.1 vwCl [(h0, .inr (5, [.ref h1, .int f0, .ref h2, .int f1, .int f2, .ref h3, .ref h4, .ref h5, .ref h6, .int f3, .ref h7, .ref h8, .ref h9, .int f4, .ref h10, .ref h11, .ref h12, .ref h13, .ref h14, .ref h15, .ref h16, .ref h17, .ref h18, .ref h19, .ref h20, .ref h21, .ref h22])), (h19, .inl (zI g, 4, .inl Z18)), (h20, .inl (zI g, 4, .inl Z19)), (h21, .inl (zJ g, 64, .inr (.inl Z20)))] H := hP
      have hD : va_D A [(h0, .inr (5, [.ref h1, .int f0, .ref h2, .int f1, .int f2, .ref h3, .ref h4, .ref h5, .ref h6, .int f3, .ref h7, .ref h8, .ref h9, .int f4, .ref h10, .ref h11, .ref h12, .ref h13, .ref h14, .ref h15, .ref h16, .ref h17, .ref h18, .ref h19, .ref h20, .ref h21, .ref h22])), (h19, .inl (zI g, 4, .inl Z18)), (h20, .inl (zI g, 4, .inl Z19)), (h21, .inl (zJ g, 64, .inr (.inl Z20)))] := hD
      refine lv_if_ne (tgt := 21) hx hb dX5_item_16 (by decide) (fun h => absurd h (by decide +kernel)) (fun _ => ?_)
      refine lv_iconst (v := (-1)) hx hb dX5_item_19 (by decide) ?_
      have : ((-1) : Int32).toInt = (-1) := rfl
      have hP9 := hP.sub (ws' := [(h0, .inr (5, [.ref h1, .int f0, .ref h2, .int f1, .int f2, .ref h3, .ref h4, .ref h5, .ref h6, .int f3, .ref h7, .ref h8, .ref h9, .int f4, .ref h10, .ref h11, .ref h12, .ref h13, .ref h14, .ref h15, .ref h16, .ref h17, .ref h18, .ref h19, .ref h20, .ref h21, .ref h22])), (h19, .inl (zI g, 4, .inl Z18)), (h20, .inl (zI g, 4, .inl Z19)), (h21, .inl (zJ g, 64, .inr (.inl Z20)))]) [0, 1, 2, 3] rfl
      have hD9 := hD.sub (ws' := [(h0, .inr (5, [.ref h1, .int f0, .ref h2, .int f1, .int f2, .ref h3, .ref h4, .ref h5, .ref h6, .int f3, .ref h7, .ref h8, .ref h9, .int f4, .ref h10, .ref h11, .ref h12, .ref h13, .ref h14, .ref h15, .ref h16, .ref h17, .ref h18, .ref h19, .ref h20, .ref h21, .ref h22])), (h19, .inl (zI g, 4, .inl Z18)), (h20, .inl (zI g, 4, .inl Z19)), (h21, .inl (zJ g, 64, .inr (.inl Z20)))]) [0, 1, 2, 3] (by decide) rfl
      exact W.iret (v := (-1)) hx hb hr (fun t ht hW => ⟨⟨(-1), Z20, rfl, ⟨(by first | omega | decide), (by first | omega | decide), (by first | omega | decide), (by first | omega | decide), (by first | omega | decide)⟩, by rw [ht]; exact hP9, hD9⟩, hS.F ht⟩) hS.2.2 dX5_item_20
    · skip
      have i_8 : 0 ≤ p2.toInt := by (try simp only [Int32.toInt_toInt64] at i_8); exact i_8
      have i_9 : p2.toInt ≤ 2 := by (try simp only [Int32.toInt_toInt64] at i_9); exact i_9
      have hP : va_P g.1 vwCl [(h0, .inr (5, [.ref h1, .int f0, .ref h2, .int f1, .int f2, .ref h3, .ref h4, .ref h5, .ref h6, .int f3, .ref h7, .ref h8, .ref h9, .int f4, .ref h10, .ref h11, .ref h12, .ref h13, .ref h14, .ref h15, .ref h16, .ref h17, .ref h18, .ref h19, .ref h20, .ref h21, .ref h22])), (h19, .inl (zI g, 4, .inl Z18)), (h20, .inl (zI g, 4, .inl Z19)), (h21, .inl (zJ g, 64, .inr (.inl Z20)))] H := hP
      have hD : va_D A [(h0, .inr (5, [.ref h1, .int f0, .ref h2, .int f1, .int f2, .ref h3, .ref h4, .ref h5, .ref h6, .int f3, .ref h7, .ref h8, .ref h9, .int f4, .ref h10, .ref h11, .ref h12, .ref h13, .ref h14, .ref h15, .ref h16, .ref h17, .ref h18, .ref h19, .ref h20, .ref h21, .ref h22])), (h19, .inl (zI g, 4, .inl Z18)), (h20, .inl (zI g, 4, .inl Z19)), (h21, .inl (zJ g, 64, .inr (.inl Z20)))] := hD
      refine lv_if_ne (tgt := 21) hx hb dX5_item_16 (by decide) (fun _ => ?_) (fun h => absurd h (by decide +kernel))
      refine lv_aload_n hx hb dX5_item_21 rfl (lv_at hl 0 rfl) ?_
      refine lv_iload_n hx hb dX5_item_22 rfl (lv_at hl 1 rfl) ?_
      refine lv_iload_n hx hb dX5_item_23 rfl (lv_at hl 2 rfl) ?_
      refine lv_iload_n hx hb dX5_item_24 rfl (lv_at hl 3 rfl) ?_
      refine lv_iconst (v := 1) hx hb dX5_item_25 (by decide) ?_
      have : (1 : Int32).toInt = 1 := rfl
      refine z_calli (wr := [(h21, .inl (zJ g, 64, .inr (.inl Z20)))]) hP hD hS hA [0, 1, 2] [3] (by decide) rfl rfl (by decide) (va_runV (As := [.int p1, .int p2, .int p3, .int 1]) (rest := []) ⟨hx, hb, hml, hown, hts⟩ (gX5_bars l g h0 h1 h2 h3 h4 h5 h6 h7 h8 h9 h10 h11 h12 h13 h14 h15 h16 h17 h18 h19 h20 h21 h22 H.size p1 p2 p3 (1 : Int32) f0 f1 f2 f3 f4 Z18 Z19 (by omega) (by omega) (by constructor <;> omega) (by constructor <;> omega) (by constructor <;> omega) (by constructor <;> omega) hF_Z19) ⟨callB_of 4 hts (zGood m_o_yX5_bars) rfl rfl rfl (hts _ m_z_RX5) (hts _ m_m_RX5_228) ⟨by decide +kernel, by decide +kernel, by decide +kernel⟩ ⟨Nat.le_of_ble_eq_true rfl, Nat.le_of_ble_eq_true rfl⟩, hts _ m_i_yX5_bars, hts _ m_e_yX5_bars⟩ (zPreV hK hN hZ hP hD hS hA [0, 1, 2] (by decide) rfl rfl 5 0 rfl rfl) rfl rfl hl.1 rfl (lv_room (Nat.le_of_ble_eq_true rfl)) dX5_item_26 ⟨Nat.le_of_ble_eq_true rfl, Nat.le_of_ble_eq_true rfl⟩) (fun r u H locs hw hP hD hS => ?_)
      obtain ⟨y0, rfl⟩ : ∃ z, z = r := ⟨_, rfl⟩
      rcases hw with ⟨i_10, i_11, i_12, i_13, i_14, i_15, i_16, i_17, i_18, i_19, rfl⟩ | ⟨i_20, i_21, i_22, i_23, i_24⟩
      · skip
        have i_10 : 0 ≤ p1.toInt := i_10
        have i_11 : p1.toInt ≤ 3 := i_11
        have i_14 : 0 ≤ p3.toInt := i_14
        have i_15 : p3.toInt ≤ 16 := i_15
        have i_16 : p3.toInt + 1 ≤ 16 := i_16
        have i_17 : 0 ≤ (Z18 p1.toNatClampNeg).toInt := i_17
        have i_18 : (Z18 p1.toNatClampNeg).toInt = p2.toInt := i_18
        have i_19 : p3.toInt + 1 ≤ (Z19 p1.toNatClampNeg).toInt := i_19
        have hP : va_P g.1 vwCl [(h21, .inl (zJ g, 64, .inr (.inl Z20))), (h0, .inr (5, [.ref h1, .int f0, .ref h2, .int f1, .int f2, .ref h3, .ref h4, .ref h5, .ref h6, .int f3, .ref h7, .ref h8, .ref h9, .int f4, .ref h10, .ref h11, .ref h12, .ref h13, .ref h14, .ref h15, .ref h16, .ref h17, .ref h18, .ref h19, .ref h20, .ref h21, .ref h22])), (h19, .inl (zI g, 4, .inl Z18)), (h20, .inl (zI g, 4, .inl Z19))] H := hP
        have hD : va_D A [(h21, .inl (zJ g, 64, .inr (.inl Z20))), (h0, .inr (5, [.ref h1, .int f0, .ref h2, .int f1, .int f2, .ref h3, .ref h4, .ref h5, .ref h6, .int f3, .ref h7, .ref h8, .ref h9, .int f4, .ref h10, .ref h11, .ref h12, .ref h13, .ref h14, .ref h15, .ref h16, .ref h17, .ref h18, .ref h19, .ref h20, .ref h21, .ref h22])), (h19, .inl (zI g, 4, .inl Z18)), (h20, .inl (zI g, 4, .inl Z19))] := hD
        refine lv_istore (lv' := [(6, .int 0), (0, .ref h0), (1, .int p1), (2, .int p2), (3, .int p3), (4, .long p4)]) hx hb dX5_item_29 hl (by decide) rfl (fun ls hl => ?_)
        refine lv_iload hx hb dX5_item_31 (lv_at hl 0 rfl) ?_
        refine lv_if_eq (tgt := 39) hx hb dX5_item_33 (by decide) (fun _ => ?_) (fun h => absurd h (by decide +kernel))
        refine lv_aload_n hx hb dX5_item_39 rfl (lv_at hl 1 rfl) ?_
        refine va_get (D := g.1) (ci := 5) (v := .ref h21) (C := RX5) (T := TX5) (N := 27) hx hb hts zl_X5 hown hK hP 1 rfl rfl 25 (by decide) (hts _ m_f_RX5_70) (fun _ h => h) rfl dX5_item_40 ?_
        refine lv_bipush (v := 16) hx hb dX5_item_43 (by decide) ?_
        refine lv_iload_n hx hb dX5_item_45 rfl (lv_at hl 2 rfl) ?_
        refine lv_imul hx hb dX5_item_46 ?_
        refine lv_topi (fun y1 ey1 => ?_)
        have qy1_0 : y1.toInt = 16 * p1.toInt := zi_mul ey1 (rfl) (rfl) (by omega) (by omega)
        refine lv_iload_n hx hb dX5_item_47 rfl (lv_at hl 4 rfl) ?_
        refine lv_iadd hx hb dX5_item_48 ?_
        refine lv_topi (fun y2 ey2 => ?_)
        have qy2_0 : y2.toInt = y1.toInt + p3.toInt := zi_add ey2 (rfl) (rfl) (by omega) (by omega)
        refine lv_iload_n hx hb dX5_item_49 rfl (lv_at hl 3 rfl) ?_
        refine lv_lload hx hb dX5_item_50 (lv_at hl 5 rfl) ?_
        refine z_calll (wr := [(h21, .inl (zJ g, 64, .inr (.inl Z20))), (h0, .inr (5, [.ref h1, .int f0, .ref h2, .int f1, .int f2, .ref h3, .ref h4, .ref h5, .ref h6, .int f3, .ref h7, .ref h8, .ref h9, .int f4, .ref h10, .ref h11, .ref h12, .ref h13, .ref h14, .ref h15, .ref h16, .ref h17, .ref h18, .ref h19, .ref h20, .ref h21, .ref h22])), (h19, .inl (zI g, 4, .inl Z18)), (h20, .inl (zI g, 4, .inl Z19))]) hP hD hS hA [] [0, 1, 2, 3] (by decide) rfl rfl (by decide) (va_runS (As := [.int p2, .long p4]) (rest := [.int y2, .ref h21]) ⟨hx, hb, hml, hown, hts⟩ (gX5_cut l g  H.size p2 p4) ⟨callB_of 2 hts (zGood m_o_yX5_cut) rfl rfl rfl (hts _ m_z_RX5) (hts _ m_m_RX5_234) ⟨by decide +kernel, by decide +kernel, by decide +kernel⟩ ⟨Nat.le_of_ble_eq_true rfl, Nat.le_of_ble_eq_true rfl⟩, hts _ m_s_yX5_cut⟩ (zPreS hK hN hZ hP hD hS hA [] (by decide) rfl rfl) rfl rfl hl.1 rfl (lv_room (Nat.le_of_ble_eq_true rfl)) dX5_item_52 ⟨Nat.le_of_ble_eq_true rfl, Nat.le_of_ble_eq_true rfl⟩) (fun r u H locs hw hP hD hS => ?_)
        obtain ⟨y3, rfl⟩ : ∃ z, z = r := ⟨_, rfl⟩
        have hP : va_P g.1 vwCl [(h21, .inl (zJ g, 64, .inr (.inl Z20))), (h0, .inr (5, [.ref h1, .int f0, .ref h2, .int f1, .int f2, .ref h3, .ref h4, .ref h5, .ref h6, .int f3, .ref h7, .ref h8, .ref h9, .int f4, .ref h10, .ref h11, .ref h12, .ref h13, .ref h14, .ref h15, .ref h16, .ref h17, .ref h18, .ref h19, .ref h20, .ref h21, .ref h22])), (h19, .inl (zI g, 4, .inl Z18)), (h20, .inl (zI g, 4, .inl Z19))] H := hP
        have hD : va_D A [(h21, .inl (zJ g, 64, .inr (.inl Z20))), (h0, .inr (5, [.ref h1, .int f0, .ref h2, .int f1, .int f2, .ref h3, .ref h4, .ref h5, .ref h6, .int f3, .ref h7, .ref h8, .ref h9, .int f4, .ref h10, .ref h11, .ref h12, .ref h13, .ref h14, .ref h15, .ref h16, .ref h17, .ref h18, .ref h19, .ref h20, .ref h21, .ref h22])), (h19, .inl (zI g, 4, .inl Z18)), (h20, .inl (zI g, 4, .inl Z19))] := hD
        refine va_last (D := g.1) hx hb hK hP hD hS 0 1 rfl rfl (vp_in_iff.mpr ⟨by omega, by omega⟩) dX5_item_55 (fun H locs hP hD hS => ?_)
        have hP : va_P g.1 vwCl [(h21, .inl (zJ g, 64, .inr (.inl (vp_updL Z20 y2.toNatClampNeg y3)))), (h0, .inr (5, [.ref h1, .int f0, .ref h2, .int f1, .int f2, .ref h3, .ref h4, .ref h5, .ref h6, .int f3, .ref h7, .ref h8, .ref h9, .int f4, .ref h10, .ref h11, .ref h12, .ref h13, .ref h14, .ref h15, .ref h16, .ref h17, .ref h18, .ref h19, .ref h20, .ref h21, .ref h22])), (h19, .inl (zI g, 4, .inl Z18)), (h20, .inl (zI g, 4, .inl Z19))] H := hP
        have hD : va_D A [(h21, .inl (zJ g, 64, .inr (.inl (vp_updL Z20 y2.toNatClampNeg y3)))), (h0, .inr (5, [.ref h1, .int f0, .ref h2, .int f1, .int f2, .ref h3, .ref h4, .ref h5, .ref h6, .int f3, .ref h7, .ref h8, .ref h9, .int f4, .ref h10, .ref h11, .ref h12, .ref h13, .ref h14, .ref h15, .ref h16, .ref h17, .ref h18, .ref h19, .ref h20, .ref h21, .ref h22])), (h19, .inl (zI g, 4, .inl Z18)), (h20, .inl (zI g, 4, .inl Z19))] := hD
        obtain ⟨R4, eR4⟩ : ∃ z : Nat → Int64, z = (vp_updL Z20 y2.toNatClampNeg y3) := ⟨_, rfl⟩
        rw [← eR4] at hP hD
        refine lv_iconst (v := 1) hx hb dX5_item_56 (by decide) ?_
        have : (1 : Int32).toInt = 1 := rfl
        have hP9 := hP.sub (ws' := [(h0, .inr (5, [.ref h1, .int f0, .ref h2, .int f1, .int f2, .ref h3, .ref h4, .ref h5, .ref h6, .int f3, .ref h7, .ref h8, .ref h9, .int f4, .ref h10, .ref h11, .ref h12, .ref h13, .ref h14, .ref h15, .ref h16, .ref h17, .ref h18, .ref h19, .ref h20, .ref h21, .ref h22])), (h19, .inl (zI g, 4, .inl Z18)), (h20, .inl (zI g, 4, .inl Z19)), (h21, .inl (zJ g, 64, .inr (.inl R4)))]) [1, 2, 3, 0] rfl
        have hD9 := hD.sub (ws' := [(h0, .inr (5, [.ref h1, .int f0, .ref h2, .int f1, .int f2, .ref h3, .ref h4, .ref h5, .ref h6, .int f3, .ref h7, .ref h8, .ref h9, .int f4, .ref h10, .ref h11, .ref h12, .ref h13, .ref h14, .ref h15, .ref h16, .ref h17, .ref h18, .ref h19, .ref h20, .ref h21, .ref h22])), (h19, .inl (zI g, 4, .inl Z18)), (h20, .inl (zI g, 4, .inl Z19)), (h21, .inl (zJ g, 64, .inr (.inl R4)))]) [1, 2, 3, 0] (by decide) rfl
        exact W.iret (v := 1) hx hb hr (fun t ht hW => ⟨⟨1, R4, rfl, ⟨(by first | omega | decide), (by first | omega | decide), (by first | omega | decide), (by first | omega | decide), (by first | omega | decide)⟩, by rw [ht]; exact hP9, hD9⟩, hS.F ht⟩) hS.2.2 dX5_item_57
      · skip
        have i_20 : y0.toInt < 0 := i_20
        have i_21 : ((Z18 p1.toNatClampNeg).toInt < 0 → y0.toInt = -11) := by (try simp only [show (1 : Int32).toInt = 1 from rfl] at i_21); exact i_21
        have i_22 : (0 ≤ (Z18 p1.toNatClampNeg).toInt → (Z18 p1.toNatClampNeg).toInt ≠ p2.toInt → y0.toInt = -12) := by (try simp only [show (1 : Int32).toInt = 1 from rfl] at i_22); exact i_22
        have i_23 : (0 ≤ (Z18 p1.toNatClampNeg).toInt → (Z18 p1.toNatClampNeg).toInt = p2.toInt → y0.toInt = -13) := by (try simp only [show (1 : Int32).toInt = 1 from rfl] at i_23); exact i_23
        have i_24 : (0 ≤ (Z18 p1.toNatClampNeg).toInt → (Z18 p1.toNatClampNeg).toInt = p2.toInt → p3.toInt < 0 ∨ (1 : Int) < 0 ∨ (Z19 p1.toNatClampNeg).toInt < p3.toInt + (1 : Int)) := by (try simp only [show (1 : Int32).toInt = 1 from rfl] at i_24); exact i_24
        have hP : va_P g.1 vwCl [(h21, .inl (zJ g, 64, .inr (.inl Z20))), (h0, .inr (5, [.ref h1, .int f0, .ref h2, .int f1, .int f2, .ref h3, .ref h4, .ref h5, .ref h6, .int f3, .ref h7, .ref h8, .ref h9, .int f4, .ref h10, .ref h11, .ref h12, .ref h13, .ref h14, .ref h15, .ref h16, .ref h17, .ref h18, .ref h19, .ref h20, .ref h21, .ref h22])), (h19, .inl (zI g, 4, .inl Z18)), (h20, .inl (zI g, 4, .inl Z19))] H := hP
        have hD : va_D A [(h21, .inl (zJ g, 64, .inr (.inl Z20))), (h0, .inr (5, [.ref h1, .int f0, .ref h2, .int f1, .int f2, .ref h3, .ref h4, .ref h5, .ref h6, .int f3, .ref h7, .ref h8, .ref h9, .int f4, .ref h10, .ref h11, .ref h12, .ref h13, .ref h14, .ref h15, .ref h16, .ref h17, .ref h18, .ref h19, .ref h20, .ref h21, .ref h22])), (h19, .inl (zI g, 4, .inl Z18)), (h20, .inl (zI g, 4, .inl Z19))] := hD
        refine lv_istore (lv' := [(6, .int y0), (0, .ref h0), (1, .int p1), (2, .int p2), (3, .int p3), (4, .long p4)]) hx hb dX5_item_29 hl (by decide) rfl (fun ls hl => ?_)
        refine lv_iload hx hb dX5_item_31 (lv_at hl 0 rfl) ?_
        refine lv_if_eq (tgt := 39) hx hb dX5_item_33 (by decide) (fun c_25 => absurd (show y0.toInt = 0 from z_eq (rfl) (rfl) c_25) (by omega)) (fun c_25 => ?_)
        have i_25 : y0.toInt ≠ 0 := z_ne (rfl) (rfl) c_25
        refine lv_iload hx hb dX5_item_36 (lv_at hl 0 rfl) ?_
        have hP9 := hP.sub (ws' := [(h0, .inr (5, [.ref h1, .int f0, .ref h2, .int f1, .int f2, .ref h3, .ref h4, .ref h5, .ref h6, .int f3, .ref h7, .ref h8, .ref h9, .int f4, .ref h10, .ref h11, .ref h12, .ref h13, .ref h14, .ref h15, .ref h16, .ref h17, .ref h18, .ref h19, .ref h20, .ref h21, .ref h22])), (h19, .inl (zI g, 4, .inl Z18)), (h20, .inl (zI g, 4, .inl Z19)), (h21, .inl (zJ g, 64, .inr (.inl Z20)))]) [1, 2, 3, 0] rfl
        have hD9 := hD.sub (ws' := [(h0, .inr (5, [.ref h1, .int f0, .ref h2, .int f1, .int f2, .ref h3, .ref h4, .ref h5, .ref h6, .int f3, .ref h7, .ref h8, .ref h9, .int f4, .ref h10, .ref h11, .ref h12, .ref h13, .ref h14, .ref h15, .ref h16, .ref h17, .ref h18, .ref h19, .ref h20, .ref h21, .ref h22])), (h19, .inl (zI g, 4, .inl Z18)), (h20, .inl (zI g, 4, .inl Z19)), (h21, .inl (zJ g, 64, .inr (.inl Z20)))]) [1, 2, 3, 0] (by decide) rfl
        exact W.iret (v := y0) hx hb hr (fun t ht hW => ⟨⟨y0, Z20, rfl, ⟨(by first | omega | decide), (by first | omega | decide), (by first | omega | decide), (by first | omega | decide), (by first | omega | decide)⟩, by rw [ht]; exact hP9, hD9⟩, hS.F ht⟩) hS.2.2 dX5_item_38
set_option maxHeartbeats 8000000 in
set_option maxRecDepth 100000 in
theorem gX5_copy (l : Launch) (g : zG) (h0 h1 h2 h3 h4 h5 h6 h7 h8 h9 h10 h11 h12 h13 h14 h15 h16 h17 h18 h19 h20 h21 h22 : Nat) (sz : Nat) (p1 : Int32) (p2 : Int32) (p3 : Int32) (p4 : Int32) (p5 : Int32) (f0 : Int32) (f1 : Int32) (f2 : Int32) (f3 : Int32) (f4 : Int32) (Z18 : Nat → Int32) (Z19 : Nat → Int32) (Z20 : Nat → Int64) (Z21 : Nat → Int64) (hf_f1 : 0 ≤ f1.toInt ∧ f1.toInt ≤ 60) (hf_f2 : 0 ≤ f2.toInt ∧ f2.toInt ≤ 60) (hf_f3 : 0 ≤ f3.toInt ∧ f3.toInt ≤ 31) (hf_f4 : 0 ≤ f4.toInt ∧ f4.toInt ≤ 1000) (hF_Z19 : iSize Z19) : Met l yX5_copy (.code yX5_copy cX5_copy 8 (some .int) :: zBig) ({ frames := 2, cells := 0, slots := 0, locals := 45 }) (va_Pc [.ref h0, .int p1, .int p2, .int p3, .int p4, .int p5] (zPre g [(h0, .inr (5, [.ref h1, .int f0, .ref h2, .int f1, .int f2, .ref h3, .ref h4, .ref h5, .ref h6, .int f3, .ref h7, .ref h8, .ref h9, .int f4, .ref h10, .ref h11, .ref h12, .ref h13, .ref h14, .ref h15, .ref h16, .ref h17, .ref h18, .ref h19, .ref h20, .ref h21, .ref h22])), (h19, .inl (zI g, 4, .inl Z18)), (h20, .inl (zI g, 4, .inl Z19)), (h21, .inl (zJ g, 64, .inr (.inl Z20))), (h22, .inl (zJ g, 16, .inr (.inl Z21)))] sz)) (va_Qi (fun (r : Int32) (u : (Nat → Int64) × (Nat → Int64)) => (p1.toInt < 0 ∨ 3 < p1.toInt ∨ p3.toInt < 0 ∨ 3 < p3.toInt → r.toInt = -1) ∧ (0 ≤ p1.toInt → p1.toInt ≤ 3 → 0 ≤ p3.toInt → p3.toInt ≤ 3 → ((Z18 p1.toNatClampNeg).toInt < 0 ∨ (Z18 p3.toNatClampNeg).toInt < 0) → r.toInt = -11) ∧ (0 ≤ p1.toInt → p1.toInt ≤ 3 → 0 ≤ p3.toInt → p3.toInt ≤ 3 → 0 ≤ (Z18 p1.toNatClampNeg).toInt → 0 ≤ (Z18 p3.toNatClampNeg).toInt → (Z18 p1.toNatClampNeg).toInt ≠ (Z18 p3.toNatClampNeg).toInt → r.toInt = -12) ∧ (0 ≤ p1.toInt → p1.toInt ≤ 3 → 0 ≤ p3.toInt → p3.toInt ≤ 3 → 0 ≤ (Z18 p1.toNatClampNeg).toInt → (Z18 p1.toNatClampNeg).toInt = (Z18 p3.toNatClampNeg).toInt → (p5.toInt < 0 ∨ p2.toInt < 0 ∨ (Z19 p1.toNatClampNeg).toInt < p2.toInt + p5.toInt ∨ p4.toInt < 0 ∨ (Z19 p3.toNatClampNeg).toInt < p4.toInt + p5.toInt) → r.toInt = -13) ∧ (0 ≤ p1.toInt → p1.toInt ≤ 3 → 0 ≤ p3.toInt → p3.toInt ≤ 3 → 0 ≤ (Z18 p1.toNatClampNeg).toInt → (Z18 p1.toNatClampNeg).toInt = (Z18 p3.toNatClampNeg).toInt → 0 ≤ p5.toInt → 0 ≤ p2.toInt → p2.toInt + p5.toInt ≤ (Z19 p1.toNatClampNeg).toInt → 0 ≤ p4.toInt → p4.toInt + p5.toInt ≤ (Z19 p3.toNatClampNeg).toInt → r.toInt = p5.toInt)) (zPost g (fun u : (Nat → Int64) × (Nat → Int64) => [(h0, .inr (5, [.ref h1, .int f0, .ref h2, .int f1, .int f2, .ref h3, .ref h4, .ref h5, .ref h6, .int f3, .ref h7, .ref h8, .ref h9, .int f4, .ref h10, .ref h11, .ref h12, .ref h13, .ref h14, .ref h15, .ref h16, .ref h17, .ref h18, .ref h19, .ref h20, .ref h21, .ref h22])), (h19, .inl (zI g, 4, .inl Z18)), (h20, .inl (zI g, 4, .inl Z19)), (h21, .inl (zJ g, 64, .inr (.inl u.1))), (h22, .inl (zJ g, 16, .inr (.inl u.2)))]) (va_A [(h0, .inr (5, [.ref h1, .int f0, .ref h2, .int f1, .int f2, .ref h3, .ref h4, .ref h5, .ref h6, .int f3, .ref h7, .ref h8, .ref h9, .int f4, .ref h10, .ref h11, .ref h12, .ref h13, .ref h14, .ref h15, .ref h16, .ref h17, .ref h18, .ref h19, .ref h20, .ref h21, .ref h22])), (h19, .inl (zI g, 4, .inl Z18)), (h20, .inl (zI g, 4, .inl Z19)), (h21, .inl (zJ g, 64, .inr (.inl Z20))), (h22, .inl (zJ g, 16, .inr (.inl Z21)))] sz)) (va_A [(h0, .inr (5, [.ref h1, .int f0, .ref h2, .int f1, .int f2, .ref h3, .ref h4, .ref h5, .ref h6, .int f3, .ref h7, .ref h8, .ref h9, .int f4, .ref h10, .ref h11, .ref h12, .ref h13, .ref h14, .ref h15, .ref h16, .ref h17, .ref h18, .ref h19, .ref h20, .ref h21, .ref h22])), (h19, .inl (zI g, 4, .inl Z18)), (h20, .inl (zI g, 4, .inl Z19)), (h21, .inl (zJ g, 64, .inr (.inl Z20))), (h22, .inl (zJ g, 16, .inr (.inl Z21)))] sz)) 0 0 (va_A [(h0, .inr (5, [.ref h1, .int f0, .ref h2, .int f1, .int f2, .ref h3, .ref h4, .ref h5, .ref h6, .int f3, .ref h7, .ref h8, .ref h9, .int f4, .ref h10, .ref h11, .ref h12, .ref h13, .ref h14, .ref h15, .ref h16, .ref h17, .ref h18, .ref h19, .ref h20, .ref h21, .ref h22])), (h19, .inl (zI g, 4, .inl Z18)), (h20, .inl (zI g, 4, .inl Z19)), (h21, .inl (zJ g, 64, .inr (.inl Z20))), (h22, .inl (zJ g, 16, .inr (.inl Z21)))] sz) := by
  refine zMetI rfl (Nat.le_of_ble_eq_true rfl) ?_
  intro p e s m args below meth c A ls hx hb hml hr hlocks hin hown hts hK hN hZ hP hD hA hS hAe hl
  have hown : s.vm.findClass RX5 = some m.cls := hown
  have hl : lv_has ls 8 [(0, .ref h0), (1, .int p1), (2, .int p2), (3, .int p3), (4, .int p4), (5, .int p5)] := hl
  refine lv_iload_n hx hb dX5_copy_0 rfl (lv_at hl 1 rfl) ?_
  refine z_calli (wr := [(h0, .inr (5, [.ref h1, .int f0, .ref h2, .int f1, .int f2, .ref h3, .ref h4, .ref h5, .ref h6, .int f3, .ref h7, .ref h8, .ref h9, .int f4, .ref h10, .ref h11, .ref h12, .ref h13, .ref h14, .ref h15, .ref h16, .ref h17, .ref h18, .ref h19, .ref h20, .ref h21, .ref h22])), (h19, .inl (zI g, 4, .inl Z18)), (h20, .inl (zI g, 4, .inl Z19)), (h21, .inl (zJ g, 64, .inr (.inl Z20))), (h22, .inl (zJ g, 16, .inr (.inl Z21)))]) hP hD hS hA [] [0, 1, 2, 3, 4] (by decide) rfl rfl (by decide) (va_runS (As := [.int p1]) (rest := []) ⟨hx, hb, hml, hown, hts⟩ (gX5_isSheet l g  s.heap.size p1) ⟨callB_of 1 hts (zGood m_o_yX5_isSheet) rfl rfl rfl (hts _ m_z_RX5) (hts _ m_m_RX5_225) ⟨by decide +kernel, by decide +kernel, by decide +kernel⟩ ⟨Nat.le_of_ble_eq_true rfl, Nat.le_of_ble_eq_true rfl⟩, hts _ m_s_yX5_isSheet⟩ (zPreS hK hN hZ hP hD hS hA [] (by decide) rfl rfl) rfl rfl hl.1 rfl (lv_room (Nat.le_of_ble_eq_true rfl)) dX5_copy_1 ⟨Nat.le_of_ble_eq_true rfl, Nat.le_of_ble_eq_true rfl⟩) (fun r u H locs hw hP hD hS => ?_)
  rcases hw with ⟨i_0, rfl⟩ | ⟨i_1, i_2, rfl⟩ | ⟨i_3, i_4, rfl⟩
  · skip
    have i_0 : p1.toInt < 0 := i_0
    have hP : va_P g.1 vwCl [(h0, .inr (5, [.ref h1, .int f0, .ref h2, .int f1, .int f2, .ref h3, .ref h4, .ref h5, .ref h6, .int f3, .ref h7, .ref h8, .ref h9, .int f4, .ref h10, .ref h11, .ref h12, .ref h13, .ref h14, .ref h15, .ref h16, .ref h17, .ref h18, .ref h19, .ref h20, .ref h21, .ref h22])), (h19, .inl (zI g, 4, .inl Z18)), (h20, .inl (zI g, 4, .inl Z19)), (h21, .inl (zJ g, 64, .inr (.inl Z20))), (h22, .inl (zJ g, 16, .inr (.inl Z21)))] H := hP
    have hD : va_D A [(h0, .inr (5, [.ref h1, .int f0, .ref h2, .int f1, .int f2, .ref h3, .ref h4, .ref h5, .ref h6, .int f3, .ref h7, .ref h8, .ref h9, .int f4, .ref h10, .ref h11, .ref h12, .ref h13, .ref h14, .ref h15, .ref h16, .ref h17, .ref h18, .ref h19, .ref h20, .ref h21, .ref h22])), (h19, .inl (zI g, 4, .inl Z18)), (h20, .inl (zI g, 4, .inl Z19)), (h21, .inl (zJ g, 64, .inr (.inl Z20))), (h22, .inl (zJ g, 16, .inr (.inl Z21)))] := hD
    refine lv_if_eq (tgt := 14) hx hb dX5_copy_4 (by decide) (fun _ => ?_) (fun h => absurd h (by decide +kernel))
    refine lv_iconst (v := (-1)) hx hb dX5_copy_14 (by decide) ?_
    have : ((-1) : Int32).toInt = (-1) := rfl
    have hP9 := hP.sub (ws' := [(h0, .inr (5, [.ref h1, .int f0, .ref h2, .int f1, .int f2, .ref h3, .ref h4, .ref h5, .ref h6, .int f3, .ref h7, .ref h8, .ref h9, .int f4, .ref h10, .ref h11, .ref h12, .ref h13, .ref h14, .ref h15, .ref h16, .ref h17, .ref h18, .ref h19, .ref h20, .ref h21, .ref h22])), (h19, .inl (zI g, 4, .inl Z18)), (h20, .inl (zI g, 4, .inl Z19)), (h21, .inl (zJ g, 64, .inr (.inl Z20))), (h22, .inl (zJ g, 16, .inr (.inl Z21)))]) [0, 1, 2, 3, 4] rfl
    have hD9 := hD.sub (ws' := [(h0, .inr (5, [.ref h1, .int f0, .ref h2, .int f1, .int f2, .ref h3, .ref h4, .ref h5, .ref h6, .int f3, .ref h7, .ref h8, .ref h9, .int f4, .ref h10, .ref h11, .ref h12, .ref h13, .ref h14, .ref h15, .ref h16, .ref h17, .ref h18, .ref h19, .ref h20, .ref h21, .ref h22])), (h19, .inl (zI g, 4, .inl Z18)), (h20, .inl (zI g, 4, .inl Z19)), (h21, .inl (zJ g, 64, .inr (.inl Z20))), (h22, .inl (zJ g, 16, .inr (.inl Z21)))]) [0, 1, 2, 3, 4] (by decide) rfl
    exact W.iret (v := (-1)) hx hb hr (fun t ht hW => ⟨⟨(-1), ⟨Z20, Z21⟩, rfl, ⟨(by first | omega | decide), (by first | omega | decide), (by first | omega | decide), (by first | omega | decide), (by first | omega | decide)⟩, by rw [ht]; exact hP9, hD9⟩, hS.F ht⟩) hS.2.2 dX5_copy_15
  · skip
    have i_1 : 0 ≤ p1.toInt := i_1
    have i_2 : 3 < p1.toInt := i_2
    have hP : va_P g.1 vwCl [(h0, .inr (5, [.ref h1, .int f0, .ref h2, .int f1, .int f2, .ref h3, .ref h4, .ref h5, .ref h6, .int f3, .ref h7, .ref h8, .ref h9, .int f4, .ref h10, .ref h11, .ref h12, .ref h13, .ref h14, .ref h15, .ref h16, .ref h17, .ref h18, .ref h19, .ref h20, .ref h21, .ref h22])), (h19, .inl (zI g, 4, .inl Z18)), (h20, .inl (zI g, 4, .inl Z19)), (h21, .inl (zJ g, 64, .inr (.inl Z20))), (h22, .inl (zJ g, 16, .inr (.inl Z21)))] H := hP
    have hD : va_D A [(h0, .inr (5, [.ref h1, .int f0, .ref h2, .int f1, .int f2, .ref h3, .ref h4, .ref h5, .ref h6, .int f3, .ref h7, .ref h8, .ref h9, .int f4, .ref h10, .ref h11, .ref h12, .ref h13, .ref h14, .ref h15, .ref h16, .ref h17, .ref h18, .ref h19, .ref h20, .ref h21, .ref h22])), (h19, .inl (zI g, 4, .inl Z18)), (h20, .inl (zI g, 4, .inl Z19)), (h21, .inl (zJ g, 64, .inr (.inl Z20))), (h22, .inl (zJ g, 16, .inr (.inl Z21)))] := hD
    refine lv_if_eq (tgt := 14) hx hb dX5_copy_4 (by decide) (fun _ => ?_) (fun h => absurd h (by decide +kernel))
    refine lv_iconst (v := (-1)) hx hb dX5_copy_14 (by decide) ?_
    have : ((-1) : Int32).toInt = (-1) := rfl
    have hP9 := hP.sub (ws' := [(h0, .inr (5, [.ref h1, .int f0, .ref h2, .int f1, .int f2, .ref h3, .ref h4, .ref h5, .ref h6, .int f3, .ref h7, .ref h8, .ref h9, .int f4, .ref h10, .ref h11, .ref h12, .ref h13, .ref h14, .ref h15, .ref h16, .ref h17, .ref h18, .ref h19, .ref h20, .ref h21, .ref h22])), (h19, .inl (zI g, 4, .inl Z18)), (h20, .inl (zI g, 4, .inl Z19)), (h21, .inl (zJ g, 64, .inr (.inl Z20))), (h22, .inl (zJ g, 16, .inr (.inl Z21)))]) [0, 1, 2, 3, 4] rfl
    have hD9 := hD.sub (ws' := [(h0, .inr (5, [.ref h1, .int f0, .ref h2, .int f1, .int f2, .ref h3, .ref h4, .ref h5, .ref h6, .int f3, .ref h7, .ref h8, .ref h9, .int f4, .ref h10, .ref h11, .ref h12, .ref h13, .ref h14, .ref h15, .ref h16, .ref h17, .ref h18, .ref h19, .ref h20, .ref h21, .ref h22])), (h19, .inl (zI g, 4, .inl Z18)), (h20, .inl (zI g, 4, .inl Z19)), (h21, .inl (zJ g, 64, .inr (.inl Z20))), (h22, .inl (zJ g, 16, .inr (.inl Z21)))]) [0, 1, 2, 3, 4] (by decide) rfl
    exact W.iret (v := (-1)) hx hb hr (fun t ht hW => ⟨⟨(-1), ⟨Z20, Z21⟩, rfl, ⟨(by first | omega | decide), (by first | omega | decide), (by first | omega | decide), (by first | omega | decide), (by first | omega | decide)⟩, by rw [ht]; exact hP9, hD9⟩, hS.F ht⟩) hS.2.2 dX5_copy_15
  · skip
    have i_3 : 0 ≤ p1.toInt := i_3
    have i_4 : p1.toInt ≤ 3 := i_4
    have hP : va_P g.1 vwCl [(h0, .inr (5, [.ref h1, .int f0, .ref h2, .int f1, .int f2, .ref h3, .ref h4, .ref h5, .ref h6, .int f3, .ref h7, .ref h8, .ref h9, .int f4, .ref h10, .ref h11, .ref h12, .ref h13, .ref h14, .ref h15, .ref h16, .ref h17, .ref h18, .ref h19, .ref h20, .ref h21, .ref h22])), (h19, .inl (zI g, 4, .inl Z18)), (h20, .inl (zI g, 4, .inl Z19)), (h21, .inl (zJ g, 64, .inr (.inl Z20))), (h22, .inl (zJ g, 16, .inr (.inl Z21)))] H := hP
    have hD : va_D A [(h0, .inr (5, [.ref h1, .int f0, .ref h2, .int f1, .int f2, .ref h3, .ref h4, .ref h5, .ref h6, .int f3, .ref h7, .ref h8, .ref h9, .int f4, .ref h10, .ref h11, .ref h12, .ref h13, .ref h14, .ref h15, .ref h16, .ref h17, .ref h18, .ref h19, .ref h20, .ref h21, .ref h22])), (h19, .inl (zI g, 4, .inl Z18)), (h20, .inl (zI g, 4, .inl Z19)), (h21, .inl (zJ g, 64, .inr (.inl Z20))), (h22, .inl (zJ g, 16, .inr (.inl Z21)))] := hD
    refine lv_if_eq (tgt := 14) hx hb dX5_copy_4 (by decide) (fun h => absurd h (by decide +kernel)) (fun _ => ?_)
    refine lv_iload_n hx hb dX5_copy_7 rfl (lv_at hl 3 rfl) ?_
    refine z_calli (wr := [(h0, .inr (5, [.ref h1, .int f0, .ref h2, .int f1, .int f2, .ref h3, .ref h4, .ref h5, .ref h6, .int f3, .ref h7, .ref h8, .ref h9, .int f4, .ref h10, .ref h11, .ref h12, .ref h13, .ref h14, .ref h15, .ref h16, .ref h17, .ref h18, .ref h19, .ref h20, .ref h21, .ref h22])), (h19, .inl (zI g, 4, .inl Z18)), (h20, .inl (zI g, 4, .inl Z19)), (h21, .inl (zJ g, 64, .inr (.inl Z20))), (h22, .inl (zJ g, 16, .inr (.inl Z21)))]) hP hD hS hA [] [0, 1, 2, 3, 4] (by decide) rfl rfl (by decide) (va_runS (As := [.int p3]) (rest := []) ⟨hx, hb, hml, hown, hts⟩ (gX5_isSheet l g  H.size p3) ⟨callB_of 1 hts (zGood m_o_yX5_isSheet) rfl rfl rfl (hts _ m_z_RX5) (hts _ m_m_RX5_225) ⟨by decide +kernel, by decide +kernel, by decide +kernel⟩ ⟨Nat.le_of_ble_eq_true rfl, Nat.le_of_ble_eq_true rfl⟩, hts _ m_s_yX5_isSheet⟩ (zPreS hK hN hZ hP hD hS hA [] (by decide) rfl rfl) rfl rfl hl.1 rfl (lv_room (Nat.le_of_ble_eq_true rfl)) dX5_copy_8 ⟨Nat.le_of_ble_eq_true rfl, Nat.le_of_ble_eq_true rfl⟩) (fun r u H locs hw hP hD hS => ?_)
    rcases hw with ⟨i_5, rfl⟩ | ⟨i_6, i_7, rfl⟩ | ⟨i_8, i_9, rfl⟩
    · skip
      have i_5 : p3.toInt < 0 := i_5
      have hP : va_P g.1 vwCl [(h0, .inr (5, [.ref h1, .int f0, .ref h2, .int f1, .int f2, .ref h3, .ref h4, .ref h5, .ref h6, .int f3, .ref h7, .ref h8, .ref h9, .int f4, .ref h10, .ref h11, .ref h12, .ref h13, .ref h14, .ref h15, .ref h16, .ref h17, .ref h18, .ref h19, .ref h20, .ref h21, .ref h22])), (h19, .inl (zI g, 4, .inl Z18)), (h20, .inl (zI g, 4, .inl Z19)), (h21, .inl (zJ g, 64, .inr (.inl Z20))), (h22, .inl (zJ g, 16, .inr (.inl Z21)))] H := hP
      have hD : va_D A [(h0, .inr (5, [.ref h1, .int f0, .ref h2, .int f1, .int f2, .ref h3, .ref h4, .ref h5, .ref h6, .int f3, .ref h7, .ref h8, .ref h9, .int f4, .ref h10, .ref h11, .ref h12, .ref h13, .ref h14, .ref h15, .ref h16, .ref h17, .ref h18, .ref h19, .ref h20, .ref h21, .ref h22])), (h19, .inl (zI g, 4, .inl Z18)), (h20, .inl (zI g, 4, .inl Z19)), (h21, .inl (zJ g, 64, .inr (.inl Z20))), (h22, .inl (zJ g, 16, .inr (.inl Z21)))] := hD
      refine lv_if_ne (tgt := 16) hx hb dX5_copy_11 (by decide) (fun h => absurd h (by decide +kernel)) (fun _ => ?_)
      refine lv_iconst (v := (-1)) hx hb dX5_copy_14 (by decide) ?_
      have : ((-1) : Int32).toInt = (-1) := rfl
      have hP9 := hP.sub (ws' := [(h0, .inr (5, [.ref h1, .int f0, .ref h2, .int f1, .int f2, .ref h3, .ref h4, .ref h5, .ref h6, .int f3, .ref h7, .ref h8, .ref h9, .int f4, .ref h10, .ref h11, .ref h12, .ref h13, .ref h14, .ref h15, .ref h16, .ref h17, .ref h18, .ref h19, .ref h20, .ref h21, .ref h22])), (h19, .inl (zI g, 4, .inl Z18)), (h20, .inl (zI g, 4, .inl Z19)), (h21, .inl (zJ g, 64, .inr (.inl Z20))), (h22, .inl (zJ g, 16, .inr (.inl Z21)))]) [0, 1, 2, 3, 4] rfl
      have hD9 := hD.sub (ws' := [(h0, .inr (5, [.ref h1, .int f0, .ref h2, .int f1, .int f2, .ref h3, .ref h4, .ref h5, .ref h6, .int f3, .ref h7, .ref h8, .ref h9, .int f4, .ref h10, .ref h11, .ref h12, .ref h13, .ref h14, .ref h15, .ref h16, .ref h17, .ref h18, .ref h19, .ref h20, .ref h21, .ref h22])), (h19, .inl (zI g, 4, .inl Z18)), (h20, .inl (zI g, 4, .inl Z19)), (h21, .inl (zJ g, 64, .inr (.inl Z20))), (h22, .inl (zJ g, 16, .inr (.inl Z21)))]) [0, 1, 2, 3, 4] (by decide) rfl
      exact W.iret (v := (-1)) hx hb hr (fun t ht hW => ⟨⟨(-1), ⟨Z20, Z21⟩, rfl, ⟨(by first | omega | decide), (by first | omega | decide), (by first | omega | decide), (by first | omega | decide), (by first | omega | decide)⟩, by rw [ht]; exact hP9, hD9⟩, hS.F ht⟩) hS.2.2 dX5_copy_15
    · skip
      have i_6 : 0 ≤ p3.toInt := i_6
      have i_7 : 3 < p3.toInt := i_7
      have hP : va_P g.1 vwCl [(h0, .inr (5, [.ref h1, .int f0, .ref h2, .int f1, .int f2, .ref h3, .ref h4, .ref h5, .ref h6, .int f3, .ref h7, .ref h8, .ref h9, .int f4, .ref h10, .ref h11, .ref h12, .ref h13, .ref h14, .ref h15, .ref h16, .ref h17, .ref h18, .ref h19, .ref h20, .ref h21, .ref h22])), (h19, .inl (zI g, 4, .inl Z18)), (h20, .inl (zI g, 4, .inl Z19)), (h21, .inl (zJ g, 64, .inr (.inl Z20))), (h22, .inl (zJ g, 16, .inr (.inl Z21)))] H := hP
      have hD : va_D A [(h0, .inr (5, [.ref h1, .int f0, .ref h2, .int f1, .int f2, .ref h3, .ref h4, .ref h5, .ref h6, .int f3, .ref h7, .ref h8, .ref h9, .int f4, .ref h10, .ref h11, .ref h12, .ref h13, .ref h14, .ref h15, .ref h16, .ref h17, .ref h18, .ref h19, .ref h20, .ref h21, .ref h22])), (h19, .inl (zI g, 4, .inl Z18)), (h20, .inl (zI g, 4, .inl Z19)), (h21, .inl (zJ g, 64, .inr (.inl Z20))), (h22, .inl (zJ g, 16, .inr (.inl Z21)))] := hD
      refine lv_if_ne (tgt := 16) hx hb dX5_copy_11 (by decide) (fun h => absurd h (by decide +kernel)) (fun _ => ?_)
      refine lv_iconst (v := (-1)) hx hb dX5_copy_14 (by decide) ?_
      have : ((-1) : Int32).toInt = (-1) := rfl
      have hP9 := hP.sub (ws' := [(h0, .inr (5, [.ref h1, .int f0, .ref h2, .int f1, .int f2, .ref h3, .ref h4, .ref h5, .ref h6, .int f3, .ref h7, .ref h8, .ref h9, .int f4, .ref h10, .ref h11, .ref h12, .ref h13, .ref h14, .ref h15, .ref h16, .ref h17, .ref h18, .ref h19, .ref h20, .ref h21, .ref h22])), (h19, .inl (zI g, 4, .inl Z18)), (h20, .inl (zI g, 4, .inl Z19)), (h21, .inl (zJ g, 64, .inr (.inl Z20))), (h22, .inl (zJ g, 16, .inr (.inl Z21)))]) [0, 1, 2, 3, 4] rfl
      have hD9 := hD.sub (ws' := [(h0, .inr (5, [.ref h1, .int f0, .ref h2, .int f1, .int f2, .ref h3, .ref h4, .ref h5, .ref h6, .int f3, .ref h7, .ref h8, .ref h9, .int f4, .ref h10, .ref h11, .ref h12, .ref h13, .ref h14, .ref h15, .ref h16, .ref h17, .ref h18, .ref h19, .ref h20, .ref h21, .ref h22])), (h19, .inl (zI g, 4, .inl Z18)), (h20, .inl (zI g, 4, .inl Z19)), (h21, .inl (zJ g, 64, .inr (.inl Z20))), (h22, .inl (zJ g, 16, .inr (.inl Z21)))]) [0, 1, 2, 3, 4] (by decide) rfl
      exact W.iret (v := (-1)) hx hb hr (fun t ht hW => ⟨⟨(-1), ⟨Z20, Z21⟩, rfl, ⟨(by first | omega | decide), (by first | omega | decide), (by first | omega | decide), (by first | omega | decide), (by first | omega | decide)⟩, by rw [ht]; exact hP9, hD9⟩, hS.F ht⟩) hS.2.2 dX5_copy_15
    · skip
      have i_8 : 0 ≤ p3.toInt := i_8
      have i_9 : p3.toInt ≤ 3 := i_9
      have hP : va_P g.1 vwCl [(h0, .inr (5, [.ref h1, .int f0, .ref h2, .int f1, .int f2, .ref h3, .ref h4, .ref h5, .ref h6, .int f3, .ref h7, .ref h8, .ref h9, .int f4, .ref h10, .ref h11, .ref h12, .ref h13, .ref h14, .ref h15, .ref h16, .ref h17, .ref h18, .ref h19, .ref h20, .ref h21, .ref h22])), (h19, .inl (zI g, 4, .inl Z18)), (h20, .inl (zI g, 4, .inl Z19)), (h21, .inl (zJ g, 64, .inr (.inl Z20))), (h22, .inl (zJ g, 16, .inr (.inl Z21)))] H := hP
      have hD : va_D A [(h0, .inr (5, [.ref h1, .int f0, .ref h2, .int f1, .int f2, .ref h3, .ref h4, .ref h5, .ref h6, .int f3, .ref h7, .ref h8, .ref h9, .int f4, .ref h10, .ref h11, .ref h12, .ref h13, .ref h14, .ref h15, .ref h16, .ref h17, .ref h18, .ref h19, .ref h20, .ref h21, .ref h22])), (h19, .inl (zI g, 4, .inl Z18)), (h20, .inl (zI g, 4, .inl Z19)), (h21, .inl (zJ g, 64, .inr (.inl Z20))), (h22, .inl (zJ g, 16, .inr (.inl Z21)))] := hD
      refine lv_if_ne (tgt := 16) hx hb dX5_copy_11 (by decide) (fun _ => ?_) (fun h => absurd h (by decide +kernel))
      refine lv_aload_n hx hb dX5_copy_16 rfl (lv_at hl 0 rfl) ?_
      refine va_get (D := g.1) (ci := 5) (v := .ref h19) (C := RX5) (T := TX5) (N := 27) hx hb hts zl_X5 hown hK hP 0 rfl rfl 23 (by decide) (hts _ m_f_RX5_64) (fun _ h => h) rfl dX5_copy_17 ?_
      refine lv_iload_n hx hb dX5_copy_20 rfl (lv_at hl 1 rfl) ?_
      refine va_iald (D := g.1) hx hb hK hP 1 0 rfl rfl (vp_in_iff.mpr ⟨by omega, by omega⟩) dX5_copy_21 ?_
      refine lv_topi (fun y0 ey0 => ?_)
      have qy0_0 : y0.toInt = (Z18 p1.toNatClampNeg).toInt := congrArg Int32.toInt ey0
      refine lv_if_lt (tgt := 34) hx hb dX5_copy_22 (by decide) (fun c_10 => ?_) (fun c_10 => ?_)
      · have i_10 : y0.toInt < 0 := z_lt (rfl) (rfl) c_10
        refine lv_bipush (v := (-11)) hx hb dX5_copy_34 (by decide) ?_
        have : ((-11) : Int32).toInt = (-11) := rfl
        have hP9 := hP.sub (ws' := [(h0, .inr (5, [.ref h1, .int f0, .ref h2, .int f1, .int f2, .ref h3, .ref h4, .ref h5, .ref h6, .int f3, .ref h7, .ref h8, .ref h9, .int f4, .ref h10, .ref h11, .ref h12, .ref h13, .ref h14, .ref h15, .ref h16, .ref h17, .ref h18, .ref h19, .ref h20, .ref h21, .ref h22])), (h19, .inl (zI g, 4, .inl Z18)), (h20, .inl (zI g, 4, .inl Z19)), (h21, .inl (zJ g, 64, .inr (.inl Z20))), (h22, .inl (zJ g, 16, .inr (.inl Z21)))]) [0, 1, 2, 3, 4] rfl
        have hD9 := hD.sub (ws' := [(h0, .inr (5, [.ref h1, .int f0, .ref h2, .int f1, .int f2, .ref h3, .ref h4, .ref h5, .ref h6, .int f3, .ref h7, .ref h8, .ref h9, .int f4, .ref h10, .ref h11, .ref h12, .ref h13, .ref h14, .ref h15, .ref h16, .ref h17, .ref h18, .ref h19, .ref h20, .ref h21, .ref h22])), (h19, .inl (zI g, 4, .inl Z18)), (h20, .inl (zI g, 4, .inl Z19)), (h21, .inl (zJ g, 64, .inr (.inl Z20))), (h22, .inl (zJ g, 16, .inr (.inl Z21)))]) [0, 1, 2, 3, 4] (by decide) rfl
        exact W.iret (v := (-11)) hx hb hr (fun t ht hW => ⟨⟨(-11), ⟨Z20, Z21⟩, rfl, ⟨(by first | omega | decide), (by first | omega | decide), (by first | omega | decide), (by first | omega | decide), (by first | omega | decide)⟩, by rw [ht]; exact hP9, hD9⟩, hS.F ht⟩) hS.2.2 dX5_copy_36
      · have i_10 : 0 ≤ y0.toInt := z_nlt (rfl) (rfl) c_10
        refine lv_aload_n hx hb dX5_copy_25 rfl (lv_at hl 0 rfl) ?_
        refine va_get (D := g.1) (ci := 5) (v := .ref h19) (C := RX5) (T := TX5) (N := 27) hx hb hts zl_X5 hown hK hP 0 rfl rfl 23 (by decide) (hts _ m_f_RX5_64) (fun _ h => h) rfl dX5_copy_26 ?_
        refine lv_iload_n hx hb dX5_copy_29 rfl (lv_at hl 3 rfl) ?_
        refine va_iald (D := g.1) hx hb hK hP 1 0 rfl rfl (vp_in_iff.mpr ⟨by omega, by omega⟩) dX5_copy_30 ?_
        refine lv_topi (fun y1 ey1 => ?_)
        have qy1_0 : y1.toInt = (Z18 p3.toNatClampNeg).toInt := congrArg Int32.toInt ey1
        refine lv_if_ge (tgt := 37) hx hb dX5_copy_31 (by decide) (fun c_11 => ?_) (fun c_11 => ?_)
        · have i_11 : 0 ≤ y1.toInt := z_le (rfl) (rfl) c_11
          refine lv_aload_n hx hb dX5_copy_37 rfl (lv_at hl 0 rfl) ?_
          refine lv_iload_n hx hb dX5_copy_38 rfl (lv_at hl 1 rfl) ?_
          refine lv_aload_n hx hb dX5_copy_39 rfl (lv_at hl 0 rfl) ?_
          refine va_get (D := g.1) (ci := 5) (v := .ref h19) (C := RX5) (T := TX5) (N := 27) hx hb hts zl_X5 hown hK hP 0 rfl rfl 23 (by decide) (hts _ m_f_RX5_64) (fun _ h => h) rfl dX5_copy_40 ?_
          refine lv_iload_n hx hb dX5_copy_43 rfl (lv_at hl 3 rfl) ?_
          refine va_iald (D := g.1) hx hb hK hP 1 0 rfl rfl (vp_in_iff.mpr ⟨by omega, by omega⟩) dX5_copy_44 ?_
          refine lv_topi (fun y2 ey2 => ?_)
          have qy2_0 : y2.toInt = (Z18 p3.toNatClampNeg).toInt := congrArg Int32.toInt ey2
          refine lv_iload_n hx hb dX5_copy_45 rfl (lv_at hl 2 rfl) ?_
          refine lv_iload hx hb dX5_copy_46 (lv_at hl 5 rfl) ?_
          refine z_calli (wr := [(h21, .inl (zJ g, 64, .inr (.inl Z20))), (h22, .inl (zJ g, 16, .inr (.inl Z21)))]) hP hD hS hA [0, 1, 2] [3, 4] (by decide) rfl rfl (by decide) (va_runV (As := [.int p1, .int y2, .int p2, .int p5]) (rest := []) ⟨hx, hb, hml, hown, hts⟩ (gX5_bars l g h0 h1 h2 h3 h4 h5 h6 h7 h8 h9 h10 h11 h12 h13 h14 h15 h16 h17 h18 h19 h20 h21 h22 H.size p1 y2 p2 p5 f0 f1 f2 f3 f4 Z18 Z19 (by omega) (by omega) (by constructor <;> omega) (by constructor <;> omega) (by constructor <;> omega) (by constructor <;> omega) hF_Z19) ⟨callB_of 4 hts (zGood m_o_yX5_bars) rfl rfl rfl (hts _ m_z_RX5) (hts _ m_m_RX5_228) ⟨by decide +kernel, by decide +kernel, by decide +kernel⟩ ⟨Nat.le_of_ble_eq_true rfl, Nat.le_of_ble_eq_true rfl⟩, hts _ m_i_yX5_bars, hts _ m_e_yX5_bars⟩ (zPreV hK hN hZ hP hD hS hA [0, 1, 2] (by decide) rfl rfl 5 0 rfl rfl) rfl rfl hl.1 rfl (lv_room (Nat.le_of_ble_eq_true rfl)) dX5_copy_48 ⟨Nat.le_of_ble_eq_true rfl, Nat.le_of_ble_eq_true rfl⟩) (fun r u H locs hw hP hD hS => ?_)
          obtain ⟨y3, rfl⟩ : ∃ z, z = r := ⟨_, rfl⟩
          rcases hw with ⟨i_12, i_13, i_14, i_15, i_16, i_17, i_18, i_19, i_20, i_21, rfl⟩ | ⟨i_22, i_23, i_24, i_25, i_26⟩
          · skip
            have i_12 : 0 ≤ p1.toInt := i_12
            have i_13 : p1.toInt ≤ 3 := i_13
            have i_14 : 0 ≤ p5.toInt := i_14
            have i_15 : p5.toInt ≤ 16 := i_15
            have i_16 : 0 ≤ p2.toInt := i_16
            have i_17 : p2.toInt ≤ 16 := i_17
            have i_18 : p2.toInt + p5.toInt ≤ 16 := i_18
            have i_19 : 0 ≤ (Z18 p1.toNatClampNeg).toInt := i_19
            have i_20 : (Z18 p1.toNatClampNeg).toInt = y2.toInt := i_20
            have i_21 : p2.toInt + p5.toInt ≤ (Z19 p1.toNatClampNeg).toInt := i_21
            have hP : va_P g.1 vwCl [(h21, .inl (zJ g, 64, .inr (.inl Z20))), (h22, .inl (zJ g, 16, .inr (.inl Z21))), (h0, .inr (5, [.ref h1, .int f0, .ref h2, .int f1, .int f2, .ref h3, .ref h4, .ref h5, .ref h6, .int f3, .ref h7, .ref h8, .ref h9, .int f4, .ref h10, .ref h11, .ref h12, .ref h13, .ref h14, .ref h15, .ref h16, .ref h17, .ref h18, .ref h19, .ref h20, .ref h21, .ref h22])), (h19, .inl (zI g, 4, .inl Z18)), (h20, .inl (zI g, 4, .inl Z19))] H := hP
            have hD : va_D A [(h21, .inl (zJ g, 64, .inr (.inl Z20))), (h22, .inl (zJ g, 16, .inr (.inl Z21))), (h0, .inr (5, [.ref h1, .int f0, .ref h2, .int f1, .int f2, .ref h3, .ref h4, .ref h5, .ref h6, .int f3, .ref h7, .ref h8, .ref h9, .int f4, .ref h10, .ref h11, .ref h12, .ref h13, .ref h14, .ref h15, .ref h16, .ref h17, .ref h18, .ref h19, .ref h20, .ref h21, .ref h22])), (h19, .inl (zI g, 4, .inl Z18)), (h20, .inl (zI g, 4, .inl Z19))] := hD
            refine lv_istore (lv' := [(6, .int 0), (0, .ref h0), (1, .int p1), (2, .int p2), (3, .int p3), (4, .int p4), (5, .int p5)]) hx hb dX5_copy_51 hl (by decide) rfl (fun ls hl => ?_)
            refine lv_iload hx hb dX5_copy_53 (lv_at hl 0 rfl) ?_
            refine lv_if_ne (tgt := 76) hx hb dX5_copy_55 (by decide) (fun h => absurd h (by decide +kernel)) (fun _ => ?_)
            refine lv_aload_n hx hb dX5_copy_58 rfl (lv_at hl 1 rfl) ?_
            refine lv_iload_n hx hb dX5_copy_59 rfl (lv_at hl 4 rfl) ?_
            refine lv_aload_n hx hb dX5_copy_60 rfl (lv_at hl 1 rfl) ?_
            refine va_get (D := g.1) (ci := 5) (v := .ref h19) (C := RX5) (T := TX5) (N := 27) hx hb hts zl_X5 hown hK hP 2 rfl rfl 23 (by decide) (hts _ m_f_RX5_64) (fun _ h => h) rfl dX5_copy_61 ?_
            refine lv_iload_n hx hb dX5_copy_64 rfl (lv_at hl 2 rfl) ?_
            refine va_iald (D := g.1) hx hb hK hP 3 0 rfl rfl (vp_in_iff.mpr ⟨by omega, by omega⟩) dX5_copy_65 ?_
            refine lv_topi (fun y4 ey4 => ?_)
            have qy4_0 : y4.toInt = (Z18 p1.toNatClampNeg).toInt := congrArg Int32.toInt ey4
            refine lv_iload hx hb dX5_copy_66 (lv_at hl 5 rfl) ?_
            refine lv_iload hx hb dX5_copy_68 (lv_at hl 6 rfl) ?_
            refine z_calli (wr := [(h21, .inl (zJ g, 64, .inr (.inl Z20))), (h22, .inl (zJ g, 16, .inr (.inl Z21)))]) hP hD hS hA [2, 3, 4] [0, 1] (by decide) rfl rfl (by decide) (va_runV (As := [.int p3, .int y4, .int p4, .int p5]) (rest := []) ⟨hx, hb, hml, hown, hts⟩ (gX5_bars l g h0 h1 h2 h3 h4 h5 h6 h7 h8 h9 h10 h11 h12 h13 h14 h15 h16 h17 h18 h19 h20 h21 h22 H.size p3 y4 p4 p5 f0 f1 f2 f3 f4 Z18 Z19 (by omega) (by omega) (by constructor <;> omega) (by constructor <;> omega) (by constructor <;> omega) (by constructor <;> omega) hF_Z19) ⟨callB_of 4 hts (zGood m_o_yX5_bars) rfl rfl rfl (hts _ m_z_RX5) (hts _ m_m_RX5_228) ⟨by decide +kernel, by decide +kernel, by decide +kernel⟩ ⟨Nat.le_of_ble_eq_true rfl, Nat.le_of_ble_eq_true rfl⟩, hts _ m_i_yX5_bars, hts _ m_e_yX5_bars⟩ (zPreV hK hN hZ hP hD hS hA [2, 3, 4] (by decide) rfl rfl 5 2 rfl rfl) rfl rfl hl.1 rfl (lv_room (Nat.le_of_ble_eq_true rfl)) dX5_copy_70 ⟨Nat.le_of_ble_eq_true rfl, Nat.le_of_ble_eq_true rfl⟩) (fun r u H locs hw hP hD hS => ?_)
            obtain ⟨y5, rfl⟩ : ∃ z, z = r := ⟨_, rfl⟩
            rcases hw with ⟨i_27, i_28, i_29, i_30, i_31, i_32, i_33, i_34, i_35, i_36, rfl⟩ | ⟨i_37, i_38, i_39, i_40, i_41⟩
            · skip
              have i_27 : 0 ≤ p3.toInt := i_27
              have i_28 : p3.toInt ≤ 3 := i_28
              have i_29 : 0 ≤ p5.toInt := i_29
              have i_30 : p5.toInt ≤ 16 := i_30
              have i_31 : 0 ≤ p4.toInt := i_31
              have i_32 : p4.toInt ≤ 16 := i_32
              have i_33 : p4.toInt + p5.toInt ≤ 16 := i_33
              have i_34 : 0 ≤ (Z18 p3.toNatClampNeg).toInt := i_34
              have i_35 : (Z18 p3.toNatClampNeg).toInt = y4.toInt := i_35
              have i_36 : p4.toInt + p5.toInt ≤ (Z19 p3.toNatClampNeg).toInt := i_36
              have hP : va_P g.1 vwCl [(h21, .inl (zJ g, 64, .inr (.inl Z20))), (h22, .inl (zJ g, 16, .inr (.inl Z21))), (h0, .inr (5, [.ref h1, .int f0, .ref h2, .int f1, .int f2, .ref h3, .ref h4, .ref h5, .ref h6, .int f3, .ref h7, .ref h8, .ref h9, .int f4, .ref h10, .ref h11, .ref h12, .ref h13, .ref h14, .ref h15, .ref h16, .ref h17, .ref h18, .ref h19, .ref h20, .ref h21, .ref h22])), (h19, .inl (zI g, 4, .inl Z18)), (h20, .inl (zI g, 4, .inl Z19))] H := hP
              have hD : va_D A [(h21, .inl (zJ g, 64, .inr (.inl Z20))), (h22, .inl (zJ g, 16, .inr (.inl Z21))), (h0, .inr (5, [.ref h1, .int f0, .ref h2, .int f1, .int f2, .ref h3, .ref h4, .ref h5, .ref h6, .int f3, .ref h7, .ref h8, .ref h9, .int f4, .ref h10, .ref h11, .ref h12, .ref h13, .ref h14, .ref h15, .ref h16, .ref h17, .ref h18, .ref h19, .ref h20, .ref h21, .ref h22])), (h19, .inl (zI g, 4, .inl Z18)), (h20, .inl (zI g, 4, .inl Z19))] := hD
              refine lv_goto (tgt := 78) hx hb dX5_copy_73 (by decide) ?_
              refine lv_istore (lv' := [(6, .int 0), (0, .ref h0), (1, .int p1), (2, .int p2), (3, .int p3), (4, .int p4), (5, .int p5)]) hx hb dX5_copy_78 hl (by decide) rfl (fun ls hl => ?_)
              refine lv_iload hx hb dX5_copy_80 (lv_at hl 0 rfl) ?_
              refine lv_if_eq (tgt := 88) hx hb dX5_copy_82 (by decide) (fun _ => ?_) (fun h => absurd h (by decide +kernel))
              refine lv_iconst (v := 0) hx hb dX5_copy_88 (by decide) ?_
              refine lv_istore (lv' := [(7, .int 0), (6, .int 0), (0, .ref h0), (1, .int p1), (2, .int p2), (3, .int p3), (4, .int p4), (5, .int p5)]) hx hb dX5_copy_89 hl (by decide) rfl (fun ls hl => ?_)
              have loop91_42 : ∀ (n43 : Nat) (v7_42 : Int32) (G0_42 : Nat → Int64) (n43_0 : 0 ≤ v7_42.toInt) (n43_1 : v7_42.toInt ≤ p5.toInt) (hm43 : p5.toInt - v7_42.toInt < (n43 : Int)) (H : Heap) (locs : List Loc), va_P g.1 vwCl [(h21, .inl (zJ g, 64, .inr (.inl Z20))), (h22, .inl (zJ g, 16, .inr (.inl G0_42))), (h0, .inr (5, [.ref h1, .int f0, .ref h2, .int f1, .int f2, .ref h3, .ref h4, .ref h5, .ref h6, .int f3, .ref h7, .ref h8, .ref h9, .int f4, .ref h10, .ref h11, .ref h12, .ref h13, .ref h14, .ref h15, .ref h16, .ref h17, .ref h18, .ref h19, .ref h20, .ref h21, .ref h22])), (h19, .inl (zI g, 4, .inl Z18)), (h20, .inl (zI g, 4, .inl Z19))] H → va_D A [(h21, .inl (zJ g, 64, .inr (.inl Z20))), (h22, .inl (zJ g, 16, .inr (.inl G0_42))), (h0, .inr (5, [.ref h1, .int f0, .ref h2, .int f1, .int f2, .ref h3, .ref h4, .ref h5, .ref h6, .int f3, .ref h7, .ref h8, .ref h9, .int f4, .ref h10, .ref h11, .ref h12, .ref h13, .ref h14, .ref h15, .ref h16, .ref h17, .ref h18, .ref h19, .ref h20, .ref h21, .ref h22])), (h19, .inl (zI g, 4, .inl Z18)), (h20, .inl (zI g, 4, .inl Z19))] → va_S A s.heap H locs → ∀ (ls : Array Slot), lv_has ls 8 [(0, .ref h0), (1, .int p1), (2, .int p2), (3, .int p3), (4, .int p4), (5, .int p5), (6, .int 0), (7, .int v7_42)] → W p l e ({ frames := 2, cells := 0, slots := 0, locals := 45 }) s m args below meth c H locs 0 0 (MQ below (va_Qi (fun (r : Int32) (u : (Nat → Int64) × (Nat → Int64)) => (p1.toInt < 0 ∨ 3 < p1.toInt ∨ p3.toInt < 0 ∨ 3 < p3.toInt → r.toInt = -1) ∧ (0 ≤ p1.toInt → p1.toInt ≤ 3 → 0 ≤ p3.toInt → p3.toInt ≤ 3 → ((Z18 p1.toNatClampNeg).toInt < 0 ∨ (Z18 p3.toNatClampNeg).toInt < 0) → r.toInt = -11) ∧ (0 ≤ p1.toInt → p1.toInt ≤ 3 → 0 ≤ p3.toInt → p3.toInt ≤ 3 → 0 ≤ (Z18 p1.toNatClampNeg).toInt → 0 ≤ (Z18 p3.toNatClampNeg).toInt → (Z18 p1.toNatClampNeg).toInt ≠ (Z18 p3.toNatClampNeg).toInt → r.toInt = -12) ∧ (0 ≤ p1.toInt → p1.toInt ≤ 3 → 0 ≤ p3.toInt → p3.toInt ≤ 3 → 0 ≤ (Z18 p1.toNatClampNeg).toInt → (Z18 p1.toNatClampNeg).toInt = (Z18 p3.toNatClampNeg).toInt → (p5.toInt < 0 ∨ p2.toInt < 0 ∨ (Z19 p1.toNatClampNeg).toInt < p2.toInt + p5.toInt ∨ p4.toInt < 0 ∨ (Z19 p3.toNatClampNeg).toInt < p4.toInt + p5.toInt) → r.toInt = -13) ∧ (0 ≤ p1.toInt → p1.toInt ≤ 3 → 0 ≤ p3.toInt → p3.toInt ≤ 3 → 0 ≤ (Z18 p1.toNatClampNeg).toInt → (Z18 p1.toNatClampNeg).toInt = (Z18 p3.toNatClampNeg).toInt → 0 ≤ p5.toInt → 0 ≤ p2.toInt → p2.toInt + p5.toInt ≤ (Z19 p1.toNatClampNeg).toInt → 0 ≤ p4.toInt → p4.toInt + p5.toInt ≤ (Z19 p3.toNatClampNeg).toInt → r.toInt = p5.toInt)) (zPost g (fun u : (Nat → Int64) × (Nat → Int64) => [(h0, .inr (5, [.ref h1, .int f0, .ref h2, .int f1, .int f2, .ref h3, .ref h4, .ref h5, .ref h6, .int f3, .ref h7, .ref h8, .ref h9, .int f4, .ref h10, .ref h11, .ref h12, .ref h13, .ref h14, .ref h15, .ref h16, .ref h17, .ref h18, .ref h19, .ref h20, .ref h21, .ref h22])), (h19, .inl (zI g, 4, .inl Z18)), (h20, .inl (zI g, 4, .inl Z19)), (h21, .inl (zJ g, 64, .inr (.inl u.1))), (h22, .inl (zJ g, 16, .inr (.inl u.2)))]) A) A) args s 0 0 A) (F0 m 91 ls []) := by
                intro n43
                induction n43 with
                | zero => intro v7_42 G0_42 n43_0 n43_1 hm43; exfalso; omega
                | succ n43 ih43 =>
                  intro v7_42 G0_42 n43_0 n43_1 hm43 H locs hP hD hS ls hl
                  refine lv_iload hx hb dX5_copy_91 (lv_at hl 7 rfl) ?_
                  refine lv_iload hx hb dX5_copy_93 (lv_at hl 5 rfl) ?_
                  refine lv_icmp_ge (tgt := 125) hx hb dX5_copy_95 (by decide) (fun c_43 => ?_) (fun c_43 => ?_)
                  · have i_43 : p5.toInt ≤ v7_42.toInt := z_le (rfl) (rfl) c_43
                    refine lv_iconst (v := 0) hx hb dX5_copy_125 (by decide) ?_
                    refine lv_istore (lv' := [(7, .int 0), (0, .ref h0), (1, .int p1), (2, .int p2), (3, .int p3), (4, .int p4), (5, .int p5), (6, .int 0)]) hx hb dX5_copy_126 hl (by decide) rfl (fun ls hl => ?_)
                    have loop128_44 : ∀ (n45 : Nat) (v7_44 : Int32) (G0_44 : Nat → Int64) (n45_0 : 0 ≤ v7_44.toInt) (n45_1 : v7_44.toInt ≤ p5.toInt) (hm45 : p5.toInt - v7_44.toInt < (n45 : Int)) (H : Heap) (locs : List Loc), va_P g.1 vwCl [(h21, .inl (zJ g, 64, .inr (.inl G0_44))), (h22, .inl (zJ g, 16, .inr (.inl G0_42))), (h0, .inr (5, [.ref h1, .int f0, .ref h2, .int f1, .int f2, .ref h3, .ref h4, .ref h5, .ref h6, .int f3, .ref h7, .ref h8, .ref h9, .int f4, .ref h10, .ref h11, .ref h12, .ref h13, .ref h14, .ref h15, .ref h16, .ref h17, .ref h18, .ref h19, .ref h20, .ref h21, .ref h22])), (h19, .inl (zI g, 4, .inl Z18)), (h20, .inl (zI g, 4, .inl Z19))] H → va_D A [(h21, .inl (zJ g, 64, .inr (.inl G0_44))), (h22, .inl (zJ g, 16, .inr (.inl G0_42))), (h0, .inr (5, [.ref h1, .int f0, .ref h2, .int f1, .int f2, .ref h3, .ref h4, .ref h5, .ref h6, .int f3, .ref h7, .ref h8, .ref h9, .int f4, .ref h10, .ref h11, .ref h12, .ref h13, .ref h14, .ref h15, .ref h16, .ref h17, .ref h18, .ref h19, .ref h20, .ref h21, .ref h22])), (h19, .inl (zI g, 4, .inl Z18)), (h20, .inl (zI g, 4, .inl Z19))] → va_S A s.heap H locs → ∀ (ls : Array Slot), lv_has ls 8 [(0, .ref h0), (1, .int p1), (2, .int p2), (3, .int p3), (4, .int p4), (5, .int p5), (6, .int 0), (7, .int v7_44)] → W p l e ({ frames := 2, cells := 0, slots := 0, locals := 45 }) s m args below meth c H locs 0 0 (MQ below (va_Qi (fun (r : Int32) (u : (Nat → Int64) × (Nat → Int64)) => (p1.toInt < 0 ∨ 3 < p1.toInt ∨ p3.toInt < 0 ∨ 3 < p3.toInt → r.toInt = -1) ∧ (0 ≤ p1.toInt → p1.toInt ≤ 3 → 0 ≤ p3.toInt → p3.toInt ≤ 3 → ((Z18 p1.toNatClampNeg).toInt < 0 ∨ (Z18 p3.toNatClampNeg).toInt < 0) → r.toInt = -11) ∧ (0 ≤ p1.toInt → p1.toInt ≤ 3 → 0 ≤ p3.toInt → p3.toInt ≤ 3 → 0 ≤ (Z18 p1.toNatClampNeg).toInt → 0 ≤ (Z18 p3.toNatClampNeg).toInt → (Z18 p1.toNatClampNeg).toInt ≠ (Z18 p3.toNatClampNeg).toInt → r.toInt = -12) ∧ (0 ≤ p1.toInt → p1.toInt ≤ 3 → 0 ≤ p3.toInt → p3.toInt ≤ 3 → 0 ≤ (Z18 p1.toNatClampNeg).toInt → (Z18 p1.toNatClampNeg).toInt = (Z18 p3.toNatClampNeg).toInt → (p5.toInt < 0 ∨ p2.toInt < 0 ∨ (Z19 p1.toNatClampNeg).toInt < p2.toInt + p5.toInt ∨ p4.toInt < 0 ∨ (Z19 p3.toNatClampNeg).toInt < p4.toInt + p5.toInt) → r.toInt = -13) ∧ (0 ≤ p1.toInt → p1.toInt ≤ 3 → 0 ≤ p3.toInt → p3.toInt ≤ 3 → 0 ≤ (Z18 p1.toNatClampNeg).toInt → (Z18 p1.toNatClampNeg).toInt = (Z18 p3.toNatClampNeg).toInt → 0 ≤ p5.toInt → 0 ≤ p2.toInt → p2.toInt + p5.toInt ≤ (Z19 p1.toNatClampNeg).toInt → 0 ≤ p4.toInt → p4.toInt + p5.toInt ≤ (Z19 p3.toNatClampNeg).toInt → r.toInt = p5.toInt)) (zPost g (fun u : (Nat → Int64) × (Nat → Int64) => [(h0, .inr (5, [.ref h1, .int f0, .ref h2, .int f1, .int f2, .ref h3, .ref h4, .ref h5, .ref h6, .int f3, .ref h7, .ref h8, .ref h9, .int f4, .ref h10, .ref h11, .ref h12, .ref h13, .ref h14, .ref h15, .ref h16, .ref h17, .ref h18, .ref h19, .ref h20, .ref h21, .ref h22])), (h19, .inl (zI g, 4, .inl Z18)), (h20, .inl (zI g, 4, .inl Z19)), (h21, .inl (zJ g, 64, .inr (.inl u.1))), (h22, .inl (zJ g, 16, .inr (.inl u.2)))]) A) A) args s 0 0 A) (F0 m 128 ls []) := by
                      intro n45
                      induction n45 with
                      | zero => intro v7_44 G0_44 n45_0 n45_1 hm45; exfalso; omega
                      | succ n45 ih45 =>
                        intro v7_44 G0_44 n45_0 n45_1 hm45 H locs hP hD hS ls hl
                        refine lv_iload hx hb dX5_copy_128 (lv_at hl 7 rfl) ?_
                        refine lv_iload hx hb dX5_copy_130 (lv_at hl 5 rfl) ?_
                        refine lv_icmp_ge (tgt := 163) hx hb dX5_copy_132 (by decide) (fun c_45 => ?_) (fun c_45 => ?_)
                        · have i_45 : p5.toInt ≤ v7_44.toInt := z_le (rfl) (rfl) c_45
                          refine lv_iload hx hb dX5_copy_163 (lv_at hl 5 rfl) ?_
                          have hP9 := hP.sub (ws' := [(h0, .inr (5, [.ref h1, .int f0, .ref h2, .int f1, .int f2, .ref h3, .ref h4, .ref h5, .ref h6, .int f3, .ref h7, .ref h8, .ref h9, .int f4, .ref h10, .ref h11, .ref h12, .ref h13, .ref h14, .ref h15, .ref h16, .ref h17, .ref h18, .ref h19, .ref h20, .ref h21, .ref h22])), (h19, .inl (zI g, 4, .inl Z18)), (h20, .inl (zI g, 4, .inl Z19)), (h21, .inl (zJ g, 64, .inr (.inl G0_44))), (h22, .inl (zJ g, 16, .inr (.inl G0_42)))]) [2, 3, 4, 0, 1] rfl
                          have hD9 := hD.sub (ws' := [(h0, .inr (5, [.ref h1, .int f0, .ref h2, .int f1, .int f2, .ref h3, .ref h4, .ref h5, .ref h6, .int f3, .ref h7, .ref h8, .ref h9, .int f4, .ref h10, .ref h11, .ref h12, .ref h13, .ref h14, .ref h15, .ref h16, .ref h17, .ref h18, .ref h19, .ref h20, .ref h21, .ref h22])), (h19, .inl (zI g, 4, .inl Z18)), (h20, .inl (zI g, 4, .inl Z19)), (h21, .inl (zJ g, 64, .inr (.inl G0_44))), (h22, .inl (zJ g, 16, .inr (.inl G0_42)))]) [2, 3, 4, 0, 1] (by decide) rfl
                          exact W.iret (v := p5) hx hb hr (fun t ht hW => ⟨⟨p5, ⟨G0_44, G0_42⟩, rfl, ⟨(by first | omega | decide), (by first | omega | decide), (by first | omega | decide), (by first | omega | decide), (by first | omega | decide)⟩, by rw [ht]; exact hP9, hD9⟩, hS.F ht⟩) hS.2.2 dX5_copy_165
                        · have i_45 : v7_44.toInt < p5.toInt := z_nle (rfl) (rfl) c_45
                          refine lv_aload_n hx hb dX5_copy_135 rfl (lv_at hl 0 rfl) ?_
                          refine va_get (D := g.1) (ci := 5) (v := .ref h21) (C := RX5) (T := TX5) (N := 27) hx hb hts zl_X5 hown hK hP 2 rfl rfl 25 (by decide) (hts _ m_f_RX5_70) (fun _ h => h) rfl dX5_copy_136 ?_
                          refine lv_bipush (v := 16) hx hb dX5_copy_139 (by decide) ?_
                          refine lv_iload_n hx hb dX5_copy_141 rfl (lv_at hl 3 rfl) ?_
                          refine lv_imul hx hb dX5_copy_142 ?_
                          refine lv_topi (fun y6 ey6 => ?_)
                          have qy6_0 : y6.toInt = 16 * p3.toInt := zi_mul ey6 (rfl) (rfl) (by omega) (by omega)
                          refine lv_iload hx hb dX5_copy_143 (lv_at hl 4 rfl) ?_
                          refine lv_iadd hx hb dX5_copy_145 ?_
                          refine lv_topi (fun y7 ey7 => ?_)
                          have qy7_0 : y7.toInt = y6.toInt + p4.toInt := zi_add ey7 (rfl) (rfl) (by omega) (by omega)
                          refine lv_iload hx hb dX5_copy_146 (lv_at hl 7 rfl) ?_
                          refine lv_iadd hx hb dX5_copy_148 ?_
                          refine lv_topi (fun y8 ey8 => ?_)
                          have qy8_0 : y8.toInt = y7.toInt + v7_44.toInt := zi_add ey8 (rfl) (rfl) (by omega) (by omega)
                          refine lv_aload_n hx hb dX5_copy_149 rfl (lv_at hl 0 rfl) ?_
                          refine va_get (D := g.1) (ci := 5) (v := .ref h22) (C := RX5) (T := TX5) (N := 27) hx hb hts zl_X5 hown hK hP 2 rfl rfl 26 (by decide) (hts _ m_f_RX5_74) (fun _ h => h) rfl dX5_copy_150 ?_
                          refine lv_iload hx hb dX5_copy_153 (lv_at hl 7 rfl) ?_
                          refine va_lald (D := g.1) hx hb hK hP 1 1 rfl rfl (vp_in_iff.mpr ⟨by omega, by omega⟩) dX5_copy_155 ?_
                          refine lv_topl (fun y9 ey9 => ?_)
                          refine va_last (D := g.1) hx hb hK hP hD hS 0 1 rfl rfl (vp_in_iff.mpr ⟨by omega, by omega⟩) dX5_copy_156 (fun H locs hP hD hS => ?_)
                          have hP : va_P g.1 vwCl [(h21, .inl (zJ g, 64, .inr (.inl (vp_updL G0_44 y8.toNatClampNeg y9)))), (h22, .inl (zJ g, 16, .inr (.inl G0_42))), (h0, .inr (5, [.ref h1, .int f0, .ref h2, .int f1, .int f2, .ref h3, .ref h4, .ref h5, .ref h6, .int f3, .ref h7, .ref h8, .ref h9, .int f4, .ref h10, .ref h11, .ref h12, .ref h13, .ref h14, .ref h15, .ref h16, .ref h17, .ref h18, .ref h19, .ref h20, .ref h21, .ref h22])), (h19, .inl (zI g, 4, .inl Z18)), (h20, .inl (zI g, 4, .inl Z19))] H := hP
                          have hD : va_D A [(h21, .inl (zJ g, 64, .inr (.inl (vp_updL G0_44 y8.toNatClampNeg y9)))), (h22, .inl (zJ g, 16, .inr (.inl G0_42))), (h0, .inr (5, [.ref h1, .int f0, .ref h2, .int f1, .int f2, .ref h3, .ref h4, .ref h5, .ref h6, .int f3, .ref h7, .ref h8, .ref h9, .int f4, .ref h10, .ref h11, .ref h12, .ref h13, .ref h14, .ref h15, .ref h16, .ref h17, .ref h18, .ref h19, .ref h20, .ref h21, .ref h22])), (h19, .inl (zI g, 4, .inl Z18)), (h20, .inl (zI g, 4, .inl Z19))] := hD
                          obtain ⟨R10, eR10⟩ : ∃ z : Nat → Int64, z = (vp_updL G0_44 y8.toNatClampNeg y9) := ⟨_, rfl⟩
                          rw [← eR10] at hP hD
                          obtain ⟨y11, ey11⟩ : ∃ z : Int32, z = v7_44 + 1 := ⟨_, rfl⟩
                          have qy11 : y11.toInt = v7_44.toInt + 1 := zi_add ey11 (rfl) rfl (by omega) (by omega)
                          refine lv_iinc (v := y11) (lv' := [(7, .int y11), (0, .ref h0), (1, .int p1), (2, .int p2), (3, .int p3), (4, .int p4), (5, .int p5), (6, .int 0)]) hx hb dX5_copy_157 hl (k := 7) rfl ey11.symm (by decide) rfl (fun ls hl => ?_)
                          refine lv_goto (tgt := 128) hx hb dX5_copy_160 (by decide) ?_
                          exact ih45 y11 R10 (by omega) (by omega) (by omega) _ _ hP hD hS ls (lv_sub hl [1, 2, 3, 4, 5, 6, 7, 0] rfl)
                    have : (0 : Int32).toInt = 0 := rfl
                    exact loop128_44 ((p5.toInt - 0 : Int).toNat + 1) (0 : Int32) Z20 (by omega) (by omega) (by omega) _ _ hP hD hS ls (lv_sub hl [1, 2, 3, 4, 5, 6, 7, 0] rfl)
                  · have i_43 : v7_42.toInt < p5.toInt := z_nle (rfl) (rfl) c_43
                    refine lv_aload_n hx hb dX5_copy_98 rfl (lv_at hl 0 rfl) ?_
                    refine va_get (D := g.1) (ci := 5) (v := .ref h22) (C := RX5) (T := TX5) (N := 27) hx hb hts zl_X5 hown hK hP 2 rfl rfl 26 (by decide) (hts _ m_f_RX5_74) (fun _ h => h) rfl dX5_copy_99 ?_
                    refine lv_iload hx hb dX5_copy_102 (lv_at hl 7 rfl) ?_
                    refine lv_aload_n hx hb dX5_copy_104 rfl (lv_at hl 0 rfl) ?_
                    refine va_get (D := g.1) (ci := 5) (v := .ref h21) (C := RX5) (T := TX5) (N := 27) hx hb hts zl_X5 hown hK hP 2 rfl rfl 25 (by decide) (hts _ m_f_RX5_70) (fun _ h => h) rfl dX5_copy_105 ?_
                    refine lv_bipush (v := 16) hx hb dX5_copy_108 (by decide) ?_
                    refine lv_iload_n hx hb dX5_copy_110 rfl (lv_at hl 1 rfl) ?_
                    refine lv_imul hx hb dX5_copy_111 ?_
                    refine lv_topi (fun y12 ey12 => ?_)
                    have qy12_0 : y12.toInt = 16 * p1.toInt := zi_mul ey12 (rfl) (rfl) (by omega) (by omega)
                    refine lv_iload_n hx hb dX5_copy_112 rfl (lv_at hl 2 rfl) ?_
                    refine lv_iadd hx hb dX5_copy_113 ?_
                    refine lv_topi (fun y13 ey13 => ?_)
                    have qy13_0 : y13.toInt = y12.toInt + p2.toInt := zi_add ey13 (rfl) (rfl) (by omega) (by omega)
                    refine lv_iload hx hb dX5_copy_114 (lv_at hl 7 rfl) ?_
                    refine lv_iadd hx hb dX5_copy_116 ?_
                    refine lv_topi (fun y14 ey14 => ?_)
                    have qy14_0 : y14.toInt = y13.toInt + v7_42.toInt := zi_add ey14 (rfl) (rfl) (by omega) (by omega)
                    refine va_lald (D := g.1) hx hb hK hP 0 1 rfl rfl (vp_in_iff.mpr ⟨by omega, by omega⟩) dX5_copy_117 ?_
                    refine lv_topl (fun y15 ey15 => ?_)
                    refine va_last (D := g.1) hx hb hK hP hD hS 1 1 rfl rfl (vp_in_iff.mpr ⟨by omega, by omega⟩) dX5_copy_118 (fun H locs hP hD hS => ?_)
                    have hP : va_P g.1 vwCl [(h21, .inl (zJ g, 64, .inr (.inl Z20))), (h22, .inl (zJ g, 16, .inr (.inl (vp_updL G0_42 v7_42.toNatClampNeg y15)))), (h0, .inr (5, [.ref h1, .int f0, .ref h2, .int f1, .int f2, .ref h3, .ref h4, .ref h5, .ref h6, .int f3, .ref h7, .ref h8, .ref h9, .int f4, .ref h10, .ref h11, .ref h12, .ref h13, .ref h14, .ref h15, .ref h16, .ref h17, .ref h18, .ref h19, .ref h20, .ref h21, .ref h22])), (h19, .inl (zI g, 4, .inl Z18)), (h20, .inl (zI g, 4, .inl Z19))] H := hP
                    have hD : va_D A [(h21, .inl (zJ g, 64, .inr (.inl Z20))), (h22, .inl (zJ g, 16, .inr (.inl (vp_updL G0_42 v7_42.toNatClampNeg y15)))), (h0, .inr (5, [.ref h1, .int f0, .ref h2, .int f1, .int f2, .ref h3, .ref h4, .ref h5, .ref h6, .int f3, .ref h7, .ref h8, .ref h9, .int f4, .ref h10, .ref h11, .ref h12, .ref h13, .ref h14, .ref h15, .ref h16, .ref h17, .ref h18, .ref h19, .ref h20, .ref h21, .ref h22])), (h19, .inl (zI g, 4, .inl Z18)), (h20, .inl (zI g, 4, .inl Z19))] := hD
                    obtain ⟨R16, eR16⟩ : ∃ z : Nat → Int64, z = (vp_updL G0_42 v7_42.toNatClampNeg y15) := ⟨_, rfl⟩
                    rw [← eR16] at hP hD
                    obtain ⟨y17, ey17⟩ : ∃ z : Int32, z = v7_42 + 1 := ⟨_, rfl⟩
                    have qy17 : y17.toInt = v7_42.toInt + 1 := zi_add ey17 (rfl) rfl (by omega) (by omega)
                    refine lv_iinc (v := y17) (lv' := [(7, .int y17), (0, .ref h0), (1, .int p1), (2, .int p2), (3, .int p3), (4, .int p4), (5, .int p5), (6, .int 0)]) hx hb dX5_copy_119 hl (k := 7) rfl ey17.symm (by decide) rfl (fun ls hl => ?_)
                    refine lv_goto (tgt := 91) hx hb dX5_copy_122 (by decide) ?_
                    exact ih43 y17 R16 (by omega) (by omega) (by omega) _ _ hP hD hS ls (lv_sub hl [1, 2, 3, 4, 5, 6, 7, 0] rfl)
              have : (0 : Int32).toInt = 0 := rfl
              exact loop91_42 ((p5.toInt - 0 : Int).toNat + 1) (0 : Int32) Z21 (by omega) (by omega) (by omega) _ _ hP hD hS ls (lv_sub hl [2, 3, 4, 5, 6, 7, 1, 0] rfl)
            · skip
              have i_37 : y5.toInt < 0 := i_37
              have i_38 : ((Z18 p3.toNatClampNeg).toInt < 0 → y5.toInt = -11) := i_38
              have i_39 : (0 ≤ (Z18 p3.toNatClampNeg).toInt → (Z18 p3.toNatClampNeg).toInt ≠ y4.toInt → y5.toInt = -12) := i_39
              have i_40 : (0 ≤ (Z18 p3.toNatClampNeg).toInt → (Z18 p3.toNatClampNeg).toInt = y4.toInt → y5.toInt = -13) := i_40
              have i_41 : (0 ≤ (Z18 p3.toNatClampNeg).toInt → (Z18 p3.toNatClampNeg).toInt = y4.toInt → p4.toInt < 0 ∨ p5.toInt < 0 ∨ (Z19 p3.toNatClampNeg).toInt < p4.toInt + p5.toInt) := i_41
              have hP : va_P g.1 vwCl [(h21, .inl (zJ g, 64, .inr (.inl Z20))), (h22, .inl (zJ g, 16, .inr (.inl Z21))), (h0, .inr (5, [.ref h1, .int f0, .ref h2, .int f1, .int f2, .ref h3, .ref h4, .ref h5, .ref h6, .int f3, .ref h7, .ref h8, .ref h9, .int f4, .ref h10, .ref h11, .ref h12, .ref h13, .ref h14, .ref h15, .ref h16, .ref h17, .ref h18, .ref h19, .ref h20, .ref h21, .ref h22])), (h19, .inl (zI g, 4, .inl Z18)), (h20, .inl (zI g, 4, .inl Z19))] H := hP
              have hD : va_D A [(h21, .inl (zJ g, 64, .inr (.inl Z20))), (h22, .inl (zJ g, 16, .inr (.inl Z21))), (h0, .inr (5, [.ref h1, .int f0, .ref h2, .int f1, .int f2, .ref h3, .ref h4, .ref h5, .ref h6, .int f3, .ref h7, .ref h8, .ref h9, .int f4, .ref h10, .ref h11, .ref h12, .ref h13, .ref h14, .ref h15, .ref h16, .ref h17, .ref h18, .ref h19, .ref h20, .ref h21, .ref h22])), (h19, .inl (zI g, 4, .inl Z18)), (h20, .inl (zI g, 4, .inl Z19))] := hD
              refine lv_goto (tgt := 78) hx hb dX5_copy_73 (by decide) ?_
              refine lv_istore (lv' := [(6, .int y5), (0, .ref h0), (1, .int p1), (2, .int p2), (3, .int p3), (4, .int p4), (5, .int p5)]) hx hb dX5_copy_78 hl (by decide) rfl (fun ls hl => ?_)
              refine lv_iload hx hb dX5_copy_80 (lv_at hl 0 rfl) ?_
              refine lv_if_eq (tgt := 88) hx hb dX5_copy_82 (by decide) (fun c_46 => absurd (show y5.toInt = 0 from z_eq (rfl) (rfl) c_46) (by omega)) (fun c_46 => ?_)
              have i_46 : y5.toInt ≠ 0 := z_ne (rfl) (rfl) c_46
              refine lv_iload hx hb dX5_copy_85 (lv_at hl 0 rfl) ?_
              have hP9 := hP.sub (ws' := [(h0, .inr (5, [.ref h1, .int f0, .ref h2, .int f1, .int f2, .ref h3, .ref h4, .ref h5, .ref h6, .int f3, .ref h7, .ref h8, .ref h9, .int f4, .ref h10, .ref h11, .ref h12, .ref h13, .ref h14, .ref h15, .ref h16, .ref h17, .ref h18, .ref h19, .ref h20, .ref h21, .ref h22])), (h19, .inl (zI g, 4, .inl Z18)), (h20, .inl (zI g, 4, .inl Z19)), (h21, .inl (zJ g, 64, .inr (.inl Z20))), (h22, .inl (zJ g, 16, .inr (.inl Z21)))]) [2, 3, 4, 0, 1] rfl
              have hD9 := hD.sub (ws' := [(h0, .inr (5, [.ref h1, .int f0, .ref h2, .int f1, .int f2, .ref h3, .ref h4, .ref h5, .ref h6, .int f3, .ref h7, .ref h8, .ref h9, .int f4, .ref h10, .ref h11, .ref h12, .ref h13, .ref h14, .ref h15, .ref h16, .ref h17, .ref h18, .ref h19, .ref h20, .ref h21, .ref h22])), (h19, .inl (zI g, 4, .inl Z18)), (h20, .inl (zI g, 4, .inl Z19)), (h21, .inl (zJ g, 64, .inr (.inl Z20))), (h22, .inl (zJ g, 16, .inr (.inl Z21)))]) [2, 3, 4, 0, 1] (by decide) rfl
              exact W.iret (v := y5) hx hb hr (fun t ht hW => ⟨⟨y5, ⟨Z20, Z21⟩, rfl, ⟨(by first | omega | decide), (by first | omega | decide), (by first | omega | decide), (by first | omega | decide), (by first | omega | decide)⟩, by rw [ht]; exact hP9, hD9⟩, hS.F ht⟩) hS.2.2 dX5_copy_87
          · skip
            have i_22 : y3.toInt < 0 := i_22
            have i_23 : ((Z18 p1.toNatClampNeg).toInt < 0 → y3.toInt = -11) := i_23
            have i_24 : (0 ≤ (Z18 p1.toNatClampNeg).toInt → (Z18 p1.toNatClampNeg).toInt ≠ y2.toInt → y3.toInt = -12) := i_24
            have i_25 : (0 ≤ (Z18 p1.toNatClampNeg).toInt → (Z18 p1.toNatClampNeg).toInt = y2.toInt → y3.toInt = -13) := i_25
            have i_26 : (0 ≤ (Z18 p1.toNatClampNeg).toInt → (Z18 p1.toNatClampNeg).toInt = y2.toInt → p2.toInt < 0 ∨ p5.toInt < 0 ∨ (Z19 p1.toNatClampNeg).toInt < p2.toInt + p5.toInt) := i_26
            have hP : va_P g.1 vwCl [(h21, .inl (zJ g, 64, .inr (.inl Z20))), (h22, .inl (zJ g, 16, .inr (.inl Z21))), (h0, .inr (5, [.ref h1, .int f0, .ref h2, .int f1, .int f2, .ref h3, .ref h4, .ref h5, .ref h6, .int f3, .ref h7, .ref h8, .ref h9, .int f4, .ref h10, .ref h11, .ref h12, .ref h13, .ref h14, .ref h15, .ref h16, .ref h17, .ref h18, .ref h19, .ref h20, .ref h21, .ref h22])), (h19, .inl (zI g, 4, .inl Z18)), (h20, .inl (zI g, 4, .inl Z19))] H := hP
            have hD : va_D A [(h21, .inl (zJ g, 64, .inr (.inl Z20))), (h22, .inl (zJ g, 16, .inr (.inl Z21))), (h0, .inr (5, [.ref h1, .int f0, .ref h2, .int f1, .int f2, .ref h3, .ref h4, .ref h5, .ref h6, .int f3, .ref h7, .ref h8, .ref h9, .int f4, .ref h10, .ref h11, .ref h12, .ref h13, .ref h14, .ref h15, .ref h16, .ref h17, .ref h18, .ref h19, .ref h20, .ref h21, .ref h22])), (h19, .inl (zI g, 4, .inl Z18)), (h20, .inl (zI g, 4, .inl Z19))] := hD
            refine lv_istore (lv' := [(6, .int y3), (0, .ref h0), (1, .int p1), (2, .int p2), (3, .int p3), (4, .int p4), (5, .int p5)]) hx hb dX5_copy_51 hl (by decide) rfl (fun ls hl => ?_)
            refine lv_iload hx hb dX5_copy_53 (lv_at hl 0 rfl) ?_
            refine lv_if_ne (tgt := 76) hx hb dX5_copy_55 (by decide) (fun c_47 => ?_) (fun c_47 => absurd (show y3.toInt = 0 from z_eq (rfl) (rfl) c_47) (by omega))
            have i_47 : y3.toInt ≠ 0 := z_ne (rfl) (rfl) c_47
            refine lv_iload hx hb dX5_copy_76 (lv_at hl 0 rfl) ?_
            refine lv_istore (lv' := [(6, .int y3), (0, .ref h0), (1, .int p1), (2, .int p2), (3, .int p3), (4, .int p4), (5, .int p5)]) hx hb dX5_copy_78 hl (by decide) rfl (fun ls hl => ?_)
            refine lv_iload hx hb dX5_copy_80 (lv_at hl 0 rfl) ?_
            refine lv_if_eq (tgt := 88) hx hb dX5_copy_82 (by decide) (fun c_48 => absurd (show y3.toInt = 0 from z_eq (rfl) (rfl) c_48) (by omega)) (fun c_48 => ?_)
            have i_48 : y3.toInt ≠ 0 := z_ne (rfl) (rfl) c_48
            refine lv_iload hx hb dX5_copy_85 (lv_at hl 0 rfl) ?_
            have hP9 := hP.sub (ws' := [(h0, .inr (5, [.ref h1, .int f0, .ref h2, .int f1, .int f2, .ref h3, .ref h4, .ref h5, .ref h6, .int f3, .ref h7, .ref h8, .ref h9, .int f4, .ref h10, .ref h11, .ref h12, .ref h13, .ref h14, .ref h15, .ref h16, .ref h17, .ref h18, .ref h19, .ref h20, .ref h21, .ref h22])), (h19, .inl (zI g, 4, .inl Z18)), (h20, .inl (zI g, 4, .inl Z19)), (h21, .inl (zJ g, 64, .inr (.inl Z20))), (h22, .inl (zJ g, 16, .inr (.inl Z21)))]) [2, 3, 4, 0, 1] rfl
            have hD9 := hD.sub (ws' := [(h0, .inr (5, [.ref h1, .int f0, .ref h2, .int f1, .int f2, .ref h3, .ref h4, .ref h5, .ref h6, .int f3, .ref h7, .ref h8, .ref h9, .int f4, .ref h10, .ref h11, .ref h12, .ref h13, .ref h14, .ref h15, .ref h16, .ref h17, .ref h18, .ref h19, .ref h20, .ref h21, .ref h22])), (h19, .inl (zI g, 4, .inl Z18)), (h20, .inl (zI g, 4, .inl Z19)), (h21, .inl (zJ g, 64, .inr (.inl Z20))), (h22, .inl (zJ g, 16, .inr (.inl Z21)))]) [2, 3, 4, 0, 1] (by decide) rfl
            exact W.iret (v := y3) hx hb hr (fun t ht hW => ⟨⟨y3, ⟨Z20, Z21⟩, rfl, ⟨(by first | omega | decide), (by first | omega | decide), (by first | omega | decide), (by first | omega | decide), (by first | omega | decide)⟩, by rw [ht]; exact hP9, hD9⟩, hS.F ht⟩) hS.2.2 dX5_copy_87
        · have i_11 : y1.toInt < 0 := z_nle (rfl) (rfl) c_11
          refine lv_bipush (v := (-11)) hx hb dX5_copy_34 (by decide) ?_
          have : ((-11) : Int32).toInt = (-11) := rfl
          have hP9 := hP.sub (ws' := [(h0, .inr (5, [.ref h1, .int f0, .ref h2, .int f1, .int f2, .ref h3, .ref h4, .ref h5, .ref h6, .int f3, .ref h7, .ref h8, .ref h9, .int f4, .ref h10, .ref h11, .ref h12, .ref h13, .ref h14, .ref h15, .ref h16, .ref h17, .ref h18, .ref h19, .ref h20, .ref h21, .ref h22])), (h19, .inl (zI g, 4, .inl Z18)), (h20, .inl (zI g, 4, .inl Z19)), (h21, .inl (zJ g, 64, .inr (.inl Z20))), (h22, .inl (zJ g, 16, .inr (.inl Z21)))]) [0, 1, 2, 3, 4] rfl
          have hD9 := hD.sub (ws' := [(h0, .inr (5, [.ref h1, .int f0, .ref h2, .int f1, .int f2, .ref h3, .ref h4, .ref h5, .ref h6, .int f3, .ref h7, .ref h8, .ref h9, .int f4, .ref h10, .ref h11, .ref h12, .ref h13, .ref h14, .ref h15, .ref h16, .ref h17, .ref h18, .ref h19, .ref h20, .ref h21, .ref h22])), (h19, .inl (zI g, 4, .inl Z18)), (h20, .inl (zI g, 4, .inl Z19)), (h21, .inl (zJ g, 64, .inr (.inl Z20))), (h22, .inl (zJ g, 16, .inr (.inl Z21)))]) [0, 1, 2, 3, 4] (by decide) rfl
          exact W.iret (v := (-11)) hx hb hr (fun t ht hW => ⟨⟨(-11), ⟨Z20, Z21⟩, rfl, ⟨(by first | omega | decide), (by first | omega | decide), (by first | omega | decide), (by first | omega | decide), (by first | omega | decide)⟩, by rw [ht]; exact hP9, hD9⟩, hS.F ht⟩) hS.2.2 dX5_copy_36
