set_option maxHeartbeats 4000000 in
set_option maxRecDepth 100000 in
theorem kX5_bars_7 (l : Launch) (g : zG) (h0 h1 h2 h3 h4 h5 h6 h7 h8 h9 h10 h11 h12 h13 h14 h15 h16 h17 h18 h19 h20 h21 h22 : Nat) (sz : Nat) (p2 : Int32) (p3 : Int32) : Met l yX5_bars (.code yX5_bars cX5_bars 5 (some .int) :: zBig) ({ frames := 0, cells := 0, slots := 0, locals := 0 }) (va_Pc [.ref h0, .int 2, .int p2, .int p3, .int 0] (zPre g [(h0, .inr (5, [.ref h1, .int 0, .ref h2, .int 0, .int 0, .ref h3, .ref h4, .ref h5, .ref h6, .int 0, .ref h7, .ref h8, .ref h9, .int 0, .ref h10, .ref h11, .ref h12, .ref h13, .ref h14, .ref h15, .ref h16, .ref h17, .ref h18, .ref h19, .ref h20, .ref h21, .ref h22])), (h19, .inl (zI g, 4, .inl (upd (upd (upd (upd (fun _ => 0) 0 (-1)) 1 (-1)) 2 (-1)) 3 (-1))))] sz)) (va_Qi (fun (r : Int32) (_ : Nat) => r = (-11)) (zPost g (fun _ : Nat => [(h0, .inr (5, [.ref h1, .int 0, .ref h2, .int 0, .int 0, .ref h3, .ref h4, .ref h5, .ref h6, .int 0, .ref h7, .ref h8, .ref h9, .int 0, .ref h10, .ref h11, .ref h12, .ref h13, .ref h14, .ref h15, .ref h16, .ref h17, .ref h18, .ref h19, .ref h20, .ref h21, .ref h22])), (h19, .inl (zI g, 4, .inl (upd (upd (upd (upd (fun _ => 0) 0 (-1)) 1 (-1)) 2 (-1)) 3 (-1))))]) (va_A [(h0, .inr (5, [.ref h1, .int 0, .ref h2, .int 0, .int 0, .ref h3, .ref h4, .ref h5, .ref h6, .int 0, .ref h7, .ref h8, .ref h9, .int 0, .ref h10, .ref h11, .ref h12, .ref h13, .ref h14, .ref h15, .ref h16, .ref h17, .ref h18, .ref h19, .ref h20, .ref h21, .ref h22])), (h19, .inl (zI g, 4, .inl (upd (upd (upd (upd (fun _ => 0) 0 (-1)) 1 (-1)) 2 (-1)) 3 (-1))))] sz)) (va_A [(h0, .inr (5, [.ref h1, .int 0, .ref h2, .int 0, .int 0, .ref h3, .ref h4, .ref h5, .ref h6, .int 0, .ref h7, .ref h8, .ref h9, .int 0, .ref h10, .ref h11, .ref h12, .ref h13, .ref h14, .ref h15, .ref h16, .ref h17, .ref h18, .ref h19, .ref h20, .ref h21, .ref h22])), (h19, .inl (zI g, 4, .inl (upd (upd (upd (upd (fun _ => 0) 0 (-1)) 1 (-1)) 2 (-1)) 3 (-1))))] sz)) 0 0 (va_A [(h0, .inr (5, [.ref h1, .int 0, .ref h2, .int 0, .int 0, .ref h3, .ref h4, .ref h5, .ref h6, .int 0, .ref h7, .ref h8, .ref h9, .int 0, .ref h10, .ref h11, .ref h12, .ref h13, .ref h14, .ref h15, .ref h16, .ref h17, .ref h18, .ref h19, .ref h20, .ref h21, .ref h22])), (h19, .inl (zI g, 4, .inl (upd (upd (upd (upd (fun _ => 0) 0 (-1)) 1 (-1)) 2 (-1)) 3 (-1))))] sz) := by
  refine zMetI rfl (Nat.le_of_ble_eq_true rfl) ?_
  intro p e s m args below meth c A ls hx hb hml hr hlocks hin hown hts hK hN hZ hP hD hA hS hAe hl
  have hown : s.vm.findClass RX5 = some m.cls := hown
  have hl : lv_has ls 5 [(0, .ref h0), (1, .int 2), (2, .int p2), (3, .int p3), (4, .int 0)] := hl
  refine lv_aload_n hx hb dX5_bars_0 rfl (lv_at hl 0 rfl) ?_
  refine va_get (D := g.1) (ci := 5) (v := .ref h19) (C := RX5) (T := TX5) (N := 27) hx hb hts zl_X5 hown hK hP 0 rfl rfl 23 (by decide) (hts _ m_f_RX5_64) (fun _ h => h) rfl dX5_bars_1 ?_
  refine lv_iload_n hx hb dX5_bars_4 rfl (lv_at hl 1 rfl) ?_
  refine va_iald (D := g.1) hx hb hK hP 1 0 rfl rfl (vp_in_iff.mpr (by decide +kernel)) dX5_bars_5 ?_
  refine lv_topi (nm_r (e' := (-1)) (by rfl) ?_)
  refine lv_if_ge (tgt := 14) hx hb dX5_bars_6 (by decide) (fun h => absurd h (by decide +kernel)) (fun _ => ?_)
  refine lv_bipush (v := (-11)) hx hb dX5_bars_9 (by decide) ?_
  refine lv_goto (tgt := 61) hx hb dX5_bars_11 (by decide) ?_
  have hP9 := hP.sub (ws' := [(h0, .inr (5, [.ref h1, .int 0, .ref h2, .int 0, .int 0, .ref h3, .ref h4, .ref h5, .ref h6, .int 0, .ref h7, .ref h8, .ref h9, .int 0, .ref h10, .ref h11, .ref h12, .ref h13, .ref h14, .ref h15, .ref h16, .ref h17, .ref h18, .ref h19, .ref h20, .ref h21, .ref h22])), (h19, .inl (zI g, 4, .inl (upd (upd (upd (upd (fun _ => 0) 0 (-1)) 1 (-1)) 2 (-1)) 3 (-1))))]) [0, 1] rfl
  have hD9 := hD.sub (ws' := [(h0, .inr (5, [.ref h1, .int 0, .ref h2, .int 0, .int 0, .ref h3, .ref h4, .ref h5, .ref h6, .int 0, .ref h7, .ref h8, .ref h9, .int 0, .ref h10, .ref h11, .ref h12, .ref h13, .ref h14, .ref h15, .ref h16, .ref h17, .ref h18, .ref h19, .ref h20, .ref h21, .ref h22])), (h19, .inl (zI g, 4, .inl (upd (upd (upd (upd (fun _ => 0) 0 (-1)) 1 (-1)) 2 (-1)) 3 (-1))))]) [0, 1] (by decide) rfl
  exact W.iret (v := (-11)) hx hb hr (fun t ht hW => ⟨⟨(-11), 0, rfl, rfl, by rw [ht]; exact hP9, hD9⟩, hS.F ht⟩) hS.2.2 dX5_bars_61
set_option maxHeartbeats 4000000 in
set_option maxRecDepth 100000 in
theorem kX5_bars_8 (l : Launch) (g : zG) (h0 h1 h2 h3 h4 h5 h6 h7 h8 h9 h10 h11 h12 h13 h14 h15 h16 h17 h18 h19 h20 h21 h22 : Nat) (sz : Nat) (p2 : Int32) (p3 : Int32) : Met l yX5_bars (.code yX5_bars cX5_bars 5 (some .int) :: zBig) ({ frames := 0, cells := 0, slots := 0, locals := 0 }) (va_Pc [.ref h0, .int 3, .int p2, .int p3, .int 0] (zPre g [(h0, .inr (5, [.ref h1, .int 0, .ref h2, .int 0, .int 0, .ref h3, .ref h4, .ref h5, .ref h6, .int 0, .ref h7, .ref h8, .ref h9, .int 0, .ref h10, .ref h11, .ref h12, .ref h13, .ref h14, .ref h15, .ref h16, .ref h17, .ref h18, .ref h19, .ref h20, .ref h21, .ref h22])), (h19, .inl (zI g, 4, .inl (upd (upd (upd (upd (fun _ => 0) 0 (-1)) 1 (-1)) 2 (-1)) 3 (-1))))] sz)) (va_Qi (fun (r : Int32) (_ : Nat) => r = (-11)) (zPost g (fun _ : Nat => [(h0, .inr (5, [.ref h1, .int 0, .ref h2, .int 0, .int 0, .ref h3, .ref h4, .ref h5, .ref h6, .int 0, .ref h7, .ref h8, .ref h9, .int 0, .ref h10, .ref h11, .ref h12, .ref h13, .ref h14, .ref h15, .ref h16, .ref h17, .ref h18, .ref h19, .ref h20, .ref h21, .ref h22])), (h19, .inl (zI g, 4, .inl (upd (upd (upd (upd (fun _ => 0) 0 (-1)) 1 (-1)) 2 (-1)) 3 (-1))))]) (va_A [(h0, .inr (5, [.ref h1, .int 0, .ref h2, .int 0, .int 0, .ref h3, .ref h4, .ref h5, .ref h6, .int 0, .ref h7, .ref h8, .ref h9, .int 0, .ref h10, .ref h11, .ref h12, .ref h13, .ref h14, .ref h15, .ref h16, .ref h17, .ref h18, .ref h19, .ref h20, .ref h21, .ref h22])), (h19, .inl (zI g, 4, .inl (upd (upd (upd (upd (fun _ => 0) 0 (-1)) 1 (-1)) 2 (-1)) 3 (-1))))] sz)) (va_A [(h0, .inr (5, [.ref h1, .int 0, .ref h2, .int 0, .int 0, .ref h3, .ref h4, .ref h5, .ref h6, .int 0, .ref h7, .ref h8, .ref h9, .int 0, .ref h10, .ref h11, .ref h12, .ref h13, .ref h14, .ref h15, .ref h16, .ref h17, .ref h18, .ref h19, .ref h20, .ref h21, .ref h22])), (h19, .inl (zI g, 4, .inl (upd (upd (upd (upd (fun _ => 0) 0 (-1)) 1 (-1)) 2 (-1)) 3 (-1))))] sz)) 0 0 (va_A [(h0, .inr (5, [.ref h1, .int 0, .ref h2, .int 0, .int 0, .ref h3, .ref h4, .ref h5, .ref h6, .int 0, .ref h7, .ref h8, .ref h9, .int 0, .ref h10, .ref h11, .ref h12, .ref h13, .ref h14, .ref h15, .ref h16, .ref h17, .ref h18, .ref h19, .ref h20, .ref h21, .ref h22])), (h19, .inl (zI g, 4, .inl (upd (upd (upd (upd (fun _ => 0) 0 (-1)) 1 (-1)) 2 (-1)) 3 (-1))))] sz) := by
  refine zMetI rfl (Nat.le_of_ble_eq_true rfl) ?_
  intro p e s m args below meth c A ls hx hb hml hr hlocks hin hown hts hK hN hZ hP hD hA hS hAe hl
  have hown : s.vm.findClass RX5 = some m.cls := hown
  have hl : lv_has ls 5 [(0, .ref h0), (1, .int 3), (2, .int p2), (3, .int p3), (4, .int 0)] := hl
  refine lv_aload_n hx hb dX5_bars_0 rfl (lv_at hl 0 rfl) ?_
  refine va_get (D := g.1) (ci := 5) (v := .ref h19) (C := RX5) (T := TX5) (N := 27) hx hb hts zl_X5 hown hK hP 0 rfl rfl 23 (by decide) (hts _ m_f_RX5_64) (fun _ h => h) rfl dX5_bars_1 ?_
  refine lv_iload_n hx hb dX5_bars_4 rfl (lv_at hl 1 rfl) ?_
  refine va_iald (D := g.1) hx hb hK hP 1 0 rfl rfl (vp_in_iff.mpr (by decide +kernel)) dX5_bars_5 ?_
  refine lv_topi (nm_r (e' := (-1)) (by rfl) ?_)
  refine lv_if_ge (tgt := 14) hx hb dX5_bars_6 (by decide) (fun h => absurd h (by decide +kernel)) (fun _ => ?_)
  refine lv_bipush (v := (-11)) hx hb dX5_bars_9 (by decide) ?_
  refine lv_goto (tgt := 61) hx hb dX5_bars_11 (by decide) ?_
  have hP9 := hP.sub (ws' := [(h0, .inr (5, [.ref h1, .int 0, .ref h2, .int 0, .int 0, .ref h3, .ref h4, .ref h5, .ref h6, .int 0, .ref h7, .ref h8, .ref h9, .int 0, .ref h10, .ref h11, .ref h12, .ref h13, .ref h14, .ref h15, .ref h16, .ref h17, .ref h18, .ref h19, .ref h20, .ref h21, .ref h22])), (h19, .inl (zI g, 4, .inl (upd (upd (upd (upd (fun _ => 0) 0 (-1)) 1 (-1)) 2 (-1)) 3 (-1))))]) [0, 1] rfl
  have hD9 := hD.sub (ws' := [(h0, .inr (5, [.ref h1, .int 0, .ref h2, .int 0, .int 0, .ref h3, .ref h4, .ref h5, .ref h6, .int 0, .ref h7, .ref h8, .ref h9, .int 0, .ref h10, .ref h11, .ref h12, .ref h13, .ref h14, .ref h15, .ref h16, .ref h17, .ref h18, .ref h19, .ref h20, .ref h21, .ref h22])), (h19, .inl (zI g, 4, .inl (upd (upd (upd (upd (fun _ => 0) 0 (-1)) 1 (-1)) 2 (-1)) 3 (-1))))]) [0, 1] (by decide) rfl
  exact W.iret (v := (-11)) hx hb hr (fun t ht hW => ⟨⟨(-11), 0, rfl, rfl, by rw [ht]; exact hP9, hD9⟩, hS.F ht⟩) hS.2.2 dX5_bars_61
set_option maxHeartbeats 4000000 in
set_option maxRecDepth 100000 in
theorem kX5_which (l : Launch) (g : zG) (h0 h1 h2 h3 h4 h5 h6 h7 h8 h9 h10 h11 h12 h13 h14 h15 h16 h17 h18 h19 h20 h21 h22 : Nat) (sz : Nat) (p1 : Int32) (p2 : Int32) (p3 : Int32) (p4 : Int32) : Met l yX5_which (.code yX5_which cX5_which 9 (some .int) :: zBig) ({ frames := 2, cells := 0, slots := 0, locals := 45 }) (va_Pc [.ref h0, .int p1, .int p2, .int p3, .int p4] (zPre g [(h0, .inr (5, [.ref h1, .int 0, .ref h2, .int 0, .int 0, .ref h3, .ref h4, .ref h5, .ref h6, .int 0, .ref h7, .ref h8, .ref h9, .int 0, .ref h10, .ref h11, .ref h12, .ref h13, .ref h14, .ref h15, .ref h16, .ref h17, .ref h18, .ref h19, .ref h20, .ref h21, .ref h22])), (h1, .inl (zI g, 180, .inl (upd (upd (upd (fun _ => 0) 0 60) 1 1) 2 1))), (h19, .inl (zI g, 4, .inl (upd (upd (upd (upd (fun _ => 0) 0 (-1)) 1 (-1)) 2 (-1)) 3 (-1))))] sz)) (va_Qi (fun (r : Int32) (_ : Nat) => (p1.toInt < 0 ∧ r = (-1)) ∨ (0 ≤ p1.toInt ∧ 3 < p1.toInt ∧ r = (-1)) ∨ (0 ≤ p1.toInt ∧ p1.toInt ≤ 3 ∧ p2.toInt < 0 ∧ r = (-1)) ∨ (0 ≤ p1.toInt ∧ p1.toInt ≤ 3 ∧ 0 ≤ p2.toInt ∧ 2 < p2.toInt ∧ r = (-1)) ∨ (0 ≤ p1.toInt ∧ p1.toInt ≤ 3 ∧ 0 ≤ p2.toInt ∧ p2.toInt ≤ 2 ∧ p4.toInt < 0 ∧ r = (-1)) ∨ (0 ≤ p1.toInt ∧ p1.toInt ≤ 3 ∧ 0 ≤ p2.toInt ∧ p2.toInt ≤ 2 ∧ 0 ≤ p4.toInt ∧ 1 < p4.toInt ∧ r = (-1)) ∨ (0 ≤ p1.toInt ∧ p1.toInt ≤ 3 ∧ 0 ≤ p2.toInt ∧ p2.toInt ≤ 2 ∧ 0 ≤ p4.toInt ∧ p4.toInt ≤ 1 ∧ p1.toInt = 0 ∧ r = (-11)) ∨ (0 ≤ p1.toInt ∧ p1.toInt ≤ 3 ∧ 0 ≤ p2.toInt ∧ p2.toInt ≤ 2 ∧ 0 ≤ p4.toInt ∧ p4.toInt ≤ 1 ∧ p1.toInt = 1 ∧ r = (-11)) ∨ (0 ≤ p1.toInt ∧ p1.toInt ≤ 3 ∧ 0 ≤ p2.toInt ∧ p2.toInt ≤ 2 ∧ 0 ≤ p4.toInt ∧ p4.toInt ≤ 1 ∧ p1.toInt = 2 ∧ r = (-11)) ∨ (0 ≤ p1.toInt ∧ p1.toInt ≤ 3 ∧ 0 ≤ p2.toInt ∧ p2.toInt ≤ 2 ∧ 0 ≤ p4.toInt ∧ p4.toInt ≤ 1 ∧ p1.toInt = 3 ∧ r = (-11))) (zPost g (fun _ : Nat => []) (va_A [(h0, .inr (5, [.ref h1, .int 0, .ref h2, .int 0, .int 0, .ref h3, .ref h4, .ref h5, .ref h6, .int 0, .ref h7, .ref h8, .ref h9, .int 0, .ref h10, .ref h11, .ref h12, .ref h13, .ref h14, .ref h15, .ref h16, .ref h17, .ref h18, .ref h19, .ref h20, .ref h21, .ref h22])), (h1, .inl (zI g, 180, .inl (upd (upd (upd (fun _ => 0) 0 60) 1 1) 2 1))), (h19, .inl (zI g, 4, .inl (upd (upd (upd (upd (fun _ => 0) 0 (-1)) 1 (-1)) 2 (-1)) 3 (-1))))] sz)) (va_A [(h0, .inr (5, [.ref h1, .int 0, .ref h2, .int 0, .int 0, .ref h3, .ref h4, .ref h5, .ref h6, .int 0, .ref h7, .ref h8, .ref h9, .int 0, .ref h10, .ref h11, .ref h12, .ref h13, .ref h14, .ref h15, .ref h16, .ref h17, .ref h18, .ref h19, .ref h20, .ref h21, .ref h22])), (h1, .inl (zI g, 180, .inl (upd (upd (upd (fun _ => 0) 0 60) 1 1) 2 1))), (h19, .inl (zI g, 4, .inl (upd (upd (upd (upd (fun _ => 0) 0 (-1)) 1 (-1)) 2 (-1)) 3 (-1))))] sz)) 0 0 (va_A [(h0, .inr (5, [.ref h1, .int 0, .ref h2, .int 0, .int 0, .ref h3, .ref h4, .ref h5, .ref h6, .int 0, .ref h7, .ref h8, .ref h9, .int 0, .ref h10, .ref h11, .ref h12, .ref h13, .ref h14, .ref h15, .ref h16, .ref h17, .ref h18, .ref h19, .ref h20, .ref h21, .ref h22])), (h1, .inl (zI g, 180, .inl (upd (upd (upd (fun _ => 0) 0 60) 1 1) 2 1))), (h19, .inl (zI g, 4, .inl (upd (upd (upd (upd (fun _ => 0) 0 (-1)) 1 (-1)) 2 (-1)) 3 (-1))))] sz) := by
  refine zMetI rfl (Nat.le_of_ble_eq_true rfl) ?_
  intro p e s m args below meth c A ls hx hb hml hr hlocks hin hown hts hK hN hZ hP hD hA hS hAe hl
  have hown : s.vm.findClass RX5 = some m.cls := hown
  have hl : lv_has ls 9 [(0, .ref h0), (1, .int p1), (2, .int p2), (3, .int p3), (4, .int p4)] := hl
  refine lv_iload_n hx hb dX5_which_0 rfl (lv_at hl 1 rfl) ?_
  refine z_calli (wr := [(h0, .inr (5, [.ref h1, .int 0, .ref h2, .int 0, .int 0, .ref h3, .ref h4, .ref h5, .ref h6, .int 0, .ref h7, .ref h8, .ref h9, .int 0, .ref h10, .ref h11, .ref h12, .ref h13, .ref h14, .ref h15, .ref h16, .ref h17, .ref h18, .ref h19, .ref h20, .ref h21, .ref h22])), (h1, .inl (zI g, 180, .inl (upd (upd (upd (fun _ => 0) 0 60) 1 1) 2 1))), (h19, .inl (zI g, 4, .inl (upd (upd (upd (upd (fun _ => 0) 0 (-1)) 1 (-1)) 2 (-1)) 3 (-1))))]) hP hD hS hA [] [0, 1, 2] (by decide) rfl rfl (by decide) (va_runS (As := [.int p1]) (rest := []) ⟨hx, hb, hml, hown, hts⟩ (kX5_isSheet_2 l g  s.heap.size p1) ⟨callB_of 1 hts (zGood m_o_yX5_isSheet) rfl rfl rfl (hts _ m_z_RX5) (hts _ m_m_RX5_225) ⟨by decide +kernel, by decide +kernel, by decide +kernel⟩ ⟨Nat.le_of_ble_eq_true rfl, Nat.le_of_ble_eq_true rfl⟩, hts _ m_s_yX5_isSheet⟩ (zPreS hK hN hZ hP hD hS hA [] (by decide) rfl rfl) rfl rfl hl.1 rfl (lv_room (Nat.le_of_ble_eq_true rfl)) dX5_which_1 ⟨Nat.le_of_ble_eq_true rfl, Nat.le_of_ble_eq_true rfl⟩) (fun r u H locs hw hP hD hS => ?_)
  rcases hw with ⟨i_0, rfl⟩ | ⟨i_1, i_2, rfl⟩ | ⟨i_3, i_4, rfl⟩
  · skip
    have i_0 : p1.toInt < 0 := i_0
    have hP : va_P g.1 vwCl [(h0, .inr (5, [.ref h1, .int 0, .ref h2, .int 0, .int 0, .ref h3, .ref h4, .ref h5, .ref h6, .int 0, .ref h7, .ref h8, .ref h9, .int 0, .ref h10, .ref h11, .ref h12, .ref h13, .ref h14, .ref h15, .ref h16, .ref h17, .ref h18, .ref h19, .ref h20, .ref h21, .ref h22])), (h1, .inl (zI g, 180, .inl (upd (upd (upd (fun _ => 0) 0 60) 1 1) 2 1))), (h19, .inl (zI g, 4, .inl (upd (upd (upd (upd (fun _ => 0) 0 (-1)) 1 (-1)) 2 (-1)) 3 (-1))))] H := hP
    have hD : va_D A [(h0, .inr (5, [.ref h1, .int 0, .ref h2, .int 0, .int 0, .ref h3, .ref h4, .ref h5, .ref h6, .int 0, .ref h7, .ref h8, .ref h9, .int 0, .ref h10, .ref h11, .ref h12, .ref h13, .ref h14, .ref h15, .ref h16, .ref h17, .ref h18, .ref h19, .ref h20, .ref h21, .ref h22])), (h1, .inl (zI g, 180, .inl (upd (upd (upd (fun _ => 0) 0 60) 1 1) 2 1))), (h19, .inl (zI g, 4, .inl (upd (upd (upd (upd (fun _ => 0) 0 (-1)) 1 (-1)) 2 (-1)) 3 (-1))))] := hD
    refine lv_if_eq (tgt := 30) hx hb dX5_which_4 (by decide) (fun _ => ?_) (fun h => absurd h (by decide +kernel))
    refine lv_iconst (v := (-1)) hx hb dX5_which_30 (by decide) ?_
    have hP9 := hP.sub (ws' := []) [] rfl
    have hD9 := hD.sub (ws' := []) [] (by decide) rfl
    exact W.iret (v := (-1)) hx hb hr (fun t ht hW => ⟨⟨(-1), 0, rfl, Or.inl ⟨i_0, rfl⟩, by rw [ht]; exact hP9, hD9⟩, hS.F ht⟩) hS.2.2 dX5_which_31
  · skip
    have i_1 : 0 ≤ p1.toInt := i_1
    have i_2 : 3 < p1.toInt := i_2
    have hP : va_P g.1 vwCl [(h0, .inr (5, [.ref h1, .int 0, .ref h2, .int 0, .int 0, .ref h3, .ref h4, .ref h5, .ref h6, .int 0, .ref h7, .ref h8, .ref h9, .int 0, .ref h10, .ref h11, .ref h12, .ref h13, .ref h14, .ref h15, .ref h16, .ref h17, .ref h18, .ref h19, .ref h20, .ref h21, .ref h22])), (h1, .inl (zI g, 180, .inl (upd (upd (upd (fun _ => 0) 0 60) 1 1) 2 1))), (h19, .inl (zI g, 4, .inl (upd (upd (upd (upd (fun _ => 0) 0 (-1)) 1 (-1)) 2 (-1)) 3 (-1))))] H := hP
    have hD : va_D A [(h0, .inr (5, [.ref h1, .int 0, .ref h2, .int 0, .int 0, .ref h3, .ref h4, .ref h5, .ref h6, .int 0, .ref h7, .ref h8, .ref h9, .int 0, .ref h10, .ref h11, .ref h12, .ref h13, .ref h14, .ref h15, .ref h16, .ref h17, .ref h18, .ref h19, .ref h20, .ref h21, .ref h22])), (h1, .inl (zI g, 180, .inl (upd (upd (upd (fun _ => 0) 0 60) 1 1) 2 1))), (h19, .inl (zI g, 4, .inl (upd (upd (upd (upd (fun _ => 0) 0 (-1)) 1 (-1)) 2 (-1)) 3 (-1))))] := hD
    refine lv_if_eq (tgt := 30) hx hb dX5_which_4 (by decide) (fun _ => ?_) (fun h => absurd h (by decide +kernel))
    refine lv_iconst (v := (-1)) hx hb dX5_which_30 (by decide) ?_
    have hP9 := hP.sub (ws' := []) [] rfl
    have hD9 := hD.sub (ws' := []) [] (by decide) rfl
    exact W.iret (v := (-1)) hx hb hr (fun t ht hW => ⟨⟨(-1), 0, rfl, Or.inr (Or.inl ⟨i_1, i_2, rfl⟩), by rw [ht]; exact hP9, hD9⟩, hS.F ht⟩) hS.2.2 dX5_which_31
  · skip
    have i_3 : 0 ≤ p1.toInt := i_3
    have i_4 : p1.toInt ≤ 3 := i_4
    have hP : va_P g.1 vwCl [(h0, .inr (5, [.ref h1, .int 0, .ref h2, .int 0, .int 0, .ref h3, .ref h4, .ref h5, .ref h6, .int 0, .ref h7, .ref h8, .ref h9, .int 0, .ref h10, .ref h11, .ref h12, .ref h13, .ref h14, .ref h15, .ref h16, .ref h17, .ref h18, .ref h19, .ref h20, .ref h21, .ref h22])), (h1, .inl (zI g, 180, .inl (upd (upd (upd (fun _ => 0) 0 60) 1 1) 2 1))), (h19, .inl (zI g, 4, .inl (upd (upd (upd (upd (fun _ => 0) 0 (-1)) 1 (-1)) 2 (-1)) 3 (-1))))] H := hP
    have hD : va_D A [(h0, .inr (5, [.ref h1, .int 0, .ref h2, .int 0, .int 0, .ref h3, .ref h4, .ref h5, .ref h6, .int 0, .ref h7, .ref h8, .ref h9, .int 0, .ref h10, .ref h11, .ref h12, .ref h13, .ref h14, .ref h15, .ref h16, .ref h17, .ref h18, .ref h19, .ref h20, .ref h21, .ref h22])), (h1, .inl (zI g, 180, .inl (upd (upd (upd (fun _ => 0) 0 60) 1 1) 2 1))), (h19, .inl (zI g, 4, .inl (upd (upd (upd (upd (fun _ => 0) 0 (-1)) 1 (-1)) 2 (-1)) 3 (-1))))] := hD
    refine lv_if_eq (tgt := 30) hx hb dX5_which_4 (by decide) (fun h => absurd h (by decide +kernel)) (fun _ => ?_)
    refine lv_iload_n hx hb dX5_which_7 rfl (lv_at hl 2 rfl) ?_
    refine lv_i2l (v := p2.toInt64) hx hb dX5_which_8 rfl ?_
    refine lv_lconst (v := 0) hx hb dX5_which_9 (by decide) ?_
    refine lv_ldc2 (v := 2) hx hb hown (hts _ m_k_RX5_197) dX5_which_10 ?_
    refine z_calli (wr := [(h0, .inr (5, [.ref h1, .int 0, .ref h2, .int 0, .int 0, .ref h3, .ref h4, .ref h5, .ref h6, .int 0, .ref h7, .ref h8, .ref h9, .int 0, .ref h10, .ref h11, .ref h12, .ref h13, .ref h14, .ref h15, .ref h16, .ref h17, .ref h18, .ref h19, .ref h20, .ref h21, .ref h22])), (h1, .inl (zI g, 180, .inl (upd (upd (upd (fun _ => 0) 0 60) 1 1) 2 1))), (h19, .inl (zI g, 4, .inl (upd (upd (upd (upd (fun _ => 0) 0 (-1)) 1 (-1)) 2 (-1)) 3 (-1))))]) hP hD hS hA [] [0, 1, 2] (by decide) rfl rfl (by decide) (va_runS (As := [.long p2.toInt64, .long 0, .long 2]) (rest := []) ⟨hx, hb, hml, hown, hts⟩ (kX5_in_32 l g  H.size p2.toInt64) ⟨callB_of 3 hts (zGood m_o_yX5_in) rfl rfl rfl (hts _ m_z_RX5) (hts _ m_m_RX5_77) ⟨by decide +kernel, by decide +kernel, by decide +kernel⟩ ⟨Nat.le_of_ble_eq_true rfl, Nat.le_of_ble_eq_true rfl⟩, hts _ m_s_yX5_in⟩ (zPreS hK hN hZ hP hD hS hA [] (by decide) rfl rfl) rfl rfl hl.1 rfl (lv_room (Nat.le_of_ble_eq_true rfl)) dX5_which_13 ⟨Nat.le_of_ble_eq_true rfl, Nat.le_of_ble_eq_true rfl⟩) (fun r u H locs hw hP hD hS => ?_)
    rcases hw with ⟨i_5, rfl⟩ | ⟨i_6, i_7, rfl⟩ | ⟨i_8, i_9, rfl⟩
    · skip
      have i_5 : p2.toInt < 0 := by simpa only [Int32.toInt_toInt64] using i_5
      have hP : va_P g.1 vwCl [(h0, .inr (5, [.ref h1, .int 0, .ref h2, .int 0, .int 0, .ref h3, .ref h4, .ref h5, .ref h6, .int 0, .ref h7, .ref h8, .ref h9, .int 0, .ref h10, .ref h11, .ref h12, .ref h13, .ref h14, .ref h15, .ref h16, .ref h17, .ref h18, .ref h19, .ref h20, .ref h21, .ref h22])), (h1, .inl (zI g, 180, .inl (upd (upd (upd (fun _ => 0) 0 60) 1 1) 2 1))), (h19, .inl (zI g, 4, .inl (upd (upd (upd (upd (fun _ => 0) 0 (-1)) 1 (-1)) 2 (-1)) 3 (-1))))] H := hP
      have hD : va_D A [(h0, .inr (5, [.ref h1, .int 0, .ref h2, .int 0, .int 0, .ref h3, .ref h4, .ref h5, .ref h6, .int 0, .ref h7, .ref h8, .ref h9, .int 0, .ref h10, .ref h11, .ref h12, .ref h13, .ref h14, .ref h15, .ref h16, .ref h17, .ref h18, .ref h19, .ref h20, .ref h21, .ref h22])), (h1, .inl (zI g, 180, .inl (upd (upd (upd (fun _ => 0) 0 60) 1 1) 2 1))), (h19, .inl (zI g, 4, .inl (upd (upd (upd (upd (fun _ => 0) 0 (-1)) 1 (-1)) 2 (-1)) 3 (-1))))] := hD
      refine lv_if_eq (tgt := 30) hx hb dX5_which_16 (by decide) (fun _ => ?_) (fun h => absurd h (by decide +kernel))
      refine lv_iconst (v := (-1)) hx hb dX5_which_30 (by decide) ?_
      have hP9 := hP.sub (ws' := []) [] rfl
      have hD9 := hD.sub (ws' := []) [] (by decide) rfl
      exact W.iret (v := (-1)) hx hb hr (fun t ht hW => ⟨⟨(-1), 0, rfl, Or.inr (Or.inr (Or.inl ⟨i_3, i_4, i_5, rfl⟩)), by rw [ht]; exact hP9, hD9⟩, hS.F ht⟩) hS.2.2 dX5_which_31
    · skip
      have i_6 : 0 ≤ p2.toInt := by simpa only [Int32.toInt_toInt64] using i_6
      have i_7 : 2 < p2.toInt := by simpa only [Int32.toInt_toInt64] using i_7
      have hP : va_P g.1 vwCl [(h0, .inr (5, [.ref h1, .int 0, .ref h2, .int 0, .int 0, .ref h3, .ref h4, .ref h5, .ref h6, .int 0, .ref h7, .ref h8, .ref h9, .int 0, .ref h10, .ref h11, .ref h12, .ref h13, .ref h14, .ref h15, .ref h16, .ref h17, .ref h18, .ref h19, .ref h20, .ref h21, .ref h22])), (h1, .inl (zI g, 180, .inl (upd (upd (upd (fun _ => 0) 0 60) 1 1) 2 1))), (h19, .inl (zI g, 4, .inl (upd (upd (upd (upd (fun _ => 0) 0 (-1)) 1 (-1)) 2 (-1)) 3 (-1))))] H := hP
      have hD : va_D A [(h0, .inr (5, [.ref h1, .int 0, .ref h2, .int 0, .int 0, .ref h3, .ref h4, .ref h5, .ref h6, .int 0, .ref h7, .ref h8, .ref h9, .int 0, .ref h10, .ref h11, .ref h12, .ref h13, .ref h14, .ref h15, .ref h16, .ref h17, .ref h18, .ref h19, .ref h20, .ref h21, .ref h22])), (h1, .inl (zI g, 180, .inl (upd (upd (upd (fun _ => 0) 0 60) 1 1) 2 1))), (h19, .inl (zI g, 4, .inl (upd (upd (upd (upd (fun _ => 0) 0 (-1)) 1 (-1)) 2 (-1)) 3 (-1))))] := hD
      refine lv_if_eq (tgt := 30) hx hb dX5_which_16 (by decide) (fun _ => ?_) (fun h => absurd h (by decide +kernel))
      refine lv_iconst (v := (-1)) hx hb dX5_which_30 (by decide) ?_
      have hP9 := hP.sub (ws' := []) [] rfl
      have hD9 := hD.sub (ws' := []) [] (by decide) rfl
      exact W.iret (v := (-1)) hx hb hr (fun t ht hW => ⟨⟨(-1), 0, rfl, Or.inr (Or.inr (Or.inr (Or.inl ⟨i_3, i_4, i_6, i_7, rfl⟩))), by rw [ht]; exact hP9, hD9⟩, hS.F ht⟩) hS.2.2 dX5_which_31
    · skip
      have i_8 : 0 ≤ p2.toInt := by simpa only [Int32.toInt_toInt64] using i_8
      have i_9 : p2.toInt ≤ 2 := by simpa only [Int32.toInt_toInt64] using i_9
      have hP : va_P g.1 vwCl [(h0, .inr (5, [.ref h1, .int 0, .ref h2, .int 0, .int 0, .ref h3, .ref h4, .ref h5, .ref h6, .int 0, .ref h7, .ref h8, .ref h9, .int 0, .ref h10, .ref h11, .ref h12, .ref h13, .ref h14, .ref h15, .ref h16, .ref h17, .ref h18, .ref h19, .ref h20, .ref h21, .ref h22])), (h1, .inl (zI g, 180, .inl (upd (upd (upd (fun _ => 0) 0 60) 1 1) 2 1))), (h19, .inl (zI g, 4, .inl (upd (upd (upd (upd (fun _ => 0) 0 (-1)) 1 (-1)) 2 (-1)) 3 (-1))))] H := hP
      have hD : va_D A [(h0, .inr (5, [.ref h1, .int 0, .ref h2, .int 0, .int 0, .ref h3, .ref h4, .ref h5, .ref h6, .int 0, .ref h7, .ref h8, .ref h9, .int 0, .ref h10, .ref h11, .ref h12, .ref h13, .ref h14, .ref h15, .ref h16, .ref h17, .ref h18, .ref h19, .ref h20, .ref h21, .ref h22])), (h1, .inl (zI g, 180, .inl (upd (upd (upd (fun _ => 0) 0 60) 1 1) 2 1))), (h19, .inl (zI g, 4, .inl (upd (upd (upd (upd (fun _ => 0) 0 (-1)) 1 (-1)) 2 (-1)) 3 (-1))))] := hD
      refine lv_if_eq (tgt := 30) hx hb dX5_which_16 (by decide) (fun h => absurd h (by decide +kernel)) (fun _ => ?_)
      refine lv_iload hx hb dX5_which_19 (lv_at hl 4 rfl) ?_
      refine lv_i2l (v := p4.toInt64) hx hb dX5_which_21 rfl ?_
      refine lv_lconst (v := 0) hx hb dX5_which_22 (by decide) ?_
      refine lv_lconst (v := 1) hx hb dX5_which_23 (by decide) ?_
      refine z_calli (wr := [(h0, .inr (5, [.ref h1, .int 0, .ref h2, .int 0, .int 0, .ref h3, .ref h4, .ref h5, .ref h6, .int 0, .ref h7, .ref h8, .ref h9, .int 0, .ref h10, .ref h11, .ref h12, .ref h13, .ref h14, .ref h15, .ref h16, .ref h17, .ref h18, .ref h19, .ref h20, .ref h21, .ref h22])), (h1, .inl (zI g, 180, .inl (upd (upd (upd (fun _ => 0) 0 60) 1 1) 2 1))), (h19, .inl (zI g, 4, .inl (upd (upd (upd (upd (fun _ => 0) 0 (-1)) 1 (-1)) 2 (-1)) 3 (-1))))]) hP hD hS hA [] [0, 1, 2] (by decide) rfl rfl (by decide) (va_runS (As := [.long p4.toInt64, .long 0, .long 1]) (rest := []) ⟨hx, hb, hml, hown, hts⟩ (kX5_in_33 l g  H.size p4.toInt64) ⟨callB_of 3 hts (zGood m_o_yX5_in) rfl rfl rfl (hts _ m_z_RX5) (hts _ m_m_RX5_77) ⟨by decide +kernel, by decide +kernel, by decide +kernel⟩ ⟨Nat.le_of_ble_eq_true rfl, Nat.le_of_ble_eq_true rfl⟩, hts _ m_s_yX5_in⟩ (zPreS hK hN hZ hP hD hS hA [] (by decide) rfl rfl) rfl rfl hl.1 rfl (lv_room (Nat.le_of_ble_eq_true rfl)) dX5_which_24 ⟨Nat.le_of_ble_eq_true rfl, Nat.le_of_ble_eq_true rfl⟩) (fun r u H locs hw hP hD hS => ?_)
      rcases hw with ⟨i_10, rfl⟩ | ⟨i_11, i_12, rfl⟩ | ⟨i_13, i_14, rfl⟩
      · skip
        have i_10 : p4.toInt < 0 := by simpa only [Int32.toInt_toInt64] using i_10
        have hP : va_P g.1 vwCl [(h0, .inr (5, [.ref h1, .int 0, .ref h2, .int 0, .int 0, .ref h3, .ref h4, .ref h5, .ref h6, .int 0, .ref h7, .ref h8, .ref h9, .int 0, .ref h10, .ref h11, .ref h12, .ref h13, .ref h14, .ref h15, .ref h16, .ref h17, .ref h18, .ref h19, .ref h20, .ref h21, .ref h22])), (h1, .inl (zI g, 180, .inl (upd (upd (upd (fun _ => 0) 0 60) 1 1) 2 1))), (h19, .inl (zI g, 4, .inl (upd (upd (upd (upd (fun _ => 0) 0 (-1)) 1 (-1)) 2 (-1)) 3 (-1))))] H := hP
        have hD : va_D A [(h0, .inr (5, [.ref h1, .int 0, .ref h2, .int 0, .int 0, .ref h3, .ref h4, .ref h5, .ref h6, .int 0, .ref h7, .ref h8, .ref h9, .int 0, .ref h10, .ref h11, .ref h12, .ref h13, .ref h14, .ref h15, .ref h16, .ref h17, .ref h18, .ref h19, .ref h20, .ref h21, .ref h22])), (h1, .inl (zI g, 180, .inl (upd (upd (upd (fun _ => 0) 0 60) 1 1) 2 1))), (h19, .inl (zI g, 4, .inl (upd (upd (upd (upd (fun _ => 0) 0 (-1)) 1 (-1)) 2 (-1)) 3 (-1))))] := hD
        refine lv_if_ne (tgt := 32) hx hb dX5_which_27 (by decide) (fun h => absurd h (by decide +kernel)) (fun _ => ?_)
        refine lv_iconst (v := (-1)) hx hb dX5_which_30 (by decide) ?_
        have hP9 := hP.sub (ws' := []) [] rfl
        have hD9 := hD.sub (ws' := []) [] (by decide) rfl
        exact W.iret (v := (-1)) hx hb hr (fun t ht hW => ⟨⟨(-1), 0, rfl, Or.inr (Or.inr (Or.inr (Or.inr (Or.inl ⟨i_3, i_4, i_8, i_9, i_10, rfl⟩)))), by rw [ht]; exact hP9, hD9⟩, hS.F ht⟩) hS.2.2 dX5_which_31
      · skip
        have i_11 : 0 ≤ p4.toInt := by simpa only [Int32.toInt_toInt64] using i_11
        have i_12 : 1 < p4.toInt := by simpa only [Int32.toInt_toInt64] using i_12
        have hP : va_P g.1 vwCl [(h0, .inr (5, [.ref h1, .int 0, .ref h2, .int 0, .int 0, .ref h3, .ref h4, .ref h5, .ref h6, .int 0, .ref h7, .ref h8, .ref h9, .int 0, .ref h10, .ref h11, .ref h12, .ref h13, .ref h14, .ref h15, .ref h16, .ref h17, .ref h18, .ref h19, .ref h20, .ref h21, .ref h22])), (h1, .inl (zI g, 180, .inl (upd (upd (upd (fun _ => 0) 0 60) 1 1) 2 1))), (h19, .inl (zI g, 4, .inl (upd (upd (upd (upd (fun _ => 0) 0 (-1)) 1 (-1)) 2 (-1)) 3 (-1))))] H := hP
        have hD : va_D A [(h0, .inr (5, [.ref h1, .int 0, .ref h2, .int 0, .int 0, .ref h3, .ref h4, .ref h5, .ref h6, .int 0, .ref h7, .ref h8, .ref h9, .int 0, .ref h10, .ref h11, .ref h12, .ref h13, .ref h14, .ref h15, .ref h16, .ref h17, .ref h18, .ref h19, .ref h20, .ref h21, .ref h22])), (h1, .inl (zI g, 180, .inl (upd (upd (upd (fun _ => 0) 0 60) 1 1) 2 1))), (h19, .inl (zI g, 4, .inl (upd (upd (upd (upd (fun _ => 0) 0 (-1)) 1 (-1)) 2 (-1)) 3 (-1))))] := hD
        refine lv_if_ne (tgt := 32) hx hb dX5_which_27 (by decide) (fun h => absurd h (by decide +kernel)) (fun _ => ?_)
        refine lv_iconst (v := (-1)) hx hb dX5_which_30 (by decide) ?_
        have hP9 := hP.sub (ws' := []) [] rfl
        have hD9 := hD.sub (ws' := []) [] (by decide) rfl
        exact W.iret (v := (-1)) hx hb hr (fun t ht hW => ⟨⟨(-1), 0, rfl, Or.inr (Or.inr (Or.inr (Or.inr (Or.inr (Or.inl ⟨i_3, i_4, i_8, i_9, i_11, i_12, rfl⟩))))), by rw [ht]; exact hP9, hD9⟩, hS.F ht⟩) hS.2.2 dX5_which_31
      · skip
        have i_13 : 0 ≤ p4.toInt := by simpa only [Int32.toInt_toInt64] using i_13
        have i_14 : p4.toInt ≤ 1 := by simpa only [Int32.toInt_toInt64] using i_14
        have hP : va_P g.1 vwCl [(h0, .inr (5, [.ref h1, .int 0, .ref h2, .int 0, .int 0, .ref h3, .ref h4, .ref h5, .ref h6, .int 0, .ref h7, .ref h8, .ref h9, .int 0, .ref h10, .ref h11, .ref h12, .ref h13, .ref h14, .ref h15, .ref h16, .ref h17, .ref h18, .ref h19, .ref h20, .ref h21, .ref h22])), (h1, .inl (zI g, 180, .inl (upd (upd (upd (fun _ => 0) 0 60) 1 1) 2 1))), (h19, .inl (zI g, 4, .inl (upd (upd (upd (upd (fun _ => 0) 0 (-1)) 1 (-1)) 2 (-1)) 3 (-1))))] H := hP
        have hD : va_D A [(h0, .inr (5, [.ref h1, .int 0, .ref h2, .int 0, .int 0, .ref h3, .ref h4, .ref h5, .ref h6, .int 0, .ref h7, .ref h8, .ref h9, .int 0, .ref h10, .ref h11, .ref h12, .ref h13, .ref h14, .ref h15, .ref h16, .ref h17, .ref h18, .ref h19, .ref h20, .ref h21, .ref h22])), (h1, .inl (zI g, 180, .inl (upd (upd (upd (fun _ => 0) 0 60) 1 1) 2 1))), (h19, .inl (zI g, 4, .inl (upd (upd (upd (upd (fun _ => 0) 0 (-1)) 1 (-1)) 2 (-1)) 3 (-1))))] := hD
        refine lv_if_ne (tgt := 32) hx hb dX5_which_27 (by decide) (fun _ => ?_) (fun h => absurd h (by decide +kernel))
        refine lv_aload_n hx hb dX5_which_32 rfl (lv_at hl 0 rfl) ?_
        refine lv_iload_n hx hb dX5_which_33 rfl (lv_at hl 1 rfl) ?_
        refine lv_iload_n hx hb dX5_which_34 rfl (lv_at hl 2 rfl) ?_
        refine lv_iload_n hx hb dX5_which_35 rfl (lv_at hl 3 rfl) ?_
        refine lv_iconst (v := 2) hx hb dX5_which_36 (by decide) ?_
        refine lv_aload_n hx hb dX5_which_37 rfl (lv_at hl 0 rfl) ?_
        refine va_get (D := g.1) (ci := 5) (v := .ref h1) (C := RX5) (T := TX5) (N := 27) hx hb hts zl_X5 hown hK hP 0 rfl rfl 0 (by decide) (hts _ m_f_RX5_7) (fun _ h => h) rfl dX5_which_38 ?_
        refine lv_iconst (v := 5) hx hb dX5_which_41 (by decide) ?_
        refine va_iald (D := g.1) hx hb hK hP 1 0 rfl rfl (vp_in_iff.mpr (by decide +kernel)) dX5_which_42 ?_
        refine lv_topi (nm_r (e' := 0) (by rfl) ?_)
        refine lv_imul hx hb dX5_which_43 ?_
        refine lv_topi (nm_r (e' := 0) (by decide +kernel) ?_)
        rcases (show p1.toInt = 0 ∨ p1.toInt = 1 ∨ p1.toInt = 2 ∨ p1.toInt = 3 by omega) with j_15 | j_15 | j_15 | j_15
        · obtain rfl : p1 = 0 := Int32.toInt_inj.mp (show p1.toInt = (0 : Int32).toInt from j_15.trans rfl)
          refine z_calli (wr := [(h1, .inl (zI g, 180, .inl (upd (upd (upd (fun _ => 0) 0 60) 1 1) 2 1)))]) hP hD hS hA [0, 2] [1] (by decide) rfl rfl (by decide) (va_runV (As := [.int 0, .int p2, .int p3, .int 0]) (rest := []) ⟨hx, hb, hml, hown, hts⟩ (kX5_bars_5 l g h0 h1 h2 h3 h4 h5 h6 h7 h8 h9 h10 h11 h12 h13 h14 h15 h16 h17 h18 h19 h20 h21 h22 H.size p2 p3) ⟨callB_of 4 hts (zGood m_o_yX5_bars) rfl rfl rfl (hts _ m_z_RX5) (hts _ m_m_RX5_228) ⟨by decide +kernel, by decide +kernel, by decide +kernel⟩ ⟨Nat.le_of_ble_eq_true rfl, Nat.le_of_ble_eq_true rfl⟩, hts _ m_i_yX5_bars, hts _ m_e_yX5_bars⟩ (zPreV hK hN hZ hP hD hS hA [0, 2] (by decide) rfl rfl 5 0 rfl rfl) rfl rfl hl.1 rfl (lv_room (Nat.le_of_ble_eq_true rfl)) dX5_which_44 ⟨Nat.le_of_ble_eq_true rfl, Nat.le_of_ble_eq_true rfl⟩) (fun r u H locs hw hP hD hS => ?_)
          obtain rfl := hw
          have hP : va_P g.1 vwCl [(h1, .inl (zI g, 180, .inl (upd (upd (upd (fun _ => 0) 0 60) 1 1) 2 1))), (h0, .inr (5, [.ref h1, .int 0, .ref h2, .int 0, .int 0, .ref h3, .ref h4, .ref h5, .ref h6, .int 0, .ref h7, .ref h8, .ref h9, .int 0, .ref h10, .ref h11, .ref h12, .ref h13, .ref h14, .ref h15, .ref h16, .ref h17, .ref h18, .ref h19, .ref h20, .ref h21, .ref h22])), (h19, .inl (zI g, 4, .inl (upd (upd (upd (upd (fun _ => 0) 0 (-1)) 1 (-1)) 2 (-1)) 3 (-1))))] H := hP
          have hD : va_D A [(h1, .inl (zI g, 180, .inl (upd (upd (upd (fun _ => 0) 0 60) 1 1) 2 1))), (h0, .inr (5, [.ref h1, .int 0, .ref h2, .int 0, .int 0, .ref h3, .ref h4, .ref h5, .ref h6, .int 0, .ref h7, .ref h8, .ref h9, .int 0, .ref h10, .ref h11, .ref h12, .ref h13, .ref h14, .ref h15, .ref h16, .ref h17, .ref h18, .ref h19, .ref h20, .ref h21, .ref h22])), (h19, .inl (zI g, 4, .inl (upd (upd (upd (upd (fun _ => 0) 0 (-1)) 1 (-1)) 2 (-1)) 3 (-1))))] := hD
          refine lv_istore (lv' := [(5, .int (-11)), (0, .ref h0), (1, .int 0), (2, .int p2), (3, .int p3), (4, .int p4)]) hx hb dX5_which_47 hl (by decide) rfl (fun ls hl => ?_)
          refine lv_iload hx hb dX5_which_49 (lv_at hl 0 rfl) ?_
          refine lv_if_ne (tgt := 63) hx hb dX5_which_51 (by decide) (fun _ => ?_) (fun h => absurd h (by decide +kernel))
          refine lv_iload hx hb dX5_which_63 (lv_at hl 0 rfl) ?_
          refine lv_if_eq (tgt := 73) hx hb dX5_which_65 (by decide) (fun h => absurd h (by decide +kernel)) (fun _ => ?_)
          refine lv_iload hx hb dX5_which_68 (lv_at hl 0 rfl) ?_
          refine lv_goto (tgt := 75) hx hb dX5_which_70 (by decide) ?_
          have hP9 := hP.sub (ws' := []) [] rfl
          have hD9 := hD.sub (ws' := []) [] (by decide) rfl
          exact W.iret (v := (-11)) hx hb hr (fun t ht hW => ⟨⟨(-11), 0, rfl, Or.inr (Or.inr (Or.inr (Or.inr (Or.inr (Or.inr (Or.inl ⟨i_3, i_4, i_8, i_9, i_13, i_14, j_15, rfl⟩)))))), by rw [ht]; exact hP9, hD9⟩, hS.F ht⟩) hS.2.2 dX5_which_75
        · obtain rfl : p1 = 1 := Int32.toInt_inj.mp (show p1.toInt = (1 : Int32).toInt from j_15.trans rfl)
          refine z_calli (wr := [(h1, .inl (zI g, 180, .inl (upd (upd (upd (fun _ => 0) 0 60) 1 1) 2 1)))]) hP hD hS hA [0, 2] [1] (by decide) rfl rfl (by decide) (va_runV (As := [.int 1, .int p2, .int p3, .int 0]) (rest := []) ⟨hx, hb, hml, hown, hts⟩ (kX5_bars_6 l g h0 h1 h2 h3 h4 h5 h6 h7 h8 h9 h10 h11 h12 h13 h14 h15 h16 h17 h18 h19 h20 h21 h22 H.size p2 p3) ⟨callB_of 4 hts (zGood m_o_yX5_bars) rfl rfl rfl (hts _ m_z_RX5) (hts _ m_m_RX5_228) ⟨by decide +kernel, by decide +kernel, by decide +kernel⟩ ⟨Nat.le_of_ble_eq_true rfl, Nat.le_of_ble_eq_true rfl⟩, hts _ m_i_yX5_bars, hts _ m_e_yX5_bars⟩ (zPreV hK hN hZ hP hD hS hA [0, 2] (by decide) rfl rfl 5 0 rfl rfl) rfl rfl hl.1 rfl (lv_room (Nat.le_of_ble_eq_true rfl)) dX5_which_44 ⟨Nat.le_of_ble_eq_true rfl, Nat.le_of_ble_eq_true rfl⟩) (fun r u H locs hw hP hD hS => ?_)
          obtain rfl := hw
          have hP : va_P g.1 vwCl [(h1, .inl (zI g, 180, .inl (upd (upd (upd (fun _ => 0) 0 60) 1 1) 2 1))), (h0, .inr (5, [.ref h1, .int 0, .ref h2, .int 0, .int 0, .ref h3, .ref h4, .ref h5, .ref h6, .int 0, .ref h7, .ref h8, .ref h9, .int 0, .ref h10, .ref h11, .ref h12, .ref h13, .ref h14, .ref h15, .ref h16, .ref h17, .ref h18, .ref h19, .ref h20, .ref h21, .ref h22])), (h19, .inl (zI g, 4, .inl (upd (upd (upd (upd (fun _ => 0) 0 (-1)) 1 (-1)) 2 (-1)) 3 (-1))))] H := hP
          have hD : va_D A [(h1, .inl (zI g, 180, .inl (upd (upd (upd (fun _ => 0) 0 60) 1 1) 2 1))), (h0, .inr (5, [.ref h1, .int 0, .ref h2, .int 0, .int 0, .ref h3, .ref h4, .ref h5, .ref h6, .int 0, .ref h7, .ref h8, .ref h9, .int 0, .ref h10, .ref h11, .ref h12, .ref h13, .ref h14, .ref h15, .ref h16, .ref h17, .ref h18, .ref h19, .ref h20, .ref h21, .ref h22])), (h19, .inl (zI g, 4, .inl (upd (upd (upd (upd (fun _ => 0) 0 (-1)) 1 (-1)) 2 (-1)) 3 (-1))))] := hD
          refine lv_istore (lv' := [(5, .int (-11)), (0, .ref h0), (1, .int 1), (2, .int p2), (3, .int p3), (4, .int p4)]) hx hb dX5_which_47 hl (by decide) rfl (fun ls hl => ?_)
          refine lv_iload hx hb dX5_which_49 (lv_at hl 0 rfl) ?_
          refine lv_if_ne (tgt := 63) hx hb dX5_which_51 (by decide) (fun _ => ?_) (fun h => absurd h (by decide +kernel))
          refine lv_iload hx hb dX5_which_63 (lv_at hl 0 rfl) ?_
          refine lv_if_eq (tgt := 73) hx hb dX5_which_65 (by decide) (fun h => absurd h (by decide +kernel)) (fun _ => ?_)
          refine lv_iload hx hb dX5_which_68 (lv_at hl 0 rfl) ?_
          refine lv_goto (tgt := 75) hx hb dX5_which_70 (by decide) ?_
          have hP9 := hP.sub (ws' := []) [] rfl
          have hD9 := hD.sub (ws' := []) [] (by decide) rfl
          exact W.iret (v := (-11)) hx hb hr (fun t ht hW => ⟨⟨(-11), 0, rfl, Or.inr (Or.inr (Or.inr (Or.inr (Or.inr (Or.inr (Or.inr (Or.inl ⟨i_3, i_4, i_8, i_9, i_13, i_14, j_15, rfl⟩))))))), by rw [ht]; exact hP9, hD9⟩, hS.F ht⟩) hS.2.2 dX5_which_75
        · obtain rfl : p1 = 2 := Int32.toInt_inj.mp (show p1.toInt = (2 : Int32).toInt from j_15.trans rfl)
          refine z_calli (wr := [(h1, .inl (zI g, 180, .inl (upd (upd (upd (fun _ => 0) 0 60) 1 1) 2 1)))]) hP hD hS hA [0, 2] [1] (by decide) rfl rfl (by decide) (va_runV (As := [.int 2, .int p2, .int p3, .int 0]) (rest := []) ⟨hx, hb, hml, hown, hts⟩ (kX5_bars_7 l g h0 h1 h2 h3 h4 h5 h6 h7 h8 h9 h10 h11 h12 h13 h14 h15 h16 h17 h18 h19 h20 h21 h22 H.size p2 p3) ⟨callB_of 4 hts (zGood m_o_yX5_bars) rfl rfl rfl (hts _ m_z_RX5) (hts _ m_m_RX5_228) ⟨by decide +kernel, by decide +kernel, by decide +kernel⟩ ⟨Nat.le_of_ble_eq_true rfl, Nat.le_of_ble_eq_true rfl⟩, hts _ m_i_yX5_bars, hts _ m_e_yX5_bars⟩ (zPreV hK hN hZ hP hD hS hA [0, 2] (by decide) rfl rfl 5 0 rfl rfl) rfl rfl hl.1 rfl (lv_room (Nat.le_of_ble_eq_true rfl)) dX5_which_44 ⟨Nat.le_of_ble_eq_true rfl, Nat.le_of_ble_eq_true rfl⟩) (fun r u H locs hw hP hD hS => ?_)
          obtain rfl := hw
          have hP : va_P g.1 vwCl [(h1, .inl (zI g, 180, .inl (upd (upd (upd (fun _ => 0) 0 60) 1 1) 2 1))), (h0, .inr (5, [.ref h1, .int 0, .ref h2, .int 0, .int 0, .ref h3, .ref h4, .ref h5, .ref h6, .int 0, .ref h7, .ref h8, .ref h9, .int 0, .ref h10, .ref h11, .ref h12, .ref h13, .ref h14, .ref h15, .ref h16, .ref h17, .ref h18, .ref h19, .ref h20, .ref h21, .ref h22])), (h19, .inl (zI g, 4, .inl (upd (upd (upd (upd (fun _ => 0) 0 (-1)) 1 (-1)) 2 (-1)) 3 (-1))))] H := hP
          have hD : va_D A [(h1, .inl (zI g, 180, .inl (upd (upd (upd (fun _ => 0) 0 60) 1 1) 2 1))), (h0, .inr (5, [.ref h1, .int 0, .ref h2, .int 0, .int 0, .ref h3, .ref h4, .ref h5, .ref h6, .int 0, .ref h7, .ref h8, .ref h9, .int 0, .ref h10, .ref h11, .ref h12, .ref h13, .ref h14, .ref h15, .ref h16, .ref h17, .ref h18, .ref h19, .ref h20, .ref h21, .ref h22])), (h19, .inl (zI g, 4, .inl (upd (upd (upd (upd (fun _ => 0) 0 (-1)) 1 (-1)) 2 (-1)) 3 (-1))))] := hD
          refine lv_istore (lv' := [(5, .int (-11)), (0, .ref h0), (1, .int 2), (2, .int p2), (3, .int p3), (4, .int p4)]) hx hb dX5_which_47 hl (by decide) rfl (fun ls hl => ?_)
          refine lv_iload hx hb dX5_which_49 (lv_at hl 0 rfl) ?_
          refine lv_if_ne (tgt := 63) hx hb dX5_which_51 (by decide) (fun _ => ?_) (fun h => absurd h (by decide +kernel))
          refine lv_iload hx hb dX5_which_63 (lv_at hl 0 rfl) ?_
          refine lv_if_eq (tgt := 73) hx hb dX5_which_65 (by decide) (fun h => absurd h (by decide +kernel)) (fun _ => ?_)
          refine lv_iload hx hb dX5_which_68 (lv_at hl 0 rfl) ?_
          refine lv_goto (tgt := 75) hx hb dX5_which_70 (by decide) ?_
          have hP9 := hP.sub (ws' := []) [] rfl
          have hD9 := hD.sub (ws' := []) [] (by decide) rfl
          exact W.iret (v := (-11)) hx hb hr (fun t ht hW => ⟨⟨(-11), 0, rfl, Or.inr (Or.inr (Or.inr (Or.inr (Or.inr (Or.inr (Or.inr (Or.inr (Or.inl ⟨i_3, i_4, i_8, i_9, i_13, i_14, j_15, rfl⟩)))))))), by rw [ht]; exact hP9, hD9⟩, hS.F ht⟩) hS.2.2 dX5_which_75
        · obtain rfl : p1 = 3 := Int32.toInt_inj.mp (show p1.toInt = (3 : Int32).toInt from j_15.trans rfl)
          refine z_calli (wr := [(h1, .inl (zI g, 180, .inl (upd (upd (upd (fun _ => 0) 0 60) 1 1) 2 1)))]) hP hD hS hA [0, 2] [1] (by decide) rfl rfl (by decide) (va_runV (As := [.int 3, .int p2, .int p3, .int 0]) (rest := []) ⟨hx, hb, hml, hown, hts⟩ (kX5_bars_8 l g h0 h1 h2 h3 h4 h5 h6 h7 h8 h9 h10 h11 h12 h13 h14 h15 h16 h17 h18 h19 h20 h21 h22 H.size p2 p3) ⟨callB_of 4 hts (zGood m_o_yX5_bars) rfl rfl rfl (hts _ m_z_RX5) (hts _ m_m_RX5_228) ⟨by decide +kernel, by decide +kernel, by decide +kernel⟩ ⟨Nat.le_of_ble_eq_true rfl, Nat.le_of_ble_eq_true rfl⟩, hts _ m_i_yX5_bars, hts _ m_e_yX5_bars⟩ (zPreV hK hN hZ hP hD hS hA [0, 2] (by decide) rfl rfl 5 0 rfl rfl) rfl rfl hl.1 rfl (lv_room (Nat.le_of_ble_eq_true rfl)) dX5_which_44 ⟨Nat.le_of_ble_eq_true rfl, Nat.le_of_ble_eq_true rfl⟩) (fun r u H locs hw hP hD hS => ?_)
          obtain rfl := hw
          have hP : va_P g.1 vwCl [(h1, .inl (zI g, 180, .inl (upd (upd (upd (fun _ => 0) 0 60) 1 1) 2 1))), (h0, .inr (5, [.ref h1, .int 0, .ref h2, .int 0, .int 0, .ref h3, .ref h4, .ref h5, .ref h6, .int 0, .ref h7, .ref h8, .ref h9, .int 0, .ref h10, .ref h11, .ref h12, .ref h13, .ref h14, .ref h15, .ref h16, .ref h17, .ref h18, .ref h19, .ref h20, .ref h21, .ref h22])), (h19, .inl (zI g, 4, .inl (upd (upd (upd (upd (fun _ => 0) 0 (-1)) 1 (-1)) 2 (-1)) 3 (-1))))] H := hP
          have hD : va_D A [(h1, .inl (zI g, 180, .inl (upd (upd (upd (fun _ => 0) 0 60) 1 1) 2 1))), (h0, .inr (5, [.ref h1, .int 0, .ref h2, .int 0, .int 0, .ref h3, .ref h4, .ref h5, .ref h6, .int 0, .ref h7, .ref h8, .ref h9, .int 0, .ref h10, .ref h11, .ref h12, .ref h13, .ref h14, .ref h15, .ref h16, .ref h17, .ref h18, .ref h19, .ref h20, .ref h21, .ref h22])), (h19, .inl (zI g, 4, .inl (upd (upd (upd (upd (fun _ => 0) 0 (-1)) 1 (-1)) 2 (-1)) 3 (-1))))] := hD
          refine lv_istore (lv' := [(5, .int (-11)), (0, .ref h0), (1, .int 3), (2, .int p2), (3, .int p3), (4, .int p4)]) hx hb dX5_which_47 hl (by decide) rfl (fun ls hl => ?_)
          refine lv_iload hx hb dX5_which_49 (lv_at hl 0 rfl) ?_
          refine lv_if_ne (tgt := 63) hx hb dX5_which_51 (by decide) (fun _ => ?_) (fun h => absurd h (by decide +kernel))
          refine lv_iload hx hb dX5_which_63 (lv_at hl 0 rfl) ?_
          refine lv_if_eq (tgt := 73) hx hb dX5_which_65 (by decide) (fun h => absurd h (by decide +kernel)) (fun _ => ?_)
          refine lv_iload hx hb dX5_which_68 (lv_at hl 0 rfl) ?_
          refine lv_goto (tgt := 75) hx hb dX5_which_70 (by decide) ?_
          have hP9 := hP.sub (ws' := []) [] rfl
          have hD9 := hD.sub (ws' := []) [] (by decide) rfl
          exact W.iret (v := (-11)) hx hb hr (fun t ht hW => ⟨⟨(-11), 0, rfl, Or.inr (Or.inr (Or.inr (Or.inr (Or.inr (Or.inr (Or.inr (Or.inr (Or.inr (⟨i_3, i_4, i_8, i_9, i_13, i_14, j_15, rfl⟩))))))))), by rw [ht]; exact hP9, hD9⟩, hS.F ht⟩) hS.2.2 dX5_which_75
set_option maxHeartbeats 4000000 in
set_option maxRecDepth 100000 in
theorem kX5_film (l : Launch) (g : zG) (h0 h1 h2 h3 h4 h5 h6 h7 h8 h9 h10 h11 h12 h13 h14 h15 h16 h17 h18 h19 h20 h21 h22 : Nat) (sz : Nat) (p1 : Int32) (p2 : Int32) (p3 : Int32) : Met l yX5_film (.code yX5_film cX5_film 6 (some .int) :: zBig) ({ frames := 2, cells := 0, slots := 0, locals := 45 }) (va_Pc [.ref h0, .int p1, .int p2, .int p3] (zPre g [(h0, .inr (5, [.ref h1, .int 0, .ref h2, .int 0, .int 0, .ref h3, .ref h4, .ref h5, .ref h6, .int 0, .ref h7, .ref h8, .ref h9, .int 0, .ref h10, .ref h11, .ref h12, .ref h13, .ref h14, .ref h15, .ref h16, .ref h17, .ref h18, .ref h19, .ref h20, .ref h21, .ref h22])), (h1, .inl (zI g, 180, .inl (upd (upd (upd (fun _ => 0) 0 60) 1 1) 2 1))), (h19, .inl (zI g, 4, .inl (upd (upd (upd (upd (fun _ => 0) 0 (-1)) 1 (-1)) 2 (-1)) 3 (-1))))] sz)) (va_Qi (fun (r : Int32) (_ : Nat) => (p1.toInt < 0 ∧ r = (-1)) ∨ (0 ≤ p1.toInt ∧ 3 < p1.toInt ∧ r = (-1)) ∨ (0 ≤ p1.toInt ∧ p1.toInt ≤ 3 ∧ p2.toInt < 0 ∧ r = (-1)) ∨ (0 ≤ p1.toInt ∧ p1.toInt ≤ 3 ∧ 0 ≤ p2.toInt ∧ 2 < p2.toInt ∧ r = (-1)) ∨ (0 ≤ p1.toInt ∧ p1.toInt ≤ 3 ∧ 0 ≤ p2.toInt ∧ p2.toInt ≤ 2 ∧ p1.toInt = 0 ∧ r = (-11)) ∨ (0 ≤ p1.toInt ∧ p1.toInt ≤ 3 ∧ 0 ≤ p2.toInt ∧ p2.toInt ≤ 2 ∧ p1.toInt = 1 ∧ r = (-11)) ∨ (0 ≤ p1.toInt ∧ p1.toInt ≤ 3 ∧ 0 ≤ p2.toInt ∧ p2.toInt ≤ 2 ∧ p1.toInt = 2 ∧ r = (-11)) ∨ (0 ≤ p1.toInt ∧ p1.toInt ≤ 3 ∧ 0 ≤ p2.toInt ∧ p2.toInt ≤ 2 ∧ p1.toInt = 3 ∧ r = (-11))) (zPost g (fun _ : Nat => []) (va_A [(h0, .inr (5, [.ref h1, .int 0, .ref h2, .int 0, .int 0, .ref h3, .ref h4, .ref h5, .ref h6, .int 0, .ref h7, .ref h8, .ref h9, .int 0, .ref h10, .ref h11, .ref h12, .ref h13, .ref h14, .ref h15, .ref h16, .ref h17, .ref h18, .ref h19, .ref h20, .ref h21, .ref h22])), (h1, .inl (zI g, 180, .inl (upd (upd (upd (fun _ => 0) 0 60) 1 1) 2 1))), (h19, .inl (zI g, 4, .inl (upd (upd (upd (upd (fun _ => 0) 0 (-1)) 1 (-1)) 2 (-1)) 3 (-1))))] sz)) (va_A [(h0, .inr (5, [.ref h1, .int 0, .ref h2, .int 0, .int 0, .ref h3, .ref h4, .ref h5, .ref h6, .int 0, .ref h7, .ref h8, .ref h9, .int 0, .ref h10, .ref h11, .ref h12, .ref h13, .ref h14, .ref h15, .ref h16, .ref h17, .ref h18, .ref h19, .ref h20, .ref h21, .ref h22])), (h1, .inl (zI g, 180, .inl (upd (upd (upd (fun _ => 0) 0 60) 1 1) 2 1))), (h19, .inl (zI g, 4, .inl (upd (upd (upd (upd (fun _ => 0) 0 (-1)) 1 (-1)) 2 (-1)) 3 (-1))))] sz)) 0 0 (va_A [(h0, .inr (5, [.ref h1, .int 0, .ref h2, .int 0, .int 0, .ref h3, .ref h4, .ref h5, .ref h6, .int 0, .ref h7, .ref h8, .ref h9, .int 0, .ref h10, .ref h11, .ref h12, .ref h13, .ref h14, .ref h15, .ref h16, .ref h17, .ref h18, .ref h19, .ref h20, .ref h21, .ref h22])), (h1, .inl (zI g, 180, .inl (upd (upd (upd (fun _ => 0) 0 60) 1 1) 2 1))), (h19, .inl (zI g, 4, .inl (upd (upd (upd (upd (fun _ => 0) 0 (-1)) 1 (-1)) 2 (-1)) 3 (-1))))] sz) := by
  refine zMetI rfl (Nat.le_of_ble_eq_true rfl) ?_
  intro p e s m args below meth c A ls hx hb hml hr hlocks hin hown hts hK hN hZ hP hD hA hS hAe hl
  have hown : s.vm.findClass RX5 = some m.cls := hown
  have hl : lv_has ls 6 [(0, .ref h0), (1, .int p1), (2, .int p2), (3, .int p3)] := hl
  refine lv_iload_n hx hb dX5_film_0 rfl (lv_at hl 1 rfl) ?_
  refine z_calli (wr := [(h0, .inr (5, [.ref h1, .int 0, .ref h2, .int 0, .int 0, .ref h3, .ref h4, .ref h5, .ref h6, .int 0, .ref h7, .ref h8, .ref h9, .int 0, .ref h10, .ref h11, .ref h12, .ref h13, .ref h14, .ref h15, .ref h16, .ref h17, .ref h18, .ref h19, .ref h20, .ref h21, .ref h22])), (h1, .inl (zI g, 180, .inl (upd (upd (upd (fun _ => 0) 0 60) 1 1) 2 1))), (h19, .inl (zI g, 4, .inl (upd (upd (upd (upd (fun _ => 0) 0 (-1)) 1 (-1)) 2 (-1)) 3 (-1))))]) hP hD hS hA [] [0, 1, 2] (by decide) rfl rfl (by decide) (va_runS (As := [.int p1]) (rest := []) ⟨hx, hb, hml, hown, hts⟩ (kX5_isSheet_2 l g  s.heap.size p1) ⟨callB_of 1 hts (zGood m_o_yX5_isSheet) rfl rfl rfl (hts _ m_z_RX5) (hts _ m_m_RX5_225) ⟨by decide +kernel, by decide +kernel, by decide +kernel⟩ ⟨Nat.le_of_ble_eq_true rfl, Nat.le_of_ble_eq_true rfl⟩, hts _ m_s_yX5_isSheet⟩ (zPreS hK hN hZ hP hD hS hA [] (by decide) rfl rfl) rfl rfl hl.1 rfl (lv_room (Nat.le_of_ble_eq_true rfl)) dX5_film_1 ⟨Nat.le_of_ble_eq_true rfl, Nat.le_of_ble_eq_true rfl⟩) (fun r u H locs hw hP hD hS => ?_)
  rcases hw with ⟨i_0, rfl⟩ | ⟨i_1, i_2, rfl⟩ | ⟨i_3, i_4, rfl⟩
  · skip
    have i_0 : p1.toInt < 0 := i_0
    have hP : va_P g.1 vwCl [(h0, .inr (5, [.ref h1, .int 0, .ref h2, .int 0, .int 0, .ref h3, .ref h4, .ref h5, .ref h6, .int 0, .ref h7, .ref h8, .ref h9, .int 0, .ref h10, .ref h11, .ref h12, .ref h13, .ref h14, .ref h15, .ref h16, .ref h17, .ref h18, .ref h19, .ref h20, .ref h21, .ref h22])), (h1, .inl (zI g, 180, .inl (upd (upd (upd (fun _ => 0) 0 60) 1 1) 2 1))), (h19, .inl (zI g, 4, .inl (upd (upd (upd (upd (fun _ => 0) 0 (-1)) 1 (-1)) 2 (-1)) 3 (-1))))] H := hP
    have hD : va_D A [(h0, .inr (5, [.ref h1, .int 0, .ref h2, .int 0, .int 0, .ref h3, .ref h4, .ref h5, .ref h6, .int 0, .ref h7, .ref h8, .ref h9, .int 0, .ref h10, .ref h11, .ref h12, .ref h13, .ref h14, .ref h15, .ref h16, .ref h17, .ref h18, .ref h19, .ref h20, .ref h21, .ref h22])), (h1, .inl (zI g, 180, .inl (upd (upd (upd (fun _ => 0) 0 60) 1 1) 2 1))), (h19, .inl (zI g, 4, .inl (upd (upd (upd (upd (fun _ => 0) 0 (-1)) 1 (-1)) 2 (-1)) 3 (-1))))] := hD
    refine lv_if_eq (tgt := 19) hx hb dX5_film_4 (by decide) (fun _ => ?_) (fun h => absurd h (by decide +kernel))
    refine lv_iconst (v := (-1)) hx hb dX5_film_19 (by decide) ?_
    have hP9 := hP.sub (ws' := []) [] rfl
    have hD9 := hD.sub (ws' := []) [] (by decide) rfl
    exact W.iret (v := (-1)) hx hb hr (fun t ht hW => ⟨⟨(-1), 0, rfl, Or.inl ⟨i_0, rfl⟩, by rw [ht]; exact hP9, hD9⟩, hS.F ht⟩) hS.2.2 dX5_film_20
  · skip
    have i_1 : 0 ≤ p1.toInt := i_1
    have i_2 : 3 < p1.toInt := i_2
    have hP : va_P g.1 vwCl [(h0, .inr (5, [.ref h1, .int 0, .ref h2, .int 0, .int 0, .ref h3, .ref h4, .ref h5, .ref h6, .int 0, .ref h7, .ref h8, .ref h9, .int 0, .ref h10, .ref h11, .ref h12, .ref h13, .ref h14, .ref h15, .ref h16, .ref h17, .ref h18, .ref h19, .ref h20, .ref h21, .ref h22])), (h1, .inl (zI g, 180, .inl (upd (upd (upd (fun _ => 0) 0 60) 1 1) 2 1))), (h19, .inl (zI g, 4, .inl (upd (upd (upd (upd (fun _ => 0) 0 (-1)) 1 (-1)) 2 (-1)) 3 (-1))))] H := hP
    have hD : va_D A [(h0, .inr (5, [.ref h1, .int 0, .ref h2, .int 0, .int 0, .ref h3, .ref h4, .ref h5, .ref h6, .int 0, .ref h7, .ref h8, .ref h9, .int 0, .ref h10, .ref h11, .ref h12, .ref h13, .ref h14, .ref h15, .ref h16, .ref h17, .ref h18, .ref h19, .ref h20, .ref h21, .ref h22])), (h1, .inl (zI g, 180, .inl (upd (upd (upd (fun _ => 0) 0 60) 1 1) 2 1))), (h19, .inl (zI g, 4, .inl (upd (upd (upd (upd (fun _ => 0) 0 (-1)) 1 (-1)) 2 (-1)) 3 (-1))))] := hD
    refine lv_if_eq (tgt := 19) hx hb dX5_film_4 (by decide) (fun _ => ?_) (fun h => absurd h (by decide +kernel))
    refine lv_iconst (v := (-1)) hx hb dX5_film_19 (by decide) ?_
    have hP9 := hP.sub (ws' := []) [] rfl
    have hD9 := hD.sub (ws' := []) [] (by decide) rfl
    exact W.iret (v := (-1)) hx hb hr (fun t ht hW => ⟨⟨(-1), 0, rfl, Or.inr (Or.inl ⟨i_1, i_2, rfl⟩), by rw [ht]; exact hP9, hD9⟩, hS.F ht⟩) hS.2.2 dX5_film_20
  · skip
    have i_3 : 0 ≤ p1.toInt := i_3
    have i_4 : p1.toInt ≤ 3 := i_4
    have hP : va_P g.1 vwCl [(h0, .inr (5, [.ref h1, .int 0, .ref h2, .int 0, .int 0, .ref h3, .ref h4, .ref h5, .ref h6, .int 0, .ref h7, .ref h8, .ref h9, .int 0, .ref h10, .ref h11, .ref h12, .ref h13, .ref h14, .ref h15, .ref h16, .ref h17, .ref h18, .ref h19, .ref h20, .ref h21, .ref h22])), (h1, .inl (zI g, 180, .inl (upd (upd (upd (fun _ => 0) 0 60) 1 1) 2 1))), (h19, .inl (zI g, 4, .inl (upd (upd (upd (upd (fun _ => 0) 0 (-1)) 1 (-1)) 2 (-1)) 3 (-1))))] H := hP
    have hD : va_D A [(h0, .inr (5, [.ref h1, .int 0, .ref h2, .int 0, .int 0, .ref h3, .ref h4, .ref h5, .ref h6, .int 0, .ref h7, .ref h8, .ref h9, .int 0, .ref h10, .ref h11, .ref h12, .ref h13, .ref h14, .ref h15, .ref h16, .ref h17, .ref h18, .ref h19, .ref h20, .ref h21, .ref h22])), (h1, .inl (zI g, 180, .inl (upd (upd (upd (fun _ => 0) 0 60) 1 1) 2 1))), (h19, .inl (zI g, 4, .inl (upd (upd (upd (upd (fun _ => 0) 0 (-1)) 1 (-1)) 2 (-1)) 3 (-1))))] := hD
    refine lv_if_eq (tgt := 19) hx hb dX5_film_4 (by decide) (fun h => absurd h (by decide +kernel)) (fun _ => ?_)
    refine lv_iload_n hx hb dX5_film_7 rfl (lv_at hl 2 rfl) ?_
    refine lv_i2l (v := p2.toInt64) hx hb dX5_film_8 rfl ?_
    refine lv_lconst (v := 0) hx hb dX5_film_9 (by decide) ?_
    refine lv_ldc2 (v := 2) hx hb hown (hts _ m_k_RX5_197) dX5_film_10 ?_
    refine z_calli (wr := [(h0, .inr (5, [.ref h1, .int 0, .ref h2, .int 0, .int 0, .ref h3, .ref h4, .ref h5, .ref h6, .int 0, .ref h7, .ref h8, .ref h9, .int 0, .ref h10, .ref h11, .ref h12, .ref h13, .ref h14, .ref h15, .ref h16, .ref h17, .ref h18, .ref h19, .ref h20, .ref h21, .ref h22])), (h1, .inl (zI g, 180, .inl (upd (upd (upd (fun _ => 0) 0 60) 1 1) 2 1))), (h19, .inl (zI g, 4, .inl (upd (upd (upd (upd (fun _ => 0) 0 (-1)) 1 (-1)) 2 (-1)) 3 (-1))))]) hP hD hS hA [] [0, 1, 2] (by decide) rfl rfl (by decide) (va_runS (As := [.long p2.toInt64, .long 0, .long 2]) (rest := []) ⟨hx, hb, hml, hown, hts⟩ (kX5_in_32 l g  H.size p2.toInt64) ⟨callB_of 3 hts (zGood m_o_yX5_in) rfl rfl rfl (hts _ m_z_RX5) (hts _ m_m_RX5_77) ⟨by decide +kernel, by decide +kernel, by decide +kernel⟩ ⟨Nat.le_of_ble_eq_true rfl, Nat.le_of_ble_eq_true rfl⟩, hts _ m_s_yX5_in⟩ (zPreS hK hN hZ hP hD hS hA [] (by decide) rfl rfl) rfl rfl hl.1 rfl (lv_room (Nat.le_of_ble_eq_true rfl)) dX5_film_13 ⟨Nat.le_of_ble_eq_true rfl, Nat.le_of_ble_eq_true rfl⟩) (fun r u H locs hw hP hD hS => ?_)
    rcases hw with ⟨i_5, rfl⟩ | ⟨i_6, i_7, rfl⟩ | ⟨i_8, i_9, rfl⟩
    · skip
      have i_5 : p2.toInt < 0 := by simpa only [Int32.toInt_toInt64] using i_5
      have hP : va_P g.1 vwCl [(h0, .inr (5, [.ref h1, .int 0, .ref h2, .int 0, .int 0, .ref h3, .ref h4, .ref h5, .ref h6, .int 0, .ref h7, .ref h8, .ref h9, .int 0, .ref h10, .ref h11, .ref h12, .ref h13, .ref h14, .ref h15, .ref h16, .ref h17, .ref h18, .ref h19, .ref h20, .ref h21, .ref h22])), (h1, .inl (zI g, 180, .inl (upd (upd (upd (fun _ => 0) 0 60) 1 1) 2 1))), (h19, .inl (zI g, 4, .inl (upd (upd (upd (upd (fun _ => 0) 0 (-1)) 1 (-1)) 2 (-1)) 3 (-1))))] H := hP
      have hD : va_D A [(h0, .inr (5, [.ref h1, .int 0, .ref h2, .int 0, .int 0, .ref h3, .ref h4, .ref h5, .ref h6, .int 0, .ref h7, .ref h8, .ref h9, .int 0, .ref h10, .ref h11, .ref h12, .ref h13, .ref h14, .ref h15, .ref h16, .ref h17, .ref h18, .ref h19, .ref h20, .ref h21, .ref h22])), (h1, .inl (zI g, 180, .inl (upd (upd (upd (fun _ => 0) 0 60) 1 1) 2 1))), (h19, .inl (zI g, 4, .inl (upd (upd (upd (upd (fun _ => 0) 0 (-1)) 1 (-1)) 2 (-1)) 3 (-1))))] := hD
      refine lv_if_ne (tgt := 21) hx hb dX5_film_16 (by decide) (fun h => absurd h (by decide +kernel)) (fun _ => ?_)
      refine lv_iconst (v := (-1)) hx hb dX5_film_19 (by decide) ?_
      have hP9 := hP.sub (ws' := []) [] rfl
      have hD9 := hD.sub (ws' := []) [] (by decide) rfl
      exact W.iret (v := (-1)) hx hb hr (fun t ht hW => ⟨⟨(-1), 0, rfl, Or.inr (Or.inr (Or.inl ⟨i_3, i_4, i_5, rfl⟩)), by rw [ht]; exact hP9, hD9⟩, hS.F ht⟩) hS.2.2 dX5_film_20
    · skip
      have i_6 : 0 ≤ p2.toInt := by simpa only [Int32.toInt_toInt64] using i_6
      have i_7 : 2 < p2.toInt := by simpa only [Int32.toInt_toInt64] using i_7
      have hP : va_P g.1 vwCl [(h0, .inr (5, [.ref h1, .int 0, .ref h2, .int 0, .int 0, .ref h3, .ref h4, .ref h5, .ref h6, .int 0, .ref h7, .ref h8, .ref h9, .int 0, .ref h10, .ref h11, .ref h12, .ref h13, .ref h14, .ref h15, .ref h16, .ref h17, .ref h18, .ref h19, .ref h20, .ref h21, .ref h22])), (h1, .inl (zI g, 180, .inl (upd (upd (upd (fun _ => 0) 0 60) 1 1) 2 1))), (h19, .inl (zI g, 4, .inl (upd (upd (upd (upd (fun _ => 0) 0 (-1)) 1 (-1)) 2 (-1)) 3 (-1))))] H := hP
      have hD : va_D A [(h0, .inr (5, [.ref h1, .int 0, .ref h2, .int 0, .int 0, .ref h3, .ref h4, .ref h5, .ref h6, .int 0, .ref h7, .ref h8, .ref h9, .int 0, .ref h10, .ref h11, .ref h12, .ref h13, .ref h14, .ref h15, .ref h16, .ref h17, .ref h18, .ref h19, .ref h20, .ref h21, .ref h22])), (h1, .inl (zI g, 180, .inl (upd (upd (upd (fun _ => 0) 0 60) 1 1) 2 1))), (h19, .inl (zI g, 4, .inl (upd (upd (upd (upd (fun _ => 0) 0 (-1)) 1 (-1)) 2 (-1)) 3 (-1))))] := hD
      refine lv_if_ne (tgt := 21) hx hb dX5_film_16 (by decide) (fun h => absurd h (by decide +kernel)) (fun _ => ?_)
      refine lv_iconst (v := (-1)) hx hb dX5_film_19 (by decide) ?_
      have hP9 := hP.sub (ws' := []) [] rfl
      have hD9 := hD.sub (ws' := []) [] (by decide) rfl
      exact W.iret (v := (-1)) hx hb hr (fun t ht hW => ⟨⟨(-1), 0, rfl, Or.inr (Or.inr (Or.inr (Or.inl ⟨i_3, i_4, i_6, i_7, rfl⟩))), by rw [ht]; exact hP9, hD9⟩, hS.F ht⟩) hS.2.2 dX5_film_20
    · skip
      have i_8 : 0 ≤ p2.toInt := by simpa only [Int32.toInt_toInt64] using i_8
      have i_9 : p2.toInt ≤ 2 := by simpa only [Int32.toInt_toInt64] using i_9
      have hP : va_P g.1 vwCl [(h0, .inr (5, [.ref h1, .int 0, .ref h2, .int 0, .int 0, .ref h3, .ref h4, .ref h5, .ref h6, .int 0, .ref h7, .ref h8, .ref h9, .int 0, .ref h10, .ref h11, .ref h12, .ref h13, .ref h14, .ref h15, .ref h16, .ref h17, .ref h18, .ref h19, .ref h20, .ref h21, .ref h22])), (h1, .inl (zI g, 180, .inl (upd (upd (upd (fun _ => 0) 0 60) 1 1) 2 1))), (h19, .inl (zI g, 4, .inl (upd (upd (upd (upd (fun _ => 0) 0 (-1)) 1 (-1)) 2 (-1)) 3 (-1))))] H := hP
      have hD : va_D A [(h0, .inr (5, [.ref h1, .int 0, .ref h2, .int 0, .int 0, .ref h3, .ref h4, .ref h5, .ref h6, .int 0, .ref h7, .ref h8, .ref h9, .int 0, .ref h10, .ref h11, .ref h12, .ref h13, .ref h14, .ref h15, .ref h16, .ref h17, .ref h18, .ref h19, .ref h20, .ref h21, .ref h22])), (h1, .inl (zI g, 180, .inl (upd (upd (upd (fun _ => 0) 0 60) 1 1) 2 1))), (h19, .inl (zI g, 4, .inl (upd (upd (upd (upd (fun _ => 0) 0 (-1)) 1 (-1)) 2 (-1)) 3 (-1))))] := hD
      refine lv_if_ne (tgt := 21) hx hb dX5_film_16 (by decide) (fun _ => ?_) (fun h => absurd h (by decide +kernel))
      refine lv_aload_n hx hb dX5_film_21 rfl (lv_at hl 0 rfl) ?_
      refine lv_iload_n hx hb dX5_film_22 rfl (lv_at hl 1 rfl) ?_
      refine lv_iload_n hx hb dX5_film_23 rfl (lv_at hl 2 rfl) ?_
      refine lv_iload_n hx hb dX5_film_24 rfl (lv_at hl 3 rfl) ?_
      refine lv_iconst (v := 2) hx hb dX5_film_25 (by decide) ?_
      refine lv_aload_n hx hb dX5_film_26 rfl (lv_at hl 0 rfl) ?_
      refine va_get (D := g.1) (ci := 5) (v := .ref h1) (C := RX5) (T := TX5) (N := 27) hx hb hts zl_X5 hown hK hP 0 rfl rfl 0 (by decide) (hts _ m_f_RX5_7) (fun _ h => h) rfl dX5_film_27 ?_
      refine lv_iconst (v := 5) hx hb dX5_film_30 (by decide) ?_
      refine va_iald (D := g.1) hx hb hK hP 1 0 rfl rfl (vp_in_iff.mpr (by decide +kernel)) dX5_film_31 ?_
      refine lv_topi (nm_r (e' := 0) (by rfl) ?_)
      refine lv_imul hx hb dX5_film_32 ?_
      refine lv_topi (nm_r (e' := 0) (by decide +kernel) ?_)
      rcases (show p1.toInt = 0 ∨ p1.toInt = 1 ∨ p1.toInt = 2 ∨ p1.toInt = 3 by omega) with j_10 | j_10 | j_10 | j_10
      · obtain rfl : p1 = 0 := Int32.toInt_inj.mp (show p1.toInt = (0 : Int32).toInt from j_10.trans rfl)
        refine z_calli (wr := [(h1, .inl (zI g, 180, .inl (upd (upd (upd (fun _ => 0) 0 60) 1 1) 2 1)))]) hP hD hS hA [0, 2] [1] (by decide) rfl rfl (by decide) (va_runV (As := [.int 0, .int p2, .int p3, .int 0]) (rest := []) ⟨hx, hb, hml, hown, hts⟩ (kX5_bars_5 l g h0 h1 h2 h3 h4 h5 h6 h7 h8 h9 h10 h11 h12 h13 h14 h15 h16 h17 h18 h19 h20 h21 h22 H.size p2 p3) ⟨callB_of 4 hts (zGood m_o_yX5_bars) rfl rfl rfl (hts _ m_z_RX5) (hts _ m_m_RX5_228) ⟨by decide +kernel, by decide +kernel, by decide +kernel⟩ ⟨Nat.le_of_ble_eq_true rfl, Nat.le_of_ble_eq_true rfl⟩, hts _ m_i_yX5_bars, hts _ m_e_yX5_bars⟩ (zPreV hK hN hZ hP hD hS hA [0, 2] (by decide) rfl rfl 5 0 rfl rfl) rfl rfl hl.1 rfl (lv_room (Nat.le_of_ble_eq_true rfl)) dX5_film_33 ⟨Nat.le_of_ble_eq_true rfl, Nat.le_of_ble_eq_true rfl⟩) (fun r u H locs hw hP hD hS => ?_)
        obtain rfl := hw
        have hP : va_P g.1 vwCl [(h1, .inl (zI g, 180, .inl (upd (upd (upd (fun _ => 0) 0 60) 1 1) 2 1))), (h0, .inr (5, [.ref h1, .int 0, .ref h2, .int 0, .int 0, .ref h3, .ref h4, .ref h5, .ref h6, .int 0, .ref h7, .ref h8, .ref h9, .int 0, .ref h10, .ref h11, .ref h12, .ref h13, .ref h14, .ref h15, .ref h16, .ref h17, .ref h18, .ref h19, .ref h20, .ref h21, .ref h22])), (h19, .inl (zI g, 4, .inl (upd (upd (upd (upd (fun _ => 0) 0 (-1)) 1 (-1)) 2 (-1)) 3 (-1))))] H := hP
        have hD : va_D A [(h1, .inl (zI g, 180, .inl (upd (upd (upd (fun _ => 0) 0 60) 1 1) 2 1))), (h0, .inr (5, [.ref h1, .int 0, .ref h2, .int 0, .int 0, .ref h3, .ref h4, .ref h5, .ref h6, .int 0, .ref h7, .ref h8, .ref h9, .int 0, .ref h10, .ref h11, .ref h12, .ref h13, .ref h14, .ref h15, .ref h16, .ref h17, .ref h18, .ref h19, .ref h20, .ref h21, .ref h22])), (h19, .inl (zI g, 4, .inl (upd (upd (upd (upd (fun _ => 0) 0 (-1)) 1 (-1)) 2 (-1)) 3 (-1))))] := hD
        refine lv_istore (lv' := [(4, .int (-11)), (0, .ref h0), (1, .int 0), (2, .int p2), (3, .int p3)]) hx hb dX5_film_36 hl (by decide) rfl (fun ls hl => ?_)
        refine lv_iload hx hb dX5_film_38 (lv_at hl 0 rfl) ?_
        refine lv_if_ne (tgt := 52) hx hb dX5_film_40 (by decide) (fun _ => ?_) (fun h => absurd h (by decide +kernel))
        refine lv_iload hx hb dX5_film_52 (lv_at hl 0 rfl) ?_
        refine lv_if_eq (tgt := 62) hx hb dX5_film_54 (by decide) (fun h => absurd h (by decide +kernel)) (fun _ => ?_)
        refine lv_iload hx hb dX5_film_57 (lv_at hl 0 rfl) ?_
        refine lv_goto (tgt := 64) hx hb dX5_film_59 (by decide) ?_
        have hP9 := hP.sub (ws' := []) [] rfl
        have hD9 := hD.sub (ws' := []) [] (by decide) rfl
        exact W.iret (v := (-11)) hx hb hr (fun t ht hW => ⟨⟨(-11), 0, rfl, Or.inr (Or.inr (Or.inr (Or.inr (Or.inl ⟨i_3, i_4, i_8, i_9, j_10, rfl⟩)))), by rw [ht]; exact hP9, hD9⟩, hS.F ht⟩) hS.2.2 dX5_film_64
      · obtain rfl : p1 = 1 := Int32.toInt_inj.mp (show p1.toInt = (1 : Int32).toInt from j_10.trans rfl)
        refine z_calli (wr := [(h1, .inl (zI g, 180, .inl (upd (upd (upd (fun _ => 0) 0 60) 1 1) 2 1)))]) hP hD hS hA [0, 2] [1] (by decide) rfl rfl (by decide) (va_runV (As := [.int 1, .int p2, .int p3, .int 0]) (rest := []) ⟨hx, hb, hml, hown, hts⟩ (kX5_bars_6 l g h0 h1 h2 h3 h4 h5 h6 h7 h8 h9 h10 h11 h12 h13 h14 h15 h16 h17 h18 h19 h20 h21 h22 H.size p2 p3) ⟨callB_of 4 hts (zGood m_o_yX5_bars) rfl rfl rfl (hts _ m_z_RX5) (hts _ m_m_RX5_228) ⟨by decide +kernel, by decide +kernel, by decide +kernel⟩ ⟨Nat.le_of_ble_eq_true rfl, Nat.le_of_ble_eq_true rfl⟩, hts _ m_i_yX5_bars, hts _ m_e_yX5_bars⟩ (zPreV hK hN hZ hP hD hS hA [0, 2] (by decide) rfl rfl 5 0 rfl rfl) rfl rfl hl.1 rfl (lv_room (Nat.le_of_ble_eq_true rfl)) dX5_film_33 ⟨Nat.le_of_ble_eq_true rfl, Nat.le_of_ble_eq_true rfl⟩) (fun r u H locs hw hP hD hS => ?_)
        obtain rfl := hw
        have hP : va_P g.1 vwCl [(h1, .inl (zI g, 180, .inl (upd (upd (upd (fun _ => 0) 0 60) 1 1) 2 1))), (h0, .inr (5, [.ref h1, .int 0, .ref h2, .int 0, .int 0, .ref h3, .ref h4, .ref h5, .ref h6, .int 0, .ref h7, .ref h8, .ref h9, .int 0, .ref h10, .ref h11, .ref h12, .ref h13, .ref h14, .ref h15, .ref h16, .ref h17, .ref h18, .ref h19, .ref h20, .ref h21, .ref h22])), (h19, .inl (zI g, 4, .inl (upd (upd (upd (upd (fun _ => 0) 0 (-1)) 1 (-1)) 2 (-1)) 3 (-1))))] H := hP
        have hD : va_D A [(h1, .inl (zI g, 180, .inl (upd (upd (upd (fun _ => 0) 0 60) 1 1) 2 1))), (h0, .inr (5, [.ref h1, .int 0, .ref h2, .int 0, .int 0, .ref h3, .ref h4, .ref h5, .ref h6, .int 0, .ref h7, .ref h8, .ref h9, .int 0, .ref h10, .ref h11, .ref h12, .ref h13, .ref h14, .ref h15, .ref h16, .ref h17, .ref h18, .ref h19, .ref h20, .ref h21, .ref h22])), (h19, .inl (zI g, 4, .inl (upd (upd (upd (upd (fun _ => 0) 0 (-1)) 1 (-1)) 2 (-1)) 3 (-1))))] := hD
        refine lv_istore (lv' := [(4, .int (-11)), (0, .ref h0), (1, .int 1), (2, .int p2), (3, .int p3)]) hx hb dX5_film_36 hl (by decide) rfl (fun ls hl => ?_)
        refine lv_iload hx hb dX5_film_38 (lv_at hl 0 rfl) ?_
        refine lv_if_ne (tgt := 52) hx hb dX5_film_40 (by decide) (fun _ => ?_) (fun h => absurd h (by decide +kernel))
        refine lv_iload hx hb dX5_film_52 (lv_at hl 0 rfl) ?_
        refine lv_if_eq (tgt := 62) hx hb dX5_film_54 (by decide) (fun h => absurd h (by decide +kernel)) (fun _ => ?_)
        refine lv_iload hx hb dX5_film_57 (lv_at hl 0 rfl) ?_
        refine lv_goto (tgt := 64) hx hb dX5_film_59 (by decide) ?_
        have hP9 := hP.sub (ws' := []) [] rfl
        have hD9 := hD.sub (ws' := []) [] (by decide) rfl
        exact W.iret (v := (-11)) hx hb hr (fun t ht hW => ⟨⟨(-11), 0, rfl, Or.inr (Or.inr (Or.inr (Or.inr (Or.inr (Or.inl ⟨i_3, i_4, i_8, i_9, j_10, rfl⟩))))), by rw [ht]; exact hP9, hD9⟩, hS.F ht⟩) hS.2.2 dX5_film_64
      · obtain rfl : p1 = 2 := Int32.toInt_inj.mp (show p1.toInt = (2 : Int32).toInt from j_10.trans rfl)
        refine z_calli (wr := [(h1, .inl (zI g, 180, .inl (upd (upd (upd (fun _ => 0) 0 60) 1 1) 2 1)))]) hP hD hS hA [0, 2] [1] (by decide) rfl rfl (by decide) (va_runV (As := [.int 2, .int p2, .int p3, .int 0]) (rest := []) ⟨hx, hb, hml, hown, hts⟩ (kX5_bars_7 l g h0 h1 h2 h3 h4 h5 h6 h7 h8 h9 h10 h11 h12 h13 h14 h15 h16 h17 h18 h19 h20 h21 h22 H.size p2 p3) ⟨callB_of 4 hts (zGood m_o_yX5_bars) rfl rfl rfl (hts _ m_z_RX5) (hts _ m_m_RX5_228) ⟨by decide +kernel, by decide +kernel, by decide +kernel⟩ ⟨Nat.le_of_ble_eq_true rfl, Nat.le_of_ble_eq_true rfl⟩, hts _ m_i_yX5_bars, hts _ m_e_yX5_bars⟩ (zPreV hK hN hZ hP hD hS hA [0, 2] (by decide) rfl rfl 5 0 rfl rfl) rfl rfl hl.1 rfl (lv_room (Nat.le_of_ble_eq_true rfl)) dX5_film_33 ⟨Nat.le_of_ble_eq_true rfl, Nat.le_of_ble_eq_true rfl⟩) (fun r u H locs hw hP hD hS => ?_)
        obtain rfl := hw
        have hP : va_P g.1 vwCl [(h1, .inl (zI g, 180, .inl (upd (upd (upd (fun _ => 0) 0 60) 1 1) 2 1))), (h0, .inr (5, [.ref h1, .int 0, .ref h2, .int 0, .int 0, .ref h3, .ref h4, .ref h5, .ref h6, .int 0, .ref h7, .ref h8, .ref h9, .int 0, .ref h10, .ref h11, .ref h12, .ref h13, .ref h14, .ref h15, .ref h16, .ref h17, .ref h18, .ref h19, .ref h20, .ref h21, .ref h22])), (h19, .inl (zI g, 4, .inl (upd (upd (upd (upd (fun _ => 0) 0 (-1)) 1 (-1)) 2 (-1)) 3 (-1))))] H := hP
        have hD : va_D A [(h1, .inl (zI g, 180, .inl (upd (upd (upd (fun _ => 0) 0 60) 1 1) 2 1))), (h0, .inr (5, [.ref h1, .int 0, .ref h2, .int 0, .int 0, .ref h3, .ref h4, .ref h5, .ref h6, .int 0, .ref h7, .ref h8, .ref h9, .int 0, .ref h10, .ref h11, .ref h12, .ref h13, .ref h14, .ref h15, .ref h16, .ref h17, .ref h18, .ref h19, .ref h20, .ref h21, .ref h22])), (h19, .inl (zI g, 4, .inl (upd (upd (upd (upd (fun _ => 0) 0 (-1)) 1 (-1)) 2 (-1)) 3 (-1))))] := hD
        refine lv_istore (lv' := [(4, .int (-11)), (0, .ref h0), (1, .int 2), (2, .int p2), (3, .int p3)]) hx hb dX5_film_36 hl (by decide) rfl (fun ls hl => ?_)
        refine lv_iload hx hb dX5_film_38 (lv_at hl 0 rfl) ?_
        refine lv_if_ne (tgt := 52) hx hb dX5_film_40 (by decide) (fun _ => ?_) (fun h => absurd h (by decide +kernel))
        refine lv_iload hx hb dX5_film_52 (lv_at hl 0 rfl) ?_
        refine lv_if_eq (tgt := 62) hx hb dX5_film_54 (by decide) (fun h => absurd h (by decide +kernel)) (fun _ => ?_)
        refine lv_iload hx hb dX5_film_57 (lv_at hl 0 rfl) ?_
        refine lv_goto (tgt := 64) hx hb dX5_film_59 (by decide) ?_
        have hP9 := hP.sub (ws' := []) [] rfl
        have hD9 := hD.sub (ws' := []) [] (by decide) rfl
        exact W.iret (v := (-11)) hx hb hr (fun t ht hW => ⟨⟨(-11), 0, rfl, Or.inr (Or.inr (Or.inr (Or.inr (Or.inr (Or.inr (Or.inl ⟨i_3, i_4, i_8, i_9, j_10, rfl⟩)))))), by rw [ht]; exact hP9, hD9⟩, hS.F ht⟩) hS.2.2 dX5_film_64
      · obtain rfl : p1 = 3 := Int32.toInt_inj.mp (show p1.toInt = (3 : Int32).toInt from j_10.trans rfl)
        refine z_calli (wr := [(h1, .inl (zI g, 180, .inl (upd (upd (upd (fun _ => 0) 0 60) 1 1) 2 1)))]) hP hD hS hA [0, 2] [1] (by decide) rfl rfl (by decide) (va_runV (As := [.int 3, .int p2, .int p3, .int 0]) (rest := []) ⟨hx, hb, hml, hown, hts⟩ (kX5_bars_8 l g h0 h1 h2 h3 h4 h5 h6 h7 h8 h9 h10 h11 h12 h13 h14 h15 h16 h17 h18 h19 h20 h21 h22 H.size p2 p3) ⟨callB_of 4 hts (zGood m_o_yX5_bars) rfl rfl rfl (hts _ m_z_RX5) (hts _ m_m_RX5_228) ⟨by decide +kernel, by decide +kernel, by decide +kernel⟩ ⟨Nat.le_of_ble_eq_true rfl, Nat.le_of_ble_eq_true rfl⟩, hts _ m_i_yX5_bars, hts _ m_e_yX5_bars⟩ (zPreV hK hN hZ hP hD hS hA [0, 2] (by decide) rfl rfl 5 0 rfl rfl) rfl rfl hl.1 rfl (lv_room (Nat.le_of_ble_eq_true rfl)) dX5_film_33 ⟨Nat.le_of_ble_eq_true rfl, Nat.le_of_ble_eq_true rfl⟩) (fun r u H locs hw hP hD hS => ?_)
        obtain rfl := hw
        have hP : va_P g.1 vwCl [(h1, .inl (zI g, 180, .inl (upd (upd (upd (fun _ => 0) 0 60) 1 1) 2 1))), (h0, .inr (5, [.ref h1, .int 0, .ref h2, .int 0, .int 0, .ref h3, .ref h4, .ref h5, .ref h6, .int 0, .ref h7, .ref h8, .ref h9, .int 0, .ref h10, .ref h11, .ref h12, .ref h13, .ref h14, .ref h15, .ref h16, .ref h17, .ref h18, .ref h19, .ref h20, .ref h21, .ref h22])), (h19, .inl (zI g, 4, .inl (upd (upd (upd (upd (fun _ => 0) 0 (-1)) 1 (-1)) 2 (-1)) 3 (-1))))] H := hP
        have hD : va_D A [(h1, .inl (zI g, 180, .inl (upd (upd (upd (fun _ => 0) 0 60) 1 1) 2 1))), (h0, .inr (5, [.ref h1, .int 0, .ref h2, .int 0, .int 0, .ref h3, .ref h4, .ref h5, .ref h6, .int 0, .ref h7, .ref h8, .ref h9, .int 0, .ref h10, .ref h11, .ref h12, .ref h13, .ref h14, .ref h15, .ref h16, .ref h17, .ref h18, .ref h19, .ref h20, .ref h21, .ref h22])), (h19, .inl (zI g, 4, .inl (upd (upd (upd (upd (fun _ => 0) 0 (-1)) 1 (-1)) 2 (-1)) 3 (-1))))] := hD
        refine lv_istore (lv' := [(4, .int (-11)), (0, .ref h0), (1, .int 3), (2, .int p2), (3, .int p3)]) hx hb dX5_film_36 hl (by decide) rfl (fun ls hl => ?_)
        refine lv_iload hx hb dX5_film_38 (lv_at hl 0 rfl) ?_
        refine lv_if_ne (tgt := 52) hx hb dX5_film_40 (by decide) (fun _ => ?_) (fun h => absurd h (by decide +kernel))
        refine lv_iload hx hb dX5_film_52 (lv_at hl 0 rfl) ?_
        refine lv_if_eq (tgt := 62) hx hb dX5_film_54 (by decide) (fun h => absurd h (by decide +kernel)) (fun _ => ?_)
        refine lv_iload hx hb dX5_film_57 (lv_at hl 0 rfl) ?_
        refine lv_goto (tgt := 64) hx hb dX5_film_59 (by decide) ?_
        have hP9 := hP.sub (ws' := []) [] rfl
        have hD9 := hD.sub (ws' := []) [] (by decide) rfl
        exact W.iret (v := (-11)) hx hb hr (fun t ht hW => ⟨⟨(-11), 0, rfl, Or.inr (Or.inr (Or.inr (Or.inr (Or.inr (Or.inr (Or.inr (⟨i_3, i_4, i_8, i_9, j_10, rfl⟩))))))), by rw [ht]; exact hP9, hD9⟩, hS.F ht⟩) hS.2.2 dX5_film_64
set_option maxHeartbeats 4000000 in
set_option maxRecDepth 100000 in
theorem kX5_in_34 (l : Launch) (g : zG) (sz : Nat) (p0 : Int64) : Met l yX5_in (.code yX5_in cX5_in 6 (some .boolean) :: zBig) ({ frames := 0, cells := 0, slots := 0, locals := 0 }) (va_Pc [.long p0, .long 0, .long 3] (zPre g [] sz)) (va_Qi (fun (r : Int32) (_ : Nat) => ((p0 : Int64).toInt < 0 ∧ r = 0) ∨ (0 ≤ (p0 : Int64).toInt ∧ 3 < (p0 : Int64).toInt ∧ r = 0) ∨ (0 ≤ (p0 : Int64).toInt ∧ (p0 : Int64).toInt ≤ 3 ∧ r = 1)) (zPost g (fun _ : Nat => []) (va_A [] sz)) (va_A [] sz)) 0 0 (va_A [] sz) := by
  refine zMetI rfl (Nat.le_of_ble_eq_true rfl) ?_
  intro p e s m args below meth c A ls hx hb hml hr hlocks hin hown hts hK hN hZ hP hD hA hS hAe hl
  have hown : s.vm.findClass RX5 = some m.cls := hown
  have hl : lv_has ls 6 [(0, .long p0), (2, .long 0), (4, .long 3)] := hl
  refine lv_lload_n hx hb dX5_in_0 rfl (lv_at hl 0 rfl) ?_
  refine lv_lload_n hx hb dX5_in_1 rfl (lv_at hl 1 rfl) ?_
  refine W.lcmp hx hb dX5_in_2 ?_
  refine lv_if_lt (tgt := 17) hx hb dX5_in_3 (by decide) (fun c_0 => ?_) (fun c_0 => ?_)
  · have i_0 : (p0 : Int64).toInt < 0 := zl_lt (rfl) (rfl) ((lg_cmp_lt _ _).mp c_0)
    refine lv_iconst (v := 0) hx hb dX5_in_17 (by decide) ?_
    have hP9 := hP.sub (ws' := []) [] rfl
    have hD9 := hD.sub (ws' := []) [] (by decide) rfl
    exact W.zret (v := 0) hx hb hr (by decide) (fun t ht hW => ⟨⟨0, 0, rfl, Or.inl ⟨i_0, rfl⟩, by rw [ht]; exact hP9, hD9⟩, hS.F ht⟩) hS.2.2 dX5_in_18
  · have i_0 : 0 ≤ (p0 : Int64).toInt := zl_nlt (rfl) (rfl) (fun h => c_0 ((lg_cmp_lt _ _).mpr h))
    refine lv_lload_n hx hb dX5_in_6 rfl (lv_at hl 0 rfl) ?_
    refine lv_lload hx hb dX5_in_7 (lv_at hl 2 rfl) ?_
    refine W.lcmp hx hb dX5_in_9 ?_
    refine lv_if_gt (tgt := 17) hx hb dX5_in_10 (by decide) (fun c_1 => ?_) (fun c_1 => ?_)
    · have i_1 : 3 < (p0 : Int64).toInt := zl_lt (rfl) (rfl) ((lg_cmp_gt _ _).mp c_1)
      refine lv_iconst (v := 0) hx hb dX5_in_17 (by decide) ?_
      have hP9 := hP.sub (ws' := []) [] rfl
      have hD9 := hD.sub (ws' := []) [] (by decide) rfl
      exact W.zret (v := 0) hx hb hr (by decide) (fun t ht hW => ⟨⟨0, 0, rfl, Or.inr (Or.inl ⟨i_0, i_1, rfl⟩), by rw [ht]; exact hP9, hD9⟩, hS.F ht⟩) hS.2.2 dX5_in_18
    · have i_1 : (p0 : Int64).toInt ≤ 3 := zl_nlt (rfl) (rfl) (fun h => c_1 ((lg_cmp_gt _ _).mpr h))
      refine lv_iconst (v := 1) hx hb dX5_in_13 (by decide) ?_
      refine lv_goto (tgt := 18) hx hb dX5_in_14 (by decide) ?_
      have hP9 := hP.sub (ws' := []) [] rfl
      have hD9 := hD.sub (ws' := []) [] (by decide) rfl
      exact W.zret (v := 1) hx hb hr (by decide) (fun t ht hW => ⟨⟨1, 0, rfl, Or.inr (Or.inr (⟨i_0, i_1, rfl⟩)), by rw [ht]; exact hP9, hD9⟩, hS.F ht⟩) hS.2.2 dX5_in_18
set_option maxHeartbeats 4000000 in
set_option maxRecDepth 100000 in
theorem kX5_isSheet_3 (l : Launch) (g : zG) (sz : Nat) (p0 : Int32) : Met l yX5_isSheet (.code yX5_isSheet cX5_isSheet 1 (some .boolean) :: zBig) ({ frames := 1, cells := 0, slots := 0, locals := 25 }) (va_Pc [.int p0] (zPre g [] sz)) (va_Qi (fun (r : Int32) (_ : Nat) => (p0.toInt < 0 ∧ r = 0) ∨ (0 ≤ p0.toInt ∧ 3 < p0.toInt ∧ r = 0) ∨ (0 ≤ p0.toInt ∧ p0.toInt ≤ 3 ∧ r = 1)) (zPost g (fun _ : Nat => []) (va_A [] sz)) (va_A [] sz)) 0 0 (va_A [] sz) := by
  refine zMetI rfl (Nat.le_of_ble_eq_true rfl) ?_
  intro p e s m args below meth c A ls hx hb hml hr hlocks hin hown hts hK hN hZ hP hD hA hS hAe hl
  have hown : s.vm.findClass RX5 = some m.cls := hown
  have hl : lv_has ls 1 [(0, .int p0)] := hl
  refine lv_iload_n hx hb dX5_isSheet_0 rfl (lv_at hl 0 rfl) ?_
  refine lv_i2l (v := p0.toInt64) hx hb dX5_isSheet_1 rfl ?_
  refine lv_lconst (v := 0) hx hb dX5_isSheet_2 (by decide) ?_
  refine lv_ldc2 (v := 3) hx hb hown (hts _ m_k_RX5_96) dX5_isSheet_3 ?_
  refine z_calli (wr := []) hP hD hS hA [] [] (by decide) rfl rfl (by decide) (va_runS (As := [.long p0.toInt64, .long 0, .long 3]) (rest := []) ⟨hx, hb, hml, hown, hts⟩ (kX5_in_30 l g  s.heap.size p0.toInt64) ⟨callB_of 3 hts (zGood m_o_yX5_in) rfl rfl rfl (hts _ m_z_RX5) (hts _ m_m_RX5_77) ⟨by decide +kernel, by decide +kernel, by decide +kernel⟩ ⟨Nat.le_of_ble_eq_true rfl, Nat.le_of_ble_eq_true rfl⟩, hts _ m_s_yX5_in⟩ (zPreS hK hN hZ hP hD hS hA [] (by decide) rfl rfl) rfl rfl hl.1 rfl (lv_room (Nat.le_of_ble_eq_true rfl)) dX5_isSheet_6 ⟨Nat.le_of_ble_eq_true rfl, Nat.le_of_ble_eq_true rfl⟩) (fun r u H locs hw hP hD hS => ?_)
  rcases hw with ⟨i_0, rfl⟩ | ⟨i_1, i_2, rfl⟩ | ⟨i_3, i_4, rfl⟩
  · skip
    have i_0 : p0.toInt < 0 := by simpa only [Int32.toInt_toInt64] using i_0
    have hP : va_P g.1 vwCl [] H := hP
    have hD : va_D A [] := hD
    have hP9 := hP.sub (ws' := []) [] rfl
    have hD9 := hD.sub (ws' := []) [] (by decide) rfl
    exact W.zret (v := 0) hx hb hr (by decide) (fun t ht hW => ⟨⟨0, 0, rfl, Or.inl ⟨i_0, rfl⟩, by rw [ht]; exact hP9, hD9⟩, hS.F ht⟩) hS.2.2 dX5_isSheet_9
  · skip
    have i_1 : 0 ≤ p0.toInt := by simpa only [Int32.toInt_toInt64] using i_1
    have i_2 : 3 < p0.toInt := by simpa only [Int32.toInt_toInt64] using i_2
    have hP : va_P g.1 vwCl [] H := hP
    have hD : va_D A [] := hD
    have hP9 := hP.sub (ws' := []) [] rfl
    have hD9 := hD.sub (ws' := []) [] (by decide) rfl
    exact W.zret (v := 0) hx hb hr (by decide) (fun t ht hW => ⟨⟨0, 0, rfl, Or.inr (Or.inl ⟨i_1, i_2, rfl⟩), by rw [ht]; exact hP9, hD9⟩, hS.F ht⟩) hS.2.2 dX5_isSheet_9
  · skip
    have i_3 : 0 ≤ p0.toInt := by simpa only [Int32.toInt_toInt64] using i_3
    have i_4 : p0.toInt ≤ 3 := by simpa only [Int32.toInt_toInt64] using i_4
    have hP : va_P g.1 vwCl [] H := hP
    have hD : va_D A [] := hD
    have hP9 := hP.sub (ws' := []) [] rfl
    have hD9 := hD.sub (ws' := []) [] (by decide) rfl
    exact W.zret (v := 1) hx hb hr (by decide) (fun t ht hW => ⟨⟨1, 0, rfl, Or.inr (Or.inr (⟨i_3, i_4, rfl⟩)), by rw [ht]; exact hP9, hD9⟩, hS.F ht⟩) hS.2.2 dX5_isSheet_9
set_option maxHeartbeats 4000000 in
set_option maxRecDepth 100000 in
theorem kX5_in_35 (l : Launch) (g : zG) (sz : Nat) (p0 : Int64) : Met l yX5_in (.code yX5_in cX5_in 6 (some .boolean) :: zBig) ({ frames := 0, cells := 0, slots := 0, locals := 0 }) (va_Pc [.long p0, .long 0, .long 2] (zPre g [] sz)) (va_Qi (fun (r : Int32) (_ : Nat) => ((p0 : Int64).toInt < 0 ∧ r = 0) ∨ (0 ≤ (p0 : Int64).toInt ∧ 2 < (p0 : Int64).toInt ∧ r = 0) ∨ (0 ≤ (p0 : Int64).toInt ∧ (p0 : Int64).toInt ≤ 2 ∧ r = 1)) (zPost g (fun _ : Nat => []) (va_A [] sz)) (va_A [] sz)) 0 0 (va_A [] sz) := by
  refine zMetI rfl (Nat.le_of_ble_eq_true rfl) ?_
  intro p e s m args below meth c A ls hx hb hml hr hlocks hin hown hts hK hN hZ hP hD hA hS hAe hl
  have hown : s.vm.findClass RX5 = some m.cls := hown
  have hl : lv_has ls 6 [(0, .long p0), (2, .long 0), (4, .long 2)] := hl
  refine lv_lload_n hx hb dX5_in_0 rfl (lv_at hl 0 rfl) ?_
  refine lv_lload_n hx hb dX5_in_1 rfl (lv_at hl 1 rfl) ?_
  refine W.lcmp hx hb dX5_in_2 ?_
  refine lv_if_lt (tgt := 17) hx hb dX5_in_3 (by decide) (fun c_0 => ?_) (fun c_0 => ?_)
  · have i_0 : (p0 : Int64).toInt < 0 := zl_lt (rfl) (rfl) ((lg_cmp_lt _ _).mp c_0)
    refine lv_iconst (v := 0) hx hb dX5_in_17 (by decide) ?_
    have hP9 := hP.sub (ws' := []) [] rfl
    have hD9 := hD.sub (ws' := []) [] (by decide) rfl
    exact W.zret (v := 0) hx hb hr (by decide) (fun t ht hW => ⟨⟨0, 0, rfl, Or.inl ⟨i_0, rfl⟩, by rw [ht]; exact hP9, hD9⟩, hS.F ht⟩) hS.2.2 dX5_in_18
  · have i_0 : 0 ≤ (p0 : Int64).toInt := zl_nlt (rfl) (rfl) (fun h => c_0 ((lg_cmp_lt _ _).mpr h))
    refine lv_lload_n hx hb dX5_in_6 rfl (lv_at hl 0 rfl) ?_
    refine lv_lload hx hb dX5_in_7 (lv_at hl 2 rfl) ?_
    refine W.lcmp hx hb dX5_in_9 ?_
    refine lv_if_gt (tgt := 17) hx hb dX5_in_10 (by decide) (fun c_1 => ?_) (fun c_1 => ?_)
    · have i_1 : 2 < (p0 : Int64).toInt := zl_lt (rfl) (rfl) ((lg_cmp_gt _ _).mp c_1)
      refine lv_iconst (v := 0) hx hb dX5_in_17 (by decide) ?_
      have hP9 := hP.sub (ws' := []) [] rfl
      have hD9 := hD.sub (ws' := []) [] (by decide) rfl
      exact W.zret (v := 0) hx hb hr (by decide) (fun t ht hW => ⟨⟨0, 0, rfl, Or.inr (Or.inl ⟨i_0, i_1, rfl⟩), by rw [ht]; exact hP9, hD9⟩, hS.F ht⟩) hS.2.2 dX5_in_18
    · have i_1 : (p0 : Int64).toInt ≤ 2 := zl_nlt (rfl) (rfl) (fun h => c_1 ((lg_cmp_gt _ _).mpr h))
      refine lv_iconst (v := 1) hx hb dX5_in_13 (by decide) ?_
      refine lv_goto (tgt := 18) hx hb dX5_in_14 (by decide) ?_
      have hP9 := hP.sub (ws' := []) [] rfl
      have hD9 := hD.sub (ws' := []) [] (by decide) rfl
      exact W.zret (v := 1) hx hb hr (by decide) (fun t ht hW => ⟨⟨1, 0, rfl, Or.inr (Or.inr (⟨i_0, i_1, rfl⟩)), by rw [ht]; exact hP9, hD9⟩, hS.F ht⟩) hS.2.2 dX5_in_18
set_option maxHeartbeats 4000000 in
set_option maxRecDepth 100000 in
theorem kX5_sheet (l : Launch) (g : zG) (h0 h1 h2 h3 h4 h5 h6 h7 h8 h9 h10 h11 h12 h13 h14 h15 h16 h17 h18 h19 h20 h21 h22 : Nat) (sz : Nat) (p1 : Int32) (p2 : Int32) (p3 : Int32) : Met l yX5_sheet (.code yX5_sheet cX5_sheet 5 (some .int) :: zBig) ({ frames := 2, cells := 0, slots := 0, locals := 45 }) (va_Pc [.ref h0, .int p1, .int p2, .int p3] (zPre g [(h0, .inr (5, [.ref h1, .int 0, .ref h2, .int 0, .int 0, .ref h3, .ref h4, .ref h5, .ref h6, .int 0, .ref h7, .ref h8, .ref h9, .int 0, .ref h10, .ref h11, .ref h12, .ref h13, .ref h14, .ref h15, .ref h16, .ref h17, .ref h18, .ref h19, .ref h20, .ref h21, .ref h22])), (h19, .inl (zI g, 4, .inl (upd (upd (upd (upd (fun _ => 0) 0 (-1)) 1 (-1)) 2 (-1)) 3 (-1)))), (h20, .inl (zI g, 4, .inl (fun _ => 0))), (h21, .inl (zJ g, 64, .inr (.inl (fun _ => 0))))] sz)) (va_Qi (fun (r : Int32) (_ : Nat) => (p1.toInt < 0 ∧ r = (-1)) ∨ (0 ≤ p1.toInt ∧ 3 < p1.toInt ∧ r = (-1)) ∨ (0 ≤ p1.toInt ∧ p1.toInt ≤ 3 ∧ p2.toInt < 0 ∧ r = (-1)) ∨ (0 ≤ p1.toInt ∧ p1.toInt ≤ 3 ∧ 0 ≤ p2.toInt ∧ 2 < p2.toInt ∧ r = (-1)) ∨ (0 ≤ p1.toInt ∧ p1.toInt ≤ 3 ∧ 0 ≤ p2.toInt ∧ p2.toInt ≤ 2 ∧ p3.toInt ≤ 16 ∧ 0 ≤ p3.toInt ∧ p1.toInt = 0 ∧ r = p3) ∨ (0 ≤ p1.toInt ∧ p1.toInt ≤ 3 ∧ 0 ≤ p2.toInt ∧ p2.toInt ≤ 2 ∧ p3.toInt ≤ 16 ∧ 0 ≤ p3.toInt ∧ p1.toInt = 1 ∧ r = p3) ∨ (0 ≤ p1.toInt ∧ p1.toInt ≤ 3 ∧ 0 ≤ p2.toInt ∧ p2.toInt ≤ 2 ∧ p3.toInt ≤ 16 ∧ 0 ≤ p3.toInt ∧ p1.toInt = 2 ∧ r = p3) ∨ (0 ≤ p1.toInt ∧ p1.toInt ≤ 3 ∧ 0 ≤ p2.toInt ∧ p2.toInt ≤ 2 ∧ p3.toInt ≤ 16 ∧ 0 ≤ p3.toInt ∧ p1.toInt = 3 ∧ r = p3) ∨ (0 ≤ p1.toInt ∧ p1.toInt ≤ 3 ∧ 0 ≤ p2.toInt ∧ p2.toInt ≤ 2 ∧ p3.toInt ≤ 16 ∧ p3.toInt < 0 ∧ r = (-14)) ∨ (0 ≤ p1.toInt ∧ p1.toInt ≤ 3 ∧ 0 ≤ p2.toInt ∧ p2.toInt ≤ 2 ∧ 16 < p3.toInt ∧ r = (-1))) (zPost g (fun _ : Nat => []) (va_A [(h0, .inr (5, [.ref h1, .int 0, .ref h2, .int 0, .int 0, .ref h3, .ref h4, .ref h5, .ref h6, .int 0, .ref h7, .ref h8, .ref h9, .int 0, .ref h10, .ref h11, .ref h12, .ref h13, .ref h14, .ref h15, .ref h16, .ref h17, .ref h18, .ref h19, .ref h20, .ref h21, .ref h22])), (h19, .inl (zI g, 4, .inl (upd (upd (upd (upd (fun _ => 0) 0 (-1)) 1 (-1)) 2 (-1)) 3 (-1)))), (h20, .inl (zI g, 4, .inl (fun _ => 0))), (h21, .inl (zJ g, 64, .inr (.inl (fun _ => 0))))] sz)) (va_A [(h0, .inr (5, [.ref h1, .int 0, .ref h2, .int 0, .int 0, .ref h3, .ref h4, .ref h5, .ref h6, .int 0, .ref h7, .ref h8, .ref h9, .int 0, .ref h10, .ref h11, .ref h12, .ref h13, .ref h14, .ref h15, .ref h16, .ref h17, .ref h18, .ref h19, .ref h20, .ref h21, .ref h22])), (h19, .inl (zI g, 4, .inl (upd (upd (upd (upd (fun _ => 0) 0 (-1)) 1 (-1)) 2 (-1)) 3 (-1)))), (h20, .inl (zI g, 4, .inl (fun _ => 0))), (h21, .inl (zJ g, 64, .inr (.inl (fun _ => 0))))] sz)) 0 0 (va_A [(h0, .inr (5, [.ref h1, .int 0, .ref h2, .int 0, .int 0, .ref h3, .ref h4, .ref h5, .ref h6, .int 0, .ref h7, .ref h8, .ref h9, .int 0, .ref h10, .ref h11, .ref h12, .ref h13, .ref h14, .ref h15, .ref h16, .ref h17, .ref h18, .ref h19, .ref h20, .ref h21, .ref h22])), (h19, .inl (zI g, 4, .inl (upd (upd (upd (upd (fun _ => 0) 0 (-1)) 1 (-1)) 2 (-1)) 3 (-1)))), (h20, .inl (zI g, 4, .inl (fun _ => 0))), (h21, .inl (zJ g, 64, .inr (.inl (fun _ => 0))))] sz) := by
  refine zMetI rfl (Nat.le_of_ble_eq_true rfl) ?_
  intro p e s m args below meth c A ls hx hb hml hr hlocks hin hown hts hK hN hZ hP hD hA hS hAe hl
  have hown : s.vm.findClass RX5 = some m.cls := hown
  have hl : lv_has ls 5 [(0, .ref h0), (1, .int p1), (2, .int p2), (3, .int p3)] := hl
  refine lv_iload_n hx hb dX5_sheet_0 rfl (lv_at hl 1 rfl) ?_
  refine z_calli (wr := [(h0, .inr (5, [.ref h1, .int 0, .ref h2, .int 0, .int 0, .ref h3, .ref h4, .ref h5, .ref h6, .int 0, .ref h7, .ref h8, .ref h9, .int 0, .ref h10, .ref h11, .ref h12, .ref h13, .ref h14, .ref h15, .ref h16, .ref h17, .ref h18, .ref h19, .ref h20, .ref h21, .ref h22])), (h19, .inl (zI g, 4, .inl (upd (upd (upd (upd (fun _ => 0) 0 (-1)) 1 (-1)) 2 (-1)) 3 (-1)))), (h20, .inl (zI g, 4, .inl (fun _ => 0))), (h21, .inl (zJ g, 64, .inr (.inl (fun _ => 0))))]) hP hD hS hA [] [0, 1, 2, 3] (by decide) rfl rfl (by decide) (va_runS (As := [.int p1]) (rest := []) ⟨hx, hb, hml, hown, hts⟩ (kX5_isSheet_3 l g  s.heap.size p1) ⟨callB_of 1 hts (zGood m_o_yX5_isSheet) rfl rfl rfl (hts _ m_z_RX5) (hts _ m_m_RX5_225) ⟨by decide +kernel, by decide +kernel, by decide +kernel⟩ ⟨Nat.le_of_ble_eq_true rfl, Nat.le_of_ble_eq_true rfl⟩, hts _ m_s_yX5_isSheet⟩ (zPreS hK hN hZ hP hD hS hA [] (by decide) rfl rfl) rfl rfl hl.1 rfl (lv_room (Nat.le_of_ble_eq_true rfl)) dX5_sheet_1 ⟨Nat.le_of_ble_eq_true rfl, Nat.le_of_ble_eq_true rfl⟩) (fun r u H locs hw hP hD hS => ?_)
  rcases hw with ⟨i_0, rfl⟩ | ⟨i_1, i_2, rfl⟩ | ⟨i_3, i_4, rfl⟩
  · skip
    have i_0 : p1.toInt < 0 := i_0
    have hP : va_P g.1 vwCl [(h0, .inr (5, [.ref h1, .int 0, .ref h2, .int 0, .int 0, .ref h3, .ref h4, .ref h5, .ref h6, .int 0, .ref h7, .ref h8, .ref h9, .int 0, .ref h10, .ref h11, .ref h12, .ref h13, .ref h14, .ref h15, .ref h16, .ref h17, .ref h18, .ref h19, .ref h20, .ref h21, .ref h22])), (h19, .inl (zI g, 4, .inl (upd (upd (upd (upd (fun _ => 0) 0 (-1)) 1 (-1)) 2 (-1)) 3 (-1)))), (h20, .inl (zI g, 4, .inl (fun _ => 0))), (h21, .inl (zJ g, 64, .inr (.inl (fun _ => 0))))] H := hP
    have hD : va_D A [(h0, .inr (5, [.ref h1, .int 0, .ref h2, .int 0, .int 0, .ref h3, .ref h4, .ref h5, .ref h6, .int 0, .ref h7, .ref h8, .ref h9, .int 0, .ref h10, .ref h11, .ref h12, .ref h13, .ref h14, .ref h15, .ref h16, .ref h17, .ref h18, .ref h19, .ref h20, .ref h21, .ref h22])), (h19, .inl (zI g, 4, .inl (upd (upd (upd (upd (fun _ => 0) 0 (-1)) 1 (-1)) 2 (-1)) 3 (-1)))), (h20, .inl (zI g, 4, .inl (fun _ => 0))), (h21, .inl (zJ g, 64, .inr (.inl (fun _ => 0))))] := hD
    refine lv_if_eq (tgt := 25) hx hb dX5_sheet_4 (by decide) (fun _ => ?_) (fun h => absurd h (by decide +kernel))
    refine lv_iconst (v := (-1)) hx hb dX5_sheet_25 (by decide) ?_
    have hP9 := hP.sub (ws' := []) [] rfl
    have hD9 := hD.sub (ws' := []) [] (by decide) rfl
    exact W.iret (v := (-1)) hx hb hr (fun t ht hW => ⟨⟨(-1), 0, rfl, Or.inl ⟨i_0, rfl⟩, by rw [ht]; exact hP9, hD9⟩, hS.F ht⟩) hS.2.2 dX5_sheet_26
  · skip
    have i_1 : 0 ≤ p1.toInt := i_1
    have i_2 : 3 < p1.toInt := i_2
    have hP : va_P g.1 vwCl [(h0, .inr (5, [.ref h1, .int 0, .ref h2, .int 0, .int 0, .ref h3, .ref h4, .ref h5, .ref h6, .int 0, .ref h7, .ref h8, .ref h9, .int 0, .ref h10, .ref h11, .ref h12, .ref h13, .ref h14, .ref h15, .ref h16, .ref h17, .ref h18, .ref h19, .ref h20, .ref h21, .ref h22])), (h19, .inl (zI g, 4, .inl (upd (upd (upd (upd (fun _ => 0) 0 (-1)) 1 (-1)) 2 (-1)) 3 (-1)))), (h20, .inl (zI g, 4, .inl (fun _ => 0))), (h21, .inl (zJ g, 64, .inr (.inl (fun _ => 0))))] H := hP
    have hD : va_D A [(h0, .inr (5, [.ref h1, .int 0, .ref h2, .int 0, .int 0, .ref h3, .ref h4, .ref h5, .ref h6, .int 0, .ref h7, .ref h8, .ref h9, .int 0, .ref h10, .ref h11, .ref h12, .ref h13, .ref h14, .ref h15, .ref h16, .ref h17, .ref h18, .ref h19, .ref h20, .ref h21, .ref h22])), (h19, .inl (zI g, 4, .inl (upd (upd (upd (upd (fun _ => 0) 0 (-1)) 1 (-1)) 2 (-1)) 3 (-1)))), (h20, .inl (zI g, 4, .inl (fun _ => 0))), (h21, .inl (zJ g, 64, .inr (.inl (fun _ => 0))))] := hD
    refine lv_if_eq (tgt := 25) hx hb dX5_sheet_4 (by decide) (fun _ => ?_) (fun h => absurd h (by decide +kernel))
    refine lv_iconst (v := (-1)) hx hb dX5_sheet_25 (by decide) ?_
    have hP9 := hP.sub (ws' := []) [] rfl
    have hD9 := hD.sub (ws' := []) [] (by decide) rfl
    exact W.iret (v := (-1)) hx hb hr (fun t ht hW => ⟨⟨(-1), 0, rfl, Or.inr (Or.inl ⟨i_1, i_2, rfl⟩), by rw [ht]; exact hP9, hD9⟩, hS.F ht⟩) hS.2.2 dX5_sheet_26
  · skip
    have i_3 : 0 ≤ p1.toInt := i_3
    have i_4 : p1.toInt ≤ 3 := i_4
    have hP : va_P g.1 vwCl [(h0, .inr (5, [.ref h1, .int 0, .ref h2, .int 0, .int 0, .ref h3, .ref h4, .ref h5, .ref h6, .int 0, .ref h7, .ref h8, .ref h9, .int 0, .ref h10, .ref h11, .ref h12, .ref h13, .ref h14, .ref h15, .ref h16, .ref h17, .ref h18, .ref h19, .ref h20, .ref h21, .ref h22])), (h19, .inl (zI g, 4, .inl (upd (upd (upd (upd (fun _ => 0) 0 (-1)) 1 (-1)) 2 (-1)) 3 (-1)))), (h20, .inl (zI g, 4, .inl (fun _ => 0))), (h21, .inl (zJ g, 64, .inr (.inl (fun _ => 0))))] H := hP
    have hD : va_D A [(h0, .inr (5, [.ref h1, .int 0, .ref h2, .int 0, .int 0, .ref h3, .ref h4, .ref h5, .ref h6, .int 0, .ref h7, .ref h8, .ref h9, .int 0, .ref h10, .ref h11, .ref h12, .ref h13, .ref h14, .ref h15, .ref h16, .ref h17, .ref h18, .ref h19, .ref h20, .ref h21, .ref h22])), (h19, .inl (zI g, 4, .inl (upd (upd (upd (upd (fun _ => 0) 0 (-1)) 1 (-1)) 2 (-1)) 3 (-1)))), (h20, .inl (zI g, 4, .inl (fun _ => 0))), (h21, .inl (zJ g, 64, .inr (.inl (fun _ => 0))))] := hD
    refine lv_if_eq (tgt := 25) hx hb dX5_sheet_4 (by decide) (fun h => absurd h (by decide +kernel)) (fun _ => ?_)
    refine lv_iload_n hx hb dX5_sheet_7 rfl (lv_at hl 2 rfl) ?_
    refine lv_i2l (v := p2.toInt64) hx hb dX5_sheet_8 rfl ?_
    refine lv_lconst (v := 0) hx hb dX5_sheet_9 (by decide) ?_
    refine lv_ldc2 (v := 2) hx hb hown (hts _ m_k_RX5_197) dX5_sheet_10 ?_
    refine z_calli (wr := [(h0, .inr (5, [.ref h1, .int 0, .ref h2, .int 0, .int 0, .ref h3, .ref h4, .ref h5, .ref h6, .int 0, .ref h7, .ref h8, .ref h9, .int 0, .ref h10, .ref h11, .ref h12, .ref h13, .ref h14, .ref h15, .ref h16, .ref h17, .ref h18, .ref h19, .ref h20, .ref h21, .ref h22])), (h19, .inl (zI g, 4, .inl (upd (upd (upd (upd (fun _ => 0) 0 (-1)) 1 (-1)) 2 (-1)) 3 (-1)))), (h20, .inl (zI g, 4, .inl (fun _ => 0))), (h21, .inl (zJ g, 64, .inr (.inl (fun _ => 0))))]) hP hD hS hA [] [0, 1, 2, 3] (by decide) rfl rfl (by decide) (va_runS (As := [.long p2.toInt64, .long 0, .long 2]) (rest := []) ⟨hx, hb, hml, hown, hts⟩ (kX5_in_35 l g  H.size p2.toInt64) ⟨callB_of 3 hts (zGood m_o_yX5_in) rfl rfl rfl (hts _ m_z_RX5) (hts _ m_m_RX5_77) ⟨by decide +kernel, by decide +kernel, by decide +kernel⟩ ⟨Nat.le_of_ble_eq_true rfl, Nat.le_of_ble_eq_true rfl⟩, hts _ m_s_yX5_in⟩ (zPreS hK hN hZ hP hD hS hA [] (by decide) rfl rfl) rfl rfl hl.1 rfl (lv_room (Nat.le_of_ble_eq_true rfl)) dX5_sheet_13 ⟨Nat.le_of_ble_eq_true rfl, Nat.le_of_ble_eq_true rfl⟩) (fun r u H locs hw hP hD hS => ?_)
    rcases hw with ⟨i_5, rfl⟩ | ⟨i_6, i_7, rfl⟩ | ⟨i_8, i_9, rfl⟩
    · skip
      have i_5 : p2.toInt < 0 := by simpa only [Int32.toInt_toInt64] using i_5
      have hP : va_P g.1 vwCl [(h0, .inr (5, [.ref h1, .int 0, .ref h2, .int 0, .int 0, .ref h3, .ref h4, .ref h5, .ref h6, .int 0, .ref h7, .ref h8, .ref h9, .int 0, .ref h10, .ref h11, .ref h12, .ref h13, .ref h14, .ref h15, .ref h16, .ref h17, .ref h18, .ref h19, .ref h20, .ref h21, .ref h22])), (h19, .inl (zI g, 4, .inl (upd (upd (upd (upd (fun _ => 0) 0 (-1)) 1 (-1)) 2 (-1)) 3 (-1)))), (h20, .inl (zI g, 4, .inl (fun _ => 0))), (h21, .inl (zJ g, 64, .inr (.inl (fun _ => 0))))] H := hP
      have hD : va_D A [(h0, .inr (5, [.ref h1, .int 0, .ref h2, .int 0, .int 0, .ref h3, .ref h4, .ref h5, .ref h6, .int 0, .ref h7, .ref h8, .ref h9, .int 0, .ref h10, .ref h11, .ref h12, .ref h13, .ref h14, .ref h15, .ref h16, .ref h17, .ref h18, .ref h19, .ref h20, .ref h21, .ref h22])), (h19, .inl (zI g, 4, .inl (upd (upd (upd (upd (fun _ => 0) 0 (-1)) 1 (-1)) 2 (-1)) 3 (-1)))), (h20, .inl (zI g, 4, .inl (fun _ => 0))), (h21, .inl (zJ g, 64, .inr (.inl (fun _ => 0))))] := hD
      refine lv_if_eq (tgt := 25) hx hb dX5_sheet_16 (by decide) (fun _ => ?_) (fun h => absurd h (by decide +kernel))
      refine lv_iconst (v := (-1)) hx hb dX5_sheet_25 (by decide) ?_
      have hP9 := hP.sub (ws' := []) [] rfl
      have hD9 := hD.sub (ws' := []) [] (by decide) rfl
      exact W.iret (v := (-1)) hx hb hr (fun t ht hW => ⟨⟨(-1), 0, rfl, Or.inr (Or.inr (Or.inl ⟨i_3, i_4, i_5, rfl⟩)), by rw [ht]; exact hP9, hD9⟩, hS.F ht⟩) hS.2.2 dX5_sheet_26
    · skip
      have i_6 : 0 ≤ p2.toInt := by simpa only [Int32.toInt_toInt64] using i_6
      have i_7 : 2 < p2.toInt := by simpa only [Int32.toInt_toInt64] using i_7
      have hP : va_P g.1 vwCl [(h0, .inr (5, [.ref h1, .int 0, .ref h2, .int 0, .int 0, .ref h3, .ref h4, .ref h5, .ref h6, .int 0, .ref h7, .ref h8, .ref h9, .int 0, .ref h10, .ref h11, .ref h12, .ref h13, .ref h14, .ref h15, .ref h16, .ref h17, .ref h18, .ref h19, .ref h20, .ref h21, .ref h22])), (h19, .inl (zI g, 4, .inl (upd (upd (upd (upd (fun _ => 0) 0 (-1)) 1 (-1)) 2 (-1)) 3 (-1)))), (h20, .inl (zI g, 4, .inl (fun _ => 0))), (h21, .inl (zJ g, 64, .inr (.inl (fun _ => 0))))] H := hP
      have hD : va_D A [(h0, .inr (5, [.ref h1, .int 0, .ref h2, .int 0, .int 0, .ref h3, .ref h4, .ref h5, .ref h6, .int 0, .ref h7, .ref h8, .ref h9, .int 0, .ref h10, .ref h11, .ref h12, .ref h13, .ref h14, .ref h15, .ref h16, .ref h17, .ref h18, .ref h19, .ref h20, .ref h21, .ref h22])), (h19, .inl (zI g, 4, .inl (upd (upd (upd (upd (fun _ => 0) 0 (-1)) 1 (-1)) 2 (-1)) 3 (-1)))), (h20, .inl (zI g, 4, .inl (fun _ => 0))), (h21, .inl (zJ g, 64, .inr (.inl (fun _ => 0))))] := hD
      refine lv_if_eq (tgt := 25) hx hb dX5_sheet_16 (by decide) (fun _ => ?_) (fun h => absurd h (by decide +kernel))
      refine lv_iconst (v := (-1)) hx hb dX5_sheet_25 (by decide) ?_
      have hP9 := hP.sub (ws' := []) [] rfl
      have hD9 := hD.sub (ws' := []) [] (by decide) rfl
      exact W.iret (v := (-1)) hx hb hr (fun t ht hW => ⟨⟨(-1), 0, rfl, Or.inr (Or.inr (Or.inr (Or.inl ⟨i_3, i_4, i_6, i_7, rfl⟩))), by rw [ht]; exact hP9, hD9⟩, hS.F ht⟩) hS.2.2 dX5_sheet_26
    · skip
      have i_8 : 0 ≤ p2.toInt := by simpa only [Int32.toInt_toInt64] using i_8
      have i_9 : p2.toInt ≤ 2 := by simpa only [Int32.toInt_toInt64] using i_9
      have hP : va_P g.1 vwCl [(h0, .inr (5, [.ref h1, .int 0, .ref h2, .int 0, .int 0, .ref h3, .ref h4, .ref h5, .ref h6, .int 0, .ref h7, .ref h8, .ref h9, .int 0, .ref h10, .ref h11, .ref h12, .ref h13, .ref h14, .ref h15, .ref h16, .ref h17, .ref h18, .ref h19, .ref h20, .ref h21, .ref h22])), (h19, .inl (zI g, 4, .inl (upd (upd (upd (upd (fun _ => 0) 0 (-1)) 1 (-1)) 2 (-1)) 3 (-1)))), (h20, .inl (zI g, 4, .inl (fun _ => 0))), (h21, .inl (zJ g, 64, .inr (.inl (fun _ => 0))))] H := hP
      have hD : va_D A [(h0, .inr (5, [.ref h1, .int 0, .ref h2, .int 0, .int 0, .ref h3, .ref h4, .ref h5, .ref h6, .int 0, .ref h7, .ref h8, .ref h9, .int 0, .ref h10, .ref h11, .ref h12, .ref h13, .ref h14, .ref h15, .ref h16, .ref h17, .ref h18, .ref h19, .ref h20, .ref h21, .ref h22])), (h19, .inl (zI g, 4, .inl (upd (upd (upd (upd (fun _ => 0) 0 (-1)) 1 (-1)) 2 (-1)) 3 (-1)))), (h20, .inl (zI g, 4, .inl (fun _ => 0))), (h21, .inl (zJ g, 64, .inr (.inl (fun _ => 0))))] := hD
      refine lv_if_eq (tgt := 25) hx hb dX5_sheet_16 (by decide) (fun h => absurd h (by decide +kernel)) (fun _ => ?_)
      refine lv_iload_n hx hb dX5_sheet_19 rfl (lv_at hl 3 rfl) ?_
      refine lv_bipush (v := 16) hx hb dX5_sheet_20 (by decide) ?_
      refine lv_icmp_le (tgt := 27) hx hb dX5_sheet_22 (by decide) (fun c_10 => ?_) (fun c_10 => ?_)
      · have i_10 : p3.toInt ≤ 16 := z_le (rfl) (rfl) c_10
        refine lv_iload_n hx hb dX5_sheet_27 rfl (lv_at hl 3 rfl) ?_
        refine lv_if_ge (tgt := 34) hx hb dX5_sheet_28 (by decide) (fun c_11 => ?_) (fun c_11 => ?_)
        · have i_11 : 0 ≤ p3.toInt := z_le (rfl) (rfl) c_11
          refine lv_aload_n hx hb dX5_sheet_34 rfl (lv_at hl 0 rfl) ?_
          refine va_get (D := g.1) (ci := 5) (v := .ref h19) (C := RX5) (T := TX5) (N := 27) hx hb hts zl_X5 hown hK hP 0 rfl rfl 23 (by decide) (hts _ m_f_RX5_64) (fun _ h => h) rfl dX5_sheet_35 ?_
          refine lv_iload_n hx hb dX5_sheet_38 rfl (lv_at hl 1 rfl) ?_
          refine lv_iload_n hx hb dX5_sheet_39 rfl (lv_at hl 2 rfl) ?_
          rcases (show p1.toInt = 0 ∨ p1.toInt = 1 ∨ p1.toInt = 2 ∨ p1.toInt = 3 by omega) with j_12 | j_12 | j_12 | j_12
          · obtain rfl : p1 = 0 := Int32.toInt_inj.mp (show p1.toInt = (0 : Int32).toInt from j_12.trans rfl)
            refine va_iast (D := g.1) hx hb hK hP hD hS 1 0 rfl rfl (vp_in_iff.mpr (by decide +kernel)) dX5_sheet_40 (fun H locs hP hD hS => ?_)
            have hP : va_P g.1 vwCl [(h0, .inr (5, [.ref h1, .int 0, .ref h2, .int 0, .int 0, .ref h3, .ref h4, .ref h5, .ref h6, .int 0, .ref h7, .ref h8, .ref h9, .int 0, .ref h10, .ref h11, .ref h12, .ref h13, .ref h14, .ref h15, .ref h16, .ref h17, .ref h18, .ref h19, .ref h20, .ref h21, .ref h22])), (h19, .inl (zI g, 4, .inl (upd (upd (upd (upd (upd (fun _ => 0) 0 (-1)) 1 (-1)) 2 (-1)) 3 (-1)) 0 p2))), (h20, .inl (zI g, 4, .inl (fun _ => 0))), (h21, .inl (zJ g, 64, .inr (.inl (fun _ => 0))))] H := hP
            have hD : va_D A [(h0, .inr (5, [.ref h1, .int 0, .ref h2, .int 0, .int 0, .ref h3, .ref h4, .ref h5, .ref h6, .int 0, .ref h7, .ref h8, .ref h9, .int 0, .ref h10, .ref h11, .ref h12, .ref h13, .ref h14, .ref h15, .ref h16, .ref h17, .ref h18, .ref h19, .ref h20, .ref h21, .ref h22])), (h19, .inl (zI g, 4, .inl (upd (upd (upd (upd (upd (fun _ => 0) 0 (-1)) 1 (-1)) 2 (-1)) 3 (-1)) 0 p2))), (h20, .inl (zI g, 4, .inl (fun _ => 0))), (h21, .inl (zJ g, 64, .inr (.inl (fun _ => 0))))] := hD
            refine lv_aload_n hx hb dX5_sheet_41 rfl (lv_at hl 0 rfl) ?_
            refine va_get (D := g.1) (ci := 5) (v := .ref h20) (C := RX5) (T := TX5) (N := 27) hx hb hts zl_X5 hown hK hP 0 rfl rfl 24 (by decide) (hts _ m_f_RX5_67) (fun _ h => h) rfl dX5_sheet_42 ?_
            refine lv_iload_n hx hb dX5_sheet_45 rfl (lv_at hl 1 rfl) ?_
            refine lv_iload_n hx hb dX5_sheet_46 rfl (lv_at hl 3 rfl) ?_
            refine va_iast (D := g.1) hx hb hK hP hD hS 2 0 rfl rfl (vp_in_iff.mpr (by decide +kernel)) dX5_sheet_47 (fun H locs hP hD hS => ?_)
            have hP : va_P g.1 vwCl [(h0, .inr (5, [.ref h1, .int 0, .ref h2, .int 0, .int 0, .ref h3, .ref h4, .ref h5, .ref h6, .int 0, .ref h7, .ref h8, .ref h9, .int 0, .ref h10, .ref h11, .ref h12, .ref h13, .ref h14, .ref h15, .ref h16, .ref h17, .ref h18, .ref h19, .ref h20, .ref h21, .ref h22])), (h19, .inl (zI g, 4, .inl (upd (upd (upd (upd (upd (fun _ => 0) 0 (-1)) 1 (-1)) 2 (-1)) 3 (-1)) 0 p2))), (h20, .inl (zI g, 4, .inl (upd (fun _ => 0) 0 p3))), (h21, .inl (zJ g, 64, .inr (.inl (fun _ => 0))))] H := hP
            have hD : va_D A [(h0, .inr (5, [.ref h1, .int 0, .ref h2, .int 0, .int 0, .ref h3, .ref h4, .ref h5, .ref h6, .int 0, .ref h7, .ref h8, .ref h9, .int 0, .ref h10, .ref h11, .ref h12, .ref h13, .ref h14, .ref h15, .ref h16, .ref h17, .ref h18, .ref h19, .ref h20, .ref h21, .ref h22])), (h19, .inl (zI g, 4, .inl (upd (upd (upd (upd (upd (fun _ => 0) 0 (-1)) 1 (-1)) 2 (-1)) 3 (-1)) 0 p2))), (h20, .inl (zI g, 4, .inl (upd (fun _ => 0) 0 p3))), (h21, .inl (zJ g, 64, .inr (.inl (fun _ => 0))))] := hD
            refine lv_iconst (v := 0) hx hb dX5_sheet_48 (by decide) ?_
            refine lv_istore (lv' := [(4, .int 0), (0, .ref h0), (1, .int 0), (2, .int p2), (3, .int p3)]) hx hb dX5_sheet_49 hl (by decide) rfl (fun ls hl => ?_)
            refine lv_iload hx hb dX5_sheet_51 (lv_at hl 0 rfl) ?_
            refine lv_bipush (v := 16) hx hb dX5_sheet_53 (by decide) ?_
            refine lv_icmp_ge (tgt := 77) hx hb dX5_sheet_55 (by decide) (fun h => absurd h (by decide +kernel)) (fun _ => ?_)
            refine lv_aload_n hx hb dX5_sheet_58 rfl (lv_at hl 1 rfl) ?_
            refine va_get (D := g.1) (ci := 5) (v := .ref h21) (C := RX5) (T := TX5) (N := 27) hx hb hts zl_X5 hown hK hP 0 rfl rfl 25 (by decide) (hts _ m_f_RX5_70) (fun _ h => h) rfl dX5_sheet_59 ?_
            refine lv_bipush (v := 16) hx hb dX5_sheet_62 (by decide) ?_
            refine lv_iload_n hx hb dX5_sheet_64 rfl (lv_at hl 2 rfl) ?_
            refine lv_imul hx hb dX5_sheet_65 ?_
            refine lv_topi (nm_r (e' := 0) (by decide +kernel) ?_)
            refine lv_iload hx hb dX5_sheet_66 (lv_at hl 0 rfl) ?_
            refine lv_iadd hx hb dX5_sheet_68 ?_
            refine lv_topi (nm_r (e' := 0) (by decide +kernel) ?_)
            refine lv_lconst (v := 0) hx hb dX5_sheet_69 (by decide) ?_
            refine va_last (D := g.1) hx hb hK hP hD hS 3 1 rfl rfl (vp_in_iff.mpr (by decide +kernel)) dX5_sheet_70 (fun H locs hP hD hS => ?_)
            have hP : va_P g.1 vwCl [(h0, .inr (5, [.ref h1, .int 0, .ref h2, .int 0, .int 0, .ref h3, .ref h4, .ref h5, .ref h6, .int 0, .ref h7, .ref h8, .ref h9, .int 0, .ref h10, .ref h11, .ref h12, .ref h13, .ref h14, .ref h15, .ref h16, .ref h17, .ref h18, .ref h19, .ref h20, .ref h21, .ref h22])), (h19, .inl (zI g, 4, .inl (upd (upd (upd (upd (upd (fun _ => 0) 0 (-1)) 1 (-1)) 2 (-1)) 3 (-1)) 0 p2))), (h20, .inl (zI g, 4, .inl (upd (fun _ => 0) 0 p3))), (h21, .inl (zJ g, 64, .inr (.inl (vp_updL (fun _ => 0) 0 0))))] H := hP
            have hD : va_D A [(h0, .inr (5, [.ref h1, .int 0, .ref h2, .int 0, .int 0, .ref h3, .ref h4, .ref h5, .ref h6, .int 0, .ref h7, .ref h8, .ref h9, .int 0, .ref h10, .ref h11, .ref h12, .ref h13, .ref h14, .ref h15, .ref h16, .ref h17, .ref h18, .ref h19, .ref h20, .ref h21, .ref h22])), (h19, .inl (zI g, 4, .inl (upd (upd (upd (upd (upd (fun _ => 0) 0 (-1)) 1 (-1)) 2 (-1)) 3 (-1)) 0 p2))), (h20, .inl (zI g, 4, .inl (upd (fun _ => 0) 0 p3))), (h21, .inl (zJ g, 64, .inr (.inl (vp_updL (fun _ => 0) 0 0))))] := hD
            rw [zc_setL] at hP hD
            refine lv_iinc (v := 1) (lv' := [(4, .int 1), (0, .ref h0), (1, .int 0), (2, .int p2), (3, .int p3)]) hx hb dX5_sheet_71 hl (k := 0) rfl (by decide) (by decide) rfl (fun ls hl => ?_)
            refine lv_goto (tgt := 51) hx hb dX5_sheet_74 (by decide) ?_
            refine lv_iload hx hb dX5_sheet_51 (lv_at hl 0 rfl) ?_
            refine lv_bipush (v := 16) hx hb dX5_sheet_53 (by decide) ?_
            refine lv_icmp_ge (tgt := 77) hx hb dX5_sheet_55 (by decide) (fun h => absurd h (by decide +kernel)) (fun _ => ?_)
            refine lv_aload_n hx hb dX5_sheet_58 rfl (lv_at hl 1 rfl) ?_
            refine va_get (D := g.1) (ci := 5) (v := .ref h21) (C := RX5) (T := TX5) (N := 27) hx hb hts zl_X5 hown hK hP 0 rfl rfl 25 (by decide) (hts _ m_f_RX5_70) (fun _ h => h) rfl dX5_sheet_59 ?_
            refine lv_bipush (v := 16) hx hb dX5_sheet_62 (by decide) ?_
            refine lv_iload_n hx hb dX5_sheet_64 rfl (lv_at hl 2 rfl) ?_
            refine lv_imul hx hb dX5_sheet_65 ?_
            refine lv_topi (nm_r (e' := 0) (by decide +kernel) ?_)
            refine lv_iload hx hb dX5_sheet_66 (lv_at hl 0 rfl) ?_
            refine lv_iadd hx hb dX5_sheet_68 ?_
            refine lv_topi (nm_r (e' := 1) (by decide +kernel) ?_)
            refine lv_lconst (v := 0) hx hb dX5_sheet_69 (by decide) ?_
            refine va_last (D := g.1) hx hb hK hP hD hS 3 1 rfl rfl (vp_in_iff.mpr (by decide +kernel)) dX5_sheet_70 (fun H locs hP hD hS => ?_)
            have hP : va_P g.1 vwCl [(h0, .inr (5, [.ref h1, .int 0, .ref h2, .int 0, .int 0, .ref h3, .ref h4, .ref h5, .ref h6, .int 0, .ref h7, .ref h8, .ref h9, .int 0, .ref h10, .ref h11, .ref h12, .ref h13, .ref h14, .ref h15, .ref h16, .ref h17, .ref h18, .ref h19, .ref h20, .ref h21, .ref h22])), (h19, .inl (zI g, 4, .inl (upd (upd (upd (upd (upd (fun _ => 0) 0 (-1)) 1 (-1)) 2 (-1)) 3 (-1)) 0 p2))), (h20, .inl (zI g, 4, .inl (upd (fun _ => 0) 0 p3))), (h21, .inl (zJ g, 64, .inr (.inl (vp_updL (fun _ => 0) 1 0))))] H := hP
            have hD : va_D A [(h0, .inr (5, [.ref h1, .int 0, .ref h2, .int 0, .int 0, .ref h3, .ref h4, .ref h5, .ref h6, .int 0, .ref h7, .ref h8, .ref h9, .int 0, .ref h10, .ref h11, .ref h12, .ref h13, .ref h14, .ref h15, .ref h16, .ref h17, .ref h18, .ref h19, .ref h20, .ref h21, .ref h22])), (h19, .inl (zI g, 4, .inl (upd (upd (upd (upd (upd (fun _ => 0) 0 (-1)) 1 (-1)) 2 (-1)) 3 (-1)) 0 p2))), (h20, .inl (zI g, 4, .inl (upd (fun _ => 0) 0 p3))), (h21, .inl (zJ g, 64, .inr (.inl (vp_updL (fun _ => 0) 1 0))))] := hD
            rw [zc_setL] at hP hD
            refine lv_iinc (v := 2) (lv' := [(4, .int 2), (0, .ref h0), (1, .int 0), (2, .int p2), (3, .int p3)]) hx hb dX5_sheet_71 hl (k := 0) rfl (by decide) (by decide) rfl (fun ls hl => ?_)
            refine lv_goto (tgt := 51) hx hb dX5_sheet_74 (by decide) ?_
            refine lv_iload hx hb dX5_sheet_51 (lv_at hl 0 rfl) ?_
            refine lv_bipush (v := 16) hx hb dX5_sheet_53 (by decide) ?_
            refine lv_icmp_ge (tgt := 77) hx hb dX5_sheet_55 (by decide) (fun h => absurd h (by decide +kernel)) (fun _ => ?_)
            refine lv_aload_n hx hb dX5_sheet_58 rfl (lv_at hl 1 rfl) ?_
            refine va_get (D := g.1) (ci := 5) (v := .ref h21) (C := RX5) (T := TX5) (N := 27) hx hb hts zl_X5 hown hK hP 0 rfl rfl 25 (by decide) (hts _ m_f_RX5_70) (fun _ h => h) rfl dX5_sheet_59 ?_
            refine lv_bipush (v := 16) hx hb dX5_sheet_62 (by decide) ?_
            refine lv_iload_n hx hb dX5_sheet_64 rfl (lv_at hl 2 rfl) ?_
            refine lv_imul hx hb dX5_sheet_65 ?_
            refine lv_topi (nm_r (e' := 0) (by decide +kernel) ?_)
            refine lv_iload hx hb dX5_sheet_66 (lv_at hl 0 rfl) ?_
            refine lv_iadd hx hb dX5_sheet_68 ?_
            refine lv_topi (nm_r (e' := 2) (by decide +kernel) ?_)
            refine lv_lconst (v := 0) hx hb dX5_sheet_69 (by decide) ?_
            refine va_last (D := g.1) hx hb hK hP hD hS 3 1 rfl rfl (vp_in_iff.mpr (by decide +kernel)) dX5_sheet_70 (fun H locs hP hD hS => ?_)
            have hP : va_P g.1 vwCl [(h0, .inr (5, [.ref h1, .int 0, .ref h2, .int 0, .int 0, .ref h3, .ref h4, .ref h5, .ref h6, .int 0, .ref h7, .ref h8, .ref h9, .int 0, .ref h10, .ref h11, .ref h12, .ref h13, .ref h14, .ref h15, .ref h16, .ref h17, .ref h18, .ref h19, .ref h20, .ref h21, .ref h22])), (h19, .inl (zI g, 4, .inl (upd (upd (upd (upd (upd (fun _ => 0) 0 (-1)) 1 (-1)) 2 (-1)) 3 (-1)) 0 p2))), (h20, .inl (zI g, 4, .inl (upd (fun _ => 0) 0 p3))), (h21, .inl (zJ g, 64, .inr (.inl (vp_updL (fun _ => 0) 2 0))))] H := hP
            have hD : va_D A [(h0, .inr (5, [.ref h1, .int 0, .ref h2, .int 0, .int 0, .ref h3, .ref h4, .ref h5, .ref h6, .int 0, .ref h7, .ref h8, .ref h9, .int 0, .ref h10, .ref h11, .ref h12, .ref h13, .ref h14, .ref h15, .ref h16, .ref h17, .ref h18, .ref h19, .ref h20, .ref h21, .ref h22])), (h19, .inl (zI g, 4, .inl (upd (upd (upd (upd (upd (fun _ => 0) 0 (-1)) 1 (-1)) 2 (-1)) 3 (-1)) 0 p2))), (h20, .inl (zI g, 4, .inl (upd (fun _ => 0) 0 p3))), (h21, .inl (zJ g, 64, .inr (.inl (vp_updL (fun _ => 0) 2 0))))] := hD
            rw [zc_setL] at hP hD
            refine lv_iinc (v := 3) (lv' := [(4, .int 3), (0, .ref h0), (1, .int 0), (2, .int p2), (3, .int p3)]) hx hb dX5_sheet_71 hl (k := 0) rfl (by decide) (by decide) rfl (fun ls hl => ?_)
            refine lv_goto (tgt := 51) hx hb dX5_sheet_74 (by decide) ?_
            refine lv_iload hx hb dX5_sheet_51 (lv_at hl 0 rfl) ?_
            refine lv_bipush (v := 16) hx hb dX5_sheet_53 (by decide) ?_
            refine lv_icmp_ge (tgt := 77) hx hb dX5_sheet_55 (by decide) (fun h => absurd h (by decide +kernel)) (fun _ => ?_)
            refine lv_aload_n hx hb dX5_sheet_58 rfl (lv_at hl 1 rfl) ?_
            refine va_get (D := g.1) (ci := 5) (v := .ref h21) (C := RX5) (T := TX5) (N := 27) hx hb hts zl_X5 hown hK hP 0 rfl rfl 25 (by decide) (hts _ m_f_RX5_70) (fun _ h => h) rfl dX5_sheet_59 ?_
            refine lv_bipush (v := 16) hx hb dX5_sheet_62 (by decide) ?_
            refine lv_iload_n hx hb dX5_sheet_64 rfl (lv_at hl 2 rfl) ?_
            refine lv_imul hx hb dX5_sheet_65 ?_
            refine lv_topi (nm_r (e' := 0) (by decide +kernel) ?_)
            refine lv_iload hx hb dX5_sheet_66 (lv_at hl 0 rfl) ?_
            refine lv_iadd hx hb dX5_sheet_68 ?_
            refine lv_topi (nm_r (e' := 3) (by decide +kernel) ?_)
            refine lv_lconst (v := 0) hx hb dX5_sheet_69 (by decide) ?_
            refine va_last (D := g.1) hx hb hK hP hD hS 3 1 rfl rfl (vp_in_iff.mpr (by decide +kernel)) dX5_sheet_70 (fun H locs hP hD hS => ?_)
            have hP : va_P g.1 vwCl [(h0, .inr (5, [.ref h1, .int 0, .ref h2, .int 0, .int 0, .ref h3, .ref h4, .ref h5, .ref h6, .int 0, .ref h7, .ref h8, .ref h9, .int 0, .ref h10, .ref h11, .ref h12, .ref h13, .ref h14, .ref h15, .ref h16, .ref h17, .ref h18, .ref h19, .ref h20, .ref h21, .ref h22])), (h19, .inl (zI g, 4, .inl (upd (upd (upd (upd (upd (fun _ => 0) 0 (-1)) 1 (-1)) 2 (-1)) 3 (-1)) 0 p2))), (h20, .inl (zI g, 4, .inl (upd (fun _ => 0) 0 p3))), (h21, .inl (zJ g, 64, .inr (.inl (vp_updL (fun _ => 0) 3 0))))] H := hP
            have hD : va_D A [(h0, .inr (5, [.ref h1, .int 0, .ref h2, .int 0, .int 0, .ref h3, .ref h4, .ref h5, .ref h6, .int 0, .ref h7, .ref h8, .ref h9, .int 0, .ref h10, .ref h11, .ref h12, .ref h13, .ref h14, .ref h15, .ref h16, .ref h17, .ref h18, .ref h19, .ref h20, .ref h21, .ref h22])), (h19, .inl (zI g, 4, .inl (upd (upd (upd (upd (upd (fun _ => 0) 0 (-1)) 1 (-1)) 2 (-1)) 3 (-1)) 0 p2))), (h20, .inl (zI g, 4, .inl (upd (fun _ => 0) 0 p3))), (h21, .inl (zJ g, 64, .inr (.inl (vp_updL (fun _ => 0) 3 0))))] := hD
            rw [zc_setL] at hP hD
            refine lv_iinc (v := 4) (lv' := [(4, .int 4), (0, .ref h0), (1, .int 0), (2, .int p2), (3, .int p3)]) hx hb dX5_sheet_71 hl (k := 0) rfl (by decide) (by decide) rfl (fun ls hl => ?_)
            refine lv_goto (tgt := 51) hx hb dX5_sheet_74 (by decide) ?_
            refine lv_iload hx hb dX5_sheet_51 (lv_at hl 0 rfl) ?_
            refine lv_bipush (v := 16) hx hb dX5_sheet_53 (by decide) ?_
            refine lv_icmp_ge (tgt := 77) hx hb dX5_sheet_55 (by decide) (fun h => absurd h (by decide +kernel)) (fun _ => ?_)
            refine lv_aload_n hx hb dX5_sheet_58 rfl (lv_at hl 1 rfl) ?_
            refine va_get (D := g.1) (ci := 5) (v := .ref h21) (C := RX5) (T := TX5) (N := 27) hx hb hts zl_X5 hown hK hP 0 rfl rfl 25 (by decide) (hts _ m_f_RX5_70) (fun _ h => h) rfl dX5_sheet_59 ?_
            refine lv_bipush (v := 16) hx hb dX5_sheet_62 (by decide) ?_
            refine lv_iload_n hx hb dX5_sheet_64 rfl (lv_at hl 2 rfl) ?_
            refine lv_imul hx hb dX5_sheet_65 ?_
            refine lv_topi (nm_r (e' := 0) (by decide +kernel) ?_)
            refine lv_iload hx hb dX5_sheet_66 (lv_at hl 0 rfl) ?_
            refine lv_iadd hx hb dX5_sheet_68 ?_
            refine lv_topi (nm_r (e' := 4) (by decide +kernel) ?_)
            refine lv_lconst (v := 0) hx hb dX5_sheet_69 (by decide) ?_
            refine va_last (D := g.1) hx hb hK hP hD hS 3 1 rfl rfl (vp_in_iff.mpr (by decide +kernel)) dX5_sheet_70 (fun H locs hP hD hS => ?_)
            have hP : va_P g.1 vwCl [(h0, .inr (5, [.ref h1, .int 0, .ref h2, .int 0, .int 0, .ref h3, .ref h4, .ref h5, .ref h6, .int 0, .ref h7, .ref h8, .ref h9, .int 0, .ref h10, .ref h11, .ref h12, .ref h13, .ref h14, .ref h15, .ref h16, .ref h17, .ref h18, .ref h19, .ref h20, .ref h21, .ref h22])), (h19, .inl (zI g, 4, .inl (upd (upd (upd (upd (upd (fun _ => 0) 0 (-1)) 1 (-1)) 2 (-1)) 3 (-1)) 0 p2))), (h20, .inl (zI g, 4, .inl (upd (fun _ => 0) 0 p3))), (h21, .inl (zJ g, 64, .inr (.inl (vp_updL (fun _ => 0) 4 0))))] H := hP
            have hD : va_D A [(h0, .inr (5, [.ref h1, .int 0, .ref h2, .int 0, .int 0, .ref h3, .ref h4, .ref h5, .ref h6, .int 0, .ref h7, .ref h8, .ref h9, .int 0, .ref h10, .ref h11, .ref h12, .ref h13, .ref h14, .ref h15, .ref h16, .ref h17, .ref h18, .ref h19, .ref h20, .ref h21, .ref h22])), (h19, .inl (zI g, 4, .inl (upd (upd (upd (upd (upd (fun _ => 0) 0 (-1)) 1 (-1)) 2 (-1)) 3 (-1)) 0 p2))), (h20, .inl (zI g, 4, .inl (upd (fun _ => 0) 0 p3))), (h21, .inl (zJ g, 64, .inr (.inl (vp_updL (fun _ => 0) 4 0))))] := hD
            rw [zc_setL] at hP hD
            refine lv_iinc (v := 5) (lv' := [(4, .int 5), (0, .ref h0), (1, .int 0), (2, .int p2), (3, .int p3)]) hx hb dX5_sheet_71 hl (k := 0) rfl (by decide) (by decide) rfl (fun ls hl => ?_)
            refine lv_goto (tgt := 51) hx hb dX5_sheet_74 (by decide) ?_
            refine lv_iload hx hb dX5_sheet_51 (lv_at hl 0 rfl) ?_
            refine lv_bipush (v := 16) hx hb dX5_sheet_53 (by decide) ?_
            refine lv_icmp_ge (tgt := 77) hx hb dX5_sheet_55 (by decide) (fun h => absurd h (by decide +kernel)) (fun _ => ?_)
            refine lv_aload_n hx hb dX5_sheet_58 rfl (lv_at hl 1 rfl) ?_
            refine va_get (D := g.1) (ci := 5) (v := .ref h21) (C := RX5) (T := TX5) (N := 27) hx hb hts zl_X5 hown hK hP 0 rfl rfl 25 (by decide) (hts _ m_f_RX5_70) (fun _ h => h) rfl dX5_sheet_59 ?_
            refine lv_bipush (v := 16) hx hb dX5_sheet_62 (by decide) ?_
            refine lv_iload_n hx hb dX5_sheet_64 rfl (lv_at hl 2 rfl) ?_
            refine lv_imul hx hb dX5_sheet_65 ?_
            refine lv_topi (nm_r (e' := 0) (by decide +kernel) ?_)
            refine lv_iload hx hb dX5_sheet_66 (lv_at hl 0 rfl) ?_
            refine lv_iadd hx hb dX5_sheet_68 ?_
            refine lv_topi (nm_r (e' := 5) (by decide +kernel) ?_)
            refine lv_lconst (v := 0) hx hb dX5_sheet_69 (by decide) ?_
            refine va_last (D := g.1) hx hb hK hP hD hS 3 1 rfl rfl (vp_in_iff.mpr (by decide +kernel)) dX5_sheet_70 (fun H locs hP hD hS => ?_)
            have hP : va_P g.1 vwCl [(h0, .inr (5, [.ref h1, .int 0, .ref h2, .int 0, .int 0, .ref h3, .ref h4, .ref h5, .ref h6, .int 0, .ref h7, .ref h8, .ref h9, .int 0, .ref h10, .ref h11, .ref h12, .ref h13, .ref h14, .ref h15, .ref h16, .ref h17, .ref h18, .ref h19, .ref h20, .ref h21, .ref h22])), (h19, .inl (zI g, 4, .inl (upd (upd (upd (upd (upd (fun _ => 0) 0 (-1)) 1 (-1)) 2 (-1)) 3 (-1)) 0 p2))), (h20, .inl (zI g, 4, .inl (upd (fun _ => 0) 0 p3))), (h21, .inl (zJ g, 64, .inr (.inl (vp_updL (fun _ => 0) 5 0))))] H := hP
            have hD : va_D A [(h0, .inr (5, [.ref h1, .int 0, .ref h2, .int 0, .int 0, .ref h3, .ref h4, .ref h5, .ref h6, .int 0, .ref h7, .ref h8, .ref h9, .int 0, .ref h10, .ref h11, .ref h12, .ref h13, .ref h14, .ref h15, .ref h16, .ref h17, .ref h18, .ref h19, .ref h20, .ref h21, .ref h22])), (h19, .inl (zI g, 4, .inl (upd (upd (upd (upd (upd (fun _ => 0) 0 (-1)) 1 (-1)) 2 (-1)) 3 (-1)) 0 p2))), (h20, .inl (zI g, 4, .inl (upd (fun _ => 0) 0 p3))), (h21, .inl (zJ g, 64, .inr (.inl (vp_updL (fun _ => 0) 5 0))))] := hD
            rw [zc_setL] at hP hD
            refine lv_iinc (v := 6) (lv' := [(4, .int 6), (0, .ref h0), (1, .int 0), (2, .int p2), (3, .int p3)]) hx hb dX5_sheet_71 hl (k := 0) rfl (by decide) (by decide) rfl (fun ls hl => ?_)
            refine lv_goto (tgt := 51) hx hb dX5_sheet_74 (by decide) ?_
            refine lv_iload hx hb dX5_sheet_51 (lv_at hl 0 rfl) ?_
            refine lv_bipush (v := 16) hx hb dX5_sheet_53 (by decide) ?_
            refine lv_icmp_ge (tgt := 77) hx hb dX5_sheet_55 (by decide) (fun h => absurd h (by decide +kernel)) (fun _ => ?_)
            refine lv_aload_n hx hb dX5_sheet_58 rfl (lv_at hl 1 rfl) ?_
            refine va_get (D := g.1) (ci := 5) (v := .ref h21) (C := RX5) (T := TX5) (N := 27) hx hb hts zl_X5 hown hK hP 0 rfl rfl 25 (by decide) (hts _ m_f_RX5_70) (fun _ h => h) rfl dX5_sheet_59 ?_
            refine lv_bipush (v := 16) hx hb dX5_sheet_62 (by decide) ?_
            refine lv_iload_n hx hb dX5_sheet_64 rfl (lv_at hl 2 rfl) ?_
            refine lv_imul hx hb dX5_sheet_65 ?_
            refine lv_topi (nm_r (e' := 0) (by decide +kernel) ?_)
            refine lv_iload hx hb dX5_sheet_66 (lv_at hl 0 rfl) ?_
            refine lv_iadd hx hb dX5_sheet_68 ?_
            refine lv_topi (nm_r (e' := 6) (by decide +kernel) ?_)
            refine lv_lconst (v := 0) hx hb dX5_sheet_69 (by decide) ?_
            refine va_last (D := g.1) hx hb hK hP hD hS 3 1 rfl rfl (vp_in_iff.mpr (by decide +kernel)) dX5_sheet_70 (fun H locs hP hD hS => ?_)
            have hP : va_P g.1 vwCl [(h0, .inr (5, [.ref h1, .int 0, .ref h2, .int 0, .int 0, .ref h3, .ref h4, .ref h5, .ref h6, .int 0, .ref h7, .ref h8, .ref h9, .int 0, .ref h10, .ref h11, .ref h12, .ref h13, .ref h14, .ref h15, .ref h16, .ref h17, .ref h18, .ref h19, .ref h20, .ref h21, .ref h22])), (h19, .inl (zI g, 4, .inl (upd (upd (upd (upd (upd (fun _ => 0) 0 (-1)) 1 (-1)) 2 (-1)) 3 (-1)) 0 p2))), (h20, .inl (zI g, 4, .inl (upd (fun _ => 0) 0 p3))), (h21, .inl (zJ g, 64, .inr (.inl (vp_updL (fun _ => 0) 6 0))))] H := hP
            have hD : va_D A [(h0, .inr (5, [.ref h1, .int 0, .ref h2, .int 0, .int 0, .ref h3, .ref h4, .ref h5, .ref h6, .int 0, .ref h7, .ref h8, .ref h9, .int 0, .ref h10, .ref h11, .ref h12, .ref h13, .ref h14, .ref h15, .ref h16, .ref h17, .ref h18, .ref h19, .ref h20, .ref h21, .ref h22])), (h19, .inl (zI g, 4, .inl (upd (upd (upd (upd (upd (fun _ => 0) 0 (-1)) 1 (-1)) 2 (-1)) 3 (-1)) 0 p2))), (h20, .inl (zI g, 4, .inl (upd (fun _ => 0) 0 p3))), (h21, .inl (zJ g, 64, .inr (.inl (vp_updL (fun _ => 0) 6 0))))] := hD
            rw [zc_setL] at hP hD
            refine lv_iinc (v := 7) (lv' := [(4, .int 7), (0, .ref h0), (1, .int 0), (2, .int p2), (3, .int p3)]) hx hb dX5_sheet_71 hl (k := 0) rfl (by decide) (by decide) rfl (fun ls hl => ?_)
            refine lv_goto (tgt := 51) hx hb dX5_sheet_74 (by decide) ?_
            refine lv_iload hx hb dX5_sheet_51 (lv_at hl 0 rfl) ?_
            refine lv_bipush (v := 16) hx hb dX5_sheet_53 (by decide) ?_
            refine lv_icmp_ge (tgt := 77) hx hb dX5_sheet_55 (by decide) (fun h => absurd h (by decide +kernel)) (fun _ => ?_)
            refine lv_aload_n hx hb dX5_sheet_58 rfl (lv_at hl 1 rfl) ?_
            refine va_get (D := g.1) (ci := 5) (v := .ref h21) (C := RX5) (T := TX5) (N := 27) hx hb hts zl_X5 hown hK hP 0 rfl rfl 25 (by decide) (hts _ m_f_RX5_70) (fun _ h => h) rfl dX5_sheet_59 ?_
            refine lv_bipush (v := 16) hx hb dX5_sheet_62 (by decide) ?_
            refine lv_iload_n hx hb dX5_sheet_64 rfl (lv_at hl 2 rfl) ?_
            refine lv_imul hx hb dX5_sheet_65 ?_
            refine lv_topi (nm_r (e' := 0) (by decide +kernel) ?_)
            refine lv_iload hx hb dX5_sheet_66 (lv_at hl 0 rfl) ?_
            refine lv_iadd hx hb dX5_sheet_68 ?_
            refine lv_topi (nm_r (e' := 7) (by decide +kernel) ?_)
            refine lv_lconst (v := 0) hx hb dX5_sheet_69 (by decide) ?_
            refine va_last (D := g.1) hx hb hK hP hD hS 3 1 rfl rfl (vp_in_iff.mpr (by decide +kernel)) dX5_sheet_70 (fun H locs hP hD hS => ?_)
            have hP : va_P g.1 vwCl [(h0, .inr (5, [.ref h1, .int 0, .ref h2, .int 0, .int 0, .ref h3, .ref h4, .ref h5, .ref h6, .int 0, .ref h7, .ref h8, .ref h9, .int 0, .ref h10, .ref h11, .ref h12, .ref h13, .ref h14, .ref h15, .ref h16, .ref h17, .ref h18, .ref h19, .ref h20, .ref h21, .ref h22])), (h19, .inl (zI g, 4, .inl (upd (upd (upd (upd (upd (fun _ => 0) 0 (-1)) 1 (-1)) 2 (-1)) 3 (-1)) 0 p2))), (h20, .inl (zI g, 4, .inl (upd (fun _ => 0) 0 p3))), (h21, .inl (zJ g, 64, .inr (.inl (vp_updL (fun _ => 0) 7 0))))] H := hP
            have hD : va_D A [(h0, .inr (5, [.ref h1, .int 0, .ref h2, .int 0, .int 0, .ref h3, .ref h4, .ref h5, .ref h6, .int 0, .ref h7, .ref h8, .ref h9, .int 0, .ref h10, .ref h11, .ref h12, .ref h13, .ref h14, .ref h15, .ref h16, .ref h17, .ref h18, .ref h19, .ref h20, .ref h21, .ref h22])), (h19, .inl (zI g, 4, .inl (upd (upd (upd (upd (upd (fun _ => 0) 0 (-1)) 1 (-1)) 2 (-1)) 3 (-1)) 0 p2))), (h20, .inl (zI g, 4, .inl (upd (fun _ => 0) 0 p3))), (h21, .inl (zJ g, 64, .inr (.inl (vp_updL (fun _ => 0) 7 0))))] := hD
            rw [zc_setL] at hP hD
            refine lv_iinc (v := 8) (lv' := [(4, .int 8), (0, .ref h0), (1, .int 0), (2, .int p2), (3, .int p3)]) hx hb dX5_sheet_71 hl (k := 0) rfl (by decide) (by decide) rfl (fun ls hl => ?_)
            refine lv_goto (tgt := 51) hx hb dX5_sheet_74 (by decide) ?_
            refine lv_iload hx hb dX5_sheet_51 (lv_at hl 0 rfl) ?_
            refine lv_bipush (v := 16) hx hb dX5_sheet_53 (by decide) ?_
            refine lv_icmp_ge (tgt := 77) hx hb dX5_sheet_55 (by decide) (fun h => absurd h (by decide +kernel)) (fun _ => ?_)
            refine lv_aload_n hx hb dX5_sheet_58 rfl (lv_at hl 1 rfl) ?_
            refine va_get (D := g.1) (ci := 5) (v := .ref h21) (C := RX5) (T := TX5) (N := 27) hx hb hts zl_X5 hown hK hP 0 rfl rfl 25 (by decide) (hts _ m_f_RX5_70) (fun _ h => h) rfl dX5_sheet_59 ?_
            refine lv_bipush (v := 16) hx hb dX5_sheet_62 (by decide) ?_
            refine lv_iload_n hx hb dX5_sheet_64 rfl (lv_at hl 2 rfl) ?_
            refine lv_imul hx hb dX5_sheet_65 ?_
            refine lv_topi (nm_r (e' := 0) (by decide +kernel) ?_)
            refine lv_iload hx hb dX5_sheet_66 (lv_at hl 0 rfl) ?_
            refine lv_iadd hx hb dX5_sheet_68 ?_
            refine lv_topi (nm_r (e' := 8) (by decide +kernel) ?_)
            refine lv_lconst (v := 0) hx hb dX5_sheet_69 (by decide) ?_
            refine va_last (D := g.1) hx hb hK hP hD hS 3 1 rfl rfl (vp_in_iff.mpr (by decide +kernel)) dX5_sheet_70 (fun H locs hP hD hS => ?_)
            have hP : va_P g.1 vwCl [(h0, .inr (5, [.ref h1, .int 0, .ref h2, .int 0, .int 0, .ref h3, .ref h4, .ref h5, .ref h6, .int 0, .ref h7, .ref h8, .ref h9, .int 0, .ref h10, .ref h11, .ref h12, .ref h13, .ref h14, .ref h15, .ref h16, .ref h17, .ref h18, .ref h19, .ref h20, .ref h21, .ref h22])), (h19, .inl (zI g, 4, .inl (upd (upd (upd (upd (upd (fun _ => 0) 0 (-1)) 1 (-1)) 2 (-1)) 3 (-1)) 0 p2))), (h20, .inl (zI g, 4, .inl (upd (fun _ => 0) 0 p3))), (h21, .inl (zJ g, 64, .inr (.inl (vp_updL (fun _ => 0) 8 0))))] H := hP
            have hD : va_D A [(h0, .inr (5, [.ref h1, .int 0, .ref h2, .int 0, .int 0, .ref h3, .ref h4, .ref h5, .ref h6, .int 0, .ref h7, .ref h8, .ref h9, .int 0, .ref h10, .ref h11, .ref h12, .ref h13, .ref h14, .ref h15, .ref h16, .ref h17, .ref h18, .ref h19, .ref h20, .ref h21, .ref h22])), (h19, .inl (zI g, 4, .inl (upd (upd (upd (upd (upd (fun _ => 0) 0 (-1)) 1 (-1)) 2 (-1)) 3 (-1)) 0 p2))), (h20, .inl (zI g, 4, .inl (upd (fun _ => 0) 0 p3))), (h21, .inl (zJ g, 64, .inr (.inl (vp_updL (fun _ => 0) 8 0))))] := hD
            rw [zc_setL] at hP hD
            refine lv_iinc (v := 9) (lv' := [(4, .int 9), (0, .ref h0), (1, .int 0), (2, .int p2), (3, .int p3)]) hx hb dX5_sheet_71 hl (k := 0) rfl (by decide) (by decide) rfl (fun ls hl => ?_)
            refine lv_goto (tgt := 51) hx hb dX5_sheet_74 (by decide) ?_
            refine lv_iload hx hb dX5_sheet_51 (lv_at hl 0 rfl) ?_
            refine lv_bipush (v := 16) hx hb dX5_sheet_53 (by decide) ?_
            refine lv_icmp_ge (tgt := 77) hx hb dX5_sheet_55 (by decide) (fun h => absurd h (by decide +kernel)) (fun _ => ?_)
            refine lv_aload_n hx hb dX5_sheet_58 rfl (lv_at hl 1 rfl) ?_
            refine va_get (D := g.1) (ci := 5) (v := .ref h21) (C := RX5) (T := TX5) (N := 27) hx hb hts zl_X5 hown hK hP 0 rfl rfl 25 (by decide) (hts _ m_f_RX5_70) (fun _ h => h) rfl dX5_sheet_59 ?_
            refine lv_bipush (v := 16) hx hb dX5_sheet_62 (by decide) ?_
            refine lv_iload_n hx hb dX5_sheet_64 rfl (lv_at hl 2 rfl) ?_
            refine lv_imul hx hb dX5_sheet_65 ?_
            refine lv_topi (nm_r (e' := 0) (by decide +kernel) ?_)
            refine lv_iload hx hb dX5_sheet_66 (lv_at hl 0 rfl) ?_
            refine lv_iadd hx hb dX5_sheet_68 ?_
            refine lv_topi (nm_r (e' := 9) (by decide +kernel) ?_)
            refine lv_lconst (v := 0) hx hb dX5_sheet_69 (by decide) ?_
            refine va_last (D := g.1) hx hb hK hP hD hS 3 1 rfl rfl (vp_in_iff.mpr (by decide +kernel)) dX5_sheet_70 (fun H locs hP hD hS => ?_)
            have hP : va_P g.1 vwCl [(h0, .inr (5, [.ref h1, .int 0, .ref h2, .int 0, .int 0, .ref h3, .ref h4, .ref h5, .ref h6, .int 0, .ref h7, .ref h8, .ref h9, .int 0, .ref h10, .ref h11, .ref h12, .ref h13, .ref h14, .ref h15, .ref h16, .ref h17, .ref h18, .ref h19, .ref h20, .ref h21, .ref h22])), (h19, .inl (zI g, 4, .inl (upd (upd (upd (upd (upd (fun _ => 0) 0 (-1)) 1 (-1)) 2 (-1)) 3 (-1)) 0 p2))), (h20, .inl (zI g, 4, .inl (upd (fun _ => 0) 0 p3))), (h21, .inl (zJ g, 64, .inr (.inl (vp_updL (fun _ => 0) 9 0))))] H := hP
            have hD : va_D A [(h0, .inr (5, [.ref h1, .int 0, .ref h2, .int 0, .int 0, .ref h3, .ref h4, .ref h5, .ref h6, .int 0, .ref h7, .ref h8, .ref h9, .int 0, .ref h10, .ref h11, .ref h12, .ref h13, .ref h14, .ref h15, .ref h16, .ref h17, .ref h18, .ref h19, .ref h20, .ref h21, .ref h22])), (h19, .inl (zI g, 4, .inl (upd (upd (upd (upd (upd (fun _ => 0) 0 (-1)) 1 (-1)) 2 (-1)) 3 (-1)) 0 p2))), (h20, .inl (zI g, 4, .inl (upd (fun _ => 0) 0 p3))), (h21, .inl (zJ g, 64, .inr (.inl (vp_updL (fun _ => 0) 9 0))))] := hD
            rw [zc_setL] at hP hD
            refine lv_iinc (v := 10) (lv' := [(4, .int 10), (0, .ref h0), (1, .int 0), (2, .int p2), (3, .int p3)]) hx hb dX5_sheet_71 hl (k := 0) rfl (by decide) (by decide) rfl (fun ls hl => ?_)
            refine lv_goto (tgt := 51) hx hb dX5_sheet_74 (by decide) ?_
            refine lv_iload hx hb dX5_sheet_51 (lv_at hl 0 rfl) ?_
            refine lv_bipush (v := 16) hx hb dX5_sheet_53 (by decide) ?_
            refine lv_icmp_ge (tgt := 77) hx hb dX5_sheet_55 (by decide) (fun h => absurd h (by decide +kernel)) (fun _ => ?_)
            refine lv_aload_n hx hb dX5_sheet_58 rfl (lv_at hl 1 rfl) ?_
            refine va_get (D := g.1) (ci := 5) (v := .ref h21) (C := RX5) (T := TX5) (N := 27) hx hb hts zl_X5 hown hK hP 0 rfl rfl 25 (by decide) (hts _ m_f_RX5_70) (fun _ h => h) rfl dX5_sheet_59 ?_
            refine lv_bipush (v := 16) hx hb dX5_sheet_62 (by decide) ?_
            refine lv_iload_n hx hb dX5_sheet_64 rfl (lv_at hl 2 rfl) ?_
            refine lv_imul hx hb dX5_sheet_65 ?_
            refine lv_topi (nm_r (e' := 0) (by decide +kernel) ?_)
            refine lv_iload hx hb dX5_sheet_66 (lv_at hl 0 rfl) ?_
            refine lv_iadd hx hb dX5_sheet_68 ?_
            refine lv_topi (nm_r (e' := 10) (by decide +kernel) ?_)
            refine lv_lconst (v := 0) hx hb dX5_sheet_69 (by decide) ?_
            refine va_last (D := g.1) hx hb hK hP hD hS 3 1 rfl rfl (vp_in_iff.mpr (by decide +kernel)) dX5_sheet_70 (fun H locs hP hD hS => ?_)
            have hP : va_P g.1 vwCl [(h0, .inr (5, [.ref h1, .int 0, .ref h2, .int 0, .int 0, .ref h3, .ref h4, .ref h5, .ref h6, .int 0, .ref h7, .ref h8, .ref h9, .int 0, .ref h10, .ref h11, .ref h12, .ref h13, .ref h14, .ref h15, .ref h16, .ref h17, .ref h18, .ref h19, .ref h20, .ref h21, .ref h22])), (h19, .inl (zI g, 4, .inl (upd (upd (upd (upd (upd (fun _ => 0) 0 (-1)) 1 (-1)) 2 (-1)) 3 (-1)) 0 p2))), (h20, .inl (zI g, 4, .inl (upd (fun _ => 0) 0 p3))), (h21, .inl (zJ g, 64, .inr (.inl (vp_updL (fun _ => 0) 10 0))))] H := hP
            have hD : va_D A [(h0, .inr (5, [.ref h1, .int 0, .ref h2, .int 0, .int 0, .ref h3, .ref h4, .ref h5, .ref h6, .int 0, .ref h7, .ref h8, .ref h9, .int 0, .ref h10, .ref h11, .ref h12, .ref h13, .ref h14, .ref h15, .ref h16, .ref h17, .ref h18, .ref h19, .ref h20, .ref h21, .ref h22])), (h19, .inl (zI g, 4, .inl (upd (upd (upd (upd (upd (fun _ => 0) 0 (-1)) 1 (-1)) 2 (-1)) 3 (-1)) 0 p2))), (h20, .inl (zI g, 4, .inl (upd (fun _ => 0) 0 p3))), (h21, .inl (zJ g, 64, .inr (.inl (vp_updL (fun _ => 0) 10 0))))] := hD
            rw [zc_setL] at hP hD
            refine lv_iinc (v := 11) (lv' := [(4, .int 11), (0, .ref h0), (1, .int 0), (2, .int p2), (3, .int p3)]) hx hb dX5_sheet_71 hl (k := 0) rfl (by decide) (by decide) rfl (fun ls hl => ?_)
            refine lv_goto (tgt := 51) hx hb dX5_sheet_74 (by decide) ?_
            refine lv_iload hx hb dX5_sheet_51 (lv_at hl 0 rfl) ?_
            refine lv_bipush (v := 16) hx hb dX5_sheet_53 (by decide) ?_
            refine lv_icmp_ge (tgt := 77) hx hb dX5_sheet_55 (by decide) (fun h => absurd h (by decide +kernel)) (fun _ => ?_)
            refine lv_aload_n hx hb dX5_sheet_58 rfl (lv_at hl 1 rfl) ?_
            refine va_get (D := g.1) (ci := 5) (v := .ref h21) (C := RX5) (T := TX5) (N := 27) hx hb hts zl_X5 hown hK hP 0 rfl rfl 25 (by decide) (hts _ m_f_RX5_70) (fun _ h => h) rfl dX5_sheet_59 ?_
            refine lv_bipush (v := 16) hx hb dX5_sheet_62 (by decide) ?_
            refine lv_iload_n hx hb dX5_sheet_64 rfl (lv_at hl 2 rfl) ?_
            refine lv_imul hx hb dX5_sheet_65 ?_
            refine lv_topi (nm_r (e' := 0) (by decide +kernel) ?_)
            refine lv_iload hx hb dX5_sheet_66 (lv_at hl 0 rfl) ?_
            refine lv_iadd hx hb dX5_sheet_68 ?_
            refine lv_topi (nm_r (e' := 11) (by decide +kernel) ?_)
            refine lv_lconst (v := 0) hx hb dX5_sheet_69 (by decide) ?_
            refine va_last (D := g.1) hx hb hK hP hD hS 3 1 rfl rfl (vp_in_iff.mpr (by decide +kernel)) dX5_sheet_70 (fun H locs hP hD hS => ?_)
            have hP : va_P g.1 vwCl [(h0, .inr (5, [.ref h1, .int 0, .ref h2, .int 0, .int 0, .ref h3, .ref h4, .ref h5, .ref h6, .int 0, .ref h7, .ref h8, .ref h9, .int 0, .ref h10, .ref h11, .ref h12, .ref h13, .ref h14, .ref h15, .ref h16, .ref h17, .ref h18, .ref h19, .ref h20, .ref h21, .ref h22])), (h19, .inl (zI g, 4, .inl (upd (upd (upd (upd (upd (fun _ => 0) 0 (-1)) 1 (-1)) 2 (-1)) 3 (-1)) 0 p2))), (h20, .inl (zI g, 4, .inl (upd (fun _ => 0) 0 p3))), (h21, .inl (zJ g, 64, .inr (.inl (vp_updL (fun _ => 0) 11 0))))] H := hP
            have hD : va_D A [(h0, .inr (5, [.ref h1, .int 0, .ref h2, .int 0, .int 0, .ref h3, .ref h4, .ref h5, .ref h6, .int 0, .ref h7, .ref h8, .ref h9, .int 0, .ref h10, .ref h11, .ref h12, .ref h13, .ref h14, .ref h15, .ref h16, .ref h17, .ref h18, .ref h19, .ref h20, .ref h21, .ref h22])), (h19, .inl (zI g, 4, .inl (upd (upd (upd (upd (upd (fun _ => 0) 0 (-1)) 1 (-1)) 2 (-1)) 3 (-1)) 0 p2))), (h20, .inl (zI g, 4, .inl (upd (fun _ => 0) 0 p3))), (h21, .inl (zJ g, 64, .inr (.inl (vp_updL (fun _ => 0) 11 0))))] := hD
            rw [zc_setL] at hP hD
            refine lv_iinc (v := 12) (lv' := [(4, .int 12), (0, .ref h0), (1, .int 0), (2, .int p2), (3, .int p3)]) hx hb dX5_sheet_71 hl (k := 0) rfl (by decide) (by decide) rfl (fun ls hl => ?_)
            refine lv_goto (tgt := 51) hx hb dX5_sheet_74 (by decide) ?_
            refine lv_iload hx hb dX5_sheet_51 (lv_at hl 0 rfl) ?_
            refine lv_bipush (v := 16) hx hb dX5_sheet_53 (by decide) ?_
            refine lv_icmp_ge (tgt := 77) hx hb dX5_sheet_55 (by decide) (fun h => absurd h (by decide +kernel)) (fun _ => ?_)
            refine lv_aload_n hx hb dX5_sheet_58 rfl (lv_at hl 1 rfl) ?_
            refine va_get (D := g.1) (ci := 5) (v := .ref h21) (C := RX5) (T := TX5) (N := 27) hx hb hts zl_X5 hown hK hP 0 rfl rfl 25 (by decide) (hts _ m_f_RX5_70) (fun _ h => h) rfl dX5_sheet_59 ?_
            refine lv_bipush (v := 16) hx hb dX5_sheet_62 (by decide) ?_
            refine lv_iload_n hx hb dX5_sheet_64 rfl (lv_at hl 2 rfl) ?_
            refine lv_imul hx hb dX5_sheet_65 ?_
            refine lv_topi (nm_r (e' := 0) (by decide +kernel) ?_)
            refine lv_iload hx hb dX5_sheet_66 (lv_at hl 0 rfl) ?_
            refine lv_iadd hx hb dX5_sheet_68 ?_
            refine lv_topi (nm_r (e' := 12) (by decide +kernel) ?_)
            refine lv_lconst (v := 0) hx hb dX5_sheet_69 (by decide) ?_
            refine va_last (D := g.1) hx hb hK hP hD hS 3 1 rfl rfl (vp_in_iff.mpr (by decide +kernel)) dX5_sheet_70 (fun H locs hP hD hS => ?_)
            have hP : va_P g.1 vwCl [(h0, .inr (5, [.ref h1, .int 0, .ref h2, .int 0, .int 0, .ref h3, .ref h4, .ref h5, .ref h6, .int 0, .ref h7, .ref h8, .ref h9, .int 0, .ref h10, .ref h11, .ref h12, .ref h13, .ref h14, .ref h15, .ref h16, .ref h17, .ref h18, .ref h19, .ref h20, .ref h21, .ref h22])), (h19, .inl (zI g, 4, .inl (upd (upd (upd (upd (upd (fun _ => 0) 0 (-1)) 1 (-1)) 2 (-1)) 3 (-1)) 0 p2))), (h20, .inl (zI g, 4, .inl (upd (fun _ => 0) 0 p3))), (h21, .inl (zJ g, 64, .inr (.inl (vp_updL (fun _ => 0) 12 0))))] H := hP
            have hD : va_D A [(h0, .inr (5, [.ref h1, .int 0, .ref h2, .int 0, .int 0, .ref h3, .ref h4, .ref h5, .ref h6, .int 0, .ref h7, .ref h8, .ref h9, .int 0, .ref h10, .ref h11, .ref h12, .ref h13, .ref h14, .ref h15, .ref h16, .ref h17, .ref h18, .ref h19, .ref h20, .ref h21, .ref h22])), (h19, .inl (zI g, 4, .inl (upd (upd (upd (upd (upd (fun _ => 0) 0 (-1)) 1 (-1)) 2 (-1)) 3 (-1)) 0 p2))), (h20, .inl (zI g, 4, .inl (upd (fun _ => 0) 0 p3))), (h21, .inl (zJ g, 64, .inr (.inl (vp_updL (fun _ => 0) 12 0))))] := hD
            rw [zc_setL] at hP hD
            refine lv_iinc (v := 13) (lv' := [(4, .int 13), (0, .ref h0), (1, .int 0), (2, .int p2), (3, .int p3)]) hx hb dX5_sheet_71 hl (k := 0) rfl (by decide) (by decide) rfl (fun ls hl => ?_)
            refine lv_goto (tgt := 51) hx hb dX5_sheet_74 (by decide) ?_
            refine lv_iload hx hb dX5_sheet_51 (lv_at hl 0 rfl) ?_
            refine lv_bipush (v := 16) hx hb dX5_sheet_53 (by decide) ?_
            refine lv_icmp_ge (tgt := 77) hx hb dX5_sheet_55 (by decide) (fun h => absurd h (by decide +kernel)) (fun _ => ?_)
            refine lv_aload_n hx hb dX5_sheet_58 rfl (lv_at hl 1 rfl) ?_
            refine va_get (D := g.1) (ci := 5) (v := .ref h21) (C := RX5) (T := TX5) (N := 27) hx hb hts zl_X5 hown hK hP 0 rfl rfl 25 (by decide) (hts _ m_f_RX5_70) (fun _ h => h) rfl dX5_sheet_59 ?_
            refine lv_bipush (v := 16) hx hb dX5_sheet_62 (by decide) ?_
            refine lv_iload_n hx hb dX5_sheet_64 rfl (lv_at hl 2 rfl) ?_
            refine lv_imul hx hb dX5_sheet_65 ?_
            refine lv_topi (nm_r (e' := 0) (by decide +kernel) ?_)
            refine lv_iload hx hb dX5_sheet_66 (lv_at hl 0 rfl) ?_
            refine lv_iadd hx hb dX5_sheet_68 ?_
            refine lv_topi (nm_r (e' := 13) (by decide +kernel) ?_)
            refine lv_lconst (v := 0) hx hb dX5_sheet_69 (by decide) ?_
            refine va_last (D := g.1) hx hb hK hP hD hS 3 1 rfl rfl (vp_in_iff.mpr (by decide +kernel)) dX5_sheet_70 (fun H locs hP hD hS => ?_)
            have hP : va_P g.1 vwCl [(h0, .inr (5, [.ref h1, .int 0, .ref h2, .int 0, .int 0, .ref h3, .ref h4, .ref h5, .ref h6, .int 0, .ref h7, .ref h8, .ref h9, .int 0, .ref h10, .ref h11, .ref h12, .ref h13, .ref h14, .ref h15, .ref h16, .ref h17, .ref h18, .ref h19, .ref h20, .ref h21, .ref h22])), (h19, .inl (zI g, 4, .inl (upd (upd (upd (upd (upd (fun _ => 0) 0 (-1)) 1 (-1)) 2 (-1)) 3 (-1)) 0 p2))), (h20, .inl (zI g, 4, .inl (upd (fun _ => 0) 0 p3))), (h21, .inl (zJ g, 64, .inr (.inl (vp_updL (fun _ => 0) 13 0))))] H := hP
            have hD : va_D A [(h0, .inr (5, [.ref h1, .int 0, .ref h2, .int 0, .int 0, .ref h3, .ref h4, .ref h5, .ref h6, .int 0, .ref h7, .ref h8, .ref h9, .int 0, .ref h10, .ref h11, .ref h12, .ref h13, .ref h14, .ref h15, .ref h16, .ref h17, .ref h18, .ref h19, .ref h20, .ref h21, .ref h22])), (h19, .inl (zI g, 4, .inl (upd (upd (upd (upd (upd (fun _ => 0) 0 (-1)) 1 (-1)) 2 (-1)) 3 (-1)) 0 p2))), (h20, .inl (zI g, 4, .inl (upd (fun _ => 0) 0 p3))), (h21, .inl (zJ g, 64, .inr (.inl (vp_updL (fun _ => 0) 13 0))))] := hD
            rw [zc_setL] at hP hD
            refine lv_iinc (v := 14) (lv' := [(4, .int 14), (0, .ref h0), (1, .int 0), (2, .int p2), (3, .int p3)]) hx hb dX5_sheet_71 hl (k := 0) rfl (by decide) (by decide) rfl (fun ls hl => ?_)
            refine lv_goto (tgt := 51) hx hb dX5_sheet_74 (by decide) ?_
            refine lv_iload hx hb dX5_sheet_51 (lv_at hl 0 rfl) ?_
            refine lv_bipush (v := 16) hx hb dX5_sheet_53 (by decide) ?_
            refine lv_icmp_ge (tgt := 77) hx hb dX5_sheet_55 (by decide) (fun h => absurd h (by decide +kernel)) (fun _ => ?_)
            refine lv_aload_n hx hb dX5_sheet_58 rfl (lv_at hl 1 rfl) ?_
            refine va_get (D := g.1) (ci := 5) (v := .ref h21) (C := RX5) (T := TX5) (N := 27) hx hb hts zl_X5 hown hK hP 0 rfl rfl 25 (by decide) (hts _ m_f_RX5_70) (fun _ h => h) rfl dX5_sheet_59 ?_
            refine lv_bipush (v := 16) hx hb dX5_sheet_62 (by decide) ?_
            refine lv_iload_n hx hb dX5_sheet_64 rfl (lv_at hl 2 rfl) ?_
            refine lv_imul hx hb dX5_sheet_65 ?_
            refine lv_topi (nm_r (e' := 0) (by decide +kernel) ?_)
            refine lv_iload hx hb dX5_sheet_66 (lv_at hl 0 rfl) ?_
            refine lv_iadd hx hb dX5_sheet_68 ?_
            refine lv_topi (nm_r (e' := 14) (by decide +kernel) ?_)
            refine lv_lconst (v := 0) hx hb dX5_sheet_69 (by decide) ?_
            refine va_last (D := g.1) hx hb hK hP hD hS 3 1 rfl rfl (vp_in_iff.mpr (by decide +kernel)) dX5_sheet_70 (fun H locs hP hD hS => ?_)
            have hP : va_P g.1 vwCl [(h0, .inr (5, [.ref h1, .int 0, .ref h2, .int 0, .int 0, .ref h3, .ref h4, .ref h5, .ref h6, .int 0, .ref h7, .ref h8, .ref h9, .int 0, .ref h10, .ref h11, .ref h12, .ref h13, .ref h14, .ref h15, .ref h16, .ref h17, .ref h18, .ref h19, .ref h20, .ref h21, .ref h22])), (h19, .inl (zI g, 4, .inl (upd (upd (upd (upd (upd (fun _ => 0) 0 (-1)) 1 (-1)) 2 (-1)) 3 (-1)) 0 p2))), (h20, .inl (zI g, 4, .inl (upd (fun _ => 0) 0 p3))), (h21, .inl (zJ g, 64, .inr (.inl (vp_updL (fun _ => 0) 14 0))))] H := hP
            have hD : va_D A [(h0, .inr (5, [.ref h1, .int 0, .ref h2, .int 0, .int 0, .ref h3, .ref h4, .ref h5, .ref h6, .int 0, .ref h7, .ref h8, .ref h9, .int 0, .ref h10, .ref h11, .ref h12, .ref h13, .ref h14, .ref h15, .ref h16, .ref h17, .ref h18, .ref h19, .ref h20, .ref h21, .ref h22])), (h19, .inl (zI g, 4, .inl (upd (upd (upd (upd (upd (fun _ => 0) 0 (-1)) 1 (-1)) 2 (-1)) 3 (-1)) 0 p2))), (h20, .inl (zI g, 4, .inl (upd (fun _ => 0) 0 p3))), (h21, .inl (zJ g, 64, .inr (.inl (vp_updL (fun _ => 0) 14 0))))] := hD
            rw [zc_setL] at hP hD
            refine lv_iinc (v := 15) (lv' := [(4, .int 15), (0, .ref h0), (1, .int 0), (2, .int p2), (3, .int p3)]) hx hb dX5_sheet_71 hl (k := 0) rfl (by decide) (by decide) rfl (fun ls hl => ?_)
            refine lv_goto (tgt := 51) hx hb dX5_sheet_74 (by decide) ?_
            refine lv_iload hx hb dX5_sheet_51 (lv_at hl 0 rfl) ?_
            refine lv_bipush (v := 16) hx hb dX5_sheet_53 (by decide) ?_
            refine lv_icmp_ge (tgt := 77) hx hb dX5_sheet_55 (by decide) (fun h => absurd h (by decide +kernel)) (fun _ => ?_)
            refine lv_aload_n hx hb dX5_sheet_58 rfl (lv_at hl 1 rfl) ?_
            refine va_get (D := g.1) (ci := 5) (v := .ref h21) (C := RX5) (T := TX5) (N := 27) hx hb hts zl_X5 hown hK hP 0 rfl rfl 25 (by decide) (hts _ m_f_RX5_70) (fun _ h => h) rfl dX5_sheet_59 ?_
            refine lv_bipush (v := 16) hx hb dX5_sheet_62 (by decide) ?_
            refine lv_iload_n hx hb dX5_sheet_64 rfl (lv_at hl 2 rfl) ?_
            refine lv_imul hx hb dX5_sheet_65 ?_
            refine lv_topi (nm_r (e' := 0) (by decide +kernel) ?_)
            refine lv_iload hx hb dX5_sheet_66 (lv_at hl 0 rfl) ?_
            refine lv_iadd hx hb dX5_sheet_68 ?_
            refine lv_topi (nm_r (e' := 15) (by decide +kernel) ?_)
            refine lv_lconst (v := 0) hx hb dX5_sheet_69 (by decide) ?_
            refine va_last (D := g.1) hx hb hK hP hD hS 3 1 rfl rfl (vp_in_iff.mpr (by decide +kernel)) dX5_sheet_70 (fun H locs hP hD hS => ?_)
            have hP : va_P g.1 vwCl [(h0, .inr (5, [.ref h1, .int 0, .ref h2, .int 0, .int 0, .ref h3, .ref h4, .ref h5, .ref h6, .int 0, .ref h7, .ref h8, .ref h9, .int 0, .ref h10, .ref h11, .ref h12, .ref h13, .ref h14, .ref h15, .ref h16, .ref h17, .ref h18, .ref h19, .ref h20, .ref h21, .ref h22])), (h19, .inl (zI g, 4, .inl (upd (upd (upd (upd (upd (fun _ => 0) 0 (-1)) 1 (-1)) 2 (-1)) 3 (-1)) 0 p2))), (h20, .inl (zI g, 4, .inl (upd (fun _ => 0) 0 p3))), (h21, .inl (zJ g, 64, .inr (.inl (vp_updL (fun _ => 0) 15 0))))] H := hP
            have hD : va_D A [(h0, .inr (5, [.ref h1, .int 0, .ref h2, .int 0, .int 0, .ref h3, .ref h4, .ref h5, .ref h6, .int 0, .ref h7, .ref h8, .ref h9, .int 0, .ref h10, .ref h11, .ref h12, .ref h13, .ref h14, .ref h15, .ref h16, .ref h17, .ref h18, .ref h19, .ref h20, .ref h21, .ref h22])), (h19, .inl (zI g, 4, .inl (upd (upd (upd (upd (upd (fun _ => 0) 0 (-1)) 1 (-1)) 2 (-1)) 3 (-1)) 0 p2))), (h20, .inl (zI g, 4, .inl (upd (fun _ => 0) 0 p3))), (h21, .inl (zJ g, 64, .inr (.inl (vp_updL (fun _ => 0) 15 0))))] := hD
            rw [zc_setL] at hP hD
            refine lv_iinc (v := 16) (lv' := [(4, .int 16), (0, .ref h0), (1, .int 0), (2, .int p2), (3, .int p3)]) hx hb dX5_sheet_71 hl (k := 0) rfl (by decide) (by decide) rfl (fun ls hl => ?_)
            refine lv_goto (tgt := 51) hx hb dX5_sheet_74 (by decide) ?_
            refine lv_iload hx hb dX5_sheet_51 (lv_at hl 0 rfl) ?_
            refine lv_bipush (v := 16) hx hb dX5_sheet_53 (by decide) ?_
            refine lv_icmp_ge (tgt := 77) hx hb dX5_sheet_55 (by decide) (fun _ => ?_) (fun h => absurd h (by decide +kernel))
            refine lv_iload_n hx hb dX5_sheet_77 rfl (lv_at hl 4 rfl) ?_
            have hP9 := hP.sub (ws' := []) [] rfl
            have hD9 := hD.sub (ws' := []) [] (by decide) rfl
            exact W.iret (v := p3) hx hb hr (fun t ht hW => ⟨⟨p3, 0, rfl, Or.inr (Or.inr (Or.inr (Or.inr (Or.inl ⟨i_3, i_4, i_8, i_9, i_10, i_11, j_12, rfl⟩)))), by rw [ht]; exact hP9, hD9⟩, hS.F ht⟩) hS.2.2 dX5_sheet_78
          · obtain rfl : p1 = 1 := Int32.toInt_inj.mp (show p1.toInt = (1 : Int32).toInt from j_12.trans rfl)
            refine va_iast (D := g.1) hx hb hK hP hD hS 1 0 rfl rfl (vp_in_iff.mpr (by decide +kernel)) dX5_sheet_40 (fun H locs hP hD hS => ?_)
            have hP : va_P g.1 vwCl [(h0, .inr (5, [.ref h1, .int 0, .ref h2, .int 0, .int 0, .ref h3, .ref h4, .ref h5, .ref h6, .int 0, .ref h7, .ref h8, .ref h9, .int 0, .ref h10, .ref h11, .ref h12, .ref h13, .ref h14, .ref h15, .ref h16, .ref h17, .ref h18, .ref h19, .ref h20, .ref h21, .ref h22])), (h19, .inl (zI g, 4, .inl (upd (upd (upd (upd (upd (fun _ => 0) 0 (-1)) 1 (-1)) 2 (-1)) 3 (-1)) 1 p2))), (h20, .inl (zI g, 4, .inl (fun _ => 0))), (h21, .inl (zJ g, 64, .inr (.inl (fun _ => 0))))] H := hP
            have hD : va_D A [(h0, .inr (5, [.ref h1, .int 0, .ref h2, .int 0, .int 0, .ref h3, .ref h4, .ref h5, .ref h6, .int 0, .ref h7, .ref h8, .ref h9, .int 0, .ref h10, .ref h11, .ref h12, .ref h13, .ref h14, .ref h15, .ref h16, .ref h17, .ref h18, .ref h19, .ref h20, .ref h21, .ref h22])), (h19, .inl (zI g, 4, .inl (upd (upd (upd (upd (upd (fun _ => 0) 0 (-1)) 1 (-1)) 2 (-1)) 3 (-1)) 1 p2))), (h20, .inl (zI g, 4, .inl (fun _ => 0))), (h21, .inl (zJ g, 64, .inr (.inl (fun _ => 0))))] := hD
            refine lv_aload_n hx hb dX5_sheet_41 rfl (lv_at hl 0 rfl) ?_
            refine va_get (D := g.1) (ci := 5) (v := .ref h20) (C := RX5) (T := TX5) (N := 27) hx hb hts zl_X5 hown hK hP 0 rfl rfl 24 (by decide) (hts _ m_f_RX5_67) (fun _ h => h) rfl dX5_sheet_42 ?_
            refine lv_iload_n hx hb dX5_sheet_45 rfl (lv_at hl 1 rfl) ?_
            refine lv_iload_n hx hb dX5_sheet_46 rfl (lv_at hl 3 rfl) ?_
            refine va_iast (D := g.1) hx hb hK hP hD hS 2 0 rfl rfl (vp_in_iff.mpr (by decide +kernel)) dX5_sheet_47 (fun H locs hP hD hS => ?_)
            have hP : va_P g.1 vwCl [(h0, .inr (5, [.ref h1, .int 0, .ref h2, .int 0, .int 0, .ref h3, .ref h4, .ref h5, .ref h6, .int 0, .ref h7, .ref h8, .ref h9, .int 0, .ref h10, .ref h11, .ref h12, .ref h13, .ref h14, .ref h15, .ref h16, .ref h17, .ref h18, .ref h19, .ref h20, .ref h21, .ref h22])), (h19, .inl (zI g, 4, .inl (upd (upd (upd (upd (upd (fun _ => 0) 0 (-1)) 1 (-1)) 2 (-1)) 3 (-1)) 1 p2))), (h20, .inl (zI g, 4, .inl (upd (fun _ => 0) 1 p3))), (h21, .inl (zJ g, 64, .inr (.inl (fun _ => 0))))] H := hP
            have hD : va_D A [(h0, .inr (5, [.ref h1, .int 0, .ref h2, .int 0, .int 0, .ref h3, .ref h4, .ref h5, .ref h6, .int 0, .ref h7, .ref h8, .ref h9, .int 0, .ref h10, .ref h11, .ref h12, .ref h13, .ref h14, .ref h15, .ref h16, .ref h17, .ref h18, .ref h19, .ref h20, .ref h21, .ref h22])), (h19, .inl (zI g, 4, .inl (upd (upd (upd (upd (upd (fun _ => 0) 0 (-1)) 1 (-1)) 2 (-1)) 3 (-1)) 1 p2))), (h20, .inl (zI g, 4, .inl (upd (fun _ => 0) 1 p3))), (h21, .inl (zJ g, 64, .inr (.inl (fun _ => 0))))] := hD
            refine lv_iconst (v := 0) hx hb dX5_sheet_48 (by decide) ?_
            refine lv_istore (lv' := [(4, .int 0), (0, .ref h0), (1, .int 1), (2, .int p2), (3, .int p3)]) hx hb dX5_sheet_49 hl (by decide) rfl (fun ls hl => ?_)
            refine lv_iload hx hb dX5_sheet_51 (lv_at hl 0 rfl) ?_
            refine lv_bipush (v := 16) hx hb dX5_sheet_53 (by decide) ?_
            refine lv_icmp_ge (tgt := 77) hx hb dX5_sheet_55 (by decide) (fun h => absurd h (by decide +kernel)) (fun _ => ?_)
            refine lv_aload_n hx hb dX5_sheet_58 rfl (lv_at hl 1 rfl) ?_
            refine va_get (D := g.1) (ci := 5) (v := .ref h21) (C := RX5) (T := TX5) (N := 27) hx hb hts zl_X5 hown hK hP 0 rfl rfl 25 (by decide) (hts _ m_f_RX5_70) (fun _ h => h) rfl dX5_sheet_59 ?_
            refine lv_bipush (v := 16) hx hb dX5_sheet_62 (by decide) ?_
            refine lv_iload_n hx hb dX5_sheet_64 rfl (lv_at hl 2 rfl) ?_
            refine lv_imul hx hb dX5_sheet_65 ?_
            refine lv_topi (nm_r (e' := 16) (by decide +kernel) ?_)
            refine lv_iload hx hb dX5_sheet_66 (lv_at hl 0 rfl) ?_
            refine lv_iadd hx hb dX5_sheet_68 ?_
            refine lv_topi (nm_r (e' := 16) (by decide +kernel) ?_)
            refine lv_lconst (v := 0) hx hb dX5_sheet_69 (by decide) ?_
            refine va_last (D := g.1) hx hb hK hP hD hS 3 1 rfl rfl (vp_in_iff.mpr (by decide +kernel)) dX5_sheet_70 (fun H locs hP hD hS => ?_)
            have hP : va_P g.1 vwCl [(h0, .inr (5, [.ref h1, .int 0, .ref h2, .int 0, .int 0, .ref h3, .ref h4, .ref h5, .ref h6, .int 0, .ref h7, .ref h8, .ref h9, .int 0, .ref h10, .ref h11, .ref h12, .ref h13, .ref h14, .ref h15, .ref h16, .ref h17, .ref h18, .ref h19, .ref h20, .ref h21, .ref h22])), (h19, .inl (zI g, 4, .inl (upd (upd (upd (upd (upd (fun _ => 0) 0 (-1)) 1 (-1)) 2 (-1)) 3 (-1)) 1 p2))), (h20, .inl (zI g, 4, .inl (upd (fun _ => 0) 1 p3))), (h21, .inl (zJ g, 64, .inr (.inl (vp_updL (fun _ => 0) 16 0))))] H := hP
            have hD : va_D A [(h0, .inr (5, [.ref h1, .int 0, .ref h2, .int 0, .int 0, .ref h3, .ref h4, .ref h5, .ref h6, .int 0, .ref h7, .ref h8, .ref h9, .int 0, .ref h10, .ref h11, .ref h12, .ref h13, .ref h14, .ref h15, .ref h16, .ref h17, .ref h18, .ref h19, .ref h20, .ref h21, .ref h22])), (h19, .inl (zI g, 4, .inl (upd (upd (upd (upd (upd (fun _ => 0) 0 (-1)) 1 (-1)) 2 (-1)) 3 (-1)) 1 p2))), (h20, .inl (zI g, 4, .inl (upd (fun _ => 0) 1 p3))), (h21, .inl (zJ g, 64, .inr (.inl (vp_updL (fun _ => 0) 16 0))))] := hD
            rw [zc_setL] at hP hD
            refine lv_iinc (v := 1) (lv' := [(4, .int 1), (0, .ref h0), (1, .int 1), (2, .int p2), (3, .int p3)]) hx hb dX5_sheet_71 hl (k := 0) rfl (by decide) (by decide) rfl (fun ls hl => ?_)
            refine lv_goto (tgt := 51) hx hb dX5_sheet_74 (by decide) ?_
            refine lv_iload hx hb dX5_sheet_51 (lv_at hl 0 rfl) ?_
            refine lv_bipush (v := 16) hx hb dX5_sheet_53 (by decide) ?_
            refine lv_icmp_ge (tgt := 77) hx hb dX5_sheet_55 (by decide) (fun h => absurd h (by decide +kernel)) (fun _ => ?_)
            refine lv_aload_n hx hb dX5_sheet_58 rfl (lv_at hl 1 rfl) ?_
            refine va_get (D := g.1) (ci := 5) (v := .ref h21) (C := RX5) (T := TX5) (N := 27) hx hb hts zl_X5 hown hK hP 0 rfl rfl 25 (by decide) (hts _ m_f_RX5_70) (fun _ h => h) rfl dX5_sheet_59 ?_
            refine lv_bipush (v := 16) hx hb dX5_sheet_62 (by decide) ?_
            refine lv_iload_n hx hb dX5_sheet_64 rfl (lv_at hl 2 rfl) ?_
            refine lv_imul hx hb dX5_sheet_65 ?_
            refine lv_topi (nm_r (e' := 16) (by decide +kernel) ?_)
            refine lv_iload hx hb dX5_sheet_66 (lv_at hl 0 rfl) ?_
            refine lv_iadd hx hb dX5_sheet_68 ?_
            refine lv_topi (nm_r (e' := 17) (by decide +kernel) ?_)
            refine lv_lconst (v := 0) hx hb dX5_sheet_69 (by decide) ?_
            refine va_last (D := g.1) hx hb hK hP hD hS 3 1 rfl rfl (vp_in_iff.mpr (by decide +kernel)) dX5_sheet_70 (fun H locs hP hD hS => ?_)
            have hP : va_P g.1 vwCl [(h0, .inr (5, [.ref h1, .int 0, .ref h2, .int 0, .int 0, .ref h3, .ref h4, .ref h5, .ref h6, .int 0, .ref h7, .ref h8, .ref h9, .int 0, .ref h10, .ref h11, .ref h12, .ref h13, .ref h14, .ref h15, .ref h16, .ref h17, .ref h18, .ref h19, .ref h20, .ref h21, .ref h22])), (h19, .inl (zI g, 4, .inl (upd (upd (upd (upd (upd (fun _ => 0) 0 (-1)) 1 (-1)) 2 (-1)) 3 (-1)) 1 p2))), (h20, .inl (zI g, 4, .inl (upd (fun _ => 0) 1 p3))), (h21, .inl (zJ g, 64, .inr (.inl (vp_updL (fun _ => 0) 17 0))))] H := hP
            have hD : va_D A [(h0, .inr (5, [.ref h1, .int 0, .ref h2, .int 0, .int 0, .ref h3, .ref h4, .ref h5, .ref h6, .int 0, .ref h7, .ref h8, .ref h9, .int 0, .ref h10, .ref h11, .ref h12, .ref h13, .ref h14, .ref h15, .ref h16, .ref h17, .ref h18, .ref h19, .ref h20, .ref h21, .ref h22])), (h19, .inl (zI g, 4, .inl (upd (upd (upd (upd (upd (fun _ => 0) 0 (-1)) 1 (-1)) 2 (-1)) 3 (-1)) 1 p2))), (h20, .inl (zI g, 4, .inl (upd (fun _ => 0) 1 p3))), (h21, .inl (zJ g, 64, .inr (.inl (vp_updL (fun _ => 0) 17 0))))] := hD
            rw [zc_setL] at hP hD
            refine lv_iinc (v := 2) (lv' := [(4, .int 2), (0, .ref h0), (1, .int 1), (2, .int p2), (3, .int p3)]) hx hb dX5_sheet_71 hl (k := 0) rfl (by decide) (by decide) rfl (fun ls hl => ?_)
            refine lv_goto (tgt := 51) hx hb dX5_sheet_74 (by decide) ?_
            refine lv_iload hx hb dX5_sheet_51 (lv_at hl 0 rfl) ?_
            refine lv_bipush (v := 16) hx hb dX5_sheet_53 (by decide) ?_
            refine lv_icmp_ge (tgt := 77) hx hb dX5_sheet_55 (by decide) (fun h => absurd h (by decide +kernel)) (fun _ => ?_)
            refine lv_aload_n hx hb dX5_sheet_58 rfl (lv_at hl 1 rfl) ?_
            refine va_get (D := g.1) (ci := 5) (v := .ref h21) (C := RX5) (T := TX5) (N := 27) hx hb hts zl_X5 hown hK hP 0 rfl rfl 25 (by decide) (hts _ m_f_RX5_70) (fun _ h => h) rfl dX5_sheet_59 ?_
            refine lv_bipush (v := 16) hx hb dX5_sheet_62 (by decide) ?_
            refine lv_iload_n hx hb dX5_sheet_64 rfl (lv_at hl 2 rfl) ?_
            refine lv_imul hx hb dX5_sheet_65 ?_
            refine lv_topi (nm_r (e' := 16) (by decide +kernel) ?_)
            refine lv_iload hx hb dX5_sheet_66 (lv_at hl 0 rfl) ?_
            refine lv_iadd hx hb dX5_sheet_68 ?_
            refine lv_topi (nm_r (e' := 18) (by decide +kernel) ?_)
            refine lv_lconst (v := 0) hx hb dX5_sheet_69 (by decide) ?_
            refine va_last (D := g.1) hx hb hK hP hD hS 3 1 rfl rfl (vp_in_iff.mpr (by decide +kernel)) dX5_sheet_70 (fun H locs hP hD hS => ?_)
            have hP : va_P g.1 vwCl [(h0, .inr (5, [.ref h1, .int 0, .ref h2, .int 0, .int 0, .ref h3, .ref h4, .ref h5, .ref h6, .int 0, .ref h7, .ref h8, .ref h9, .int 0, .ref h10, .ref h11, .ref h12, .ref h13, .ref h14, .ref h15, .ref h16, .ref h17, .ref h18, .ref h19, .ref h20, .ref h21, .ref h22])), (h19, .inl (zI g, 4, .inl (upd (upd (upd (upd (upd (fun _ => 0) 0 (-1)) 1 (-1)) 2 (-1)) 3 (-1)) 1 p2))), (h20, .inl (zI g, 4, .inl (upd (fun _ => 0) 1 p3))), (h21, .inl (zJ g, 64, .inr (.inl (vp_updL (fun _ => 0) 18 0))))] H := hP
            have hD : va_D A [(h0, .inr (5, [.ref h1, .int 0, .ref h2, .int 0, .int 0, .ref h3, .ref h4, .ref h5, .ref h6, .int 0, .ref h7, .ref h8, .ref h9, .int 0, .ref h10, .ref h11, .ref h12, .ref h13, .ref h14, .ref h15, .ref h16, .ref h17, .ref h18, .ref h19, .ref h20, .ref h21, .ref h22])), (h19, .inl (zI g, 4, .inl (upd (upd (upd (upd (upd (fun _ => 0) 0 (-1)) 1 (-1)) 2 (-1)) 3 (-1)) 1 p2))), (h20, .inl (zI g, 4, .inl (upd (fun _ => 0) 1 p3))), (h21, .inl (zJ g, 64, .inr (.inl (vp_updL (fun _ => 0) 18 0))))] := hD
            rw [zc_setL] at hP hD
            refine lv_iinc (v := 3) (lv' := [(4, .int 3), (0, .ref h0), (1, .int 1), (2, .int p2), (3, .int p3)]) hx hb dX5_sheet_71 hl (k := 0) rfl (by decide) (by decide) rfl (fun ls hl => ?_)
            refine lv_goto (tgt := 51) hx hb dX5_sheet_74 (by decide) ?_
            refine lv_iload hx hb dX5_sheet_51 (lv_at hl 0 rfl) ?_
            refine lv_bipush (v := 16) hx hb dX5_sheet_53 (by decide) ?_
            refine lv_icmp_ge (tgt := 77) hx hb dX5_sheet_55 (by decide) (fun h => absurd h (by decide +kernel)) (fun _ => ?_)
            refine lv_aload_n hx hb dX5_sheet_58 rfl (lv_at hl 1 rfl) ?_
            refine va_get (D := g.1) (ci := 5) (v := .ref h21) (C := RX5) (T := TX5) (N := 27) hx hb hts zl_X5 hown hK hP 0 rfl rfl 25 (by decide) (hts _ m_f_RX5_70) (fun _ h => h) rfl dX5_sheet_59 ?_
            refine lv_bipush (v := 16) hx hb dX5_sheet_62 (by decide) ?_
            refine lv_iload_n hx hb dX5_sheet_64 rfl (lv_at hl 2 rfl) ?_
            refine lv_imul hx hb dX5_sheet_65 ?_
            refine lv_topi (nm_r (e' := 16) (by decide +kernel) ?_)
            refine lv_iload hx hb dX5_sheet_66 (lv_at hl 0 rfl) ?_
            refine lv_iadd hx hb dX5_sheet_68 ?_
            refine lv_topi (nm_r (e' := 19) (by decide +kernel) ?_)
            refine lv_lconst (v := 0) hx hb dX5_sheet_69 (by decide) ?_
            refine va_last (D := g.1) hx hb hK hP hD hS 3 1 rfl rfl (vp_in_iff.mpr (by decide +kernel)) dX5_sheet_70 (fun H locs hP hD hS => ?_)
            have hP : va_P g.1 vwCl [(h0, .inr (5, [.ref h1, .int 0, .ref h2, .int 0, .int 0, .ref h3, .ref h4, .ref h5, .ref h6, .int 0, .ref h7, .ref h8, .ref h9, .int 0, .ref h10, .ref h11, .ref h12, .ref h13, .ref h14, .ref h15, .ref h16, .ref h17, .ref h18, .ref h19, .ref h20, .ref h21, .ref h22])), (h19, .inl (zI g, 4, .inl (upd (upd (upd (upd (upd (fun _ => 0) 0 (-1)) 1 (-1)) 2 (-1)) 3 (-1)) 1 p2))), (h20, .inl (zI g, 4, .inl (upd (fun _ => 0) 1 p3))), (h21, .inl (zJ g, 64, .inr (.inl (vp_updL (fun _ => 0) 19 0))))] H := hP
            have hD : va_D A [(h0, .inr (5, [.ref h1, .int 0, .ref h2, .int 0, .int 0, .ref h3, .ref h4, .ref h5, .ref h6, .int 0, .ref h7, .ref h8, .ref h9, .int 0, .ref h10, .ref h11, .ref h12, .ref h13, .ref h14, .ref h15, .ref h16, .ref h17, .ref h18, .ref h19, .ref h20, .ref h21, .ref h22])), (h19, .inl (zI g, 4, .inl (upd (upd (upd (upd (upd (fun _ => 0) 0 (-1)) 1 (-1)) 2 (-1)) 3 (-1)) 1 p2))), (h20, .inl (zI g, 4, .inl (upd (fun _ => 0) 1 p3))), (h21, .inl (zJ g, 64, .inr (.inl (vp_updL (fun _ => 0) 19 0))))] := hD
            rw [zc_setL] at hP hD
            refine lv_iinc (v := 4) (lv' := [(4, .int 4), (0, .ref h0), (1, .int 1), (2, .int p2), (3, .int p3)]) hx hb dX5_sheet_71 hl (k := 0) rfl (by decide) (by decide) rfl (fun ls hl => ?_)
            refine lv_goto (tgt := 51) hx hb dX5_sheet_74 (by decide) ?_
            refine lv_iload hx hb dX5_sheet_51 (lv_at hl 0 rfl) ?_
            refine lv_bipush (v := 16) hx hb dX5_sheet_53 (by decide) ?_
            refine lv_icmp_ge (tgt := 77) hx hb dX5_sheet_55 (by decide) (fun h => absurd h (by decide +kernel)) (fun _ => ?_)
            refine lv_aload_n hx hb dX5_sheet_58 rfl (lv_at hl 1 rfl) ?_
            refine va_get (D := g.1) (ci := 5) (v := .ref h21) (C := RX5) (T := TX5) (N := 27) hx hb hts zl_X5 hown hK hP 0 rfl rfl 25 (by decide) (hts _ m_f_RX5_70) (fun _ h => h) rfl dX5_sheet_59 ?_
            refine lv_bipush (v := 16) hx hb dX5_sheet_62 (by decide) ?_
            refine lv_iload_n hx hb dX5_sheet_64 rfl (lv_at hl 2 rfl) ?_
            refine lv_imul hx hb dX5_sheet_65 ?_
            refine lv_topi (nm_r (e' := 16) (by decide +kernel) ?_)
            refine lv_iload hx hb dX5_sheet_66 (lv_at hl 0 rfl) ?_
            refine lv_iadd hx hb dX5_sheet_68 ?_
            refine lv_topi (nm_r (e' := 20) (by decide +kernel) ?_)
            refine lv_lconst (v := 0) hx hb dX5_sheet_69 (by decide) ?_
            refine va_last (D := g.1) hx hb hK hP hD hS 3 1 rfl rfl (vp_in_iff.mpr (by decide +kernel)) dX5_sheet_70 (fun H locs hP hD hS => ?_)
            have hP : va_P g.1 vwCl [(h0, .inr (5, [.ref h1, .int 0, .ref h2, .int 0, .int 0, .ref h3, .ref h4, .ref h5, .ref h6, .int 0, .ref h7, .ref h8, .ref h9, .int 0, .ref h10, .ref h11, .ref h12, .ref h13, .ref h14, .ref h15, .ref h16, .ref h17, .ref h18, .ref h19, .ref h20, .ref h21, .ref h22])), (h19, .inl (zI g, 4, .inl (upd (upd (upd (upd (upd (fun _ => 0) 0 (-1)) 1 (-1)) 2 (-1)) 3 (-1)) 1 p2))), (h20, .inl (zI g, 4, .inl (upd (fun _ => 0) 1 p3))), (h21, .inl (zJ g, 64, .inr (.inl (vp_updL (fun _ => 0) 20 0))))] H := hP
            have hD : va_D A [(h0, .inr (5, [.ref h1, .int 0, .ref h2, .int 0, .int 0, .ref h3, .ref h4, .ref h5, .ref h6, .int 0, .ref h7, .ref h8, .ref h9, .int 0, .ref h10, .ref h11, .ref h12, .ref h13, .ref h14, .ref h15, .ref h16, .ref h17, .ref h18, .ref h19, .ref h20, .ref h21, .ref h22])), (h19, .inl (zI g, 4, .inl (upd (upd (upd (upd (upd (fun _ => 0) 0 (-1)) 1 (-1)) 2 (-1)) 3 (-1)) 1 p2))), (h20, .inl (zI g, 4, .inl (upd (fun _ => 0) 1 p3))), (h21, .inl (zJ g, 64, .inr (.inl (vp_updL (fun _ => 0) 20 0))))] := hD
            rw [zc_setL] at hP hD
            refine lv_iinc (v := 5) (lv' := [(4, .int 5), (0, .ref h0), (1, .int 1), (2, .int p2), (3, .int p3)]) hx hb dX5_sheet_71 hl (k := 0) rfl (by decide) (by decide) rfl (fun ls hl => ?_)
            refine lv_goto (tgt := 51) hx hb dX5_sheet_74 (by decide) ?_
            refine lv_iload hx hb dX5_sheet_51 (lv_at hl 0 rfl) ?_
            refine lv_bipush (v := 16) hx hb dX5_sheet_53 (by decide) ?_
            refine lv_icmp_ge (tgt := 77) hx hb dX5_sheet_55 (by decide) (fun h => absurd h (by decide +kernel)) (fun _ => ?_)
            refine lv_aload_n hx hb dX5_sheet_58 rfl (lv_at hl 1 rfl) ?_
            refine va_get (D := g.1) (ci := 5) (v := .ref h21) (C := RX5) (T := TX5) (N := 27) hx hb hts zl_X5 hown hK hP 0 rfl rfl 25 (by decide) (hts _ m_f_RX5_70) (fun _ h => h) rfl dX5_sheet_59 ?_
            refine lv_bipush (v := 16) hx hb dX5_sheet_62 (by decide) ?_
            refine lv_iload_n hx hb dX5_sheet_64 rfl (lv_at hl 2 rfl) ?_
            refine lv_imul hx hb dX5_sheet_65 ?_
            refine lv_topi (nm_r (e' := 16) (by decide +kernel) ?_)
            refine lv_iload hx hb dX5_sheet_66 (lv_at hl 0 rfl) ?_
            refine lv_iadd hx hb dX5_sheet_68 ?_
            refine lv_topi (nm_r (e' := 21) (by decide +kernel) ?_)
            refine lv_lconst (v := 0) hx hb dX5_sheet_69 (by decide) ?_
            refine va_last (D := g.1) hx hb hK hP hD hS 3 1 rfl rfl (vp_in_iff.mpr (by decide +kernel)) dX5_sheet_70 (fun H locs hP hD hS => ?_)
            have hP : va_P g.1 vwCl [(h0, .inr (5, [.ref h1, .int 0, .ref h2, .int 0, .int 0, .ref h3, .ref h4, .ref h5, .ref h6, .int 0, .ref h7, .ref h8, .ref h9, .int 0, .ref h10, .ref h11, .ref h12, .ref h13, .ref h14, .ref h15, .ref h16, .ref h17, .ref h18, .ref h19, .ref h20, .ref h21, .ref h22])), (h19, .inl (zI g, 4, .inl (upd (upd (upd (upd (upd (fun _ => 0) 0 (-1)) 1 (-1)) 2 (-1)) 3 (-1)) 1 p2))), (h20, .inl (zI g, 4, .inl (upd (fun _ => 0) 1 p3))), (h21, .inl (zJ g, 64, .inr (.inl (vp_updL (fun _ => 0) 21 0))))] H := hP
            have hD : va_D A [(h0, .inr (5, [.ref h1, .int 0, .ref h2, .int 0, .int 0, .ref h3, .ref h4, .ref h5, .ref h6, .int 0, .ref h7, .ref h8, .ref h9, .int 0, .ref h10, .ref h11, .ref h12, .ref h13, .ref h14, .ref h15, .ref h16, .ref h17, .ref h18, .ref h19, .ref h20, .ref h21, .ref h22])), (h19, .inl (zI g, 4, .inl (upd (upd (upd (upd (upd (fun _ => 0) 0 (-1)) 1 (-1)) 2 (-1)) 3 (-1)) 1 p2))), (h20, .inl (zI g, 4, .inl (upd (fun _ => 0) 1 p3))), (h21, .inl (zJ g, 64, .inr (.inl (vp_updL (fun _ => 0) 21 0))))] := hD
            rw [zc_setL] at hP hD
            refine lv_iinc (v := 6) (lv' := [(4, .int 6), (0, .ref h0), (1, .int 1), (2, .int p2), (3, .int p3)]) hx hb dX5_sheet_71 hl (k := 0) rfl (by decide) (by decide) rfl (fun ls hl => ?_)
            refine lv_goto (tgt := 51) hx hb dX5_sheet_74 (by decide) ?_
            refine lv_iload hx hb dX5_sheet_51 (lv_at hl 0 rfl) ?_
            refine lv_bipush (v := 16) hx hb dX5_sheet_53 (by decide) ?_
            refine lv_icmp_ge (tgt := 77) hx hb dX5_sheet_55 (by decide) (fun h => absurd h (by decide +kernel)) (fun _ => ?_)
            refine lv_aload_n hx hb dX5_sheet_58 rfl (lv_at hl 1 rfl) ?_
            refine va_get (D := g.1) (ci := 5) (v := .ref h21) (C := RX5) (T := TX5) (N := 27) hx hb hts zl_X5 hown hK hP 0 rfl rfl 25 (by decide) (hts _ m_f_RX5_70) (fun _ h => h) rfl dX5_sheet_59 ?_
            refine lv_bipush (v := 16) hx hb dX5_sheet_62 (by decide) ?_
            refine lv_iload_n hx hb dX5_sheet_64 rfl (lv_at hl 2 rfl) ?_
            refine lv_imul hx hb dX5_sheet_65 ?_
            refine lv_topi (nm_r (e' := 16) (by decide +kernel) ?_)
            refine lv_iload hx hb dX5_sheet_66 (lv_at hl 0 rfl) ?_
            refine lv_iadd hx hb dX5_sheet_68 ?_
            refine lv_topi (nm_r (e' := 22) (by decide +kernel) ?_)
            refine lv_lconst (v := 0) hx hb dX5_sheet_69 (by decide) ?_
            refine va_last (D := g.1) hx hb hK hP hD hS 3 1 rfl rfl (vp_in_iff.mpr (by decide +kernel)) dX5_sheet_70 (fun H locs hP hD hS => ?_)
            have hP : va_P g.1 vwCl [(h0, .inr (5, [.ref h1, .int 0, .ref h2, .int 0, .int 0, .ref h3, .ref h4, .ref h5, .ref h6, .int 0, .ref h7, .ref h8, .ref h9, .int 0, .ref h10, .ref h11, .ref h12, .ref h13, .ref h14, .ref h15, .ref h16, .ref h17, .ref h18, .ref h19, .ref h20, .ref h21, .ref h22])), (h19, .inl (zI g, 4, .inl (upd (upd (upd (upd (upd (fun _ => 0) 0 (-1)) 1 (-1)) 2 (-1)) 3 (-1)) 1 p2))), (h20, .inl (zI g, 4, .inl (upd (fun _ => 0) 1 p3))), (h21, .inl (zJ g, 64, .inr (.inl (vp_updL (fun _ => 0) 22 0))))] H := hP
            have hD : va_D A [(h0, .inr (5, [.ref h1, .int 0, .ref h2, .int 0, .int 0, .ref h3, .ref h4, .ref h5, .ref h6, .int 0, .ref h7, .ref h8, .ref h9, .int 0, .ref h10, .ref h11, .ref h12, .ref h13, .ref h14, .ref h15, .ref h16, .ref h17, .ref h18, .ref h19, .ref h20, .ref h21, .ref h22])), (h19, .inl (zI g, 4, .inl (upd (upd (upd (upd (upd (fun _ => 0) 0 (-1)) 1 (-1)) 2 (-1)) 3 (-1)) 1 p2))), (h20, .inl (zI g, 4, .inl (upd (fun _ => 0) 1 p3))), (h21, .inl (zJ g, 64, .inr (.inl (vp_updL (fun _ => 0) 22 0))))] := hD
            rw [zc_setL] at hP hD
            refine lv_iinc (v := 7) (lv' := [(4, .int 7), (0, .ref h0), (1, .int 1), (2, .int p2), (3, .int p3)]) hx hb dX5_sheet_71 hl (k := 0) rfl (by decide) (by decide) rfl (fun ls hl => ?_)
            refine lv_goto (tgt := 51) hx hb dX5_sheet_74 (by decide) ?_
            refine lv_iload hx hb dX5_sheet_51 (lv_at hl 0 rfl) ?_
            refine lv_bipush (v := 16) hx hb dX5_sheet_53 (by decide) ?_
            refine lv_icmp_ge (tgt := 77) hx hb dX5_sheet_55 (by decide) (fun h => absurd h (by decide +kernel)) (fun _ => ?_)
            refine lv_aload_n hx hb dX5_sheet_58 rfl (lv_at hl 1 rfl) ?_
            refine va_get (D := g.1) (ci := 5) (v := .ref h21) (C := RX5) (T := TX5) (N := 27) hx hb hts zl_X5 hown hK hP 0 rfl rfl 25 (by decide) (hts _ m_f_RX5_70) (fun _ h => h) rfl dX5_sheet_59 ?_
            refine lv_bipush (v := 16) hx hb dX5_sheet_62 (by decide) ?_
            refine lv_iload_n hx hb dX5_sheet_64 rfl (lv_at hl 2 rfl) ?_
            refine lv_imul hx hb dX5_sheet_65 ?_
            refine lv_topi (nm_r (e' := 16) (by decide +kernel) ?_)
            refine lv_iload hx hb dX5_sheet_66 (lv_at hl 0 rfl) ?_
            refine lv_iadd hx hb dX5_sheet_68 ?_
            refine lv_topi (nm_r (e' := 23) (by decide +kernel) ?_)
            refine lv_lconst (v := 0) hx hb dX5_sheet_69 (by decide) ?_
            refine va_last (D := g.1) hx hb hK hP hD hS 3 1 rfl rfl (vp_in_iff.mpr (by decide +kernel)) dX5_sheet_70 (fun H locs hP hD hS => ?_)
            have hP : va_P g.1 vwCl [(h0, .inr (5, [.ref h1, .int 0, .ref h2, .int 0, .int 0, .ref h3, .ref h4, .ref h5, .ref h6, .int 0, .ref h7, .ref h8, .ref h9, .int 0, .ref h10, .ref h11, .ref h12, .ref h13, .ref h14, .ref h15, .ref h16, .ref h17, .ref h18, .ref h19, .ref h20, .ref h21, .ref h22])), (h19, .inl (zI g, 4, .inl (upd (upd (upd (upd (upd (fun _ => 0) 0 (-1)) 1 (-1)) 2 (-1)) 3 (-1)) 1 p2))), (h20, .inl (zI g, 4, .inl (upd (fun _ => 0) 1 p3))), (h21, .inl (zJ g, 64, .inr (.inl (vp_updL (fun _ => 0) 23 0))))] H := hP
            have hD : va_D A [(h0, .inr (5, [.ref h1, .int 0, .ref h2, .int 0, .int 0, .ref h3, .ref h4, .ref h5, .ref h6, .int 0, .ref h7, .ref h8, .ref h9, .int 0, .ref h10, .ref h11, .ref h12, .ref h13, .ref h14, .ref h15, .ref h16, .ref h17, .ref h18, .ref h19, .ref h20, .ref h21, .ref h22])), (h19, .inl (zI g, 4, .inl (upd (upd (upd (upd (upd (fun _ => 0) 0 (-1)) 1 (-1)) 2 (-1)) 3 (-1)) 1 p2))), (h20, .inl (zI g, 4, .inl (upd (fun _ => 0) 1 p3))), (h21, .inl (zJ g, 64, .inr (.inl (vp_updL (fun _ => 0) 23 0))))] := hD
            rw [zc_setL] at hP hD
            refine lv_iinc (v := 8) (lv' := [(4, .int 8), (0, .ref h0), (1, .int 1), (2, .int p2), (3, .int p3)]) hx hb dX5_sheet_71 hl (k := 0) rfl (by decide) (by decide) rfl (fun ls hl => ?_)
            refine lv_goto (tgt := 51) hx hb dX5_sheet_74 (by decide) ?_
            refine lv_iload hx hb dX5_sheet_51 (lv_at hl 0 rfl) ?_
            refine lv_bipush (v := 16) hx hb dX5_sheet_53 (by decide) ?_
            refine lv_icmp_ge (tgt := 77) hx hb dX5_sheet_55 (by decide) (fun h => absurd h (by decide +kernel)) (fun _ => ?_)
            refine lv_aload_n hx hb dX5_sheet_58 rfl (lv_at hl 1 rfl) ?_
            refine va_get (D := g.1) (ci := 5) (v := .ref h21) (C := RX5) (T := TX5) (N := 27) hx hb hts zl_X5 hown hK hP 0 rfl rfl 25 (by decide) (hts _ m_f_RX5_70) (fun _ h => h) rfl dX5_sheet_59 ?_
            refine lv_bipush (v := 16) hx hb dX5_sheet_62 (by decide) ?_
            refine lv_iload_n hx hb dX5_sheet_64 rfl (lv_at hl 2 rfl) ?_
            refine lv_imul hx hb dX5_sheet_65 ?_
            refine lv_topi (nm_r (e' := 16) (by decide +kernel) ?_)
            refine lv_iload hx hb dX5_sheet_66 (lv_at hl 0 rfl) ?_
            refine lv_iadd hx hb dX5_sheet_68 ?_
            refine lv_topi (nm_r (e' := 24) (by decide +kernel) ?_)
            refine lv_lconst (v := 0) hx hb dX5_sheet_69 (by decide) ?_
            refine va_last (D := g.1) hx hb hK hP hD hS 3 1 rfl rfl (vp_in_iff.mpr (by decide +kernel)) dX5_sheet_70 (fun H locs hP hD hS => ?_)
            have hP : va_P g.1 vwCl [(h0, .inr (5, [.ref h1, .int 0, .ref h2, .int 0, .int 0, .ref h3, .ref h4, .ref h5, .ref h6, .int 0, .ref h7, .ref h8, .ref h9, .int 0, .ref h10, .ref h11, .ref h12, .ref h13, .ref h14, .ref h15, .ref h16, .ref h17, .ref h18, .ref h19, .ref h20, .ref h21, .ref h22])), (h19, .inl (zI g, 4, .inl (upd (upd (upd (upd (upd (fun _ => 0) 0 (-1)) 1 (-1)) 2 (-1)) 3 (-1)) 1 p2))), (h20, .inl (zI g, 4, .inl (upd (fun _ => 0) 1 p3))), (h21, .inl (zJ g, 64, .inr (.inl (vp_updL (fun _ => 0) 24 0))))] H := hP
            have hD : va_D A [(h0, .inr (5, [.ref h1, .int 0, .ref h2, .int 0, .int 0, .ref h3, .ref h4, .ref h5, .ref h6, .int 0, .ref h7, .ref h8, .ref h9, .int 0, .ref h10, .ref h11, .ref h12, .ref h13, .ref h14, .ref h15, .ref h16, .ref h17, .ref h18, .ref h19, .ref h20, .ref h21, .ref h22])), (h19, .inl (zI g, 4, .inl (upd (upd (upd (upd (upd (fun _ => 0) 0 (-1)) 1 (-1)) 2 (-1)) 3 (-1)) 1 p2))), (h20, .inl (zI g, 4, .inl (upd (fun _ => 0) 1 p3))), (h21, .inl (zJ g, 64, .inr (.inl (vp_updL (fun _ => 0) 24 0))))] := hD
            rw [zc_setL] at hP hD
            refine lv_iinc (v := 9) (lv' := [(4, .int 9), (0, .ref h0), (1, .int 1), (2, .int p2), (3, .int p3)]) hx hb dX5_sheet_71 hl (k := 0) rfl (by decide) (by decide) rfl (fun ls hl => ?_)
            refine lv_goto (tgt := 51) hx hb dX5_sheet_74 (by decide) ?_
            refine lv_iload hx hb dX5_sheet_51 (lv_at hl 0 rfl) ?_
            refine lv_bipush (v := 16) hx hb dX5_sheet_53 (by decide) ?_
            refine lv_icmp_ge (tgt := 77) hx hb dX5_sheet_55 (by decide) (fun h => absurd h (by decide +kernel)) (fun _ => ?_)
            refine lv_aload_n hx hb dX5_sheet_58 rfl (lv_at hl 1 rfl) ?_
            refine va_get (D := g.1) (ci := 5) (v := .ref h21) (C := RX5) (T := TX5) (N := 27) hx hb hts zl_X5 hown hK hP 0 rfl rfl 25 (by decide) (hts _ m_f_RX5_70) (fun _ h => h) rfl dX5_sheet_59 ?_
            refine lv_bipush (v := 16) hx hb dX5_sheet_62 (by decide) ?_
            refine lv_iload_n hx hb dX5_sheet_64 rfl (lv_at hl 2 rfl) ?_
            refine lv_imul hx hb dX5_sheet_65 ?_
            refine lv_topi (nm_r (e' := 16) (by decide +kernel) ?_)
            refine lv_iload hx hb dX5_sheet_66 (lv_at hl 0 rfl) ?_
            refine lv_iadd hx hb dX5_sheet_68 ?_
            refine lv_topi (nm_r (e' := 25) (by decide +kernel) ?_)
            refine lv_lconst (v := 0) hx hb dX5_sheet_69 (by decide) ?_
            refine va_last (D := g.1) hx hb hK hP hD hS 3 1 rfl rfl (vp_in_iff.mpr (by decide +kernel)) dX5_sheet_70 (fun H locs hP hD hS => ?_)
            have hP : va_P g.1 vwCl [(h0, .inr (5, [.ref h1, .int 0, .ref h2, .int 0, .int 0, .ref h3, .ref h4, .ref h5, .ref h6, .int 0, .ref h7, .ref h8, .ref h9, .int 0, .ref h10, .ref h11, .ref h12, .ref h13, .ref h14, .ref h15, .ref h16, .ref h17, .ref h18, .ref h19, .ref h20, .ref h21, .ref h22])), (h19, .inl (zI g, 4, .inl (upd (upd (upd (upd (upd (fun _ => 0) 0 (-1)) 1 (-1)) 2 (-1)) 3 (-1)) 1 p2))), (h20, .inl (zI g, 4, .inl (upd (fun _ => 0) 1 p3))), (h21, .inl (zJ g, 64, .inr (.inl (vp_updL (fun _ => 0) 25 0))))] H := hP
            have hD : va_D A [(h0, .inr (5, [.ref h1, .int 0, .ref h2, .int 0, .int 0, .ref h3, .ref h4, .ref h5, .ref h6, .int 0, .ref h7, .ref h8, .ref h9, .int 0, .ref h10, .ref h11, .ref h12, .ref h13, .ref h14, .ref h15, .ref h16, .ref h17, .ref h18, .ref h19, .ref h20, .ref h21, .ref h22])), (h19, .inl (zI g, 4, .inl (upd (upd (upd (upd (upd (fun _ => 0) 0 (-1)) 1 (-1)) 2 (-1)) 3 (-1)) 1 p2))), (h20, .inl (zI g, 4, .inl (upd (fun _ => 0) 1 p3))), (h21, .inl (zJ g, 64, .inr (.inl (vp_updL (fun _ => 0) 25 0))))] := hD
            rw [zc_setL] at hP hD
            refine lv_iinc (v := 10) (lv' := [(4, .int 10), (0, .ref h0), (1, .int 1), (2, .int p2), (3, .int p3)]) hx hb dX5_sheet_71 hl (k := 0) rfl (by decide) (by decide) rfl (fun ls hl => ?_)
            refine lv_goto (tgt := 51) hx hb dX5_sheet_74 (by decide) ?_
            refine lv_iload hx hb dX5_sheet_51 (lv_at hl 0 rfl) ?_
            refine lv_bipush (v := 16) hx hb dX5_sheet_53 (by decide) ?_
            refine lv_icmp_ge (tgt := 77) hx hb dX5_sheet_55 (by decide) (fun h => absurd h (by decide +kernel)) (fun _ => ?_)
            refine lv_aload_n hx hb dX5_sheet_58 rfl (lv_at hl 1 rfl) ?_
            refine va_get (D := g.1) (ci := 5) (v := .ref h21) (C := RX5) (T := TX5) (N := 27) hx hb hts zl_X5 hown hK hP 0 rfl rfl 25 (by decide) (hts _ m_f_RX5_70) (fun _ h => h) rfl dX5_sheet_59 ?_
            refine lv_bipush (v := 16) hx hb dX5_sheet_62 (by decide) ?_
            refine lv_iload_n hx hb dX5_sheet_64 rfl (lv_at hl 2 rfl) ?_
            refine lv_imul hx hb dX5_sheet_65 ?_
            refine lv_topi (nm_r (e' := 16) (by decide +kernel) ?_)
            refine lv_iload hx hb dX5_sheet_66 (lv_at hl 0 rfl) ?_
            refine lv_iadd hx hb dX5_sheet_68 ?_
            refine lv_topi (nm_r (e' := 26) (by decide +kernel) ?_)
            refine lv_lconst (v := 0) hx hb dX5_sheet_69 (by decide) ?_
            refine va_last (D := g.1) hx hb hK hP hD hS 3 1 rfl rfl (vp_in_iff.mpr (by decide +kernel)) dX5_sheet_70 (fun H locs hP hD hS => ?_)
            have hP : va_P g.1 vwCl [(h0, .inr (5, [.ref h1, .int 0, .ref h2, .int 0, .int 0, .ref h3, .ref h4, .ref h5, .ref h6, .int 0, .ref h7, .ref h8, .ref h9, .int 0, .ref h10, .ref h11, .ref h12, .ref h13, .ref h14, .ref h15, .ref h16, .ref h17, .ref h18, .ref h19, .ref h20, .ref h21, .ref h22])), (h19, .inl (zI g, 4, .inl (upd (upd (upd (upd (upd (fun _ => 0) 0 (-1)) 1 (-1)) 2 (-1)) 3 (-1)) 1 p2))), (h20, .inl (zI g, 4, .inl (upd (fun _ => 0) 1 p3))), (h21, .inl (zJ g, 64, .inr (.inl (vp_updL (fun _ => 0) 26 0))))] H := hP
            have hD : va_D A [(h0, .inr (5, [.ref h1, .int 0, .ref h2, .int 0, .int 0, .ref h3, .ref h4, .ref h5, .ref h6, .int 0, .ref h7, .ref h8, .ref h9, .int 0, .ref h10, .ref h11, .ref h12, .ref h13, .ref h14, .ref h15, .ref h16, .ref h17, .ref h18, .ref h19, .ref h20, .ref h21, .ref h22])), (h19, .inl (zI g, 4, .inl (upd (upd (upd (upd (upd (fun _ => 0) 0 (-1)) 1 (-1)) 2 (-1)) 3 (-1)) 1 p2))), (h20, .inl (zI g, 4, .inl (upd (fun _ => 0) 1 p3))), (h21, .inl (zJ g, 64, .inr (.inl (vp_updL (fun _ => 0) 26 0))))] := hD
            rw [zc_setL] at hP hD
            refine lv_iinc (v := 11) (lv' := [(4, .int 11), (0, .ref h0), (1, .int 1), (2, .int p2), (3, .int p3)]) hx hb dX5_sheet_71 hl (k := 0) rfl (by decide) (by decide) rfl (fun ls hl => ?_)
            refine lv_goto (tgt := 51) hx hb dX5_sheet_74 (by decide) ?_
            refine lv_iload hx hb dX5_sheet_51 (lv_at hl 0 rfl) ?_
            refine lv_bipush (v := 16) hx hb dX5_sheet_53 (by decide) ?_
            refine lv_icmp_ge (tgt := 77) hx hb dX5_sheet_55 (by decide) (fun h => absurd h (by decide +kernel)) (fun _ => ?_)
            refine lv_aload_n hx hb dX5_sheet_58 rfl (lv_at hl 1 rfl) ?_
            refine va_get (D := g.1) (ci := 5) (v := .ref h21) (C := RX5) (T := TX5) (N := 27) hx hb hts zl_X5 hown hK hP 0 rfl rfl 25 (by decide) (hts _ m_f_RX5_70) (fun _ h => h) rfl dX5_sheet_59 ?_
            refine lv_bipush (v := 16) hx hb dX5_sheet_62 (by decide) ?_
            refine lv_iload_n hx hb dX5_sheet_64 rfl (lv_at hl 2 rfl) ?_
            refine lv_imul hx hb dX5_sheet_65 ?_
            refine lv_topi (nm_r (e' := 16) (by decide +kernel) ?_)
            refine lv_iload hx hb dX5_sheet_66 (lv_at hl 0 rfl) ?_
            refine lv_iadd hx hb dX5_sheet_68 ?_
            refine lv_topi (nm_r (e' := 27) (by decide +kernel) ?_)
            refine lv_lconst (v := 0) hx hb dX5_sheet_69 (by decide) ?_
            refine va_last (D := g.1) hx hb hK hP hD hS 3 1 rfl rfl (vp_in_iff.mpr (by decide +kernel)) dX5_sheet_70 (fun H locs hP hD hS => ?_)
            have hP : va_P g.1 vwCl [(h0, .inr (5, [.ref h1, .int 0, .ref h2, .int 0, .int 0, .ref h3, .ref h4, .ref h5, .ref h6, .int 0, .ref h7, .ref h8, .ref h9, .int 0, .ref h10, .ref h11, .ref h12, .ref h13, .ref h14, .ref h15, .ref h16, .ref h17, .ref h18, .ref h19, .ref h20, .ref h21, .ref h22])), (h19, .inl (zI g, 4, .inl (upd (upd (upd (upd (upd (fun _ => 0) 0 (-1)) 1 (-1)) 2 (-1)) 3 (-1)) 1 p2))), (h20, .inl (zI g, 4, .inl (upd (fun _ => 0) 1 p3))), (h21, .inl (zJ g, 64, .inr (.inl (vp_updL (fun _ => 0) 27 0))))] H := hP
            have hD : va_D A [(h0, .inr (5, [.ref h1, .int 0, .ref h2, .int 0, .int 0, .ref h3, .ref h4, .ref h5, .ref h6, .int 0, .ref h7, .ref h8, .ref h9, .int 0, .ref h10, .ref h11, .ref h12, .ref h13, .ref h14, .ref h15, .ref h16, .ref h17, .ref h18, .ref h19, .ref h20, .ref h21, .ref h22])), (h19, .inl (zI g, 4, .inl (upd (upd (upd (upd (upd (fun _ => 0) 0 (-1)) 1 (-1)) 2 (-1)) 3 (-1)) 1 p2))), (h20, .inl (zI g, 4, .inl (upd (fun _ => 0) 1 p3))), (h21, .inl (zJ g, 64, .inr (.inl (vp_updL (fun _ => 0) 27 0))))] := hD
            rw [zc_setL] at hP hD
            refine lv_iinc (v := 12) (lv' := [(4, .int 12), (0, .ref h0), (1, .int 1), (2, .int p2), (3, .int p3)]) hx hb dX5_sheet_71 hl (k := 0) rfl (by decide) (by decide) rfl (fun ls hl => ?_)
            refine lv_goto (tgt := 51) hx hb dX5_sheet_74 (by decide) ?_
            refine lv_iload hx hb dX5_sheet_51 (lv_at hl 0 rfl) ?_
            refine lv_bipush (v := 16) hx hb dX5_sheet_53 (by decide) ?_
            refine lv_icmp_ge (tgt := 77) hx hb dX5_sheet_55 (by decide) (fun h => absurd h (by decide +kernel)) (fun _ => ?_)
            refine lv_aload_n hx hb dX5_sheet_58 rfl (lv_at hl 1 rfl) ?_
            refine va_get (D := g.1) (ci := 5) (v := .ref h21) (C := RX5) (T := TX5) (N := 27) hx hb hts zl_X5 hown hK hP 0 rfl rfl 25 (by decide) (hts _ m_f_RX5_70) (fun _ h => h) rfl dX5_sheet_59 ?_
            refine lv_bipush (v := 16) hx hb dX5_sheet_62 (by decide) ?_
            refine lv_iload_n hx hb dX5_sheet_64 rfl (lv_at hl 2 rfl) ?_
            refine lv_imul hx hb dX5_sheet_65 ?_
            refine lv_topi (nm_r (e' := 16) (by decide +kernel) ?_)
            refine lv_iload hx hb dX5_sheet_66 (lv_at hl 0 rfl) ?_
            refine lv_iadd hx hb dX5_sheet_68 ?_
            refine lv_topi (nm_r (e' := 28) (by decide +kernel) ?_)
            refine lv_lconst (v := 0) hx hb dX5_sheet_69 (by decide) ?_
            refine va_last (D := g.1) hx hb hK hP hD hS 3 1 rfl rfl (vp_in_iff.mpr (by decide +kernel)) dX5_sheet_70 (fun H locs hP hD hS => ?_)
            have hP : va_P g.1 vwCl [(h0, .inr (5, [.ref h1, .int 0, .ref h2, .int 0, .int 0, .ref h3, .ref h4, .ref h5, .ref h6, .int 0, .ref h7, .ref h8, .ref h9, .int 0, .ref h10, .ref h11, .ref h12, .ref h13, .ref h14, .ref h15, .ref h16, .ref h17, .ref h18, .ref h19, .ref h20, .ref h21, .ref h22])), (h19, .inl (zI g, 4, .inl (upd (upd (upd (upd (upd (fun _ => 0) 0 (-1)) 1 (-1)) 2 (-1)) 3 (-1)) 1 p2))), (h20, .inl (zI g, 4, .inl (upd (fun _ => 0) 1 p3))), (h21, .inl (zJ g, 64, .inr (.inl (vp_updL (fun _ => 0) 28 0))))] H := hP
            have hD : va_D A [(h0, .inr (5, [.ref h1, .int 0, .ref h2, .int 0, .int 0, .ref h3, .ref h4, .ref h5, .ref h6, .int 0, .ref h7, .ref h8, .ref h9, .int 0, .ref h10, .ref h11, .ref h12, .ref h13, .ref h14, .ref h15, .ref h16, .ref h17, .ref h18, .ref h19, .ref h20, .ref h21, .ref h22])), (h19, .inl (zI g, 4, .inl (upd (upd (upd (upd (upd (fun _ => 0) 0 (-1)) 1 (-1)) 2 (-1)) 3 (-1)) 1 p2))), (h20, .inl (zI g, 4, .inl (upd (fun _ => 0) 1 p3))), (h21, .inl (zJ g, 64, .inr (.inl (vp_updL (fun _ => 0) 28 0))))] := hD
            rw [zc_setL] at hP hD
            refine lv_iinc (v := 13) (lv' := [(4, .int 13), (0, .ref h0), (1, .int 1), (2, .int p2), (3, .int p3)]) hx hb dX5_sheet_71 hl (k := 0) rfl (by decide) (by decide) rfl (fun ls hl => ?_)
            refine lv_goto (tgt := 51) hx hb dX5_sheet_74 (by decide) ?_
            refine lv_iload hx hb dX5_sheet_51 (lv_at hl 0 rfl) ?_
            refine lv_bipush (v := 16) hx hb dX5_sheet_53 (by decide) ?_
            refine lv_icmp_ge (tgt := 77) hx hb dX5_sheet_55 (by decide) (fun h => absurd h (by decide +kernel)) (fun _ => ?_)
            refine lv_aload_n hx hb dX5_sheet_58 rfl (lv_at hl 1 rfl) ?_
            refine va_get (D := g.1) (ci := 5) (v := .ref h21) (C := RX5) (T := TX5) (N := 27) hx hb hts zl_X5 hown hK hP 0 rfl rfl 25 (by decide) (hts _ m_f_RX5_70) (fun _ h => h) rfl dX5_sheet_59 ?_
            refine lv_bipush (v := 16) hx hb dX5_sheet_62 (by decide) ?_
            refine lv_iload_n hx hb dX5_sheet_64 rfl (lv_at hl 2 rfl) ?_
            refine lv_imul hx hb dX5_sheet_65 ?_
            refine lv_topi (nm_r (e' := 16) (by decide +kernel) ?_)
            refine lv_iload hx hb dX5_sheet_66 (lv_at hl 0 rfl) ?_
            refine lv_iadd hx hb dX5_sheet_68 ?_
            refine lv_topi (nm_r (e' := 29) (by decide +kernel) ?_)
            refine lv_lconst (v := 0) hx hb dX5_sheet_69 (by decide) ?_
            refine va_last (D := g.1) hx hb hK hP hD hS 3 1 rfl rfl (vp_in_iff.mpr (by decide +kernel)) dX5_sheet_70 (fun H locs hP hD hS => ?_)
            have hP : va_P g.1 vwCl [(h0, .inr (5, [.ref h1, .int 0, .ref h2, .int 0, .int 0, .ref h3, .ref h4, .ref h5, .ref h6, .int 0, .ref h7, .ref h8, .ref h9, .int 0, .ref h10, .ref h11, .ref h12, .ref h13, .ref h14, .ref h15, .ref h16, .ref h17, .ref h18, .ref h19, .ref h20, .ref h21, .ref h22])), (h19, .inl (zI g, 4, .inl (upd (upd (upd (upd (upd (fun _ => 0) 0 (-1)) 1 (-1)) 2 (-1)) 3 (-1)) 1 p2))), (h20, .inl (zI g, 4, .inl (upd (fun _ => 0) 1 p3))), (h21, .inl (zJ g, 64, .inr (.inl (vp_updL (fun _ => 0) 29 0))))] H := hP
            have hD : va_D A [(h0, .inr (5, [.ref h1, .int 0, .ref h2, .int 0, .int 0, .ref h3, .ref h4, .ref h5, .ref h6, .int 0, .ref h7, .ref h8, .ref h9, .int 0, .ref h10, .ref h11, .ref h12, .ref h13, .ref h14, .ref h15, .ref h16, .ref h17, .ref h18, .ref h19, .ref h20, .ref h21, .ref h22])), (h19, .inl (zI g, 4, .inl (upd (upd (upd (upd (upd (fun _ => 0) 0 (-1)) 1 (-1)) 2 (-1)) 3 (-1)) 1 p2))), (h20, .inl (zI g, 4, .inl (upd (fun _ => 0) 1 p3))), (h21, .inl (zJ g, 64, .inr (.inl (vp_updL (fun _ => 0) 29 0))))] := hD
            rw [zc_setL] at hP hD
            refine lv_iinc (v := 14) (lv' := [(4, .int 14), (0, .ref h0), (1, .int 1), (2, .int p2), (3, .int p3)]) hx hb dX5_sheet_71 hl (k := 0) rfl (by decide) (by decide) rfl (fun ls hl => ?_)
            refine lv_goto (tgt := 51) hx hb dX5_sheet_74 (by decide) ?_
            refine lv_iload hx hb dX5_sheet_51 (lv_at hl 0 rfl) ?_
            refine lv_bipush (v := 16) hx hb dX5_sheet_53 (by decide) ?_
            refine lv_icmp_ge (tgt := 77) hx hb dX5_sheet_55 (by decide) (fun h => absurd h (by decide +kernel)) (fun _ => ?_)
            refine lv_aload_n hx hb dX5_sheet_58 rfl (lv_at hl 1 rfl) ?_
            refine va_get (D := g.1) (ci := 5) (v := .ref h21) (C := RX5) (T := TX5) (N := 27) hx hb hts zl_X5 hown hK hP 0 rfl rfl 25 (by decide) (hts _ m_f_RX5_70) (fun _ h => h) rfl dX5_sheet_59 ?_
            refine lv_bipush (v := 16) hx hb dX5_sheet_62 (by decide) ?_
            refine lv_iload_n hx hb dX5_sheet_64 rfl (lv_at hl 2 rfl) ?_
            refine lv_imul hx hb dX5_sheet_65 ?_
            refine lv_topi (nm_r (e' := 16) (by decide +kernel) ?_)
            refine lv_iload hx hb dX5_sheet_66 (lv_at hl 0 rfl) ?_
            refine lv_iadd hx hb dX5_sheet_68 ?_
            refine lv_topi (nm_r (e' := 30) (by decide +kernel) ?_)
            refine lv_lconst (v := 0) hx hb dX5_sheet_69 (by decide) ?_
            refine va_last (D := g.1) hx hb hK hP hD hS 3 1 rfl rfl (vp_in_iff.mpr (by decide +kernel)) dX5_sheet_70 (fun H locs hP hD hS => ?_)
            have hP : va_P g.1 vwCl [(h0, .inr (5, [.ref h1, .int 0, .ref h2, .int 0, .int 0, .ref h3, .ref h4, .ref h5, .ref h6, .int 0, .ref h7, .ref h8, .ref h9, .int 0, .ref h10, .ref h11, .ref h12, .ref h13, .ref h14, .ref h15, .ref h16, .ref h17, .ref h18, .ref h19, .ref h20, .ref h21, .ref h22])), (h19, .inl (zI g, 4, .inl (upd (upd (upd (upd (upd (fun _ => 0) 0 (-1)) 1 (-1)) 2 (-1)) 3 (-1)) 1 p2))), (h20, .inl (zI g, 4, .inl (upd (fun _ => 0) 1 p3))), (h21, .inl (zJ g, 64, .inr (.inl (vp_updL (fun _ => 0) 30 0))))] H := hP
            have hD : va_D A [(h0, .inr (5, [.ref h1, .int 0, .ref h2, .int 0, .int 0, .ref h3, .ref h4, .ref h5, .ref h6, .int 0, .ref h7, .ref h8, .ref h9, .int 0, .ref h10, .ref h11, .ref h12, .ref h13, .ref h14, .ref h15, .ref h16, .ref h17, .ref h18, .ref h19, .ref h20, .ref h21, .ref h22])), (h19, .inl (zI g, 4, .inl (upd (upd (upd (upd (upd (fun _ => 0) 0 (-1)) 1 (-1)) 2 (-1)) 3 (-1)) 1 p2))), (h20, .inl (zI g, 4, .inl (upd (fun _ => 0) 1 p3))), (h21, .inl (zJ g, 64, .inr (.inl (vp_updL (fun _ => 0) 30 0))))] := hD
            rw [zc_setL] at hP hD
            refine lv_iinc (v := 15) (lv' := [(4, .int 15), (0, .ref h0), (1, .int 1), (2, .int p2), (3, .int p3)]) hx hb dX5_sheet_71 hl (k := 0) rfl (by decide) (by decide) rfl (fun ls hl => ?_)
            refine lv_goto (tgt := 51) hx hb dX5_sheet_74 (by decide) ?_
            refine lv_iload hx hb dX5_sheet_51 (lv_at hl 0 rfl) ?_
            refine lv_bipush (v := 16) hx hb dX5_sheet_53 (by decide) ?_
            refine lv_icmp_ge (tgt := 77) hx hb dX5_sheet_55 (by decide) (fun h => absurd h (by decide +kernel)) (fun _ => ?_)
            refine lv_aload_n hx hb dX5_sheet_58 rfl (lv_at hl 1 rfl) ?_
            refine va_get (D := g.1) (ci := 5) (v := .ref h21) (C := RX5) (T := TX5) (N := 27) hx hb hts zl_X5 hown hK hP 0 rfl rfl 25 (by decide) (hts _ m_f_RX5_70) (fun _ h => h) rfl dX5_sheet_59 ?_
            refine lv_bipush (v := 16) hx hb dX5_sheet_62 (by decide) ?_
            refine lv_iload_n hx hb dX5_sheet_64 rfl (lv_at hl 2 rfl) ?_
            refine lv_imul hx hb dX5_sheet_65 ?_
            refine lv_topi (nm_r (e' := 16) (by decide +kernel) ?_)
            refine lv_iload hx hb dX5_sheet_66 (lv_at hl 0 rfl) ?_
            refine lv_iadd hx hb dX5_sheet_68 ?_
            refine lv_topi (nm_r (e' := 31) (by decide +kernel) ?_)
            refine lv_lconst (v := 0) hx hb dX5_sheet_69 (by decide) ?_
            refine va_last (D := g.1) hx hb hK hP hD hS 3 1 rfl rfl (vp_in_iff.mpr (by decide +kernel)) dX5_sheet_70 (fun H locs hP hD hS => ?_)
            have hP : va_P g.1 vwCl [(h0, .inr (5, [.ref h1, .int 0, .ref h2, .int 0, .int 0, .ref h3, .ref h4, .ref h5, .ref h6, .int 0, .ref h7, .ref h8, .ref h9, .int 0, .ref h10, .ref h11, .ref h12, .ref h13, .ref h14, .ref h15, .ref h16, .ref h17, .ref h18, .ref h19, .ref h20, .ref h21, .ref h22])), (h19, .inl (zI g, 4, .inl (upd (upd (upd (upd (upd (fun _ => 0) 0 (-1)) 1 (-1)) 2 (-1)) 3 (-1)) 1 p2))), (h20, .inl (zI g, 4, .inl (upd (fun _ => 0) 1 p3))), (h21, .inl (zJ g, 64, .inr (.inl (vp_updL (fun _ => 0) 31 0))))] H := hP
            have hD : va_D A [(h0, .inr (5, [.ref h1, .int 0, .ref h2, .int 0, .int 0, .ref h3, .ref h4, .ref h5, .ref h6, .int 0, .ref h7, .ref h8, .ref h9, .int 0, .ref h10, .ref h11, .ref h12, .ref h13, .ref h14, .ref h15, .ref h16, .ref h17, .ref h18, .ref h19, .ref h20, .ref h21, .ref h22])), (h19, .inl (zI g, 4, .inl (upd (upd (upd (upd (upd (fun _ => 0) 0 (-1)) 1 (-1)) 2 (-1)) 3 (-1)) 1 p2))), (h20, .inl (zI g, 4, .inl (upd (fun _ => 0) 1 p3))), (h21, .inl (zJ g, 64, .inr (.inl (vp_updL (fun _ => 0) 31 0))))] := hD
            rw [zc_setL] at hP hD
            refine lv_iinc (v := 16) (lv' := [(4, .int 16), (0, .ref h0), (1, .int 1), (2, .int p2), (3, .int p3)]) hx hb dX5_sheet_71 hl (k := 0) rfl (by decide) (by decide) rfl (fun ls hl => ?_)
            refine lv_goto (tgt := 51) hx hb dX5_sheet_74 (by decide) ?_
            refine lv_iload hx hb dX5_sheet_51 (lv_at hl 0 rfl) ?_
            refine lv_bipush (v := 16) hx hb dX5_sheet_53 (by decide) ?_
            refine lv_icmp_ge (tgt := 77) hx hb dX5_sheet_55 (by decide) (fun _ => ?_) (fun h => absurd h (by decide +kernel))
            refine lv_iload_n hx hb dX5_sheet_77 rfl (lv_at hl 4 rfl) ?_
            have hP9 := hP.sub (ws' := []) [] rfl
            have hD9 := hD.sub (ws' := []) [] (by decide) rfl
            exact W.iret (v := p3) hx hb hr (fun t ht hW => ⟨⟨p3, 0, rfl, Or.inr (Or.inr (Or.inr (Or.inr (Or.inr (Or.inl ⟨i_3, i_4, i_8, i_9, i_10, i_11, j_12, rfl⟩))))), by rw [ht]; exact hP9, hD9⟩, hS.F ht⟩) hS.2.2 dX5_sheet_78
          · obtain rfl : p1 = 2 := Int32.toInt_inj.mp (show p1.toInt = (2 : Int32).toInt from j_12.trans rfl)
            refine va_iast (D := g.1) hx hb hK hP hD hS 1 0 rfl rfl (vp_in_iff.mpr (by decide +kernel)) dX5_sheet_40 (fun H locs hP hD hS => ?_)
            have hP : va_P g.1 vwCl [(h0, .inr (5, [.ref h1, .int 0, .ref h2, .int 0, .int 0, .ref h3, .ref h4, .ref h5, .ref h6, .int 0, .ref h7, .ref h8, .ref h9, .int 0, .ref h10, .ref h11, .ref h12, .ref h13, .ref h14, .ref h15, .ref h16, .ref h17, .ref h18, .ref h19, .ref h20, .ref h21, .ref h22])), (h19, .inl (zI g, 4, .inl (upd (upd (upd (upd (upd (fun _ => 0) 0 (-1)) 1 (-1)) 2 (-1)) 3 (-1)) 2 p2))), (h20, .inl (zI g, 4, .inl (fun _ => 0))), (h21, .inl (zJ g, 64, .inr (.inl (fun _ => 0))))] H := hP
            have hD : va_D A [(h0, .inr (5, [.ref h1, .int 0, .ref h2, .int 0, .int 0, .ref h3, .ref h4, .ref h5, .ref h6, .int 0, .ref h7, .ref h8, .ref h9, .int 0, .ref h10, .ref h11, .ref h12, .ref h13, .ref h14, .ref h15, .ref h16, .ref h17, .ref h18, .ref h19, .ref h20, .ref h21, .ref h22])), (h19, .inl (zI g, 4, .inl (upd (upd (upd (upd (upd (fun _ => 0) 0 (-1)) 1 (-1)) 2 (-1)) 3 (-1)) 2 p2))), (h20, .inl (zI g, 4, .inl (fun _ => 0))), (h21, .inl (zJ g, 64, .inr (.inl (fun _ => 0))))] := hD
            refine lv_aload_n hx hb dX5_sheet_41 rfl (lv_at hl 0 rfl) ?_
            refine va_get (D := g.1) (ci := 5) (v := .ref h20) (C := RX5) (T := TX5) (N := 27) hx hb hts zl_X5 hown hK hP 0 rfl rfl 24 (by decide) (hts _ m_f_RX5_67) (fun _ h => h) rfl dX5_sheet_42 ?_
            refine lv_iload_n hx hb dX5_sheet_45 rfl (lv_at hl 1 rfl) ?_
            refine lv_iload_n hx hb dX5_sheet_46 rfl (lv_at hl 3 rfl) ?_
            refine va_iast (D := g.1) hx hb hK hP hD hS 2 0 rfl rfl (vp_in_iff.mpr (by decide +kernel)) dX5_sheet_47 (fun H locs hP hD hS => ?_)
            have hP : va_P g.1 vwCl [(h0, .inr (5, [.ref h1, .int 0, .ref h2, .int 0, .int 0, .ref h3, .ref h4, .ref h5, .ref h6, .int 0, .ref h7, .ref h8, .ref h9, .int 0, .ref h10, .ref h11, .ref h12, .ref h13, .ref h14, .ref h15, .ref h16, .ref h17, .ref h18, .ref h19, .ref h20, .ref h21, .ref h22])), (h19, .inl (zI g, 4, .inl (upd (upd (upd (upd (upd (fun _ => 0) 0 (-1)) 1 (-1)) 2 (-1)) 3 (-1)) 2 p2))), (h20, .inl (zI g, 4, .inl (upd (fun _ => 0) 2 p3))), (h21, .inl (zJ g, 64, .inr (.inl (fun _ => 0))))] H := hP
            have hD : va_D A [(h0, .inr (5, [.ref h1, .int 0, .ref h2, .int 0, .int 0, .ref h3, .ref h4, .ref h5, .ref h6, .int 0, .ref h7, .ref h8, .ref h9, .int 0, .ref h10, .ref h11, .ref h12, .ref h13, .ref h14, .ref h15, .ref h16, .ref h17, .ref h18, .ref h19, .ref h20, .ref h21, .ref h22])), (h19, .inl (zI g, 4, .inl (upd (upd (upd (upd (upd (fun _ => 0) 0 (-1)) 1 (-1)) 2 (-1)) 3 (-1)) 2 p2))), (h20, .inl (zI g, 4, .inl (upd (fun _ => 0) 2 p3))), (h21, .inl (zJ g, 64, .inr (.inl (fun _ => 0))))] := hD
            refine lv_iconst (v := 0) hx hb dX5_sheet_48 (by decide) ?_
            refine lv_istore (lv' := [(4, .int 0), (0, .ref h0), (1, .int 2), (2, .int p2), (3, .int p3)]) hx hb dX5_sheet_49 hl (by decide) rfl (fun ls hl => ?_)
            refine lv_iload hx hb dX5_sheet_51 (lv_at hl 0 rfl) ?_
            refine lv_bipush (v := 16) hx hb dX5_sheet_53 (by decide) ?_
            refine lv_icmp_ge (tgt := 77) hx hb dX5_sheet_55 (by decide) (fun h => absurd h (by decide +kernel)) (fun _ => ?_)
            refine lv_aload_n hx hb dX5_sheet_58 rfl (lv_at hl 1 rfl) ?_
            refine va_get (D := g.1) (ci := 5) (v := .ref h21) (C := RX5) (T := TX5) (N := 27) hx hb hts zl_X5 hown hK hP 0 rfl rfl 25 (by decide) (hts _ m_f_RX5_70) (fun _ h => h) rfl dX5_sheet_59 ?_
            refine lv_bipush (v := 16) hx hb dX5_sheet_62 (by decide) ?_
            refine lv_iload_n hx hb dX5_sheet_64 rfl (lv_at hl 2 rfl) ?_
            refine lv_imul hx hb dX5_sheet_65 ?_
            refine lv_topi (nm_r (e' := 32) (by decide +kernel) ?_)
            refine lv_iload hx hb dX5_sheet_66 (lv_at hl 0 rfl) ?_
            refine lv_iadd hx hb dX5_sheet_68 ?_
            refine lv_topi (nm_r (e' := 32) (by decide +kernel) ?_)
            refine lv_lconst (v := 0) hx hb dX5_sheet_69 (by decide) ?_
            refine va_last (D := g.1) hx hb hK hP hD hS 3 1 rfl rfl (vp_in_iff.mpr (by decide +kernel)) dX5_sheet_70 (fun H locs hP hD hS => ?_)
            have hP : va_P g.1 vwCl [(h0, .inr (5, [.ref h1, .int 0, .ref h2, .int 0, .int 0, .ref h3, .ref h4, .ref h5, .ref h6, .int 0, .ref h7, .ref h8, .ref h9, .int 0, .ref h10, .ref h11, .ref h12, .ref h13, .ref h14, .ref h15, .ref h16, .ref h17, .ref h18, .ref h19, .ref h20, .ref h21, .ref h22])), (h19, .inl (zI g, 4, .inl (upd (upd (upd (upd (upd (fun _ => 0) 0 (-1)) 1 (-1)) 2 (-1)) 3 (-1)) 2 p2))), (h20, .inl (zI g, 4, .inl (upd (fun _ => 0) 2 p3))), (h21, .inl (zJ g, 64, .inr (.inl (vp_updL (fun _ => 0) 32 0))))] H := hP
            have hD : va_D A [(h0, .inr (5, [.ref h1, .int 0, .ref h2, .int 0, .int 0, .ref h3, .ref h4, .ref h5, .ref h6, .int 0, .ref h7, .ref h8, .ref h9, .int 0, .ref h10, .ref h11, .ref h12, .ref h13, .ref h14, .ref h15, .ref h16, .ref h17, .ref h18, .ref h19, .ref h20, .ref h21, .ref h22])), (h19, .inl (zI g, 4, .inl (upd (upd (upd (upd (upd (fun _ => 0) 0 (-1)) 1 (-1)) 2 (-1)) 3 (-1)) 2 p2))), (h20, .inl (zI g, 4, .inl (upd (fun _ => 0) 2 p3))), (h21, .inl (zJ g, 64, .inr (.inl (vp_updL (fun _ => 0) 32 0))))] := hD
            rw [zc_setL] at hP hD
            refine lv_iinc (v := 1) (lv' := [(4, .int 1), (0, .ref h0), (1, .int 2), (2, .int p2), (3, .int p3)]) hx hb dX5_sheet_71 hl (k := 0) rfl (by decide) (by decide) rfl (fun ls hl => ?_)
            refine lv_goto (tgt := 51) hx hb dX5_sheet_74 (by decide) ?_
            refine lv_iload hx hb dX5_sheet_51 (lv_at hl 0 rfl) ?_
            refine lv_bipush (v := 16) hx hb dX5_sheet_53 (by decide) ?_
            refine lv_icmp_ge (tgt := 77) hx hb dX5_sheet_55 (by decide) (fun h => absurd h (by decide +kernel)) (fun _ => ?_)
            refine lv_aload_n hx hb dX5_sheet_58 rfl (lv_at hl 1 rfl) ?_
            refine va_get (D := g.1) (ci := 5) (v := .ref h21) (C := RX5) (T := TX5) (N := 27) hx hb hts zl_X5 hown hK hP 0 rfl rfl 25 (by decide) (hts _ m_f_RX5_70) (fun _ h => h) rfl dX5_sheet_59 ?_
            refine lv_bipush (v := 16) hx hb dX5_sheet_62 (by decide) ?_
            refine lv_iload_n hx hb dX5_sheet_64 rfl (lv_at hl 2 rfl) ?_
            refine lv_imul hx hb dX5_sheet_65 ?_
            refine lv_topi (nm_r (e' := 32) (by decide +kernel) ?_)
            refine lv_iload hx hb dX5_sheet_66 (lv_at hl 0 rfl) ?_
            refine lv_iadd hx hb dX5_sheet_68 ?_
            refine lv_topi (nm_r (e' := 33) (by decide +kernel) ?_)
            refine lv_lconst (v := 0) hx hb dX5_sheet_69 (by decide) ?_
            refine va_last (D := g.1) hx hb hK hP hD hS 3 1 rfl rfl (vp_in_iff.mpr (by decide +kernel)) dX5_sheet_70 (fun H locs hP hD hS => ?_)
            have hP : va_P g.1 vwCl [(h0, .inr (5, [.ref h1, .int 0, .ref h2, .int 0, .int 0, .ref h3, .ref h4, .ref h5, .ref h6, .int 0, .ref h7, .ref h8, .ref h9, .int 0, .ref h10, .ref h11, .ref h12, .ref h13, .ref h14, .ref h15, .ref h16, .ref h17, .ref h18, .ref h19, .ref h20, .ref h21, .ref h22])), (h19, .inl (zI g, 4, .inl (upd (upd (upd (upd (upd (fun _ => 0) 0 (-1)) 1 (-1)) 2 (-1)) 3 (-1)) 2 p2))), (h20, .inl (zI g, 4, .inl (upd (fun _ => 0) 2 p3))), (h21, .inl (zJ g, 64, .inr (.inl (vp_updL (fun _ => 0) 33 0))))] H := hP
            have hD : va_D A [(h0, .inr (5, [.ref h1, .int 0, .ref h2, .int 0, .int 0, .ref h3, .ref h4, .ref h5, .ref h6, .int 0, .ref h7, .ref h8, .ref h9, .int 0, .ref h10, .ref h11, .ref h12, .ref h13, .ref h14, .ref h15, .ref h16, .ref h17, .ref h18, .ref h19, .ref h20, .ref h21, .ref h22])), (h19, .inl (zI g, 4, .inl (upd (upd (upd (upd (upd (fun _ => 0) 0 (-1)) 1 (-1)) 2 (-1)) 3 (-1)) 2 p2))), (h20, .inl (zI g, 4, .inl (upd (fun _ => 0) 2 p3))), (h21, .inl (zJ g, 64, .inr (.inl (vp_updL (fun _ => 0) 33 0))))] := hD
            rw [zc_setL] at hP hD
            refine lv_iinc (v := 2) (lv' := [(4, .int 2), (0, .ref h0), (1, .int 2), (2, .int p2), (3, .int p3)]) hx hb dX5_sheet_71 hl (k := 0) rfl (by decide) (by decide) rfl (fun ls hl => ?_)
            refine lv_goto (tgt := 51) hx hb dX5_sheet_74 (by decide) ?_
            refine lv_iload hx hb dX5_sheet_51 (lv_at hl 0 rfl) ?_
            refine lv_bipush (v := 16) hx hb dX5_sheet_53 (by decide) ?_
            refine lv_icmp_ge (tgt := 77) hx hb dX5_sheet_55 (by decide) (fun h => absurd h (by decide +kernel)) (fun _ => ?_)
            refine lv_aload_n hx hb dX5_sheet_58 rfl (lv_at hl 1 rfl) ?_
            refine va_get (D := g.1) (ci := 5) (v := .ref h21) (C := RX5) (T := TX5) (N := 27) hx hb hts zl_X5 hown hK hP 0 rfl rfl 25 (by decide) (hts _ m_f_RX5_70) (fun _ h => h) rfl dX5_sheet_59 ?_
            refine lv_bipush (v := 16) hx hb dX5_sheet_62 (by decide) ?_
            refine lv_iload_n hx hb dX5_sheet_64 rfl (lv_at hl 2 rfl) ?_
            refine lv_imul hx hb dX5_sheet_65 ?_
            refine lv_topi (nm_r (e' := 32) (by decide +kernel) ?_)
            refine lv_iload hx hb dX5_sheet_66 (lv_at hl 0 rfl) ?_
            refine lv_iadd hx hb dX5_sheet_68 ?_
            refine lv_topi (nm_r (e' := 34) (by decide +kernel) ?_)
            refine lv_lconst (v := 0) hx hb dX5_sheet_69 (by decide) ?_
            refine va_last (D := g.1) hx hb hK hP hD hS 3 1 rfl rfl (vp_in_iff.mpr (by decide +kernel)) dX5_sheet_70 (fun H locs hP hD hS => ?_)
            have hP : va_P g.1 vwCl [(h0, .inr (5, [.ref h1, .int 0, .ref h2, .int 0, .int 0, .ref h3, .ref h4, .ref h5, .ref h6, .int 0, .ref h7, .ref h8, .ref h9, .int 0, .ref h10, .ref h11, .ref h12, .ref h13, .ref h14, .ref h15, .ref h16, .ref h17, .ref h18, .ref h19, .ref h20, .ref h21, .ref h22])), (h19, .inl (zI g, 4, .inl (upd (upd (upd (upd (upd (fun _ => 0) 0 (-1)) 1 (-1)) 2 (-1)) 3 (-1)) 2 p2))), (h20, .inl (zI g, 4, .inl (upd (fun _ => 0) 2 p3))), (h21, .inl (zJ g, 64, .inr (.inl (vp_updL (fun _ => 0) 34 0))))] H := hP
            have hD : va_D A [(h0, .inr (5, [.ref h1, .int 0, .ref h2, .int 0, .int 0, .ref h3, .ref h4, .ref h5, .ref h6, .int 0, .ref h7, .ref h8, .ref h9, .int 0, .ref h10, .ref h11, .ref h12, .ref h13, .ref h14, .ref h15, .ref h16, .ref h17, .ref h18, .ref h19, .ref h20, .ref h21, .ref h22])), (h19, .inl (zI g, 4, .inl (upd (upd (upd (upd (upd (fun _ => 0) 0 (-1)) 1 (-1)) 2 (-1)) 3 (-1)) 2 p2))), (h20, .inl (zI g, 4, .inl (upd (fun _ => 0) 2 p3))), (h21, .inl (zJ g, 64, .inr (.inl (vp_updL (fun _ => 0) 34 0))))] := hD
            rw [zc_setL] at hP hD
            refine lv_iinc (v := 3) (lv' := [(4, .int 3), (0, .ref h0), (1, .int 2), (2, .int p2), (3, .int p3)]) hx hb dX5_sheet_71 hl (k := 0) rfl (by decide) (by decide) rfl (fun ls hl => ?_)
            refine lv_goto (tgt := 51) hx hb dX5_sheet_74 (by decide) ?_
            refine lv_iload hx hb dX5_sheet_51 (lv_at hl 0 rfl) ?_
            refine lv_bipush (v := 16) hx hb dX5_sheet_53 (by decide) ?_
            refine lv_icmp_ge (tgt := 77) hx hb dX5_sheet_55 (by decide) (fun h => absurd h (by decide +kernel)) (fun _ => ?_)
            refine lv_aload_n hx hb dX5_sheet_58 rfl (lv_at hl 1 rfl) ?_
            refine va_get (D := g.1) (ci := 5) (v := .ref h21) (C := RX5) (T := TX5) (N := 27) hx hb hts zl_X5 hown hK hP 0 rfl rfl 25 (by decide) (hts _ m_f_RX5_70) (fun _ h => h) rfl dX5_sheet_59 ?_
            refine lv_bipush (v := 16) hx hb dX5_sheet_62 (by decide) ?_
            refine lv_iload_n hx hb dX5_sheet_64 rfl (lv_at hl 2 rfl) ?_
            refine lv_imul hx hb dX5_sheet_65 ?_
            refine lv_topi (nm_r (e' := 32) (by decide +kernel) ?_)
            refine lv_iload hx hb dX5_sheet_66 (lv_at hl 0 rfl) ?_
            refine lv_iadd hx hb dX5_sheet_68 ?_
            refine lv_topi (nm_r (e' := 35) (by decide +kernel) ?_)
            refine lv_lconst (v := 0) hx hb dX5_sheet_69 (by decide) ?_
            refine va_last (D := g.1) hx hb hK hP hD hS 3 1 rfl rfl (vp_in_iff.mpr (by decide +kernel)) dX5_sheet_70 (fun H locs hP hD hS => ?_)
            have hP : va_P g.1 vwCl [(h0, .inr (5, [.ref h1, .int 0, .ref h2, .int 0, .int 0, .ref h3, .ref h4, .ref h5, .ref h6, .int 0, .ref h7, .ref h8, .ref h9, .int 0, .ref h10, .ref h11, .ref h12, .ref h13, .ref h14, .ref h15, .ref h16, .ref h17, .ref h18, .ref h19, .ref h20, .ref h21, .ref h22])), (h19, .inl (zI g, 4, .inl (upd (upd (upd (upd (upd (fun _ => 0) 0 (-1)) 1 (-1)) 2 (-1)) 3 (-1)) 2 p2))), (h20, .inl (zI g, 4, .inl (upd (fun _ => 0) 2 p3))), (h21, .inl (zJ g, 64, .inr (.inl (vp_updL (fun _ => 0) 35 0))))] H := hP
            have hD : va_D A [(h0, .inr (5, [.ref h1, .int 0, .ref h2, .int 0, .int 0, .ref h3, .ref h4, .ref h5, .ref h6, .int 0, .ref h7, .ref h8, .ref h9, .int 0, .ref h10, .ref h11, .ref h12, .ref h13, .ref h14, .ref h15, .ref h16, .ref h17, .ref h18, .ref h19, .ref h20, .ref h21, .ref h22])), (h19, .inl (zI g, 4, .inl (upd (upd (upd (upd (upd (fun _ => 0) 0 (-1)) 1 (-1)) 2 (-1)) 3 (-1)) 2 p2))), (h20, .inl (zI g, 4, .inl (upd (fun _ => 0) 2 p3))), (h21, .inl (zJ g, 64, .inr (.inl (vp_updL (fun _ => 0) 35 0))))] := hD
            rw [zc_setL] at hP hD
            refine lv_iinc (v := 4) (lv' := [(4, .int 4), (0, .ref h0), (1, .int 2), (2, .int p2), (3, .int p3)]) hx hb dX5_sheet_71 hl (k := 0) rfl (by decide) (by decide) rfl (fun ls hl => ?_)
            refine lv_goto (tgt := 51) hx hb dX5_sheet_74 (by decide) ?_
            refine lv_iload hx hb dX5_sheet_51 (lv_at hl 0 rfl) ?_
            refine lv_bipush (v := 16) hx hb dX5_sheet_53 (by decide) ?_
            refine lv_icmp_ge (tgt := 77) hx hb dX5_sheet_55 (by decide) (fun h => absurd h (by decide +kernel)) (fun _ => ?_)
            refine lv_aload_n hx hb dX5_sheet_58 rfl (lv_at hl 1 rfl) ?_
            refine va_get (D := g.1) (ci := 5) (v := .ref h21) (C := RX5) (T := TX5) (N := 27) hx hb hts zl_X5 hown hK hP 0 rfl rfl 25 (by decide) (hts _ m_f_RX5_70) (fun _ h => h) rfl dX5_sheet_59 ?_
            refine lv_bipush (v := 16) hx hb dX5_sheet_62 (by decide) ?_
            refine lv_iload_n hx hb dX5_sheet_64 rfl (lv_at hl 2 rfl) ?_
            refine lv_imul hx hb dX5_sheet_65 ?_
            refine lv_topi (nm_r (e' := 32) (by decide +kernel) ?_)
            refine lv_iload hx hb dX5_sheet_66 (lv_at hl 0 rfl) ?_
            refine lv_iadd hx hb dX5_sheet_68 ?_
            refine lv_topi (nm_r (e' := 36) (by decide +kernel) ?_)
            refine lv_lconst (v := 0) hx hb dX5_sheet_69 (by decide) ?_
            refine va_last (D := g.1) hx hb hK hP hD hS 3 1 rfl rfl (vp_in_iff.mpr (by decide +kernel)) dX5_sheet_70 (fun H locs hP hD hS => ?_)
            have hP : va_P g.1 vwCl [(h0, .inr (5, [.ref h1, .int 0, .ref h2, .int 0, .int 0, .ref h3, .ref h4, .ref h5, .ref h6, .int 0, .ref h7, .ref h8, .ref h9, .int 0, .ref h10, .ref h11, .ref h12, .ref h13, .ref h14, .ref h15, .ref h16, .ref h17, .ref h18, .ref h19, .ref h20, .ref h21, .ref h22])), (h19, .inl (zI g, 4, .inl (upd (upd (upd (upd (upd (fun _ => 0) 0 (-1)) 1 (-1)) 2 (-1)) 3 (-1)) 2 p2))), (h20, .inl (zI g, 4, .inl (upd (fun _ => 0) 2 p3))), (h21, .inl (zJ g, 64, .inr (.inl (vp_updL (fun _ => 0) 36 0))))] H := hP
            have hD : va_D A [(h0, .inr (5, [.ref h1, .int 0, .ref h2, .int 0, .int 0, .ref h3, .ref h4, .ref h5, .ref h6, .int 0, .ref h7, .ref h8, .ref h9, .int 0, .ref h10, .ref h11, .ref h12, .ref h13, .ref h14, .ref h15, .ref h16, .ref h17, .ref h18, .ref h19, .ref h20, .ref h21, .ref h22])), (h19, .inl (zI g, 4, .inl (upd (upd (upd (upd (upd (fun _ => 0) 0 (-1)) 1 (-1)) 2 (-1)) 3 (-1)) 2 p2))), (h20, .inl (zI g, 4, .inl (upd (fun _ => 0) 2 p3))), (h21, .inl (zJ g, 64, .inr (.inl (vp_updL (fun _ => 0) 36 0))))] := hD
            rw [zc_setL] at hP hD
            refine lv_iinc (v := 5) (lv' := [(4, .int 5), (0, .ref h0), (1, .int 2), (2, .int p2), (3, .int p3)]) hx hb dX5_sheet_71 hl (k := 0) rfl (by decide) (by decide) rfl (fun ls hl => ?_)
            refine lv_goto (tgt := 51) hx hb dX5_sheet_74 (by decide) ?_
            refine lv_iload hx hb dX5_sheet_51 (lv_at hl 0 rfl) ?_
            refine lv_bipush (v := 16) hx hb dX5_sheet_53 (by decide) ?_
            refine lv_icmp_ge (tgt := 77) hx hb dX5_sheet_55 (by decide) (fun h => absurd h (by decide +kernel)) (fun _ => ?_)
            refine lv_aload_n hx hb dX5_sheet_58 rfl (lv_at hl 1 rfl) ?_
            refine va_get (D := g.1) (ci := 5) (v := .ref h21) (C := RX5) (T := TX5) (N := 27) hx hb hts zl_X5 hown hK hP 0 rfl rfl 25 (by decide) (hts _ m_f_RX5_70) (fun _ h => h) rfl dX5_sheet_59 ?_
            refine lv_bipush (v := 16) hx hb dX5_sheet_62 (by decide) ?_
            refine lv_iload_n hx hb dX5_sheet_64 rfl (lv_at hl 2 rfl) ?_
            refine lv_imul hx hb dX5_sheet_65 ?_
            refine lv_topi (nm_r (e' := 32) (by decide +kernel) ?_)
            refine lv_iload hx hb dX5_sheet_66 (lv_at hl 0 rfl) ?_
            refine lv_iadd hx hb dX5_sheet_68 ?_
            refine lv_topi (nm_r (e' := 37) (by decide +kernel) ?_)
            refine lv_lconst (v := 0) hx hb dX5_sheet_69 (by decide) ?_
            refine va_last (D := g.1) hx hb hK hP hD hS 3 1 rfl rfl (vp_in_iff.mpr (by decide +kernel)) dX5_sheet_70 (fun H locs hP hD hS => ?_)
            have hP : va_P g.1 vwCl [(h0, .inr (5, [.ref h1, .int 0, .ref h2, .int 0, .int 0, .ref h3, .ref h4, .ref h5, .ref h6, .int 0, .ref h7, .ref h8, .ref h9, .int 0, .ref h10, .ref h11, .ref h12, .ref h13, .ref h14, .ref h15, .ref h16, .ref h17, .ref h18, .ref h19, .ref h20, .ref h21, .ref h22])), (h19, .inl (zI g, 4, .inl (upd (upd (upd (upd (upd (fun _ => 0) 0 (-1)) 1 (-1)) 2 (-1)) 3 (-1)) 2 p2))), (h20, .inl (zI g, 4, .inl (upd (fun _ => 0) 2 p3))), (h21, .inl (zJ g, 64, .inr (.inl (vp_updL (fun _ => 0) 37 0))))] H := hP
            have hD : va_D A [(h0, .inr (5, [.ref h1, .int 0, .ref h2, .int 0, .int 0, .ref h3, .ref h4, .ref h5, .ref h6, .int 0, .ref h7, .ref h8, .ref h9, .int 0, .ref h10, .ref h11, .ref h12, .ref h13, .ref h14, .ref h15, .ref h16, .ref h17, .ref h18, .ref h19, .ref h20, .ref h21, .ref h22])), (h19, .inl (zI g, 4, .inl (upd (upd (upd (upd (upd (fun _ => 0) 0 (-1)) 1 (-1)) 2 (-1)) 3 (-1)) 2 p2))), (h20, .inl (zI g, 4, .inl (upd (fun _ => 0) 2 p3))), (h21, .inl (zJ g, 64, .inr (.inl (vp_updL (fun _ => 0) 37 0))))] := hD
            rw [zc_setL] at hP hD
            refine lv_iinc (v := 6) (lv' := [(4, .int 6), (0, .ref h0), (1, .int 2), (2, .int p2), (3, .int p3)]) hx hb dX5_sheet_71 hl (k := 0) rfl (by decide) (by decide) rfl (fun ls hl => ?_)
            refine lv_goto (tgt := 51) hx hb dX5_sheet_74 (by decide) ?_
            refine lv_iload hx hb dX5_sheet_51 (lv_at hl 0 rfl) ?_
            refine lv_bipush (v := 16) hx hb dX5_sheet_53 (by decide) ?_
            refine lv_icmp_ge (tgt := 77) hx hb dX5_sheet_55 (by decide) (fun h => absurd h (by decide +kernel)) (fun _ => ?_)
            refine lv_aload_n hx hb dX5_sheet_58 rfl (lv_at hl 1 rfl) ?_
            refine va_get (D := g.1) (ci := 5) (v := .ref h21) (C := RX5) (T := TX5) (N := 27) hx hb hts zl_X5 hown hK hP 0 rfl rfl 25 (by decide) (hts _ m_f_RX5_70) (fun _ h => h) rfl dX5_sheet_59 ?_
            refine lv_bipush (v := 16) hx hb dX5_sheet_62 (by decide) ?_
            refine lv_iload_n hx hb dX5_sheet_64 rfl (lv_at hl 2 rfl) ?_
            refine lv_imul hx hb dX5_sheet_65 ?_
            refine lv_topi (nm_r (e' := 32) (by decide +kernel) ?_)
            refine lv_iload hx hb dX5_sheet_66 (lv_at hl 0 rfl) ?_
            refine lv_iadd hx hb dX5_sheet_68 ?_
            refine lv_topi (nm_r (e' := 38) (by decide +kernel) ?_)
            refine lv_lconst (v := 0) hx hb dX5_sheet_69 (by decide) ?_
            refine va_last (D := g.1) hx hb hK hP hD hS 3 1 rfl rfl (vp_in_iff.mpr (by decide +kernel)) dX5_sheet_70 (fun H locs hP hD hS => ?_)
            have hP : va_P g.1 vwCl [(h0, .inr (5, [.ref h1, .int 0, .ref h2, .int 0, .int 0, .ref h3, .ref h4, .ref h5, .ref h6, .int 0, .ref h7, .ref h8, .ref h9, .int 0, .ref h10, .ref h11, .ref h12, .ref h13, .ref h14, .ref h15, .ref h16, .ref h17, .ref h18, .ref h19, .ref h20, .ref h21, .ref h22])), (h19, .inl (zI g, 4, .inl (upd (upd (upd (upd (upd (fun _ => 0) 0 (-1)) 1 (-1)) 2 (-1)) 3 (-1)) 2 p2))), (h20, .inl (zI g, 4, .inl (upd (fun _ => 0) 2 p3))), (h21, .inl (zJ g, 64, .inr (.inl (vp_updL (fun _ => 0) 38 0))))] H := hP
            have hD : va_D A [(h0, .inr (5, [.ref h1, .int 0, .ref h2, .int 0, .int 0, .ref h3, .ref h4, .ref h5, .ref h6, .int 0, .ref h7, .ref h8, .ref h9, .int 0, .ref h10, .ref h11, .ref h12, .ref h13, .ref h14, .ref h15, .ref h16, .ref h17, .ref h18, .ref h19, .ref h20, .ref h21, .ref h22])), (h19, .inl (zI g, 4, .inl (upd (upd (upd (upd (upd (fun _ => 0) 0 (-1)) 1 (-1)) 2 (-1)) 3 (-1)) 2 p2))), (h20, .inl (zI g, 4, .inl (upd (fun _ => 0) 2 p3))), (h21, .inl (zJ g, 64, .inr (.inl (vp_updL (fun _ => 0) 38 0))))] := hD
            rw [zc_setL] at hP hD
            refine lv_iinc (v := 7) (lv' := [(4, .int 7), (0, .ref h0), (1, .int 2), (2, .int p2), (3, .int p3)]) hx hb dX5_sheet_71 hl (k := 0) rfl (by decide) (by decide) rfl (fun ls hl => ?_)
            refine lv_goto (tgt := 51) hx hb dX5_sheet_74 (by decide) ?_
            refine lv_iload hx hb dX5_sheet_51 (lv_at hl 0 rfl) ?_
            refine lv_bipush (v := 16) hx hb dX5_sheet_53 (by decide) ?_
            refine lv_icmp_ge (tgt := 77) hx hb dX5_sheet_55 (by decide) (fun h => absurd h (by decide +kernel)) (fun _ => ?_)
            refine lv_aload_n hx hb dX5_sheet_58 rfl (lv_at hl 1 rfl) ?_
            refine va_get (D := g.1) (ci := 5) (v := .ref h21) (C := RX5) (T := TX5) (N := 27) hx hb hts zl_X5 hown hK hP 0 rfl rfl 25 (by decide) (hts _ m_f_RX5_70) (fun _ h => h) rfl dX5_sheet_59 ?_
            refine lv_bipush (v := 16) hx hb dX5_sheet_62 (by decide) ?_
            refine lv_iload_n hx hb dX5_sheet_64 rfl (lv_at hl 2 rfl) ?_
            refine lv_imul hx hb dX5_sheet_65 ?_
            refine lv_topi (nm_r (e' := 32) (by decide +kernel) ?_)
            refine lv_iload hx hb dX5_sheet_66 (lv_at hl 0 rfl) ?_
            refine lv_iadd hx hb dX5_sheet_68 ?_
            refine lv_topi (nm_r (e' := 39) (by decide +kernel) ?_)
            refine lv_lconst (v := 0) hx hb dX5_sheet_69 (by decide) ?_
            refine va_last (D := g.1) hx hb hK hP hD hS 3 1 rfl rfl (vp_in_iff.mpr (by decide +kernel)) dX5_sheet_70 (fun H locs hP hD hS => ?_)
            have hP : va_P g.1 vwCl [(h0, .inr (5, [.ref h1, .int 0, .ref h2, .int 0, .int 0, .ref h3, .ref h4, .ref h5, .ref h6, .int 0, .ref h7, .ref h8, .ref h9, .int 0, .ref h10, .ref h11, .ref h12, .ref h13, .ref h14, .ref h15, .ref h16, .ref h17, .ref h18, .ref h19, .ref h20, .ref h21, .ref h22])), (h19, .inl (zI g, 4, .inl (upd (upd (upd (upd (upd (fun _ => 0) 0 (-1)) 1 (-1)) 2 (-1)) 3 (-1)) 2 p2))), (h20, .inl (zI g, 4, .inl (upd (fun _ => 0) 2 p3))), (h21, .inl (zJ g, 64, .inr (.inl (vp_updL (fun _ => 0) 39 0))))] H := hP
            have hD : va_D A [(h0, .inr (5, [.ref h1, .int 0, .ref h2, .int 0, .int 0, .ref h3, .ref h4, .ref h5, .ref h6, .int 0, .ref h7, .ref h8, .ref h9, .int 0, .ref h10, .ref h11, .ref h12, .ref h13, .ref h14, .ref h15, .ref h16, .ref h17, .ref h18, .ref h19, .ref h20, .ref h21, .ref h22])), (h19, .inl (zI g, 4, .inl (upd (upd (upd (upd (upd (fun _ => 0) 0 (-1)) 1 (-1)) 2 (-1)) 3 (-1)) 2 p2))), (h20, .inl (zI g, 4, .inl (upd (fun _ => 0) 2 p3))), (h21, .inl (zJ g, 64, .inr (.inl (vp_updL (fun _ => 0) 39 0))))] := hD
            rw [zc_setL] at hP hD
            refine lv_iinc (v := 8) (lv' := [(4, .int 8), (0, .ref h0), (1, .int 2), (2, .int p2), (3, .int p3)]) hx hb dX5_sheet_71 hl (k := 0) rfl (by decide) (by decide) rfl (fun ls hl => ?_)
            refine lv_goto (tgt := 51) hx hb dX5_sheet_74 (by decide) ?_
            refine lv_iload hx hb dX5_sheet_51 (lv_at hl 0 rfl) ?_
            refine lv_bipush (v := 16) hx hb dX5_sheet_53 (by decide) ?_
            refine lv_icmp_ge (tgt := 77) hx hb dX5_sheet_55 (by decide) (fun h => absurd h (by decide +kernel)) (fun _ => ?_)
            refine lv_aload_n hx hb dX5_sheet_58 rfl (lv_at hl 1 rfl) ?_
            refine va_get (D := g.1) (ci := 5) (v := .ref h21) (C := RX5) (T := TX5) (N := 27) hx hb hts zl_X5 hown hK hP 0 rfl rfl 25 (by decide) (hts _ m_f_RX5_70) (fun _ h => h) rfl dX5_sheet_59 ?_
            refine lv_bipush (v := 16) hx hb dX5_sheet_62 (by decide) ?_
            refine lv_iload_n hx hb dX5_sheet_64 rfl (lv_at hl 2 rfl) ?_
            refine lv_imul hx hb dX5_sheet_65 ?_
            refine lv_topi (nm_r (e' := 32) (by decide +kernel) ?_)
            refine lv_iload hx hb dX5_sheet_66 (lv_at hl 0 rfl) ?_
            refine lv_iadd hx hb dX5_sheet_68 ?_
            refine lv_topi (nm_r (e' := 40) (by decide +kernel) ?_)
            refine lv_lconst (v := 0) hx hb dX5_sheet_69 (by decide) ?_
            refine va_last (D := g.1) hx hb hK hP hD hS 3 1 rfl rfl (vp_in_iff.mpr (by decide +kernel)) dX5_sheet_70 (fun H locs hP hD hS => ?_)
            have hP : va_P g.1 vwCl [(h0, .inr (5, [.ref h1, .int 0, .ref h2, .int 0, .int 0, .ref h3, .ref h4, .ref h5, .ref h6, .int 0, .ref h7, .ref h8, .ref h9, .int 0, .ref h10, .ref h11, .ref h12, .ref h13, .ref h14, .ref h15, .ref h16, .ref h17, .ref h18, .ref h19, .ref h20, .ref h21, .ref h22])), (h19, .inl (zI g, 4, .inl (upd (upd (upd (upd (upd (fun _ => 0) 0 (-1)) 1 (-1)) 2 (-1)) 3 (-1)) 2 p2))), (h20, .inl (zI g, 4, .inl (upd (fun _ => 0) 2 p3))), (h21, .inl (zJ g, 64, .inr (.inl (vp_updL (fun _ => 0) 40 0))))] H := hP
            have hD : va_D A [(h0, .inr (5, [.ref h1, .int 0, .ref h2, .int 0, .int 0, .ref h3, .ref h4, .ref h5, .ref h6, .int 0, .ref h7, .ref h8, .ref h9, .int 0, .ref h10, .ref h11, .ref h12, .ref h13, .ref h14, .ref h15, .ref h16, .ref h17, .ref h18, .ref h19, .ref h20, .ref h21, .ref h22])), (h19, .inl (zI g, 4, .inl (upd (upd (upd (upd (upd (fun _ => 0) 0 (-1)) 1 (-1)) 2 (-1)) 3 (-1)) 2 p2))), (h20, .inl (zI g, 4, .inl (upd (fun _ => 0) 2 p3))), (h21, .inl (zJ g, 64, .inr (.inl (vp_updL (fun _ => 0) 40 0))))] := hD
            rw [zc_setL] at hP hD
            refine lv_iinc (v := 9) (lv' := [(4, .int 9), (0, .ref h0), (1, .int 2), (2, .int p2), (3, .int p3)]) hx hb dX5_sheet_71 hl (k := 0) rfl (by decide) (by decide) rfl (fun ls hl => ?_)
            refine lv_goto (tgt := 51) hx hb dX5_sheet_74 (by decide) ?_
            refine lv_iload hx hb dX5_sheet_51 (lv_at hl 0 rfl) ?_
            refine lv_bipush (v := 16) hx hb dX5_sheet_53 (by decide) ?_
            refine lv_icmp_ge (tgt := 77) hx hb dX5_sheet_55 (by decide) (fun h => absurd h (by decide +kernel)) (fun _ => ?_)
            refine lv_aload_n hx hb dX5_sheet_58 rfl (lv_at hl 1 rfl) ?_
            refine va_get (D := g.1) (ci := 5) (v := .ref h21) (C := RX5) (T := TX5) (N := 27) hx hb hts zl_X5 hown hK hP 0 rfl rfl 25 (by decide) (hts _ m_f_RX5_70) (fun _ h => h) rfl dX5_sheet_59 ?_
            refine lv_bipush (v := 16) hx hb dX5_sheet_62 (by decide) ?_
            refine lv_iload_n hx hb dX5_sheet_64 rfl (lv_at hl 2 rfl) ?_
            refine lv_imul hx hb dX5_sheet_65 ?_
            refine lv_topi (nm_r (e' := 32) (by decide +kernel) ?_)
            refine lv_iload hx hb dX5_sheet_66 (lv_at hl 0 rfl) ?_
            refine lv_iadd hx hb dX5_sheet_68 ?_
            refine lv_topi (nm_r (e' := 41) (by decide +kernel) ?_)
            refine lv_lconst (v := 0) hx hb dX5_sheet_69 (by decide) ?_
            refine va_last (D := g.1) hx hb hK hP hD hS 3 1 rfl rfl (vp_in_iff.mpr (by decide +kernel)) dX5_sheet_70 (fun H locs hP hD hS => ?_)
            have hP : va_P g.1 vwCl [(h0, .inr (5, [.ref h1, .int 0, .ref h2, .int 0, .int 0, .ref h3, .ref h4, .ref h5, .ref h6, .int 0, .ref h7, .ref h8, .ref h9, .int 0, .ref h10, .ref h11, .ref h12, .ref h13, .ref h14, .ref h15, .ref h16, .ref h17, .ref h18, .ref h19, .ref h20, .ref h21, .ref h22])), (h19, .inl (zI g, 4, .inl (upd (upd (upd (upd (upd (fun _ => 0) 0 (-1)) 1 (-1)) 2 (-1)) 3 (-1)) 2 p2))), (h20, .inl (zI g, 4, .inl (upd (fun _ => 0) 2 p3))), (h21, .inl (zJ g, 64, .inr (.inl (vp_updL (fun _ => 0) 41 0))))] H := hP
            have hD : va_D A [(h0, .inr (5, [.ref h1, .int 0, .ref h2, .int 0, .int 0, .ref h3, .ref h4, .ref h5, .ref h6, .int 0, .ref h7, .ref h8, .ref h9, .int 0, .ref h10, .ref h11, .ref h12, .ref h13, .ref h14, .ref h15, .ref h16, .ref h17, .ref h18, .ref h19, .ref h20, .ref h21, .ref h22])), (h19, .inl (zI g, 4, .inl (upd (upd (upd (upd (upd (fun _ => 0) 0 (-1)) 1 (-1)) 2 (-1)) 3 (-1)) 2 p2))), (h20, .inl (zI g, 4, .inl (upd (fun _ => 0) 2 p3))), (h21, .inl (zJ g, 64, .inr (.inl (vp_updL (fun _ => 0) 41 0))))] := hD
            rw [zc_setL] at hP hD
            refine lv_iinc (v := 10) (lv' := [(4, .int 10), (0, .ref h0), (1, .int 2), (2, .int p2), (3, .int p3)]) hx hb dX5_sheet_71 hl (k := 0) rfl (by decide) (by decide) rfl (fun ls hl => ?_)
            refine lv_goto (tgt := 51) hx hb dX5_sheet_74 (by decide) ?_
            refine lv_iload hx hb dX5_sheet_51 (lv_at hl 0 rfl) ?_
            refine lv_bipush (v := 16) hx hb dX5_sheet_53 (by decide) ?_
            refine lv_icmp_ge (tgt := 77) hx hb dX5_sheet_55 (by decide) (fun h => absurd h (by decide +kernel)) (fun _ => ?_)
            refine lv_aload_n hx hb dX5_sheet_58 rfl (lv_at hl 1 rfl) ?_
            refine va_get (D := g.1) (ci := 5) (v := .ref h21) (C := RX5) (T := TX5) (N := 27) hx hb hts zl_X5 hown hK hP 0 rfl rfl 25 (by decide) (hts _ m_f_RX5_70) (fun _ h => h) rfl dX5_sheet_59 ?_
            refine lv_bipush (v := 16) hx hb dX5_sheet_62 (by decide) ?_
            refine lv_iload_n hx hb dX5_sheet_64 rfl (lv_at hl 2 rfl) ?_
            refine lv_imul hx hb dX5_sheet_65 ?_
            refine lv_topi (nm_r (e' := 32) (by decide +kernel) ?_)
            refine lv_iload hx hb dX5_sheet_66 (lv_at hl 0 rfl) ?_
            refine lv_iadd hx hb dX5_sheet_68 ?_
            refine lv_topi (nm_r (e' := 42) (by decide +kernel) ?_)
            refine lv_lconst (v := 0) hx hb dX5_sheet_69 (by decide) ?_
            refine va_last (D := g.1) hx hb hK hP hD hS 3 1 rfl rfl (vp_in_iff.mpr (by decide +kernel)) dX5_sheet_70 (fun H locs hP hD hS => ?_)
            have hP : va_P g.1 vwCl [(h0, .inr (5, [.ref h1, .int 0, .ref h2, .int 0, .int 0, .ref h3, .ref h4, .ref h5, .ref h6, .int 0, .ref h7, .ref h8, .ref h9, .int 0, .ref h10, .ref h11, .ref h12, .ref h13, .ref h14, .ref h15, .ref h16, .ref h17, .ref h18, .ref h19, .ref h20, .ref h21, .ref h22])), (h19, .inl (zI g, 4, .inl (upd (upd (upd (upd (upd (fun _ => 0) 0 (-1)) 1 (-1)) 2 (-1)) 3 (-1)) 2 p2))), (h20, .inl (zI g, 4, .inl (upd (fun _ => 0) 2 p3))), (h21, .inl (zJ g, 64, .inr (.inl (vp_updL (fun _ => 0) 42 0))))] H := hP
            have hD : va_D A [(h0, .inr (5, [.ref h1, .int 0, .ref h2, .int 0, .int 0, .ref h3, .ref h4, .ref h5, .ref h6, .int 0, .ref h7, .ref h8, .ref h9, .int 0, .ref h10, .ref h11, .ref h12, .ref h13, .ref h14, .ref h15, .ref h16, .ref h17, .ref h18, .ref h19, .ref h20, .ref h21, .ref h22])), (h19, .inl (zI g, 4, .inl (upd (upd (upd (upd (upd (fun _ => 0) 0 (-1)) 1 (-1)) 2 (-1)) 3 (-1)) 2 p2))), (h20, .inl (zI g, 4, .inl (upd (fun _ => 0) 2 p3))), (h21, .inl (zJ g, 64, .inr (.inl (vp_updL (fun _ => 0) 42 0))))] := hD
            rw [zc_setL] at hP hD
            refine lv_iinc (v := 11) (lv' := [(4, .int 11), (0, .ref h0), (1, .int 2), (2, .int p2), (3, .int p3)]) hx hb dX5_sheet_71 hl (k := 0) rfl (by decide) (by decide) rfl (fun ls hl => ?_)
            refine lv_goto (tgt := 51) hx hb dX5_sheet_74 (by decide) ?_
            refine lv_iload hx hb dX5_sheet_51 (lv_at hl 0 rfl) ?_
            refine lv_bipush (v := 16) hx hb dX5_sheet_53 (by decide) ?_
            refine lv_icmp_ge (tgt := 77) hx hb dX5_sheet_55 (by decide) (fun h => absurd h (by decide +kernel)) (fun _ => ?_)
            refine lv_aload_n hx hb dX5_sheet_58 rfl (lv_at hl 1 rfl) ?_
            refine va_get (D := g.1) (ci := 5) (v := .ref h21) (C := RX5) (T := TX5) (N := 27) hx hb hts zl_X5 hown hK hP 0 rfl rfl 25 (by decide) (hts _ m_f_RX5_70) (fun _ h => h) rfl dX5_sheet_59 ?_
            refine lv_bipush (v := 16) hx hb dX5_sheet_62 (by decide) ?_
            refine lv_iload_n hx hb dX5_sheet_64 rfl (lv_at hl 2 rfl) ?_
            refine lv_imul hx hb dX5_sheet_65 ?_
            refine lv_topi (nm_r (e' := 32) (by decide +kernel) ?_)
            refine lv_iload hx hb dX5_sheet_66 (lv_at hl 0 rfl) ?_
            refine lv_iadd hx hb dX5_sheet_68 ?_
            refine lv_topi (nm_r (e' := 43) (by decide +kernel) ?_)
            refine lv_lconst (v := 0) hx hb dX5_sheet_69 (by decide) ?_
            refine va_last (D := g.1) hx hb hK hP hD hS 3 1 rfl rfl (vp_in_iff.mpr (by decide +kernel)) dX5_sheet_70 (fun H locs hP hD hS => ?_)
            have hP : va_P g.1 vwCl [(h0, .inr (5, [.ref h1, .int 0, .ref h2, .int 0, .int 0, .ref h3, .ref h4, .ref h5, .ref h6, .int 0, .ref h7, .ref h8, .ref h9, .int 0, .ref h10, .ref h11, .ref h12, .ref h13, .ref h14, .ref h15, .ref h16, .ref h17, .ref h18, .ref h19, .ref h20, .ref h21, .ref h22])), (h19, .inl (zI g, 4, .inl (upd (upd (upd (upd (upd (fun _ => 0) 0 (-1)) 1 (-1)) 2 (-1)) 3 (-1)) 2 p2))), (h20, .inl (zI g, 4, .inl (upd (fun _ => 0) 2 p3))), (h21, .inl (zJ g, 64, .inr (.inl (vp_updL (fun _ => 0) 43 0))))] H := hP
            have hD : va_D A [(h0, .inr (5, [.ref h1, .int 0, .ref h2, .int 0, .int 0, .ref h3, .ref h4, .ref h5, .ref h6, .int 0, .ref h7, .ref h8, .ref h9, .int 0, .ref h10, .ref h11, .ref h12, .ref h13, .ref h14, .ref h15, .ref h16, .ref h17, .ref h18, .ref h19, .ref h20, .ref h21, .ref h22])), (h19, .inl (zI g, 4, .inl (upd (upd (upd (upd (upd (fun _ => 0) 0 (-1)) 1 (-1)) 2 (-1)) 3 (-1)) 2 p2))), (h20, .inl (zI g, 4, .inl (upd (fun _ => 0) 2 p3))), (h21, .inl (zJ g, 64, .inr (.inl (vp_updL (fun _ => 0) 43 0))))] := hD
            rw [zc_setL] at hP hD
            refine lv_iinc (v := 12) (lv' := [(4, .int 12), (0, .ref h0), (1, .int 2), (2, .int p2), (3, .int p3)]) hx hb dX5_sheet_71 hl (k := 0) rfl (by decide) (by decide) rfl (fun ls hl => ?_)
            refine lv_goto (tgt := 51) hx hb dX5_sheet_74 (by decide) ?_
            refine lv_iload hx hb dX5_sheet_51 (lv_at hl 0 rfl) ?_
            refine lv_bipush (v := 16) hx hb dX5_sheet_53 (by decide) ?_
            refine lv_icmp_ge (tgt := 77) hx hb dX5_sheet_55 (by decide) (fun h => absurd h (by decide +kernel)) (fun _ => ?_)
            refine lv_aload_n hx hb dX5_sheet_58 rfl (lv_at hl 1 rfl) ?_
            refine va_get (D := g.1) (ci := 5) (v := .ref h21) (C := RX5) (T := TX5) (N := 27) hx hb hts zl_X5 hown hK hP 0 rfl rfl 25 (by decide) (hts _ m_f_RX5_70) (fun _ h => h) rfl dX5_sheet_59 ?_
            refine lv_bipush (v := 16) hx hb dX5_sheet_62 (by decide) ?_
            refine lv_iload_n hx hb dX5_sheet_64 rfl (lv_at hl 2 rfl) ?_
            refine lv_imul hx hb dX5_sheet_65 ?_
            refine lv_topi (nm_r (e' := 32) (by decide +kernel) ?_)
            refine lv_iload hx hb dX5_sheet_66 (lv_at hl 0 rfl) ?_
            refine lv_iadd hx hb dX5_sheet_68 ?_
            refine lv_topi (nm_r (e' := 44) (by decide +kernel) ?_)
            refine lv_lconst (v := 0) hx hb dX5_sheet_69 (by decide) ?_
            refine va_last (D := g.1) hx hb hK hP hD hS 3 1 rfl rfl (vp_in_iff.mpr (by decide +kernel)) dX5_sheet_70 (fun H locs hP hD hS => ?_)
            have hP : va_P g.1 vwCl [(h0, .inr (5, [.ref h1, .int 0, .ref h2, .int 0, .int 0, .ref h3, .ref h4, .ref h5, .ref h6, .int 0, .ref h7, .ref h8, .ref h9, .int 0, .ref h10, .ref h11, .ref h12, .ref h13, .ref h14, .ref h15, .ref h16, .ref h17, .ref h18, .ref h19, .ref h20, .ref h21, .ref h22])), (h19, .inl (zI g, 4, .inl (upd (upd (upd (upd (upd (fun _ => 0) 0 (-1)) 1 (-1)) 2 (-1)) 3 (-1)) 2 p2))), (h20, .inl (zI g, 4, .inl (upd (fun _ => 0) 2 p3))), (h21, .inl (zJ g, 64, .inr (.inl (vp_updL (fun _ => 0) 44 0))))] H := hP
            have hD : va_D A [(h0, .inr (5, [.ref h1, .int 0, .ref h2, .int 0, .int 0, .ref h3, .ref h4, .ref h5, .ref h6, .int 0, .ref h7, .ref h8, .ref h9, .int 0, .ref h10, .ref h11, .ref h12, .ref h13, .ref h14, .ref h15, .ref h16, .ref h17, .ref h18, .ref h19, .ref h20, .ref h21, .ref h22])), (h19, .inl (zI g, 4, .inl (upd (upd (upd (upd (upd (fun _ => 0) 0 (-1)) 1 (-1)) 2 (-1)) 3 (-1)) 2 p2))), (h20, .inl (zI g, 4, .inl (upd (fun _ => 0) 2 p3))), (h21, .inl (zJ g, 64, .inr (.inl (vp_updL (fun _ => 0) 44 0))))] := hD
            rw [zc_setL] at hP hD
            refine lv_iinc (v := 13) (lv' := [(4, .int 13), (0, .ref h0), (1, .int 2), (2, .int p2), (3, .int p3)]) hx hb dX5_sheet_71 hl (k := 0) rfl (by decide) (by decide) rfl (fun ls hl => ?_)
            refine lv_goto (tgt := 51) hx hb dX5_sheet_74 (by decide) ?_
            refine lv_iload hx hb dX5_sheet_51 (lv_at hl 0 rfl) ?_
            refine lv_bipush (v := 16) hx hb dX5_sheet_53 (by decide) ?_
            refine lv_icmp_ge (tgt := 77) hx hb dX5_sheet_55 (by decide) (fun h => absurd h (by decide +kernel)) (fun _ => ?_)
            refine lv_aload_n hx hb dX5_sheet_58 rfl (lv_at hl 1 rfl) ?_
            refine va_get (D := g.1) (ci := 5) (v := .ref h21) (C := RX5) (T := TX5) (N := 27) hx hb hts zl_X5 hown hK hP 0 rfl rfl 25 (by decide) (hts _ m_f_RX5_70) (fun _ h => h) rfl dX5_sheet_59 ?_
            refine lv_bipush (v := 16) hx hb dX5_sheet_62 (by decide) ?_
            refine lv_iload_n hx hb dX5_sheet_64 rfl (lv_at hl 2 rfl) ?_
            refine lv_imul hx hb dX5_sheet_65 ?_
            refine lv_topi (nm_r (e' := 32) (by decide +kernel) ?_)
            refine lv_iload hx hb dX5_sheet_66 (lv_at hl 0 rfl) ?_
            refine lv_iadd hx hb dX5_sheet_68 ?_
            refine lv_topi (nm_r (e' := 45) (by decide +kernel) ?_)
            refine lv_lconst (v := 0) hx hb dX5_sheet_69 (by decide) ?_
            refine va_last (D := g.1) hx hb hK hP hD hS 3 1 rfl rfl (vp_in_iff.mpr (by decide +kernel)) dX5_sheet_70 (fun H locs hP hD hS => ?_)
            have hP : va_P g.1 vwCl [(h0, .inr (5, [.ref h1, .int 0, .ref h2, .int 0, .int 0, .ref h3, .ref h4, .ref h5, .ref h6, .int 0, .ref h7, .ref h8, .ref h9, .int 0, .ref h10, .ref h11, .ref h12, .ref h13, .ref h14, .ref h15, .ref h16, .ref h17, .ref h18, .ref h19, .ref h20, .ref h21, .ref h22])), (h19, .inl (zI g, 4, .inl (upd (upd (upd (upd (upd (fun _ => 0) 0 (-1)) 1 (-1)) 2 (-1)) 3 (-1)) 2 p2))), (h20, .inl (zI g, 4, .inl (upd (fun _ => 0) 2 p3))), (h21, .inl (zJ g, 64, .inr (.inl (vp_updL (fun _ => 0) 45 0))))] H := hP
            have hD : va_D A [(h0, .inr (5, [.ref h1, .int 0, .ref h2, .int 0, .int 0, .ref h3, .ref h4, .ref h5, .ref h6, .int 0, .ref h7, .ref h8, .ref h9, .int 0, .ref h10, .ref h11, .ref h12, .ref h13, .ref h14, .ref h15, .ref h16, .ref h17, .ref h18, .ref h19, .ref h20, .ref h21, .ref h22])), (h19, .inl (zI g, 4, .inl (upd (upd (upd (upd (upd (fun _ => 0) 0 (-1)) 1 (-1)) 2 (-1)) 3 (-1)) 2 p2))), (h20, .inl (zI g, 4, .inl (upd (fun _ => 0) 2 p3))), (h21, .inl (zJ g, 64, .inr (.inl (vp_updL (fun _ => 0) 45 0))))] := hD
            rw [zc_setL] at hP hD
            refine lv_iinc (v := 14) (lv' := [(4, .int 14), (0, .ref h0), (1, .int 2), (2, .int p2), (3, .int p3)]) hx hb dX5_sheet_71 hl (k := 0) rfl (by decide) (by decide) rfl (fun ls hl => ?_)
            refine lv_goto (tgt := 51) hx hb dX5_sheet_74 (by decide) ?_
            refine lv_iload hx hb dX5_sheet_51 (lv_at hl 0 rfl) ?_
            refine lv_bipush (v := 16) hx hb dX5_sheet_53 (by decide) ?_
            refine lv_icmp_ge (tgt := 77) hx hb dX5_sheet_55 (by decide) (fun h => absurd h (by decide +kernel)) (fun _ => ?_)
            refine lv_aload_n hx hb dX5_sheet_58 rfl (lv_at hl 1 rfl) ?_
            refine va_get (D := g.1) (ci := 5) (v := .ref h21) (C := RX5) (T := TX5) (N := 27) hx hb hts zl_X5 hown hK hP 0 rfl rfl 25 (by decide) (hts _ m_f_RX5_70) (fun _ h => h) rfl dX5_sheet_59 ?_
            refine lv_bipush (v := 16) hx hb dX5_sheet_62 (by decide) ?_
            refine lv_iload_n hx hb dX5_sheet_64 rfl (lv_at hl 2 rfl) ?_
            refine lv_imul hx hb dX5_sheet_65 ?_
            refine lv_topi (nm_r (e' := 32) (by decide +kernel) ?_)
            refine lv_iload hx hb dX5_sheet_66 (lv_at hl 0 rfl) ?_
            refine lv_iadd hx hb dX5_sheet_68 ?_
            refine lv_topi (nm_r (e' := 46) (by decide +kernel) ?_)
            refine lv_lconst (v := 0) hx hb dX5_sheet_69 (by decide) ?_
            refine va_last (D := g.1) hx hb hK hP hD hS 3 1 rfl rfl (vp_in_iff.mpr (by decide +kernel)) dX5_sheet_70 (fun H locs hP hD hS => ?_)
            have hP : va_P g.1 vwCl [(h0, .inr (5, [.ref h1, .int 0, .ref h2, .int 0, .int 0, .ref h3, .ref h4, .ref h5, .ref h6, .int 0, .ref h7, .ref h8, .ref h9, .int 0, .ref h10, .ref h11, .ref h12, .ref h13, .ref h14, .ref h15, .ref h16, .ref h17, .ref h18, .ref h19, .ref h20, .ref h21, .ref h22])), (h19, .inl (zI g, 4, .inl (upd (upd (upd (upd (upd (fun _ => 0) 0 (-1)) 1 (-1)) 2 (-1)) 3 (-1)) 2 p2))), (h20, .inl (zI g, 4, .inl (upd (fun _ => 0) 2 p3))), (h21, .inl (zJ g, 64, .inr (.inl (vp_updL (fun _ => 0) 46 0))))] H := hP
            have hD : va_D A [(h0, .inr (5, [.ref h1, .int 0, .ref h2, .int 0, .int 0, .ref h3, .ref h4, .ref h5, .ref h6, .int 0, .ref h7, .ref h8, .ref h9, .int 0, .ref h10, .ref h11, .ref h12, .ref h13, .ref h14, .ref h15, .ref h16, .ref h17, .ref h18, .ref h19, .ref h20, .ref h21, .ref h22])), (h19, .inl (zI g, 4, .inl (upd (upd (upd (upd (upd (fun _ => 0) 0 (-1)) 1 (-1)) 2 (-1)) 3 (-1)) 2 p2))), (h20, .inl (zI g, 4, .inl (upd (fun _ => 0) 2 p3))), (h21, .inl (zJ g, 64, .inr (.inl (vp_updL (fun _ => 0) 46 0))))] := hD
            rw [zc_setL] at hP hD
            refine lv_iinc (v := 15) (lv' := [(4, .int 15), (0, .ref h0), (1, .int 2), (2, .int p2), (3, .int p3)]) hx hb dX5_sheet_71 hl (k := 0) rfl (by decide) (by decide) rfl (fun ls hl => ?_)
            refine lv_goto (tgt := 51) hx hb dX5_sheet_74 (by decide) ?_
            refine lv_iload hx hb dX5_sheet_51 (lv_at hl 0 rfl) ?_
            refine lv_bipush (v := 16) hx hb dX5_sheet_53 (by decide) ?_
            refine lv_icmp_ge (tgt := 77) hx hb dX5_sheet_55 (by decide) (fun h => absurd h (by decide +kernel)) (fun _ => ?_)
            refine lv_aload_n hx hb dX5_sheet_58 rfl (lv_at hl 1 rfl) ?_
            refine va_get (D := g.1) (ci := 5) (v := .ref h21) (C := RX5) (T := TX5) (N := 27) hx hb hts zl_X5 hown hK hP 0 rfl rfl 25 (by decide) (hts _ m_f_RX5_70) (fun _ h => h) rfl dX5_sheet_59 ?_
            refine lv_bipush (v := 16) hx hb dX5_sheet_62 (by decide) ?_
            refine lv_iload_n hx hb dX5_sheet_64 rfl (lv_at hl 2 rfl) ?_
            refine lv_imul hx hb dX5_sheet_65 ?_
            refine lv_topi (nm_r (e' := 32) (by decide +kernel) ?_)
            refine lv_iload hx hb dX5_sheet_66 (lv_at hl 0 rfl) ?_
            refine lv_iadd hx hb dX5_sheet_68 ?_
            refine lv_topi (nm_r (e' := 47) (by decide +kernel) ?_)
            refine lv_lconst (v := 0) hx hb dX5_sheet_69 (by decide) ?_
            refine va_last (D := g.1) hx hb hK hP hD hS 3 1 rfl rfl (vp_in_iff.mpr (by decide +kernel)) dX5_sheet_70 (fun H locs hP hD hS => ?_)
            have hP : va_P g.1 vwCl [(h0, .inr (5, [.ref h1, .int 0, .ref h2, .int 0, .int 0, .ref h3, .ref h4, .ref h5, .ref h6, .int 0, .ref h7, .ref h8, .ref h9, .int 0, .ref h10, .ref h11, .ref h12, .ref h13, .ref h14, .ref h15, .ref h16, .ref h17, .ref h18, .ref h19, .ref h20, .ref h21, .ref h22])), (h19, .inl (zI g, 4, .inl (upd (upd (upd (upd (upd (fun _ => 0) 0 (-1)) 1 (-1)) 2 (-1)) 3 (-1)) 2 p2))), (h20, .inl (zI g, 4, .inl (upd (fun _ => 0) 2 p3))), (h21, .inl (zJ g, 64, .inr (.inl (vp_updL (fun _ => 0) 47 0))))] H := hP
            have hD : va_D A [(h0, .inr (5, [.ref h1, .int 0, .ref h2, .int 0, .int 0, .ref h3, .ref h4, .ref h5, .ref h6, .int 0, .ref h7, .ref h8, .ref h9, .int 0, .ref h10, .ref h11, .ref h12, .ref h13, .ref h14, .ref h15, .ref h16, .ref h17, .ref h18, .ref h19, .ref h20, .ref h21, .ref h22])), (h19, .inl (zI g, 4, .inl (upd (upd (upd (upd (upd (fun _ => 0) 0 (-1)) 1 (-1)) 2 (-1)) 3 (-1)) 2 p2))), (h20, .inl (zI g, 4, .inl (upd (fun _ => 0) 2 p3))), (h21, .inl (zJ g, 64, .inr (.inl (vp_updL (fun _ => 0) 47 0))))] := hD
            rw [zc_setL] at hP hD
            refine lv_iinc (v := 16) (lv' := [(4, .int 16), (0, .ref h0), (1, .int 2), (2, .int p2), (3, .int p3)]) hx hb dX5_sheet_71 hl (k := 0) rfl (by decide) (by decide) rfl (fun ls hl => ?_)
            refine lv_goto (tgt := 51) hx hb dX5_sheet_74 (by decide) ?_
            refine lv_iload hx hb dX5_sheet_51 (lv_at hl 0 rfl) ?_
            refine lv_bipush (v := 16) hx hb dX5_sheet_53 (by decide) ?_
            refine lv_icmp_ge (tgt := 77) hx hb dX5_sheet_55 (by decide) (fun _ => ?_) (fun h => absurd h (by decide +kernel))
            refine lv_iload_n hx hb dX5_sheet_77 rfl (lv_at hl 4 rfl) ?_
            have hP9 := hP.sub (ws' := []) [] rfl
            have hD9 := hD.sub (ws' := []) [] (by decide) rfl
            exact W.iret (v := p3) hx hb hr (fun t ht hW => ⟨⟨p3, 0, rfl, Or.inr (Or.inr (Or.inr (Or.inr (Or.inr (Or.inr (Or.inl ⟨i_3, i_4, i_8, i_9, i_10, i_11, j_12, rfl⟩)))))), by rw [ht]; exact hP9, hD9⟩, hS.F ht⟩) hS.2.2 dX5_sheet_78
          · obtain rfl : p1 = 3 := Int32.toInt_inj.mp (show p1.toInt = (3 : Int32).toInt from j_12.trans rfl)
            refine va_iast (D := g.1) hx hb hK hP hD hS 1 0 rfl rfl (vp_in_iff.mpr (by decide +kernel)) dX5_sheet_40 (fun H locs hP hD hS => ?_)
            have hP : va_P g.1 vwCl [(h0, .inr (5, [.ref h1, .int 0, .ref h2, .int 0, .int 0, .ref h3, .ref h4, .ref h5, .ref h6, .int 0, .ref h7, .ref h8, .ref h9, .int 0, .ref h10, .ref h11, .ref h12, .ref h13, .ref h14, .ref h15, .ref h16, .ref h17, .ref h18, .ref h19, .ref h20, .ref h21, .ref h22])), (h19, .inl (zI g, 4, .inl (upd (upd (upd (upd (upd (fun _ => 0) 0 (-1)) 1 (-1)) 2 (-1)) 3 (-1)) 3 p2))), (h20, .inl (zI g, 4, .inl (fun _ => 0))), (h21, .inl (zJ g, 64, .inr (.inl (fun _ => 0))))] H := hP
            have hD : va_D A [(h0, .inr (5, [.ref h1, .int 0, .ref h2, .int 0, .int 0, .ref h3, .ref h4, .ref h5, .ref h6, .int 0, .ref h7, .ref h8, .ref h9, .int 0, .ref h10, .ref h11, .ref h12, .ref h13, .ref h14, .ref h15, .ref h16, .ref h17, .ref h18, .ref h19, .ref h20, .ref h21, .ref h22])), (h19, .inl (zI g, 4, .inl (upd (upd (upd (upd (upd (fun _ => 0) 0 (-1)) 1 (-1)) 2 (-1)) 3 (-1)) 3 p2))), (h20, .inl (zI g, 4, .inl (fun _ => 0))), (h21, .inl (zJ g, 64, .inr (.inl (fun _ => 0))))] := hD
            refine lv_aload_n hx hb dX5_sheet_41 rfl (lv_at hl 0 rfl) ?_
            refine va_get (D := g.1) (ci := 5) (v := .ref h20) (C := RX5) (T := TX5) (N := 27) hx hb hts zl_X5 hown hK hP 0 rfl rfl 24 (by decide) (hts _ m_f_RX5_67) (fun _ h => h) rfl dX5_sheet_42 ?_
            refine lv_iload_n hx hb dX5_sheet_45 rfl (lv_at hl 1 rfl) ?_
            refine lv_iload_n hx hb dX5_sheet_46 rfl (lv_at hl 3 rfl) ?_
            refine va_iast (D := g.1) hx hb hK hP hD hS 2 0 rfl rfl (vp_in_iff.mpr (by decide +kernel)) dX5_sheet_47 (fun H locs hP hD hS => ?_)
            have hP : va_P g.1 vwCl [(h0, .inr (5, [.ref h1, .int 0, .ref h2, .int 0, .int 0, .ref h3, .ref h4, .ref h5, .ref h6, .int 0, .ref h7, .ref h8, .ref h9, .int 0, .ref h10, .ref h11, .ref h12, .ref h13, .ref h14, .ref h15, .ref h16, .ref h17, .ref h18, .ref h19, .ref h20, .ref h21, .ref h22])), (h19, .inl (zI g, 4, .inl (upd (upd (upd (upd (upd (fun _ => 0) 0 (-1)) 1 (-1)) 2 (-1)) 3 (-1)) 3 p2))), (h20, .inl (zI g, 4, .inl (upd (fun _ => 0) 3 p3))), (h21, .inl (zJ g, 64, .inr (.inl (fun _ => 0))))] H := hP
            have hD : va_D A [(h0, .inr (5, [.ref h1, .int 0, .ref h2, .int 0, .int 0, .ref h3, .ref h4, .ref h5, .ref h6, .int 0, .ref h7, .ref h8, .ref h9, .int 0, .ref h10, .ref h11, .ref h12, .ref h13, .ref h14, .ref h15, .ref h16, .ref h17, .ref h18, .ref h19, .ref h20, .ref h21, .ref h22])), (h19, .inl (zI g, 4, .inl (upd (upd (upd (upd (upd (fun _ => 0) 0 (-1)) 1 (-1)) 2 (-1)) 3 (-1)) 3 p2))), (h20, .inl (zI g, 4, .inl (upd (fun _ => 0) 3 p3))), (h21, .inl (zJ g, 64, .inr (.inl (fun _ => 0))))] := hD
            refine lv_iconst (v := 0) hx hb dX5_sheet_48 (by decide) ?_
            refine lv_istore (lv' := [(4, .int 0), (0, .ref h0), (1, .int 3), (2, .int p2), (3, .int p3)]) hx hb dX5_sheet_49 hl (by decide) rfl (fun ls hl => ?_)
            refine lv_iload hx hb dX5_sheet_51 (lv_at hl 0 rfl) ?_
            refine lv_bipush (v := 16) hx hb dX5_sheet_53 (by decide) ?_
            refine lv_icmp_ge (tgt := 77) hx hb dX5_sheet_55 (by decide) (fun h => absurd h (by decide +kernel)) (fun _ => ?_)
            refine lv_aload_n hx hb dX5_sheet_58 rfl (lv_at hl 1 rfl) ?_
            refine va_get (D := g.1) (ci := 5) (v := .ref h21) (C := RX5) (T := TX5) (N := 27) hx hb hts zl_X5 hown hK hP 0 rfl rfl 25 (by decide) (hts _ m_f_RX5_70) (fun _ h => h) rfl dX5_sheet_59 ?_
            refine lv_bipush (v := 16) hx hb dX5_sheet_62 (by decide) ?_
            refine lv_iload_n hx hb dX5_sheet_64 rfl (lv_at hl 2 rfl) ?_
            refine lv_imul hx hb dX5_sheet_65 ?_
            refine lv_topi (nm_r (e' := 48) (by decide +kernel) ?_)
            refine lv_iload hx hb dX5_sheet_66 (lv_at hl 0 rfl) ?_
            refine lv_iadd hx hb dX5_sheet_68 ?_
            refine lv_topi (nm_r (e' := 48) (by decide +kernel) ?_)
            refine lv_lconst (v := 0) hx hb dX5_sheet_69 (by decide) ?_
            refine va_last (D := g.1) hx hb hK hP hD hS 3 1 rfl rfl (vp_in_iff.mpr (by decide +kernel)) dX5_sheet_70 (fun H locs hP hD hS => ?_)
            have hP : va_P g.1 vwCl [(h0, .inr (5, [.ref h1, .int 0, .ref h2, .int 0, .int 0, .ref h3, .ref h4, .ref h5, .ref h6, .int 0, .ref h7, .ref h8, .ref h9, .int 0, .ref h10, .ref h11, .ref h12, .ref h13, .ref h14, .ref h15, .ref h16, .ref h17, .ref h18, .ref h19, .ref h20, .ref h21, .ref h22])), (h19, .inl (zI g, 4, .inl (upd (upd (upd (upd (upd (fun _ => 0) 0 (-1)) 1 (-1)) 2 (-1)) 3 (-1)) 3 p2))), (h20, .inl (zI g, 4, .inl (upd (fun _ => 0) 3 p3))), (h21, .inl (zJ g, 64, .inr (.inl (vp_updL (fun _ => 0) 48 0))))] H := hP
            have hD : va_D A [(h0, .inr (5, [.ref h1, .int 0, .ref h2, .int 0, .int 0, .ref h3, .ref h4, .ref h5, .ref h6, .int 0, .ref h7, .ref h8, .ref h9, .int 0, .ref h10, .ref h11, .ref h12, .ref h13, .ref h14, .ref h15, .ref h16, .ref h17, .ref h18, .ref h19, .ref h20, .ref h21, .ref h22])), (h19, .inl (zI g, 4, .inl (upd (upd (upd (upd (upd (fun _ => 0) 0 (-1)) 1 (-1)) 2 (-1)) 3 (-1)) 3 p2))), (h20, .inl (zI g, 4, .inl (upd (fun _ => 0) 3 p3))), (h21, .inl (zJ g, 64, .inr (.inl (vp_updL (fun _ => 0) 48 0))))] := hD
            rw [zc_setL] at hP hD
            refine lv_iinc (v := 1) (lv' := [(4, .int 1), (0, .ref h0), (1, .int 3), (2, .int p2), (3, .int p3)]) hx hb dX5_sheet_71 hl (k := 0) rfl (by decide) (by decide) rfl (fun ls hl => ?_)
            refine lv_goto (tgt := 51) hx hb dX5_sheet_74 (by decide) ?_
            refine lv_iload hx hb dX5_sheet_51 (lv_at hl 0 rfl) ?_
            refine lv_bipush (v := 16) hx hb dX5_sheet_53 (by decide) ?_
            refine lv_icmp_ge (tgt := 77) hx hb dX5_sheet_55 (by decide) (fun h => absurd h (by decide +kernel)) (fun _ => ?_)
            refine lv_aload_n hx hb dX5_sheet_58 rfl (lv_at hl 1 rfl) ?_
            refine va_get (D := g.1) (ci := 5) (v := .ref h21) (C := RX5) (T := TX5) (N := 27) hx hb hts zl_X5 hown hK hP 0 rfl rfl 25 (by decide) (hts _ m_f_RX5_70) (fun _ h => h) rfl dX5_sheet_59 ?_
            refine lv_bipush (v := 16) hx hb dX5_sheet_62 (by decide) ?_
            refine lv_iload_n hx hb dX5_sheet_64 rfl (lv_at hl 2 rfl) ?_
            refine lv_imul hx hb dX5_sheet_65 ?_
            refine lv_topi (nm_r (e' := 48) (by decide +kernel) ?_)
            refine lv_iload hx hb dX5_sheet_66 (lv_at hl 0 rfl) ?_
            refine lv_iadd hx hb dX5_sheet_68 ?_
            refine lv_topi (nm_r (e' := 49) (by decide +kernel) ?_)
            refine lv_lconst (v := 0) hx hb dX5_sheet_69 (by decide) ?_
            refine va_last (D := g.1) hx hb hK hP hD hS 3 1 rfl rfl (vp_in_iff.mpr (by decide +kernel)) dX5_sheet_70 (fun H locs hP hD hS => ?_)
            have hP : va_P g.1 vwCl [(h0, .inr (5, [.ref h1, .int 0, .ref h2, .int 0, .int 0, .ref h3, .ref h4, .ref h5, .ref h6, .int 0, .ref h7, .ref h8, .ref h9, .int 0, .ref h10, .ref h11, .ref h12, .ref h13, .ref h14, .ref h15, .ref h16, .ref h17, .ref h18, .ref h19, .ref h20, .ref h21, .ref h22])), (h19, .inl (zI g, 4, .inl (upd (upd (upd (upd (upd (fun _ => 0) 0 (-1)) 1 (-1)) 2 (-1)) 3 (-1)) 3 p2))), (h20, .inl (zI g, 4, .inl (upd (fun _ => 0) 3 p3))), (h21, .inl (zJ g, 64, .inr (.inl (vp_updL (fun _ => 0) 49 0))))] H := hP
            have hD : va_D A [(h0, .inr (5, [.ref h1, .int 0, .ref h2, .int 0, .int 0, .ref h3, .ref h4, .ref h5, .ref h6, .int 0, .ref h7, .ref h8, .ref h9, .int 0, .ref h10, .ref h11, .ref h12, .ref h13, .ref h14, .ref h15, .ref h16, .ref h17, .ref h18, .ref h19, .ref h20, .ref h21, .ref h22])), (h19, .inl (zI g, 4, .inl (upd (upd (upd (upd (upd (fun _ => 0) 0 (-1)) 1 (-1)) 2 (-1)) 3 (-1)) 3 p2))), (h20, .inl (zI g, 4, .inl (upd (fun _ => 0) 3 p3))), (h21, .inl (zJ g, 64, .inr (.inl (vp_updL (fun _ => 0) 49 0))))] := hD
            rw [zc_setL] at hP hD
            refine lv_iinc (v := 2) (lv' := [(4, .int 2), (0, .ref h0), (1, .int 3), (2, .int p2), (3, .int p3)]) hx hb dX5_sheet_71 hl (k := 0) rfl (by decide) (by decide) rfl (fun ls hl => ?_)
            refine lv_goto (tgt := 51) hx hb dX5_sheet_74 (by decide) ?_
            refine lv_iload hx hb dX5_sheet_51 (lv_at hl 0 rfl) ?_
            refine lv_bipush (v := 16) hx hb dX5_sheet_53 (by decide) ?_
            refine lv_icmp_ge (tgt := 77) hx hb dX5_sheet_55 (by decide) (fun h => absurd h (by decide +kernel)) (fun _ => ?_)
            refine lv_aload_n hx hb dX5_sheet_58 rfl (lv_at hl 1 rfl) ?_
            refine va_get (D := g.1) (ci := 5) (v := .ref h21) (C := RX5) (T := TX5) (N := 27) hx hb hts zl_X5 hown hK hP 0 rfl rfl 25 (by decide) (hts _ m_f_RX5_70) (fun _ h => h) rfl dX5_sheet_59 ?_
            refine lv_bipush (v := 16) hx hb dX5_sheet_62 (by decide) ?_
            refine lv_iload_n hx hb dX5_sheet_64 rfl (lv_at hl 2 rfl) ?_
            refine lv_imul hx hb dX5_sheet_65 ?_
            refine lv_topi (nm_r (e' := 48) (by decide +kernel) ?_)
            refine lv_iload hx hb dX5_sheet_66 (lv_at hl 0 rfl) ?_
            refine lv_iadd hx hb dX5_sheet_68 ?_
            refine lv_topi (nm_r (e' := 50) (by decide +kernel) ?_)
            refine lv_lconst (v := 0) hx hb dX5_sheet_69 (by decide) ?_
            refine va_last (D := g.1) hx hb hK hP hD hS 3 1 rfl rfl (vp_in_iff.mpr (by decide +kernel)) dX5_sheet_70 (fun H locs hP hD hS => ?_)
            have hP : va_P g.1 vwCl [(h0, .inr (5, [.ref h1, .int 0, .ref h2, .int 0, .int 0, .ref h3, .ref h4, .ref h5, .ref h6, .int 0, .ref h7, .ref h8, .ref h9, .int 0, .ref h10, .ref h11, .ref h12, .ref h13, .ref h14, .ref h15, .ref h16, .ref h17, .ref h18, .ref h19, .ref h20, .ref h21, .ref h22])), (h19, .inl (zI g, 4, .inl (upd (upd (upd (upd (upd (fun _ => 0) 0 (-1)) 1 (-1)) 2 (-1)) 3 (-1)) 3 p2))), (h20, .inl (zI g, 4, .inl (upd (fun _ => 0) 3 p3))), (h21, .inl (zJ g, 64, .inr (.inl (vp_updL (fun _ => 0) 50 0))))] H := hP
            have hD : va_D A [(h0, .inr (5, [.ref h1, .int 0, .ref h2, .int 0, .int 0, .ref h3, .ref h4, .ref h5, .ref h6, .int 0, .ref h7, .ref h8, .ref h9, .int 0, .ref h10, .ref h11, .ref h12, .ref h13, .ref h14, .ref h15, .ref h16, .ref h17, .ref h18, .ref h19, .ref h20, .ref h21, .ref h22])), (h19, .inl (zI g, 4, .inl (upd (upd (upd (upd (upd (fun _ => 0) 0 (-1)) 1 (-1)) 2 (-1)) 3 (-1)) 3 p2))), (h20, .inl (zI g, 4, .inl (upd (fun _ => 0) 3 p3))), (h21, .inl (zJ g, 64, .inr (.inl (vp_updL (fun _ => 0) 50 0))))] := hD
            rw [zc_setL] at hP hD
            refine lv_iinc (v := 3) (lv' := [(4, .int 3), (0, .ref h0), (1, .int 3), (2, .int p2), (3, .int p3)]) hx hb dX5_sheet_71 hl (k := 0) rfl (by decide) (by decide) rfl (fun ls hl => ?_)
            refine lv_goto (tgt := 51) hx hb dX5_sheet_74 (by decide) ?_
            refine lv_iload hx hb dX5_sheet_51 (lv_at hl 0 rfl) ?_
            refine lv_bipush (v := 16) hx hb dX5_sheet_53 (by decide) ?_
            refine lv_icmp_ge (tgt := 77) hx hb dX5_sheet_55 (by decide) (fun h => absurd h (by decide +kernel)) (fun _ => ?_)
            refine lv_aload_n hx hb dX5_sheet_58 rfl (lv_at hl 1 rfl) ?_
            refine va_get (D := g.1) (ci := 5) (v := .ref h21) (C := RX5) (T := TX5) (N := 27) hx hb hts zl_X5 hown hK hP 0 rfl rfl 25 (by decide) (hts _ m_f_RX5_70) (fun _ h => h) rfl dX5_sheet_59 ?_
            refine lv_bipush (v := 16) hx hb dX5_sheet_62 (by decide) ?_
            refine lv_iload_n hx hb dX5_sheet_64 rfl (lv_at hl 2 rfl) ?_
            refine lv_imul hx hb dX5_sheet_65 ?_
            refine lv_topi (nm_r (e' := 48) (by decide +kernel) ?_)
            refine lv_iload hx hb dX5_sheet_66 (lv_at hl 0 rfl) ?_
            refine lv_iadd hx hb dX5_sheet_68 ?_
            refine lv_topi (nm_r (e' := 51) (by decide +kernel) ?_)
            refine lv_lconst (v := 0) hx hb dX5_sheet_69 (by decide) ?_
            refine va_last (D := g.1) hx hb hK hP hD hS 3 1 rfl rfl (vp_in_iff.mpr (by decide +kernel)) dX5_sheet_70 (fun H locs hP hD hS => ?_)
            have hP : va_P g.1 vwCl [(h0, .inr (5, [.ref h1, .int 0, .ref h2, .int 0, .int 0, .ref h3, .ref h4, .ref h5, .ref h6, .int 0, .ref h7, .ref h8, .ref h9, .int 0, .ref h10, .ref h11, .ref h12, .ref h13, .ref h14, .ref h15, .ref h16, .ref h17, .ref h18, .ref h19, .ref h20, .ref h21, .ref h22])), (h19, .inl (zI g, 4, .inl (upd (upd (upd (upd (upd (fun _ => 0) 0 (-1)) 1 (-1)) 2 (-1)) 3 (-1)) 3 p2))), (h20, .inl (zI g, 4, .inl (upd (fun _ => 0) 3 p3))), (h21, .inl (zJ g, 64, .inr (.inl (vp_updL (fun _ => 0) 51 0))))] H := hP
            have hD : va_D A [(h0, .inr (5, [.ref h1, .int 0, .ref h2, .int 0, .int 0, .ref h3, .ref h4, .ref h5, .ref h6, .int 0, .ref h7, .ref h8, .ref h9, .int 0, .ref h10, .ref h11, .ref h12, .ref h13, .ref h14, .ref h15, .ref h16, .ref h17, .ref h18, .ref h19, .ref h20, .ref h21, .ref h22])), (h19, .inl (zI g, 4, .inl (upd (upd (upd (upd (upd (fun _ => 0) 0 (-1)) 1 (-1)) 2 (-1)) 3 (-1)) 3 p2))), (h20, .inl (zI g, 4, .inl (upd (fun _ => 0) 3 p3))), (h21, .inl (zJ g, 64, .inr (.inl (vp_updL (fun _ => 0) 51 0))))] := hD
            rw [zc_setL] at hP hD
            refine lv_iinc (v := 4) (lv' := [(4, .int 4), (0, .ref h0), (1, .int 3), (2, .int p2), (3, .int p3)]) hx hb dX5_sheet_71 hl (k := 0) rfl (by decide) (by decide) rfl (fun ls hl => ?_)
            refine lv_goto (tgt := 51) hx hb dX5_sheet_74 (by decide) ?_
            refine lv_iload hx hb dX5_sheet_51 (lv_at hl 0 rfl) ?_
            refine lv_bipush (v := 16) hx hb dX5_sheet_53 (by decide) ?_
            refine lv_icmp_ge (tgt := 77) hx hb dX5_sheet_55 (by decide) (fun h => absurd h (by decide +kernel)) (fun _ => ?_)
            refine lv_aload_n hx hb dX5_sheet_58 rfl (lv_at hl 1 rfl) ?_
            refine va_get (D := g.1) (ci := 5) (v := .ref h21) (C := RX5) (T := TX5) (N := 27) hx hb hts zl_X5 hown hK hP 0 rfl rfl 25 (by decide) (hts _ m_f_RX5_70) (fun _ h => h) rfl dX5_sheet_59 ?_
            refine lv_bipush (v := 16) hx hb dX5_sheet_62 (by decide) ?_
            refine lv_iload_n hx hb dX5_sheet_64 rfl (lv_at hl 2 rfl) ?_
            refine lv_imul hx hb dX5_sheet_65 ?_
            refine lv_topi (nm_r (e' := 48) (by decide +kernel) ?_)
            refine lv_iload hx hb dX5_sheet_66 (lv_at hl 0 rfl) ?_
            refine lv_iadd hx hb dX5_sheet_68 ?_
            refine lv_topi (nm_r (e' := 52) (by decide +kernel) ?_)
            refine lv_lconst (v := 0) hx hb dX5_sheet_69 (by decide) ?_
            refine va_last (D := g.1) hx hb hK hP hD hS 3 1 rfl rfl (vp_in_iff.mpr (by decide +kernel)) dX5_sheet_70 (fun H locs hP hD hS => ?_)
            have hP : va_P g.1 vwCl [(h0, .inr (5, [.ref h1, .int 0, .ref h2, .int 0, .int 0, .ref h3, .ref h4, .ref h5, .ref h6, .int 0, .ref h7, .ref h8, .ref h9, .int 0, .ref h10, .ref h11, .ref h12, .ref h13, .ref h14, .ref h15, .ref h16, .ref h17, .ref h18, .ref h19, .ref h20, .ref h21, .ref h22])), (h19, .inl (zI g, 4, .inl (upd (upd (upd (upd (upd (fun _ => 0) 0 (-1)) 1 (-1)) 2 (-1)) 3 (-1)) 3 p2))), (h20, .inl (zI g, 4, .inl (upd (fun _ => 0) 3 p3))), (h21, .inl (zJ g, 64, .inr (.inl (vp_updL (fun _ => 0) 52 0))))] H := hP
            have hD : va_D A [(h0, .inr (5, [.ref h1, .int 0, .ref h2, .int 0, .int 0, .ref h3, .ref h4, .ref h5, .ref h6, .int 0, .ref h7, .ref h8, .ref h9, .int 0, .ref h10, .ref h11, .ref h12, .ref h13, .ref h14, .ref h15, .ref h16, .ref h17, .ref h18, .ref h19, .ref h20, .ref h21, .ref h22])), (h19, .inl (zI g, 4, .inl (upd (upd (upd (upd (upd (fun _ => 0) 0 (-1)) 1 (-1)) 2 (-1)) 3 (-1)) 3 p2))), (h20, .inl (zI g, 4, .inl (upd (fun _ => 0) 3 p3))), (h21, .inl (zJ g, 64, .inr (.inl (vp_updL (fun _ => 0) 52 0))))] := hD
            rw [zc_setL] at hP hD
            refine lv_iinc (v := 5) (lv' := [(4, .int 5), (0, .ref h0), (1, .int 3), (2, .int p2), (3, .int p3)]) hx hb dX5_sheet_71 hl (k := 0) rfl (by decide) (by decide) rfl (fun ls hl => ?_)
            refine lv_goto (tgt := 51) hx hb dX5_sheet_74 (by decide) ?_
            refine lv_iload hx hb dX5_sheet_51 (lv_at hl 0 rfl) ?_
            refine lv_bipush (v := 16) hx hb dX5_sheet_53 (by decide) ?_
            refine lv_icmp_ge (tgt := 77) hx hb dX5_sheet_55 (by decide) (fun h => absurd h (by decide +kernel)) (fun _ => ?_)
            refine lv_aload_n hx hb dX5_sheet_58 rfl (lv_at hl 1 rfl) ?_
            refine va_get (D := g.1) (ci := 5) (v := .ref h21) (C := RX5) (T := TX5) (N := 27) hx hb hts zl_X5 hown hK hP 0 rfl rfl 25 (by decide) (hts _ m_f_RX5_70) (fun _ h => h) rfl dX5_sheet_59 ?_
            refine lv_bipush (v := 16) hx hb dX5_sheet_62 (by decide) ?_
            refine lv_iload_n hx hb dX5_sheet_64 rfl (lv_at hl 2 rfl) ?_
            refine lv_imul hx hb dX5_sheet_65 ?_
            refine lv_topi (nm_r (e' := 48) (by decide +kernel) ?_)
            refine lv_iload hx hb dX5_sheet_66 (lv_at hl 0 rfl) ?_
            refine lv_iadd hx hb dX5_sheet_68 ?_
            refine lv_topi (nm_r (e' := 53) (by decide +kernel) ?_)
            refine lv_lconst (v := 0) hx hb dX5_sheet_69 (by decide) ?_
            refine va_last (D := g.1) hx hb hK hP hD hS 3 1 rfl rfl (vp_in_iff.mpr (by decide +kernel)) dX5_sheet_70 (fun H locs hP hD hS => ?_)
            have hP : va_P g.1 vwCl [(h0, .inr (5, [.ref h1, .int 0, .ref h2, .int 0, .int 0, .ref h3, .ref h4, .ref h5, .ref h6, .int 0, .ref h7, .ref h8, .ref h9, .int 0, .ref h10, .ref h11, .ref h12, .ref h13, .ref h14, .ref h15, .ref h16, .ref h17, .ref h18, .ref h19, .ref h20, .ref h21, .ref h22])), (h19, .inl (zI g, 4, .inl (upd (upd (upd (upd (upd (fun _ => 0) 0 (-1)) 1 (-1)) 2 (-1)) 3 (-1)) 3 p2))), (h20, .inl (zI g, 4, .inl (upd (fun _ => 0) 3 p3))), (h21, .inl (zJ g, 64, .inr (.inl (vp_updL (fun _ => 0) 53 0))))] H := hP
            have hD : va_D A [(h0, .inr (5, [.ref h1, .int 0, .ref h2, .int 0, .int 0, .ref h3, .ref h4, .ref h5, .ref h6, .int 0, .ref h7, .ref h8, .ref h9, .int 0, .ref h10, .ref h11, .ref h12, .ref h13, .ref h14, .ref h15, .ref h16, .ref h17, .ref h18, .ref h19, .ref h20, .ref h21, .ref h22])), (h19, .inl (zI g, 4, .inl (upd (upd (upd (upd (upd (fun _ => 0) 0 (-1)) 1 (-1)) 2 (-1)) 3 (-1)) 3 p2))), (h20, .inl (zI g, 4, .inl (upd (fun _ => 0) 3 p3))), (h21, .inl (zJ g, 64, .inr (.inl (vp_updL (fun _ => 0) 53 0))))] := hD
            rw [zc_setL] at hP hD
            refine lv_iinc (v := 6) (lv' := [(4, .int 6), (0, .ref h0), (1, .int 3), (2, .int p2), (3, .int p3)]) hx hb dX5_sheet_71 hl (k := 0) rfl (by decide) (by decide) rfl (fun ls hl => ?_)
            refine lv_goto (tgt := 51) hx hb dX5_sheet_74 (by decide) ?_
            refine lv_iload hx hb dX5_sheet_51 (lv_at hl 0 rfl) ?_
            refine lv_bipush (v := 16) hx hb dX5_sheet_53 (by decide) ?_
            refine lv_icmp_ge (tgt := 77) hx hb dX5_sheet_55 (by decide) (fun h => absurd h (by decide +kernel)) (fun _ => ?_)
            refine lv_aload_n hx hb dX5_sheet_58 rfl (lv_at hl 1 rfl) ?_
            refine va_get (D := g.1) (ci := 5) (v := .ref h21) (C := RX5) (T := TX5) (N := 27) hx hb hts zl_X5 hown hK hP 0 rfl rfl 25 (by decide) (hts _ m_f_RX5_70) (fun _ h => h) rfl dX5_sheet_59 ?_
            refine lv_bipush (v := 16) hx hb dX5_sheet_62 (by decide) ?_
            refine lv_iload_n hx hb dX5_sheet_64 rfl (lv_at hl 2 rfl) ?_
            refine lv_imul hx hb dX5_sheet_65 ?_
            refine lv_topi (nm_r (e' := 48) (by decide +kernel) ?_)
            refine lv_iload hx hb dX5_sheet_66 (lv_at hl 0 rfl) ?_
            refine lv_iadd hx hb dX5_sheet_68 ?_
            refine lv_topi (nm_r (e' := 54) (by decide +kernel) ?_)
            refine lv_lconst (v := 0) hx hb dX5_sheet_69 (by decide) ?_
            refine va_last (D := g.1) hx hb hK hP hD hS 3 1 rfl rfl (vp_in_iff.mpr (by decide +kernel)) dX5_sheet_70 (fun H locs hP hD hS => ?_)
            have hP : va_P g.1 vwCl [(h0, .inr (5, [.ref h1, .int 0, .ref h2, .int 0, .int 0, .ref h3, .ref h4, .ref h5, .ref h6, .int 0, .ref h7, .ref h8, .ref h9, .int 0, .ref h10, .ref h11, .ref h12, .ref h13, .ref h14, .ref h15, .ref h16, .ref h17, .ref h18, .ref h19, .ref h20, .ref h21, .ref h22])), (h19, .inl (zI g, 4, .inl (upd (upd (upd (upd (upd (fun _ => 0) 0 (-1)) 1 (-1)) 2 (-1)) 3 (-1)) 3 p2))), (h20, .inl (zI g, 4, .inl (upd (fun _ => 0) 3 p3))), (h21, .inl (zJ g, 64, .inr (.inl (vp_updL (fun _ => 0) 54 0))))] H := hP
            have hD : va_D A [(h0, .inr (5, [.ref h1, .int 0, .ref h2, .int 0, .int 0, .ref h3, .ref h4, .ref h5, .ref h6, .int 0, .ref h7, .ref h8, .ref h9, .int 0, .ref h10, .ref h11, .ref h12, .ref h13, .ref h14, .ref h15, .ref h16, .ref h17, .ref h18, .ref h19, .ref h20, .ref h21, .ref h22])), (h19, .inl (zI g, 4, .inl (upd (upd (upd (upd (upd (fun _ => 0) 0 (-1)) 1 (-1)) 2 (-1)) 3 (-1)) 3 p2))), (h20, .inl (zI g, 4, .inl (upd (fun _ => 0) 3 p3))), (h21, .inl (zJ g, 64, .inr (.inl (vp_updL (fun _ => 0) 54 0))))] := hD
            rw [zc_setL] at hP hD
            refine lv_iinc (v := 7) (lv' := [(4, .int 7), (0, .ref h0), (1, .int 3), (2, .int p2), (3, .int p3)]) hx hb dX5_sheet_71 hl (k := 0) rfl (by decide) (by decide) rfl (fun ls hl => ?_)
            refine lv_goto (tgt := 51) hx hb dX5_sheet_74 (by decide) ?_
            refine lv_iload hx hb dX5_sheet_51 (lv_at hl 0 rfl) ?_
            refine lv_bipush (v := 16) hx hb dX5_sheet_53 (by decide) ?_
            refine lv_icmp_ge (tgt := 77) hx hb dX5_sheet_55 (by decide) (fun h => absurd h (by decide +kernel)) (fun _ => ?_)
            refine lv_aload_n hx hb dX5_sheet_58 rfl (lv_at hl 1 rfl) ?_
            refine va_get (D := g.1) (ci := 5) (v := .ref h21) (C := RX5) (T := TX5) (N := 27) hx hb hts zl_X5 hown hK hP 0 rfl rfl 25 (by decide) (hts _ m_f_RX5_70) (fun _ h => h) rfl dX5_sheet_59 ?_
            refine lv_bipush (v := 16) hx hb dX5_sheet_62 (by decide) ?_
            refine lv_iload_n hx hb dX5_sheet_64 rfl (lv_at hl 2 rfl) ?_
            refine lv_imul hx hb dX5_sheet_65 ?_
            refine lv_topi (nm_r (e' := 48) (by decide +kernel) ?_)
            refine lv_iload hx hb dX5_sheet_66 (lv_at hl 0 rfl) ?_
            refine lv_iadd hx hb dX5_sheet_68 ?_
            refine lv_topi (nm_r (e' := 55) (by decide +kernel) ?_)
            refine lv_lconst (v := 0) hx hb dX5_sheet_69 (by decide) ?_
            refine va_last (D := g.1) hx hb hK hP hD hS 3 1 rfl rfl (vp_in_iff.mpr (by decide +kernel)) dX5_sheet_70 (fun H locs hP hD hS => ?_)
            have hP : va_P g.1 vwCl [(h0, .inr (5, [.ref h1, .int 0, .ref h2, .int 0, .int 0, .ref h3, .ref h4, .ref h5, .ref h6, .int 0, .ref h7, .ref h8, .ref h9, .int 0, .ref h10, .ref h11, .ref h12, .ref h13, .ref h14, .ref h15, .ref h16, .ref h17, .ref h18, .ref h19, .ref h20, .ref h21, .ref h22])), (h19, .inl (zI g, 4, .inl (upd (upd (upd (upd (upd (fun _ => 0) 0 (-1)) 1 (-1)) 2 (-1)) 3 (-1)) 3 p2))), (h20, .inl (zI g, 4, .inl (upd (fun _ => 0) 3 p3))), (h21, .inl (zJ g, 64, .inr (.inl (vp_updL (fun _ => 0) 55 0))))] H := hP
            have hD : va_D A [(h0, .inr (5, [.ref h1, .int 0, .ref h2, .int 0, .int 0, .ref h3, .ref h4, .ref h5, .ref h6, .int 0, .ref h7, .ref h8, .ref h9, .int 0, .ref h10, .ref h11, .ref h12, .ref h13, .ref h14, .ref h15, .ref h16, .ref h17, .ref h18, .ref h19, .ref h20, .ref h21, .ref h22])), (h19, .inl (zI g, 4, .inl (upd (upd (upd (upd (upd (fun _ => 0) 0 (-1)) 1 (-1)) 2 (-1)) 3 (-1)) 3 p2))), (h20, .inl (zI g, 4, .inl (upd (fun _ => 0) 3 p3))), (h21, .inl (zJ g, 64, .inr (.inl (vp_updL (fun _ => 0) 55 0))))] := hD
            rw [zc_setL] at hP hD
            refine lv_iinc (v := 8) (lv' := [(4, .int 8), (0, .ref h0), (1, .int 3), (2, .int p2), (3, .int p3)]) hx hb dX5_sheet_71 hl (k := 0) rfl (by decide) (by decide) rfl (fun ls hl => ?_)
            refine lv_goto (tgt := 51) hx hb dX5_sheet_74 (by decide) ?_
            refine lv_iload hx hb dX5_sheet_51 (lv_at hl 0 rfl) ?_
            refine lv_bipush (v := 16) hx hb dX5_sheet_53 (by decide) ?_
            refine lv_icmp_ge (tgt := 77) hx hb dX5_sheet_55 (by decide) (fun h => absurd h (by decide +kernel)) (fun _ => ?_)
            refine lv_aload_n hx hb dX5_sheet_58 rfl (lv_at hl 1 rfl) ?_
            refine va_get (D := g.1) (ci := 5) (v := .ref h21) (C := RX5) (T := TX5) (N := 27) hx hb hts zl_X5 hown hK hP 0 rfl rfl 25 (by decide) (hts _ m_f_RX5_70) (fun _ h => h) rfl dX5_sheet_59 ?_
            refine lv_bipush (v := 16) hx hb dX5_sheet_62 (by decide) ?_
            refine lv_iload_n hx hb dX5_sheet_64 rfl (lv_at hl 2 rfl) ?_
            refine lv_imul hx hb dX5_sheet_65 ?_
            refine lv_topi (nm_r (e' := 48) (by decide +kernel) ?_)
            refine lv_iload hx hb dX5_sheet_66 (lv_at hl 0 rfl) ?_
            refine lv_iadd hx hb dX5_sheet_68 ?_
            refine lv_topi (nm_r (e' := 56) (by decide +kernel) ?_)
            refine lv_lconst (v := 0) hx hb dX5_sheet_69 (by decide) ?_
            refine va_last (D := g.1) hx hb hK hP hD hS 3 1 rfl rfl (vp_in_iff.mpr (by decide +kernel)) dX5_sheet_70 (fun H locs hP hD hS => ?_)
            have hP : va_P g.1 vwCl [(h0, .inr (5, [.ref h1, .int 0, .ref h2, .int 0, .int 0, .ref h3, .ref h4, .ref h5, .ref h6, .int 0, .ref h7, .ref h8, .ref h9, .int 0, .ref h10, .ref h11, .ref h12, .ref h13, .ref h14, .ref h15, .ref h16, .ref h17, .ref h18, .ref h19, .ref h20, .ref h21, .ref h22])), (h19, .inl (zI g, 4, .inl (upd (upd (upd (upd (upd (fun _ => 0) 0 (-1)) 1 (-1)) 2 (-1)) 3 (-1)) 3 p2))), (h20, .inl (zI g, 4, .inl (upd (fun _ => 0) 3 p3))), (h21, .inl (zJ g, 64, .inr (.inl (vp_updL (fun _ => 0) 56 0))))] H := hP
            have hD : va_D A [(h0, .inr (5, [.ref h1, .int 0, .ref h2, .int 0, .int 0, .ref h3, .ref h4, .ref h5, .ref h6, .int 0, .ref h7, .ref h8, .ref h9, .int 0, .ref h10, .ref h11, .ref h12, .ref h13, .ref h14, .ref h15, .ref h16, .ref h17, .ref h18, .ref h19, .ref h20, .ref h21, .ref h22])), (h19, .inl (zI g, 4, .inl (upd (upd (upd (upd (upd (fun _ => 0) 0 (-1)) 1 (-1)) 2 (-1)) 3 (-1)) 3 p2))), (h20, .inl (zI g, 4, .inl (upd (fun _ => 0) 3 p3))), (h21, .inl (zJ g, 64, .inr (.inl (vp_updL (fun _ => 0) 56 0))))] := hD
            rw [zc_setL] at hP hD
            refine lv_iinc (v := 9) (lv' := [(4, .int 9), (0, .ref h0), (1, .int 3), (2, .int p2), (3, .int p3)]) hx hb dX5_sheet_71 hl (k := 0) rfl (by decide) (by decide) rfl (fun ls hl => ?_)
            refine lv_goto (tgt := 51) hx hb dX5_sheet_74 (by decide) ?_
            refine lv_iload hx hb dX5_sheet_51 (lv_at hl 0 rfl) ?_
            refine lv_bipush (v := 16) hx hb dX5_sheet_53 (by decide) ?_
            refine lv_icmp_ge (tgt := 77) hx hb dX5_sheet_55 (by decide) (fun h => absurd h (by decide +kernel)) (fun _ => ?_)
            refine lv_aload_n hx hb dX5_sheet_58 rfl (lv_at hl 1 rfl) ?_
            refine va_get (D := g.1) (ci := 5) (v := .ref h21) (C := RX5) (T := TX5) (N := 27) hx hb hts zl_X5 hown hK hP 0 rfl rfl 25 (by decide) (hts _ m_f_RX5_70) (fun _ h => h) rfl dX5_sheet_59 ?_
            refine lv_bipush (v := 16) hx hb dX5_sheet_62 (by decide) ?_
            refine lv_iload_n hx hb dX5_sheet_64 rfl (lv_at hl 2 rfl) ?_
            refine lv_imul hx hb dX5_sheet_65 ?_
            refine lv_topi (nm_r (e' := 48) (by decide +kernel) ?_)
            refine lv_iload hx hb dX5_sheet_66 (lv_at hl 0 rfl) ?_
            refine lv_iadd hx hb dX5_sheet_68 ?_
            refine lv_topi (nm_r (e' := 57) (by decide +kernel) ?_)
            refine lv_lconst (v := 0) hx hb dX5_sheet_69 (by decide) ?_
            refine va_last (D := g.1) hx hb hK hP hD hS 3 1 rfl rfl (vp_in_iff.mpr (by decide +kernel)) dX5_sheet_70 (fun H locs hP hD hS => ?_)
            have hP : va_P g.1 vwCl [(h0, .inr (5, [.ref h1, .int 0, .ref h2, .int 0, .int 0, .ref h3, .ref h4, .ref h5, .ref h6, .int 0, .ref h7, .ref h8, .ref h9, .int 0, .ref h10, .ref h11, .ref h12, .ref h13, .ref h14, .ref h15, .ref h16, .ref h17, .ref h18, .ref h19, .ref h20, .ref h21, .ref h22])), (h19, .inl (zI g, 4, .inl (upd (upd (upd (upd (upd (fun _ => 0) 0 (-1)) 1 (-1)) 2 (-1)) 3 (-1)) 3 p2))), (h20, .inl (zI g, 4, .inl (upd (fun _ => 0) 3 p3))), (h21, .inl (zJ g, 64, .inr (.inl (vp_updL (fun _ => 0) 57 0))))] H := hP
            have hD : va_D A [(h0, .inr (5, [.ref h1, .int 0, .ref h2, .int 0, .int 0, .ref h3, .ref h4, .ref h5, .ref h6, .int 0, .ref h7, .ref h8, .ref h9, .int 0, .ref h10, .ref h11, .ref h12, .ref h13, .ref h14, .ref h15, .ref h16, .ref h17, .ref h18, .ref h19, .ref h20, .ref h21, .ref h22])), (h19, .inl (zI g, 4, .inl (upd (upd (upd (upd (upd (fun _ => 0) 0 (-1)) 1 (-1)) 2 (-1)) 3 (-1)) 3 p2))), (h20, .inl (zI g, 4, .inl (upd (fun _ => 0) 3 p3))), (h21, .inl (zJ g, 64, .inr (.inl (vp_updL (fun _ => 0) 57 0))))] := hD
            rw [zc_setL] at hP hD
            refine lv_iinc (v := 10) (lv' := [(4, .int 10), (0, .ref h0), (1, .int 3), (2, .int p2), (3, .int p3)]) hx hb dX5_sheet_71 hl (k := 0) rfl (by decide) (by decide) rfl (fun ls hl => ?_)
            refine lv_goto (tgt := 51) hx hb dX5_sheet_74 (by decide) ?_
            refine lv_iload hx hb dX5_sheet_51 (lv_at hl 0 rfl) ?_
            refine lv_bipush (v := 16) hx hb dX5_sheet_53 (by decide) ?_
            refine lv_icmp_ge (tgt := 77) hx hb dX5_sheet_55 (by decide) (fun h => absurd h (by decide +kernel)) (fun _ => ?_)
            refine lv_aload_n hx hb dX5_sheet_58 rfl (lv_at hl 1 rfl) ?_
            refine va_get (D := g.1) (ci := 5) (v := .ref h21) (C := RX5) (T := TX5) (N := 27) hx hb hts zl_X5 hown hK hP 0 rfl rfl 25 (by decide) (hts _ m_f_RX5_70) (fun _ h => h) rfl dX5_sheet_59 ?_
            refine lv_bipush (v := 16) hx hb dX5_sheet_62 (by decide) ?_
            refine lv_iload_n hx hb dX5_sheet_64 rfl (lv_at hl 2 rfl) ?_
            refine lv_imul hx hb dX5_sheet_65 ?_
            refine lv_topi (nm_r (e' := 48) (by decide +kernel) ?_)
            refine lv_iload hx hb dX5_sheet_66 (lv_at hl 0 rfl) ?_
            refine lv_iadd hx hb dX5_sheet_68 ?_
            refine lv_topi (nm_r (e' := 58) (by decide +kernel) ?_)
            refine lv_lconst (v := 0) hx hb dX5_sheet_69 (by decide) ?_
            refine va_last (D := g.1) hx hb hK hP hD hS 3 1 rfl rfl (vp_in_iff.mpr (by decide +kernel)) dX5_sheet_70 (fun H locs hP hD hS => ?_)
            have hP : va_P g.1 vwCl [(h0, .inr (5, [.ref h1, .int 0, .ref h2, .int 0, .int 0, .ref h3, .ref h4, .ref h5, .ref h6, .int 0, .ref h7, .ref h8, .ref h9, .int 0, .ref h10, .ref h11, .ref h12, .ref h13, .ref h14, .ref h15, .ref h16, .ref h17, .ref h18, .ref h19, .ref h20, .ref h21, .ref h22])), (h19, .inl (zI g, 4, .inl (upd (upd (upd (upd (upd (fun _ => 0) 0 (-1)) 1 (-1)) 2 (-1)) 3 (-1)) 3 p2))), (h20, .inl (zI g, 4, .inl (upd (fun _ => 0) 3 p3))), (h21, .inl (zJ g, 64, .inr (.inl (vp_updL (fun _ => 0) 58 0))))] H := hP
            have hD : va_D A [(h0, .inr (5, [.ref h1, .int 0, .ref h2, .int 0, .int 0, .ref h3, .ref h4, .ref h5, .ref h6, .int 0, .ref h7, .ref h8, .ref h9, .int 0, .ref h10, .ref h11, .ref h12, .ref h13, .ref h14, .ref h15, .ref h16, .ref h17, .ref h18, .ref h19, .ref h20, .ref h21, .ref h22])), (h19, .inl (zI g, 4, .inl (upd (upd (upd (upd (upd (fun _ => 0) 0 (-1)) 1 (-1)) 2 (-1)) 3 (-1)) 3 p2))), (h20, .inl (zI g, 4, .inl (upd (fun _ => 0) 3 p3))), (h21, .inl (zJ g, 64, .inr (.inl (vp_updL (fun _ => 0) 58 0))))] := hD
            rw [zc_setL] at hP hD
            refine lv_iinc (v := 11) (lv' := [(4, .int 11), (0, .ref h0), (1, .int 3), (2, .int p2), (3, .int p3)]) hx hb dX5_sheet_71 hl (k := 0) rfl (by decide) (by decide) rfl (fun ls hl => ?_)
            refine lv_goto (tgt := 51) hx hb dX5_sheet_74 (by decide) ?_
            refine lv_iload hx hb dX5_sheet_51 (lv_at hl 0 rfl) ?_
            refine lv_bipush (v := 16) hx hb dX5_sheet_53 (by decide) ?_
            refine lv_icmp_ge (tgt := 77) hx hb dX5_sheet_55 (by decide) (fun h => absurd h (by decide +kernel)) (fun _ => ?_)
            refine lv_aload_n hx hb dX5_sheet_58 rfl (lv_at hl 1 rfl) ?_
            refine va_get (D := g.1) (ci := 5) (v := .ref h21) (C := RX5) (T := TX5) (N := 27) hx hb hts zl_X5 hown hK hP 0 rfl rfl 25 (by decide) (hts _ m_f_RX5_70) (fun _ h => h) rfl dX5_sheet_59 ?_
            refine lv_bipush (v := 16) hx hb dX5_sheet_62 (by decide) ?_
            refine lv_iload_n hx hb dX5_sheet_64 rfl (lv_at hl 2 rfl) ?_
            refine lv_imul hx hb dX5_sheet_65 ?_
            refine lv_topi (nm_r (e' := 48) (by decide +kernel) ?_)
            refine lv_iload hx hb dX5_sheet_66 (lv_at hl 0 rfl) ?_
            refine lv_iadd hx hb dX5_sheet_68 ?_
            refine lv_topi (nm_r (e' := 59) (by decide +kernel) ?_)
            refine lv_lconst (v := 0) hx hb dX5_sheet_69 (by decide) ?_
            refine va_last (D := g.1) hx hb hK hP hD hS 3 1 rfl rfl (vp_in_iff.mpr (by decide +kernel)) dX5_sheet_70 (fun H locs hP hD hS => ?_)
            have hP : va_P g.1 vwCl [(h0, .inr (5, [.ref h1, .int 0, .ref h2, .int 0, .int 0, .ref h3, .ref h4, .ref h5, .ref h6, .int 0, .ref h7, .ref h8, .ref h9, .int 0, .ref h10, .ref h11, .ref h12, .ref h13, .ref h14, .ref h15, .ref h16, .ref h17, .ref h18, .ref h19, .ref h20, .ref h21, .ref h22])), (h19, .inl (zI g, 4, .inl (upd (upd (upd (upd (upd (fun _ => 0) 0 (-1)) 1 (-1)) 2 (-1)) 3 (-1)) 3 p2))), (h20, .inl (zI g, 4, .inl (upd (fun _ => 0) 3 p3))), (h21, .inl (zJ g, 64, .inr (.inl (vp_updL (fun _ => 0) 59 0))))] H := hP
            have hD : va_D A [(h0, .inr (5, [.ref h1, .int 0, .ref h2, .int 0, .int 0, .ref h3, .ref h4, .ref h5, .ref h6, .int 0, .ref h7, .ref h8, .ref h9, .int 0, .ref h10, .ref h11, .ref h12, .ref h13, .ref h14, .ref h15, .ref h16, .ref h17, .ref h18, .ref h19, .ref h20, .ref h21, .ref h22])), (h19, .inl (zI g, 4, .inl (upd (upd (upd (upd (upd (fun _ => 0) 0 (-1)) 1 (-1)) 2 (-1)) 3 (-1)) 3 p2))), (h20, .inl (zI g, 4, .inl (upd (fun _ => 0) 3 p3))), (h21, .inl (zJ g, 64, .inr (.inl (vp_updL (fun _ => 0) 59 0))))] := hD
            rw [zc_setL] at hP hD
            refine lv_iinc (v := 12) (lv' := [(4, .int 12), (0, .ref h0), (1, .int 3), (2, .int p2), (3, .int p3)]) hx hb dX5_sheet_71 hl (k := 0) rfl (by decide) (by decide) rfl (fun ls hl => ?_)
            refine lv_goto (tgt := 51) hx hb dX5_sheet_74 (by decide) ?_
            refine lv_iload hx hb dX5_sheet_51 (lv_at hl 0 rfl) ?_
            refine lv_bipush (v := 16) hx hb dX5_sheet_53 (by decide) ?_
            refine lv_icmp_ge (tgt := 77) hx hb dX5_sheet_55 (by decide) (fun h => absurd h (by decide +kernel)) (fun _ => ?_)
            refine lv_aload_n hx hb dX5_sheet_58 rfl (lv_at hl 1 rfl) ?_
            refine va_get (D := g.1) (ci := 5) (v := .ref h21) (C := RX5) (T := TX5) (N := 27) hx hb hts zl_X5 hown hK hP 0 rfl rfl 25 (by decide) (hts _ m_f_RX5_70) (fun _ h => h) rfl dX5_sheet_59 ?_
            refine lv_bipush (v := 16) hx hb dX5_sheet_62 (by decide) ?_
            refine lv_iload_n hx hb dX5_sheet_64 rfl (lv_at hl 2 rfl) ?_
            refine lv_imul hx hb dX5_sheet_65 ?_
            refine lv_topi (nm_r (e' := 48) (by decide +kernel) ?_)
            refine lv_iload hx hb dX5_sheet_66 (lv_at hl 0 rfl) ?_
            refine lv_iadd hx hb dX5_sheet_68 ?_
            refine lv_topi (nm_r (e' := 60) (by decide +kernel) ?_)
            refine lv_lconst (v := 0) hx hb dX5_sheet_69 (by decide) ?_
            refine va_last (D := g.1) hx hb hK hP hD hS 3 1 rfl rfl (vp_in_iff.mpr (by decide +kernel)) dX5_sheet_70 (fun H locs hP hD hS => ?_)
            have hP : va_P g.1 vwCl [(h0, .inr (5, [.ref h1, .int 0, .ref h2, .int 0, .int 0, .ref h3, .ref h4, .ref h5, .ref h6, .int 0, .ref h7, .ref h8, .ref h9, .int 0, .ref h10, .ref h11, .ref h12, .ref h13, .ref h14, .ref h15, .ref h16, .ref h17, .ref h18, .ref h19, .ref h20, .ref h21, .ref h22])), (h19, .inl (zI g, 4, .inl (upd (upd (upd (upd (upd (fun _ => 0) 0 (-1)) 1 (-1)) 2 (-1)) 3 (-1)) 3 p2))), (h20, .inl (zI g, 4, .inl (upd (fun _ => 0) 3 p3))), (h21, .inl (zJ g, 64, .inr (.inl (vp_updL (fun _ => 0) 60 0))))] H := hP
            have hD : va_D A [(h0, .inr (5, [.ref h1, .int 0, .ref h2, .int 0, .int 0, .ref h3, .ref h4, .ref h5, .ref h6, .int 0, .ref h7, .ref h8, .ref h9, .int 0, .ref h10, .ref h11, .ref h12, .ref h13, .ref h14, .ref h15, .ref h16, .ref h17, .ref h18, .ref h19, .ref h20, .ref h21, .ref h22])), (h19, .inl (zI g, 4, .inl (upd (upd (upd (upd (upd (fun _ => 0) 0 (-1)) 1 (-1)) 2 (-1)) 3 (-1)) 3 p2))), (h20, .inl (zI g, 4, .inl (upd (fun _ => 0) 3 p3))), (h21, .inl (zJ g, 64, .inr (.inl (vp_updL (fun _ => 0) 60 0))))] := hD
            rw [zc_setL] at hP hD
            refine lv_iinc (v := 13) (lv' := [(4, .int 13), (0, .ref h0), (1, .int 3), (2, .int p2), (3, .int p3)]) hx hb dX5_sheet_71 hl (k := 0) rfl (by decide) (by decide) rfl (fun ls hl => ?_)
            refine lv_goto (tgt := 51) hx hb dX5_sheet_74 (by decide) ?_
            refine lv_iload hx hb dX5_sheet_51 (lv_at hl 0 rfl) ?_
            refine lv_bipush (v := 16) hx hb dX5_sheet_53 (by decide) ?_
            refine lv_icmp_ge (tgt := 77) hx hb dX5_sheet_55 (by decide) (fun h => absurd h (by decide +kernel)) (fun _ => ?_)
            refine lv_aload_n hx hb dX5_sheet_58 rfl (lv_at hl 1 rfl) ?_
            refine va_get (D := g.1) (ci := 5) (v := .ref h21) (C := RX5) (T := TX5) (N := 27) hx hb hts zl_X5 hown hK hP 0 rfl rfl 25 (by decide) (hts _ m_f_RX5_70) (fun _ h => h) rfl dX5_sheet_59 ?_
            refine lv_bipush (v := 16) hx hb dX5_sheet_62 (by decide) ?_
            refine lv_iload_n hx hb dX5_sheet_64 rfl (lv_at hl 2 rfl) ?_
            refine lv_imul hx hb dX5_sheet_65 ?_
            refine lv_topi (nm_r (e' := 48) (by decide +kernel) ?_)
            refine lv_iload hx hb dX5_sheet_66 (lv_at hl 0 rfl) ?_
            refine lv_iadd hx hb dX5_sheet_68 ?_
            refine lv_topi (nm_r (e' := 61) (by decide +kernel) ?_)
            refine lv_lconst (v := 0) hx hb dX5_sheet_69 (by decide) ?_
            refine va_last (D := g.1) hx hb hK hP hD hS 3 1 rfl rfl (vp_in_iff.mpr (by decide +kernel)) dX5_sheet_70 (fun H locs hP hD hS => ?_)
            have hP : va_P g.1 vwCl [(h0, .inr (5, [.ref h1, .int 0, .ref h2, .int 0, .int 0, .ref h3, .ref h4, .ref h5, .ref h6, .int 0, .ref h7, .ref h8, .ref h9, .int 0, .ref h10, .ref h11, .ref h12, .ref h13, .ref h14, .ref h15, .ref h16, .ref h17, .ref h18, .ref h19, .ref h20, .ref h21, .ref h22])), (h19, .inl (zI g, 4, .inl (upd (upd (upd (upd (upd (fun _ => 0) 0 (-1)) 1 (-1)) 2 (-1)) 3 (-1)) 3 p2))), (h20, .inl (zI g, 4, .inl (upd (fun _ => 0) 3 p3))), (h21, .inl (zJ g, 64, .inr (.inl (vp_updL (fun _ => 0) 61 0))))] H := hP
            have hD : va_D A [(h0, .inr (5, [.ref h1, .int 0, .ref h2, .int 0, .int 0, .ref h3, .ref h4, .ref h5, .ref h6, .int 0, .ref h7, .ref h8, .ref h9, .int 0, .ref h10, .ref h11, .ref h12, .ref h13, .ref h14, .ref h15, .ref h16, .ref h17, .ref h18, .ref h19, .ref h20, .ref h21, .ref h22])), (h19, .inl (zI g, 4, .inl (upd (upd (upd (upd (upd (fun _ => 0) 0 (-1)) 1 (-1)) 2 (-1)) 3 (-1)) 3 p2))), (h20, .inl (zI g, 4, .inl (upd (fun _ => 0) 3 p3))), (h21, .inl (zJ g, 64, .inr (.inl (vp_updL (fun _ => 0) 61 0))))] := hD
            rw [zc_setL] at hP hD
            refine lv_iinc (v := 14) (lv' := [(4, .int 14), (0, .ref h0), (1, .int 3), (2, .int p2), (3, .int p3)]) hx hb dX5_sheet_71 hl (k := 0) rfl (by decide) (by decide) rfl (fun ls hl => ?_)
            refine lv_goto (tgt := 51) hx hb dX5_sheet_74 (by decide) ?_
            refine lv_iload hx hb dX5_sheet_51 (lv_at hl 0 rfl) ?_
            refine lv_bipush (v := 16) hx hb dX5_sheet_53 (by decide) ?_
            refine lv_icmp_ge (tgt := 77) hx hb dX5_sheet_55 (by decide) (fun h => absurd h (by decide +kernel)) (fun _ => ?_)
            refine lv_aload_n hx hb dX5_sheet_58 rfl (lv_at hl 1 rfl) ?_
            refine va_get (D := g.1) (ci := 5) (v := .ref h21) (C := RX5) (T := TX5) (N := 27) hx hb hts zl_X5 hown hK hP 0 rfl rfl 25 (by decide) (hts _ m_f_RX5_70) (fun _ h => h) rfl dX5_sheet_59 ?_
            refine lv_bipush (v := 16) hx hb dX5_sheet_62 (by decide) ?_
            refine lv_iload_n hx hb dX5_sheet_64 rfl (lv_at hl 2 rfl) ?_
            refine lv_imul hx hb dX5_sheet_65 ?_
            refine lv_topi (nm_r (e' := 48) (by decide +kernel) ?_)
            refine lv_iload hx hb dX5_sheet_66 (lv_at hl 0 rfl) ?_
            refine lv_iadd hx hb dX5_sheet_68 ?_
            refine lv_topi (nm_r (e' := 62) (by decide +kernel) ?_)
            refine lv_lconst (v := 0) hx hb dX5_sheet_69 (by decide) ?_
            refine va_last (D := g.1) hx hb hK hP hD hS 3 1 rfl rfl (vp_in_iff.mpr (by decide +kernel)) dX5_sheet_70 (fun H locs hP hD hS => ?_)
            have hP : va_P g.1 vwCl [(h0, .inr (5, [.ref h1, .int 0, .ref h2, .int 0, .int 0, .ref h3, .ref h4, .ref h5, .ref h6, .int 0, .ref h7, .ref h8, .ref h9, .int 0, .ref h10, .ref h11, .ref h12, .ref h13, .ref h14, .ref h15, .ref h16, .ref h17, .ref h18, .ref h19, .ref h20, .ref h21, .ref h22])), (h19, .inl (zI g, 4, .inl (upd (upd (upd (upd (upd (fun _ => 0) 0 (-1)) 1 (-1)) 2 (-1)) 3 (-1)) 3 p2))), (h20, .inl (zI g, 4, .inl (upd (fun _ => 0) 3 p3))), (h21, .inl (zJ g, 64, .inr (.inl (vp_updL (fun _ => 0) 62 0))))] H := hP
            have hD : va_D A [(h0, .inr (5, [.ref h1, .int 0, .ref h2, .int 0, .int 0, .ref h3, .ref h4, .ref h5, .ref h6, .int 0, .ref h7, .ref h8, .ref h9, .int 0, .ref h10, .ref h11, .ref h12, .ref h13, .ref h14, .ref h15, .ref h16, .ref h17, .ref h18, .ref h19, .ref h20, .ref h21, .ref h22])), (h19, .inl (zI g, 4, .inl (upd (upd (upd (upd (upd (fun _ => 0) 0 (-1)) 1 (-1)) 2 (-1)) 3 (-1)) 3 p2))), (h20, .inl (zI g, 4, .inl (upd (fun _ => 0) 3 p3))), (h21, .inl (zJ g, 64, .inr (.inl (vp_updL (fun _ => 0) 62 0))))] := hD
            rw [zc_setL] at hP hD
            refine lv_iinc (v := 15) (lv' := [(4, .int 15), (0, .ref h0), (1, .int 3), (2, .int p2), (3, .int p3)]) hx hb dX5_sheet_71 hl (k := 0) rfl (by decide) (by decide) rfl (fun ls hl => ?_)
            refine lv_goto (tgt := 51) hx hb dX5_sheet_74 (by decide) ?_
            refine lv_iload hx hb dX5_sheet_51 (lv_at hl 0 rfl) ?_
            refine lv_bipush (v := 16) hx hb dX5_sheet_53 (by decide) ?_
            refine lv_icmp_ge (tgt := 77) hx hb dX5_sheet_55 (by decide) (fun h => absurd h (by decide +kernel)) (fun _ => ?_)
            refine lv_aload_n hx hb dX5_sheet_58 rfl (lv_at hl 1 rfl) ?_
            refine va_get (D := g.1) (ci := 5) (v := .ref h21) (C := RX5) (T := TX5) (N := 27) hx hb hts zl_X5 hown hK hP 0 rfl rfl 25 (by decide) (hts _ m_f_RX5_70) (fun _ h => h) rfl dX5_sheet_59 ?_
            refine lv_bipush (v := 16) hx hb dX5_sheet_62 (by decide) ?_
            refine lv_iload_n hx hb dX5_sheet_64 rfl (lv_at hl 2 rfl) ?_
            refine lv_imul hx hb dX5_sheet_65 ?_
            refine lv_topi (nm_r (e' := 48) (by decide +kernel) ?_)
            refine lv_iload hx hb dX5_sheet_66 (lv_at hl 0 rfl) ?_
            refine lv_iadd hx hb dX5_sheet_68 ?_
            refine lv_topi (nm_r (e' := 63) (by decide +kernel) ?_)
            refine lv_lconst (v := 0) hx hb dX5_sheet_69 (by decide) ?_
            refine va_last (D := g.1) hx hb hK hP hD hS 3 1 rfl rfl (vp_in_iff.mpr (by decide +kernel)) dX5_sheet_70 (fun H locs hP hD hS => ?_)
            have hP : va_P g.1 vwCl [(h0, .inr (5, [.ref h1, .int 0, .ref h2, .int 0, .int 0, .ref h3, .ref h4, .ref h5, .ref h6, .int 0, .ref h7, .ref h8, .ref h9, .int 0, .ref h10, .ref h11, .ref h12, .ref h13, .ref h14, .ref h15, .ref h16, .ref h17, .ref h18, .ref h19, .ref h20, .ref h21, .ref h22])), (h19, .inl (zI g, 4, .inl (upd (upd (upd (upd (upd (fun _ => 0) 0 (-1)) 1 (-1)) 2 (-1)) 3 (-1)) 3 p2))), (h20, .inl (zI g, 4, .inl (upd (fun _ => 0) 3 p3))), (h21, .inl (zJ g, 64, .inr (.inl (vp_updL (fun _ => 0) 63 0))))] H := hP
            have hD : va_D A [(h0, .inr (5, [.ref h1, .int 0, .ref h2, .int 0, .int 0, .ref h3, .ref h4, .ref h5, .ref h6, .int 0, .ref h7, .ref h8, .ref h9, .int 0, .ref h10, .ref h11, .ref h12, .ref h13, .ref h14, .ref h15, .ref h16, .ref h17, .ref h18, .ref h19, .ref h20, .ref h21, .ref h22])), (h19, .inl (zI g, 4, .inl (upd (upd (upd (upd (upd (fun _ => 0) 0 (-1)) 1 (-1)) 2 (-1)) 3 (-1)) 3 p2))), (h20, .inl (zI g, 4, .inl (upd (fun _ => 0) 3 p3))), (h21, .inl (zJ g, 64, .inr (.inl (vp_updL (fun _ => 0) 63 0))))] := hD
            rw [zc_setL] at hP hD
            refine lv_iinc (v := 16) (lv' := [(4, .int 16), (0, .ref h0), (1, .int 3), (2, .int p2), (3, .int p3)]) hx hb dX5_sheet_71 hl (k := 0) rfl (by decide) (by decide) rfl (fun ls hl => ?_)
            refine lv_goto (tgt := 51) hx hb dX5_sheet_74 (by decide) ?_
            refine lv_iload hx hb dX5_sheet_51 (lv_at hl 0 rfl) ?_
            refine lv_bipush (v := 16) hx hb dX5_sheet_53 (by decide) ?_
            refine lv_icmp_ge (tgt := 77) hx hb dX5_sheet_55 (by decide) (fun _ => ?_) (fun h => absurd h (by decide +kernel))
            refine lv_iload_n hx hb dX5_sheet_77 rfl (lv_at hl 4 rfl) ?_
            have hP9 := hP.sub (ws' := []) [] rfl
            have hD9 := hD.sub (ws' := []) [] (by decide) rfl
            exact W.iret (v := p3) hx hb hr (fun t ht hW => ⟨⟨p3, 0, rfl, Or.inr (Or.inr (Or.inr (Or.inr (Or.inr (Or.inr (Or.inr (Or.inl ⟨i_3, i_4, i_8, i_9, i_10, i_11, j_12, rfl⟩))))))), by rw [ht]; exact hP9, hD9⟩, hS.F ht⟩) hS.2.2 dX5_sheet_78
        · have i_11 : p3.toInt < 0 := z_nle (rfl) (rfl) c_11
          refine lv_bipush (v := (-14)) hx hb dX5_sheet_31 (by decide) ?_
          have hP9 := hP.sub (ws' := []) [] rfl
          have hD9 := hD.sub (ws' := []) [] (by decide) rfl
          exact W.iret (v := (-14)) hx hb hr (fun t ht hW => ⟨⟨(-14), 0, rfl, Or.inr (Or.inr (Or.inr (Or.inr (Or.inr (Or.inr (Or.inr (Or.inr (Or.inl ⟨i_3, i_4, i_8, i_9, i_10, i_11, rfl⟩)))))))), by rw [ht]; exact hP9, hD9⟩, hS.F ht⟩) hS.2.2 dX5_sheet_33
      · have i_10 : 16 < p3.toInt := z_nle (rfl) (rfl) c_10
        refine lv_iconst (v := (-1)) hx hb dX5_sheet_25 (by decide) ?_
        have hP9 := hP.sub (ws' := []) [] rfl
        have hD9 := hD.sub (ws' := []) [] (by decide) rfl
        exact W.iret (v := (-1)) hx hb hr (fun t ht hW => ⟨⟨(-1), 0, rfl, Or.inr (Or.inr (Or.inr (Or.inr (Or.inr (Or.inr (Or.inr (Or.inr (Or.inr (⟨i_3, i_4, i_8, i_9, i_10, rfl⟩))))))))), by rw [ht]; exact hP9, hD9⟩, hS.F ht⟩) hS.2.2 dX5_sheet_26
set_option maxHeartbeats 4000000 in
set_option maxRecDepth 100000 in
theorem kX5_in_36 (l : Launch) (g : zG) (sz : Nat) (p0 : Int64) : Met l yX5_in (.code yX5_in cX5_in 6 (some .boolean) :: zBig) ({ frames := 0, cells := 0, slots := 0, locals := 0 }) (va_Pc [.long p0, .long 0, .long 3] (zPre g [] sz)) (va_Qi (fun (r : Int32) (_ : Nat) => ((p0 : Int64).toInt < 0 ∧ r = 0) ∨ (0 ≤ (p0 : Int64).toInt ∧ 3 < (p0 : Int64).toInt ∧ r = 0) ∨ (0 ≤ (p0 : Int64).toInt ∧ (p0 : Int64).toInt ≤ 3 ∧ r = 1)) (zPost g (fun _ : Nat => []) (va_A [] sz)) (va_A [] sz)) 0 0 (va_A [] sz) := by
  refine zMetI rfl (Nat.le_of_ble_eq_true rfl) ?_
  intro p e s m args below meth c A ls hx hb hml hr hlocks hin hown hts hK hN hZ hP hD hA hS hAe hl
  have hown : s.vm.findClass RX5 = some m.cls := hown
  have hl : lv_has ls 6 [(0, .long p0), (2, .long 0), (4, .long 3)] := hl
  refine lv_lload_n hx hb dX5_in_0 rfl (lv_at hl 0 rfl) ?_
  refine lv_lload_n hx hb dX5_in_1 rfl (lv_at hl 1 rfl) ?_
  refine W.lcmp hx hb dX5_in_2 ?_
  refine lv_if_lt (tgt := 17) hx hb dX5_in_3 (by decide) (fun c_0 => ?_) (fun c_0 => ?_)
  · have i_0 : (p0 : Int64).toInt < 0 := zl_lt (rfl) (rfl) ((lg_cmp_lt _ _).mp c_0)
    refine lv_iconst (v := 0) hx hb dX5_in_17 (by decide) ?_
    have hP9 := hP.sub (ws' := []) [] rfl
    have hD9 := hD.sub (ws' := []) [] (by decide) rfl
    exact W.zret (v := 0) hx hb hr (by decide) (fun t ht hW => ⟨⟨0, 0, rfl, Or.inl ⟨i_0, rfl⟩, by rw [ht]; exact hP9, hD9⟩, hS.F ht⟩) hS.2.2 dX5_in_18
  · have i_0 : 0 ≤ (p0 : Int64).toInt := zl_nlt (rfl) (rfl) (fun h => c_0 ((lg_cmp_lt _ _).mpr h))
    refine lv_lload_n hx hb dX5_in_6 rfl (lv_at hl 0 rfl) ?_
    refine lv_lload hx hb dX5_in_7 (lv_at hl 2 rfl) ?_
    refine W.lcmp hx hb dX5_in_9 ?_
    refine lv_if_gt (tgt := 17) hx hb dX5_in_10 (by decide) (fun c_1 => ?_) (fun c_1 => ?_)
    · have i_1 : 3 < (p0 : Int64).toInt := zl_lt (rfl) (rfl) ((lg_cmp_gt _ _).mp c_1)
      refine lv_iconst (v := 0) hx hb dX5_in_17 (by decide) ?_
      have hP9 := hP.sub (ws' := []) [] rfl
      have hD9 := hD.sub (ws' := []) [] (by decide) rfl
      exact W.zret (v := 0) hx hb hr (by decide) (fun t ht hW => ⟨⟨0, 0, rfl, Or.inr (Or.inl ⟨i_0, i_1, rfl⟩), by rw [ht]; exact hP9, hD9⟩, hS.F ht⟩) hS.2.2 dX5_in_18
    · have i_1 : (p0 : Int64).toInt ≤ 3 := zl_nlt (rfl) (rfl) (fun h => c_1 ((lg_cmp_gt _ _).mpr h))
      refine lv_iconst (v := 1) hx hb dX5_in_13 (by decide) ?_
      refine lv_goto (tgt := 18) hx hb dX5_in_14 (by decide) ?_
      have hP9 := hP.sub (ws' := []) [] rfl
      have hD9 := hD.sub (ws' := []) [] (by decide) rfl
      exact W.zret (v := 1) hx hb hr (by decide) (fun t ht hW => ⟨⟨1, 0, rfl, Or.inr (Or.inr (⟨i_0, i_1, rfl⟩)), by rw [ht]; exact hP9, hD9⟩, hS.F ht⟩) hS.2.2 dX5_in_18
set_option maxHeartbeats 4000000 in
set_option maxRecDepth 100000 in
theorem kX5_isSheet_4 (l : Launch) (g : zG) (sz : Nat) (p0 : Int32) : Met l yX5_isSheet (.code yX5_isSheet cX5_isSheet 1 (some .boolean) :: zBig) ({ frames := 1, cells := 0, slots := 0, locals := 25 }) (va_Pc [.int p0] (zPre g [] sz)) (va_Qi (fun (r : Int32) (_ : Nat) => (p0.toInt < 0 ∧ r = 0) ∨ (0 ≤ p0.toInt ∧ 3 < p0.toInt ∧ r = 0) ∨ (0 ≤ p0.toInt ∧ p0.toInt ≤ 3 ∧ r = 1)) (zPost g (fun _ : Nat => []) (va_A [] sz)) (va_A [] sz)) 0 0 (va_A [] sz) := by
  refine zMetI rfl (Nat.le_of_ble_eq_true rfl) ?_
  intro p e s m args below meth c A ls hx hb hml hr hlocks hin hown hts hK hN hZ hP hD hA hS hAe hl
  have hown : s.vm.findClass RX5 = some m.cls := hown
  have hl : lv_has ls 1 [(0, .int p0)] := hl
  refine lv_iload_n hx hb dX5_isSheet_0 rfl (lv_at hl 0 rfl) ?_
  refine lv_i2l (v := p0.toInt64) hx hb dX5_isSheet_1 rfl ?_
  refine lv_lconst (v := 0) hx hb dX5_isSheet_2 (by decide) ?_
  refine lv_ldc2 (v := 3) hx hb hown (hts _ m_k_RX5_96) dX5_isSheet_3 ?_
  refine z_calli (wr := []) hP hD hS hA [] [] (by decide) rfl rfl (by decide) (va_runS (As := [.long p0.toInt64, .long 0, .long 3]) (rest := []) ⟨hx, hb, hml, hown, hts⟩ (kX5_in_30 l g  s.heap.size p0.toInt64) ⟨callB_of 3 hts (zGood m_o_yX5_in) rfl rfl rfl (hts _ m_z_RX5) (hts _ m_m_RX5_77) ⟨by decide +kernel, by decide +kernel, by decide +kernel⟩ ⟨Nat.le_of_ble_eq_true rfl, Nat.le_of_ble_eq_true rfl⟩, hts _ m_s_yX5_in⟩ (zPreS hK hN hZ hP hD hS hA [] (by decide) rfl rfl) rfl rfl hl.1 rfl (lv_room (Nat.le_of_ble_eq_true rfl)) dX5_isSheet_6 ⟨Nat.le_of_ble_eq_true rfl, Nat.le_of_ble_eq_true rfl⟩) (fun r u H locs hw hP hD hS => ?_)
  rcases hw with ⟨i_0, rfl⟩ | ⟨i_1, i_2, rfl⟩ | ⟨i_3, i_4, rfl⟩
  · skip
    have i_0 : p0.toInt < 0 := by simpa only [Int32.toInt_toInt64] using i_0
    have hP : va_P g.1 vwCl [] H := hP
    have hD : va_D A [] := hD
    have hP9 := hP.sub (ws' := []) [] rfl
    have hD9 := hD.sub (ws' := []) [] (by decide) rfl
    exact W.zret (v := 0) hx hb hr (by decide) (fun t ht hW => ⟨⟨0, 0, rfl, Or.inl ⟨i_0, rfl⟩, by rw [ht]; exact hP9, hD9⟩, hS.F ht⟩) hS.2.2 dX5_isSheet_9
  · skip
    have i_1 : 0 ≤ p0.toInt := by simpa only [Int32.toInt_toInt64] using i_1
    have i_2 : 3 < p0.toInt := by simpa only [Int32.toInt_toInt64] using i_2
    have hP : va_P g.1 vwCl [] H := hP
    have hD : va_D A [] := hD
    have hP9 := hP.sub (ws' := []) [] rfl
    have hD9 := hD.sub (ws' := []) [] (by decide) rfl
    exact W.zret (v := 0) hx hb hr (by decide) (fun t ht hW => ⟨⟨0, 0, rfl, Or.inr (Or.inl ⟨i_1, i_2, rfl⟩), by rw [ht]; exact hP9, hD9⟩, hS.F ht⟩) hS.2.2 dX5_isSheet_9
  · skip
    have i_3 : 0 ≤ p0.toInt := by simpa only [Int32.toInt_toInt64] using i_3
    have i_4 : p0.toInt ≤ 3 := by simpa only [Int32.toInt_toInt64] using i_4
    have hP : va_P g.1 vwCl [] H := hP
    have hD : va_D A [] := hD
    have hP9 := hP.sub (ws' := []) [] rfl
    have hD9 := hD.sub (ws' := []) [] (by decide) rfl
    exact W.zret (v := 1) hx hb hr (by decide) (fun t ht hW => ⟨⟨1, 0, rfl, Or.inr (Or.inr (⟨i_3, i_4, rfl⟩)), by rw [ht]; exact hP9, hD9⟩, hS.F ht⟩) hS.2.2 dX5_isSheet_9
set_option maxHeartbeats 4000000 in
set_option maxRecDepth 100000 in
theorem kX5_drop (l : Launch) (g : zG) (h0 h1 h2 h3 h4 h5 h6 h7 h8 h9 h10 h11 h12 h13 h14 h15 h16 h17 h18 h19 h20 h21 h22 : Nat) (sz : Nat) (p1 : Int32) : Met l yX5_drop (.code yX5_drop cX5_drop 2 (some .int) :: zBig) ({ frames := 2, cells := 0, slots := 0, locals := 45 }) (va_Pc [.ref h0, .int p1] (zPre g [(h0, .inr (5, [.ref h1, .int 0, .ref h2, .int 0, .int 0, .ref h3, .ref h4, .ref h5, .ref h6, .int 0, .ref h7, .ref h8, .ref h9, .int 0, .ref h10, .ref h11, .ref h12, .ref h13, .ref h14, .ref h15, .ref h16, .ref h17, .ref h18, .ref h19, .ref h20, .ref h21, .ref h22])), (h19, .inl (zI g, 4, .inl (upd (upd (upd (upd (fun _ => 0) 0 (-1)) 1 (-1)) 2 (-1)) 3 (-1))))] sz)) (va_Qi (fun (r : Int32) (_ : Nat) => (p1.toInt < 0 ∧ r = (-1)) ∨ (0 ≤ p1.toInt ∧ 3 < p1.toInt ∧ r = (-1)) ∨ (0 ≤ p1.toInt ∧ p1.toInt ≤ 3 ∧ p1.toInt = 0 ∧ r = (-11)) ∨ (0 ≤ p1.toInt ∧ p1.toInt ≤ 3 ∧ p1.toInt = 1 ∧ r = (-11)) ∨ (0 ≤ p1.toInt ∧ p1.toInt ≤ 3 ∧ p1.toInt = 2 ∧ r = (-11)) ∨ (0 ≤ p1.toInt ∧ p1.toInt ≤ 3 ∧ p1.toInt = 3 ∧ r = (-11))) (zPost g (fun _ : Nat => []) (va_A [(h0, .inr (5, [.ref h1, .int 0, .ref h2, .int 0, .int 0, .ref h3, .ref h4, .ref h5, .ref h6, .int 0, .ref h7, .ref h8, .ref h9, .int 0, .ref h10, .ref h11, .ref h12, .ref h13, .ref h14, .ref h15, .ref h16, .ref h17, .ref h18, .ref h19, .ref h20, .ref h21, .ref h22])), (h19, .inl (zI g, 4, .inl (upd (upd (upd (upd (fun _ => 0) 0 (-1)) 1 (-1)) 2 (-1)) 3 (-1))))] sz)) (va_A [(h0, .inr (5, [.ref h1, .int 0, .ref h2, .int 0, .int 0, .ref h3, .ref h4, .ref h5, .ref h6, .int 0, .ref h7, .ref h8, .ref h9, .int 0, .ref h10, .ref h11, .ref h12, .ref h13, .ref h14, .ref h15, .ref h16, .ref h17, .ref h18, .ref h19, .ref h20, .ref h21, .ref h22])), (h19, .inl (zI g, 4, .inl (upd (upd (upd (upd (fun _ => 0) 0 (-1)) 1 (-1)) 2 (-1)) 3 (-1))))] sz)) 0 0 (va_A [(h0, .inr (5, [.ref h1, .int 0, .ref h2, .int 0, .int 0, .ref h3, .ref h4, .ref h5, .ref h6, .int 0, .ref h7, .ref h8, .ref h9, .int 0, .ref h10, .ref h11, .ref h12, .ref h13, .ref h14, .ref h15, .ref h16, .ref h17, .ref h18, .ref h19, .ref h20, .ref h21, .ref h22])), (h19, .inl (zI g, 4, .inl (upd (upd (upd (upd (fun _ => 0) 0 (-1)) 1 (-1)) 2 (-1)) 3 (-1))))] sz) := by
  refine zMetI rfl (Nat.le_of_ble_eq_true rfl) ?_
  intro p e s m args below meth c A ls hx hb hml hr hlocks hin hown hts hK hN hZ hP hD hA hS hAe hl
  have hown : s.vm.findClass RX5 = some m.cls := hown
  have hl : lv_has ls 2 [(0, .ref h0), (1, .int p1)] := hl
  refine lv_iload_n hx hb dX5_drop_0 rfl (lv_at hl 1 rfl) ?_
  refine z_calli (wr := [(h0, .inr (5, [.ref h1, .int 0, .ref h2, .int 0, .int 0, .ref h3, .ref h4, .ref h5, .ref h6, .int 0, .ref h7, .ref h8, .ref h9, .int 0, .ref h10, .ref h11, .ref h12, .ref h13, .ref h14, .ref h15, .ref h16, .ref h17, .ref h18, .ref h19, .ref h20, .ref h21, .ref h22])), (h19, .inl (zI g, 4, .inl (upd (upd (upd (upd (fun _ => 0) 0 (-1)) 1 (-1)) 2 (-1)) 3 (-1))))]) hP hD hS hA [] [0, 1] (by decide) rfl rfl (by decide) (va_runS (As := [.int p1]) (rest := []) ⟨hx, hb, hml, hown, hts⟩ (kX5_isSheet_4 l g  s.heap.size p1) ⟨callB_of 1 hts (zGood m_o_yX5_isSheet) rfl rfl rfl (hts _ m_z_RX5) (hts _ m_m_RX5_225) ⟨by decide +kernel, by decide +kernel, by decide +kernel⟩ ⟨Nat.le_of_ble_eq_true rfl, Nat.le_of_ble_eq_true rfl⟩, hts _ m_s_yX5_isSheet⟩ (zPreS hK hN hZ hP hD hS hA [] (by decide) rfl rfl) rfl rfl hl.1 rfl (lv_room (Nat.le_of_ble_eq_true rfl)) dX5_drop_1 ⟨Nat.le_of_ble_eq_true rfl, Nat.le_of_ble_eq_true rfl⟩) (fun r u H locs hw hP hD hS => ?_)
  rcases hw with ⟨i_0, rfl⟩ | ⟨i_1, i_2, rfl⟩ | ⟨i_3, i_4, rfl⟩
  · skip
    have i_0 : p1.toInt < 0 := i_0
    have hP : va_P g.1 vwCl [(h0, .inr (5, [.ref h1, .int 0, .ref h2, .int 0, .int 0, .ref h3, .ref h4, .ref h5, .ref h6, .int 0, .ref h7, .ref h8, .ref h9, .int 0, .ref h10, .ref h11, .ref h12, .ref h13, .ref h14, .ref h15, .ref h16, .ref h17, .ref h18, .ref h19, .ref h20, .ref h21, .ref h22])), (h19, .inl (zI g, 4, .inl (upd (upd (upd (upd (fun _ => 0) 0 (-1)) 1 (-1)) 2 (-1)) 3 (-1))))] H := hP
    have hD : va_D A [(h0, .inr (5, [.ref h1, .int 0, .ref h2, .int 0, .int 0, .ref h3, .ref h4, .ref h5, .ref h6, .int 0, .ref h7, .ref h8, .ref h9, .int 0, .ref h10, .ref h11, .ref h12, .ref h13, .ref h14, .ref h15, .ref h16, .ref h17, .ref h18, .ref h19, .ref h20, .ref h21, .ref h22])), (h19, .inl (zI g, 4, .inl (upd (upd (upd (upd (fun _ => 0) 0 (-1)) 1 (-1)) 2 (-1)) 3 (-1))))] := hD
    refine lv_if_ne (tgt := 9) hx hb dX5_drop_4 (by decide) (fun h => absurd h (by decide +kernel)) (fun _ => ?_)
    refine lv_iconst (v := (-1)) hx hb dX5_drop_7 (by decide) ?_
    have hP9 := hP.sub (ws' := []) [] rfl
    have hD9 := hD.sub (ws' := []) [] (by decide) rfl
    exact W.iret (v := (-1)) hx hb hr (fun t ht hW => ⟨⟨(-1), 0, rfl, Or.inl ⟨i_0, rfl⟩, by rw [ht]; exact hP9, hD9⟩, hS.F ht⟩) hS.2.2 dX5_drop_8
  · skip
    have i_1 : 0 ≤ p1.toInt := i_1
    have i_2 : 3 < p1.toInt := i_2
    have hP : va_P g.1 vwCl [(h0, .inr (5, [.ref h1, .int 0, .ref h2, .int 0, .int 0, .ref h3, .ref h4, .ref h5, .ref h6, .int 0, .ref h7, .ref h8, .ref h9, .int 0, .ref h10, .ref h11, .ref h12, .ref h13, .ref h14, .ref h15, .ref h16, .ref h17, .ref h18, .ref h19, .ref h20, .ref h21, .ref h22])), (h19, .inl (zI g, 4, .inl (upd (upd (upd (upd (fun _ => 0) 0 (-1)) 1 (-1)) 2 (-1)) 3 (-1))))] H := hP
    have hD : va_D A [(h0, .inr (5, [.ref h1, .int 0, .ref h2, .int 0, .int 0, .ref h3, .ref h4, .ref h5, .ref h6, .int 0, .ref h7, .ref h8, .ref h9, .int 0, .ref h10, .ref h11, .ref h12, .ref h13, .ref h14, .ref h15, .ref h16, .ref h17, .ref h18, .ref h19, .ref h20, .ref h21, .ref h22])), (h19, .inl (zI g, 4, .inl (upd (upd (upd (upd (fun _ => 0) 0 (-1)) 1 (-1)) 2 (-1)) 3 (-1))))] := hD
    refine lv_if_ne (tgt := 9) hx hb dX5_drop_4 (by decide) (fun h => absurd h (by decide +kernel)) (fun _ => ?_)
    refine lv_iconst (v := (-1)) hx hb dX5_drop_7 (by decide) ?_
    have hP9 := hP.sub (ws' := []) [] rfl
    have hD9 := hD.sub (ws' := []) [] (by decide) rfl
    exact W.iret (v := (-1)) hx hb hr (fun t ht hW => ⟨⟨(-1), 0, rfl, Or.inr (Or.inl ⟨i_1, i_2, rfl⟩), by rw [ht]; exact hP9, hD9⟩, hS.F ht⟩) hS.2.2 dX5_drop_8
  · skip
    have i_3 : 0 ≤ p1.toInt := i_3
    have i_4 : p1.toInt ≤ 3 := i_4
    have hP : va_P g.1 vwCl [(h0, .inr (5, [.ref h1, .int 0, .ref h2, .int 0, .int 0, .ref h3, .ref h4, .ref h5, .ref h6, .int 0, .ref h7, .ref h8, .ref h9, .int 0, .ref h10, .ref h11, .ref h12, .ref h13, .ref h14, .ref h15, .ref h16, .ref h17, .ref h18, .ref h19, .ref h20, .ref h21, .ref h22])), (h19, .inl (zI g, 4, .inl (upd (upd (upd (upd (fun _ => 0) 0 (-1)) 1 (-1)) 2 (-1)) 3 (-1))))] H := hP
    have hD : va_D A [(h0, .inr (5, [.ref h1, .int 0, .ref h2, .int 0, .int 0, .ref h3, .ref h4, .ref h5, .ref h6, .int 0, .ref h7, .ref h8, .ref h9, .int 0, .ref h10, .ref h11, .ref h12, .ref h13, .ref h14, .ref h15, .ref h16, .ref h17, .ref h18, .ref h19, .ref h20, .ref h21, .ref h22])), (h19, .inl (zI g, 4, .inl (upd (upd (upd (upd (fun _ => 0) 0 (-1)) 1 (-1)) 2 (-1)) 3 (-1))))] := hD
    refine lv_if_ne (tgt := 9) hx hb dX5_drop_4 (by decide) (fun _ => ?_) (fun h => absurd h (by decide +kernel))
    refine lv_aload_n hx hb dX5_drop_9 rfl (lv_at hl 0 rfl) ?_
    refine va_get (D := g.1) (ci := 5) (v := .ref h19) (C := RX5) (T := TX5) (N := 27) hx hb hts zl_X5 hown hK hP 0 rfl rfl 23 (by decide) (hts _ m_f_RX5_64) (fun _ h => h) rfl dX5_drop_10 ?_
    refine lv_iload_n hx hb dX5_drop_13 rfl (lv_at hl 1 rfl) ?_
    rcases (show p1.toInt = 0 ∨ p1.toInt = 1 ∨ p1.toInt = 2 ∨ p1.toInt = 3 by omega) with j_5 | j_5 | j_5 | j_5
    · obtain rfl : p1 = 0 := Int32.toInt_inj.mp (show p1.toInt = (0 : Int32).toInt from j_5.trans rfl)
      refine va_iald (D := g.1) hx hb hK hP 1 0 rfl rfl (vp_in_iff.mpr (by decide +kernel)) dX5_drop_14 ?_
      refine lv_topi (nm_r (e' := (-1)) (by rfl) ?_)
      refine lv_if_ge (tgt := 21) hx hb dX5_drop_15 (by decide) (fun h => absurd h (by decide +kernel)) (fun _ => ?_)
      refine lv_bipush (v := (-11)) hx hb dX5_drop_18 (by decide) ?_
      have hP9 := hP.sub (ws' := []) [] rfl
      have hD9 := hD.sub (ws' := []) [] (by decide) rfl
      exact W.iret (v := (-11)) hx hb hr (fun t ht hW => ⟨⟨(-11), 0, rfl, Or.inr (Or.inr (Or.inl ⟨i_3, i_4, j_5, rfl⟩)), by rw [ht]; exact hP9, hD9⟩, hS.F ht⟩) hS.2.2 dX5_drop_20
    · obtain rfl : p1 = 1 := Int32.toInt_inj.mp (show p1.toInt = (1 : Int32).toInt from j_5.trans rfl)
      refine va_iald (D := g.1) hx hb hK hP 1 0 rfl rfl (vp_in_iff.mpr (by decide +kernel)) dX5_drop_14 ?_
      refine lv_topi (nm_r (e' := (-1)) (by rfl) ?_)
      refine lv_if_ge (tgt := 21) hx hb dX5_drop_15 (by decide) (fun h => absurd h (by decide +kernel)) (fun _ => ?_)
      refine lv_bipush (v := (-11)) hx hb dX5_drop_18 (by decide) ?_
      have hP9 := hP.sub (ws' := []) [] rfl
      have hD9 := hD.sub (ws' := []) [] (by decide) rfl
      exact W.iret (v := (-11)) hx hb hr (fun t ht hW => ⟨⟨(-11), 0, rfl, Or.inr (Or.inr (Or.inr (Or.inl ⟨i_3, i_4, j_5, rfl⟩))), by rw [ht]; exact hP9, hD9⟩, hS.F ht⟩) hS.2.2 dX5_drop_20
    · obtain rfl : p1 = 2 := Int32.toInt_inj.mp (show p1.toInt = (2 : Int32).toInt from j_5.trans rfl)
      refine va_iald (D := g.1) hx hb hK hP 1 0 rfl rfl (vp_in_iff.mpr (by decide +kernel)) dX5_drop_14 ?_
      refine lv_topi (nm_r (e' := (-1)) (by rfl) ?_)
      refine lv_if_ge (tgt := 21) hx hb dX5_drop_15 (by decide) (fun h => absurd h (by decide +kernel)) (fun _ => ?_)
      refine lv_bipush (v := (-11)) hx hb dX5_drop_18 (by decide) ?_
      have hP9 := hP.sub (ws' := []) [] rfl
      have hD9 := hD.sub (ws' := []) [] (by decide) rfl
      exact W.iret (v := (-11)) hx hb hr (fun t ht hW => ⟨⟨(-11), 0, rfl, Or.inr (Or.inr (Or.inr (Or.inr (Or.inl ⟨i_3, i_4, j_5, rfl⟩)))), by rw [ht]; exact hP9, hD9⟩, hS.F ht⟩) hS.2.2 dX5_drop_20
    · obtain rfl : p1 = 3 := Int32.toInt_inj.mp (show p1.toInt = (3 : Int32).toInt from j_5.trans rfl)
      refine va_iald (D := g.1) hx hb hK hP 1 0 rfl rfl (vp_in_iff.mpr (by decide +kernel)) dX5_drop_14 ?_
      refine lv_topi (nm_r (e' := (-1)) (by rfl) ?_)
      refine lv_if_ge (tgt := 21) hx hb dX5_drop_15 (by decide) (fun h => absurd h (by decide +kernel)) (fun _ => ?_)
      refine lv_bipush (v := (-11)) hx hb dX5_drop_18 (by decide) ?_
      have hP9 := hP.sub (ws' := []) [] rfl
      have hD9 := hD.sub (ws' := []) [] (by decide) rfl
      exact W.iret (v := (-11)) hx hb hr (fun t ht hW => ⟨⟨(-11), 0, rfl, Or.inr (Or.inr (Or.inr (Or.inr (Or.inr (⟨i_3, i_4, j_5, rfl⟩))))), by rw [ht]; exact hP9, hD9⟩, hS.F ht⟩) hS.2.2 dX5_drop_20
set_option maxHeartbeats 4000000 in
set_option maxRecDepth 100000 in
theorem kX5_bars_9 (l : Launch) (g : zG) (h0 h1 h2 h3 h4 h5 h6 h7 h8 h9 h10 h11 h12 h13 h14 h15 h16 h17 h18 h19 h20 h21 h22 : Nat) (sz : Nat) (p2 : Int32) (p3 : Int32) : Met l yX5_bars (.code yX5_bars cX5_bars 5 (some .int) :: zBig) ({ frames := 0, cells := 0, slots := 0, locals := 0 }) (va_Pc [.ref h0, .int 0, .int p2, .int p3, .int 1] (zPre g [(h0, .inr (5, [.ref h1, .int 0, .ref h2, .int 0, .int 0, .ref h3, .ref h4, .ref h5, .ref h6, .int 0, .ref h7, .ref h8, .ref h9, .int 0, .ref h10, .ref h11, .ref h12, .ref h13, .ref h14, .ref h15, .ref h16, .ref h17, .ref h18, .ref h19, .ref h20, .ref h21, .ref h22])), (h19, .inl (zI g, 4, .inl (upd (upd (upd (upd (fun _ => 0) 0 (-1)) 1 (-1)) 2 (-1)) 3 (-1))))] sz)) (va_Qi (fun (r : Int32) (_ : Nat) => r = (-11)) (zPost g (fun _ : Nat => [(h0, .inr (5, [.ref h1, .int 0, .ref h2, .int 0, .int 0, .ref h3, .ref h4, .ref h5, .ref h6, .int 0, .ref h7, .ref h8, .ref h9, .int 0, .ref h10, .ref h11, .ref h12, .ref h13, .ref h14, .ref h15, .ref h16, .ref h17, .ref h18, .ref h19, .ref h20, .ref h21, .ref h22])), (h19, .inl (zI g, 4, .inl (upd (upd (upd (upd (fun _ => 0) 0 (-1)) 1 (-1)) 2 (-1)) 3 (-1))))]) (va_A [(h0, .inr (5, [.ref h1, .int 0, .ref h2, .int 0, .int 0, .ref h3, .ref h4, .ref h5, .ref h6, .int 0, .ref h7, .ref h8, .ref h9, .int 0, .ref h10, .ref h11, .ref h12, .ref h13, .ref h14, .ref h15, .ref h16, .ref h17, .ref h18, .ref h19, .ref h20, .ref h21, .ref h22])), (h19, .inl (zI g, 4, .inl (upd (upd (upd (upd (fun _ => 0) 0 (-1)) 1 (-1)) 2 (-1)) 3 (-1))))] sz)) (va_A [(h0, .inr (5, [.ref h1, .int 0, .ref h2, .int 0, .int 0, .ref h3, .ref h4, .ref h5, .ref h6, .int 0, .ref h7, .ref h8, .ref h9, .int 0, .ref h10, .ref h11, .ref h12, .ref h13, .ref h14, .ref h15, .ref h16, .ref h17, .ref h18, .ref h19, .ref h20, .ref h21, .ref h22])), (h19, .inl (zI g, 4, .inl (upd (upd (upd (upd (fun _ => 0) 0 (-1)) 1 (-1)) 2 (-1)) 3 (-1))))] sz)) 0 0 (va_A [(h0, .inr (5, [.ref h1, .int 0, .ref h2, .int 0, .int 0, .ref h3, .ref h4, .ref h5, .ref h6, .int 0, .ref h7, .ref h8, .ref h9, .int 0, .ref h10, .ref h11, .ref h12, .ref h13, .ref h14, .ref h15, .ref h16, .ref h17, .ref h18, .ref h19, .ref h20, .ref h21, .ref h22])), (h19, .inl (zI g, 4, .inl (upd (upd (upd (upd (fun _ => 0) 0 (-1)) 1 (-1)) 2 (-1)) 3 (-1))))] sz) := by
  refine zMetI rfl (Nat.le_of_ble_eq_true rfl) ?_
  intro p e s m args below meth c A ls hx hb hml hr hlocks hin hown hts hK hN hZ hP hD hA hS hAe hl
  have hown : s.vm.findClass RX5 = some m.cls := hown
  have hl : lv_has ls 5 [(0, .ref h0), (1, .int 0), (2, .int p2), (3, .int p3), (4, .int 1)] := hl
  refine lv_aload_n hx hb dX5_bars_0 rfl (lv_at hl 0 rfl) ?_
  refine va_get (D := g.1) (ci := 5) (v := .ref h19) (C := RX5) (T := TX5) (N := 27) hx hb hts zl_X5 hown hK hP 0 rfl rfl 23 (by decide) (hts _ m_f_RX5_64) (fun _ h => h) rfl dX5_bars_1 ?_
  refine lv_iload_n hx hb dX5_bars_4 rfl (lv_at hl 1 rfl) ?_
  refine va_iald (D := g.1) hx hb hK hP 1 0 rfl rfl (vp_in_iff.mpr (by decide +kernel)) dX5_bars_5 ?_
  refine lv_topi (nm_r (e' := (-1)) (by rfl) ?_)
  refine lv_if_ge (tgt := 14) hx hb dX5_bars_6 (by decide) (fun h => absurd h (by decide +kernel)) (fun _ => ?_)
  refine lv_bipush (v := (-11)) hx hb dX5_bars_9 (by decide) ?_
  refine lv_goto (tgt := 61) hx hb dX5_bars_11 (by decide) ?_
  have hP9 := hP.sub (ws' := [(h0, .inr (5, [.ref h1, .int 0, .ref h2, .int 0, .int 0, .ref h3, .ref h4, .ref h5, .ref h6, .int 0, .ref h7, .ref h8, .ref h9, .int 0, .ref h10, .ref h11, .ref h12, .ref h13, .ref h14, .ref h15, .ref h16, .ref h17, .ref h18, .ref h19, .ref h20, .ref h21, .ref h22])), (h19, .inl (zI g, 4, .inl (upd (upd (upd (upd (fun _ => 0) 0 (-1)) 1 (-1)) 2 (-1)) 3 (-1))))]) [0, 1] rfl
  have hD9 := hD.sub (ws' := [(h0, .inr (5, [.ref h1, .int 0, .ref h2, .int 0, .int 0, .ref h3, .ref h4, .ref h5, .ref h6, .int 0, .ref h7, .ref h8, .ref h9, .int 0, .ref h10, .ref h11, .ref h12, .ref h13, .ref h14, .ref h15, .ref h16, .ref h17, .ref h18, .ref h19, .ref h20, .ref h21, .ref h22])), (h19, .inl (zI g, 4, .inl (upd (upd (upd (upd (fun _ => 0) 0 (-1)) 1 (-1)) 2 (-1)) 3 (-1))))]) [0, 1] (by decide) rfl
  exact W.iret (v := (-11)) hx hb hr (fun t ht hW => ⟨⟨(-11), 0, rfl, rfl, by rw [ht]; exact hP9, hD9⟩, hS.F ht⟩) hS.2.2 dX5_bars_61
set_option maxHeartbeats 4000000 in
set_option maxRecDepth 100000 in
theorem kX5_bars_10 (l : Launch) (g : zG) (h0 h1 h2 h3 h4 h5 h6 h7 h8 h9 h10 h11 h12 h13 h14 h15 h16 h17 h18 h19 h20 h21 h22 : Nat) (sz : Nat) (p2 : Int32) (p3 : Int32) : Met l yX5_bars (.code yX5_bars cX5_bars 5 (some .int) :: zBig) ({ frames := 0, cells := 0, slots := 0, locals := 0 }) (va_Pc [.ref h0, .int 1, .int p2, .int p3, .int 1] (zPre g [(h0, .inr (5, [.ref h1, .int 0, .ref h2, .int 0, .int 0, .ref h3, .ref h4, .ref h5, .ref h6, .int 0, .ref h7, .ref h8, .ref h9, .int 0, .ref h10, .ref h11, .ref h12, .ref h13, .ref h14, .ref h15, .ref h16, .ref h17, .ref h18, .ref h19, .ref h20, .ref h21, .ref h22])), (h19, .inl (zI g, 4, .inl (upd (upd (upd (upd (fun _ => 0) 0 (-1)) 1 (-1)) 2 (-1)) 3 (-1))))] sz)) (va_Qi (fun (r : Int32) (_ : Nat) => r = (-11)) (zPost g (fun _ : Nat => [(h0, .inr (5, [.ref h1, .int 0, .ref h2, .int 0, .int 0, .ref h3, .ref h4, .ref h5, .ref h6, .int 0, .ref h7, .ref h8, .ref h9, .int 0, .ref h10, .ref h11, .ref h12, .ref h13, .ref h14, .ref h15, .ref h16, .ref h17, .ref h18, .ref h19, .ref h20, .ref h21, .ref h22])), (h19, .inl (zI g, 4, .inl (upd (upd (upd (upd (fun _ => 0) 0 (-1)) 1 (-1)) 2 (-1)) 3 (-1))))]) (va_A [(h0, .inr (5, [.ref h1, .int 0, .ref h2, .int 0, .int 0, .ref h3, .ref h4, .ref h5, .ref h6, .int 0, .ref h7, .ref h8, .ref h9, .int 0, .ref h10, .ref h11, .ref h12, .ref h13, .ref h14, .ref h15, .ref h16, .ref h17, .ref h18, .ref h19, .ref h20, .ref h21, .ref h22])), (h19, .inl (zI g, 4, .inl (upd (upd (upd (upd (fun _ => 0) 0 (-1)) 1 (-1)) 2 (-1)) 3 (-1))))] sz)) (va_A [(h0, .inr (5, [.ref h1, .int 0, .ref h2, .int 0, .int 0, .ref h3, .ref h4, .ref h5, .ref h6, .int 0, .ref h7, .ref h8, .ref h9, .int 0, .ref h10, .ref h11, .ref h12, .ref h13, .ref h14, .ref h15, .ref h16, .ref h17, .ref h18, .ref h19, .ref h20, .ref h21, .ref h22])), (h19, .inl (zI g, 4, .inl (upd (upd (upd (upd (fun _ => 0) 0 (-1)) 1 (-1)) 2 (-1)) 3 (-1))))] sz)) 0 0 (va_A [(h0, .inr (5, [.ref h1, .int 0, .ref h2, .int 0, .int 0, .ref h3, .ref h4, .ref h5, .ref h6, .int 0, .ref h7, .ref h8, .ref h9, .int 0, .ref h10, .ref h11, .ref h12, .ref h13, .ref h14, .ref h15, .ref h16, .ref h17, .ref h18, .ref h19, .ref h20, .ref h21, .ref h22])), (h19, .inl (zI g, 4, .inl (upd (upd (upd (upd (fun _ => 0) 0 (-1)) 1 (-1)) 2 (-1)) 3 (-1))))] sz) := by
  refine zMetI rfl (Nat.le_of_ble_eq_true rfl) ?_
  intro p e s m args below meth c A ls hx hb hml hr hlocks hin hown hts hK hN hZ hP hD hA hS hAe hl
  have hown : s.vm.findClass RX5 = some m.cls := hown
  have hl : lv_has ls 5 [(0, .ref h0), (1, .int 1), (2, .int p2), (3, .int p3), (4, .int 1)] := hl
  refine lv_aload_n hx hb dX5_bars_0 rfl (lv_at hl 0 rfl) ?_
  refine va_get (D := g.1) (ci := 5) (v := .ref h19) (C := RX5) (T := TX5) (N := 27) hx hb hts zl_X5 hown hK hP 0 rfl rfl 23 (by decide) (hts _ m_f_RX5_64) (fun _ h => h) rfl dX5_bars_1 ?_
  refine lv_iload_n hx hb dX5_bars_4 rfl (lv_at hl 1 rfl) ?_
  refine va_iald (D := g.1) hx hb hK hP 1 0 rfl rfl (vp_in_iff.mpr (by decide +kernel)) dX5_bars_5 ?_
  refine lv_topi (nm_r (e' := (-1)) (by rfl) ?_)
  refine lv_if_ge (tgt := 14) hx hb dX5_bars_6 (by decide) (fun h => absurd h (by decide +kernel)) (fun _ => ?_)
  refine lv_bipush (v := (-11)) hx hb dX5_bars_9 (by decide) ?_
  refine lv_goto (tgt := 61) hx hb dX5_bars_11 (by decide) ?_
  have hP9 := hP.sub (ws' := [(h0, .inr (5, [.ref h1, .int 0, .ref h2, .int 0, .int 0, .ref h3, .ref h4, .ref h5, .ref h6, .int 0, .ref h7, .ref h8, .ref h9, .int 0, .ref h10, .ref h11, .ref h12, .ref h13, .ref h14, .ref h15, .ref h16, .ref h17, .ref h18, .ref h19, .ref h20, .ref h21, .ref h22])), (h19, .inl (zI g, 4, .inl (upd (upd (upd (upd (fun _ => 0) 0 (-1)) 1 (-1)) 2 (-1)) 3 (-1))))]) [0, 1] rfl
  have hD9 := hD.sub (ws' := [(h0, .inr (5, [.ref h1, .int 0, .ref h2, .int 0, .int 0, .ref h3, .ref h4, .ref h5, .ref h6, .int 0, .ref h7, .ref h8, .ref h9, .int 0, .ref h10, .ref h11, .ref h12, .ref h13, .ref h14, .ref h15, .ref h16, .ref h17, .ref h18, .ref h19, .ref h20, .ref h21, .ref h22])), (h19, .inl (zI g, 4, .inl (upd (upd (upd (upd (fun _ => 0) 0 (-1)) 1 (-1)) 2 (-1)) 3 (-1))))]) [0, 1] (by decide) rfl
  exact W.iret (v := (-11)) hx hb hr (fun t ht hW => ⟨⟨(-11), 0, rfl, rfl, by rw [ht]; exact hP9, hD9⟩, hS.F ht⟩) hS.2.2 dX5_bars_61
