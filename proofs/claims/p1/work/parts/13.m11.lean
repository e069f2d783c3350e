set_option maxHeartbeats 4000000 in
set_option maxRecDepth 100000 in
theorem kX5_bars_11 (l : Launch) (g : zG) (h0 h1 h2 h3 h4 h5 h6 h7 h8 h9 h10 h11 h12 h13 h14 h15 h16 h17 h18 h19 h20 h21 h22 : Nat) (sz : Nat) (p2 : Int32) (p3 : Int32) : Met l yX5_bars (.code yX5_bars cX5_bars 5 (some .int) :: zBig) ({ frames := 0, cells := 0, slots := 0, locals := 0 }) (va_Pc [.ref h0, .int 2, .int p2, .int p3, .int 1] (zPre g [(h0, .inr (5, [.ref h1, .int 0, .ref h2, .int 0, .int 0, .ref h3, .ref h4, .ref h5, .ref h6, .int 0, .ref h7, .ref h8, .ref h9, .int 0, .ref h10, .ref h11, .ref h12, .ref h13, .ref h14, .ref h15, .ref h16, .ref h17, .ref h18, .ref h19, .ref h20, .ref h21, .ref h22])), (h19, .inl (zI g, 4, .inl (upd (upd (upd (upd (fun _ => 0) 0 (-1)) 1 (-1)) 2 (-1)) 3 (-1))))] sz)) (va_Qi (fun (r : Int32) (_ : Nat) => r = (-11)) (zPost g (fun _ : Nat => [(h0, .inr (5, [.ref h1, .int 0, .ref h2, .int 0, .int 0, .ref h3, .ref h4, .ref h5, .ref h6, .int 0, .ref h7, .ref h8, .ref h9, .int 0, .ref h10, .ref h11, .ref h12, .ref h13, .ref h14, .ref h15, .ref h16, .ref h17, .ref h18, .ref h19, .ref h20, .ref h21, .ref h22])), (h19, .inl (zI g, 4, .inl (upd (upd (upd (upd (fun _ => 0) 0 (-1)) 1 (-1)) 2 (-1)) 3 (-1))))]) (va_A [(h0, .inr (5, [.ref h1, .int 0, .ref h2, .int 0, .int 0, .ref h3, .ref h4, .ref h5, .ref h6, .int 0, .ref h7, .ref h8, .ref h9, .int 0, .ref h10, .ref h11, .ref h12, .ref h13, .ref h14, .ref h15, .ref h16, .ref h17, .ref h18, .ref h19, .ref h20, .ref h21, .ref h22])), (h19, .inl (zI g, 4, .inl (upd (upd (upd (upd (fun _ => 0) 0 (-1)) 1 (-1)) 2 (-1)) 3 (-1))))] sz)) (va_A [(h0, .inr (5, [.ref h1, .int 0, .ref h2, .int 0, .int 0, .ref h3, .ref h4, .ref h5, .ref h6, .int 0, .ref h7, .ref h8, .ref h9, .int 0, .ref h10, .ref h11, .ref h12, .ref h13, .ref h14, .ref h15, .ref h16, .ref h17, .ref h18, .ref h19, .ref h20, .ref h21, .ref h22])), (h19, .inl (zI g, 4, .inl (upd (upd (upd (upd (fun _ => 0) 0 (-1)) 1 (-1)) 2 (-1)) 3 (-1))))] sz)) 0 0 (va_A [(h0, .inr (5, [.ref h1, .int 0, .ref h2, .int 0, .int 0, .ref h3, .ref h4, .ref h5, .ref h6, .int 0, .ref h7, .ref h8, .ref h9, .int 0, .ref h10, .ref h11, .ref h12, .ref h13, .ref h14, .ref h15, .ref h16, .ref h17, .ref h18, .ref h19, .ref h20, .ref h21, .ref h22])), (h19, .inl (zI g, 4, .inl (upd (upd (upd (upd (fun _ => 0) 0 (-1)) 1 (-1)) 2 (-1)) 3 (-1))))] sz) := by
  refine zMetI rfl (Nat.le_of_ble_eq_true rfl) ?_
  intro p e s m args below meth c A ls hx hb hml hr hlocks hin hown hts hK hN hZ hP hD hA hS hAe hl
  have hown : s.vm.findClass RX5 = some m.cls := hown
  have hl : lv_has ls 5 [(0, .ref h0), (1, .int 2), (2, .int p2), (3, .int p3), (4, .int 1)] := hl
  refine lv_aload_n hx hb dX5_bars_0 rfl (lv_at hl 0 rfl) ?_
  refine va_get (D := g.1) (ci := 5) (v := .ref h19) (C := RX5) (T := TX5) (N := 27) hx hb hts zl_X5 hown hK hP 0 rfl rfl 23 (by decide) (hts _ m_f_RX5_64) (fun _ h => h) rfl dX5_bars_1 ?_
  refine lv_iload_n hx hb dX5_bars_4 rfl (lv_at hl 1 rfl) ?_
  refine va_iald (D := g.1) hx hb hK hP 1 0 rfl rfl (vp_in_iff.mpr (by decide +kernel)) dX5_bars_5 ?_
  refine lv_topi (nm_r (e' := (-1)) (by rfl) ?_)
  refine lv_if_ge (tgt := 14) hx hb dX5_bars_6 (by decide) (fun h => absurd h (by decide +kernel)) (fun _ => ?_)
  refine lv_bipush (v := (-11)) hx hb dX5_bars_9 (by decide) ?_
  refine lv_goto (tgt := 61) hx hb dX5_bars_11 (by decide) ?_
  have hP9 := hP.sub (ws' := [(h0, .inr (5, [.ref h1, .int 0, .ref h2, .int 0, .int 0, .ref h3, .ref h4, .ref h5, .ref h6, .int 0, .ref h7, .ref h8, .ref h9, .int 0, .ref h10, .ref h11, .ref h12, .ref h13, .ref h14, .ref h15, .ref h16, .ref h17, .ref h18, .ref h19, .ref h20, .ref h21, .ref h22])), (h19, .inl (zI g, 4, .inl (upd (upd (upd (upd (fun _ => 0) 0 (-1)) 1 (-1)) 2 (-1)) 3 (-1))))]) [0, 1] rfl
  have hD9 := hD.sub (ws' := [(h0, .inr (5, [.ref h1, .int 0, .ref h2, .int 0, .int 0, .ref h3, .ref h4, .ref h5, .ref h6, .int 0, .ref h7, .ref h8, .ref h9, .int 0, .ref h10, .ref h11, .ref h12, .ref h13, .ref h14, .ref h15, .ref h16, .ref h17, .ref h18, .ref h19, .ref h20, .ref h21, .ref h22])), (h19, .inl (zI g, 4, .inl (upd (upd (upd (upd (fun _ => 0) 0 (-1)) 1 (-1)) 2 (-1)) 3 (-1))))]) [0, 1] (by decide) rfl
  exact W.iret (v := (-11)) hx hb hr (fun t ht hW => ⟨⟨(-11), 0, rfl, rfl, by rw [ht]; exact hP9, hD9⟩, hS.F ht⟩) hS.2.2 dX5_bars_61
set_option maxHeartbeats 4000000 in
set_option maxRecDepth 100000 in
theorem kX5_bars_12 (l : Launch) (g : zG) (h0 h1 h2 h3 h4 h5 h6 h7 h8 h9 h10 h11 h12 h13 h14 h15 h16 h17 h18 h19 h20 h21 h22 : Nat) (sz : Nat) (p2 : Int32) (p3 : Int32) : Met l yX5_bars (.code yX5_bars cX5_bars 5 (some .int) :: zBig) ({ frames := 0, cells := 0, slots := 0, locals := 0 }) (va_Pc [.ref h0, .int 3, .int p2, .int p3, .int 1] (zPre g [(h0, .inr (5, [.ref h1, .int 0, .ref h2, .int 0, .int 0, .ref h3, .ref h4, .ref h5, .ref h6, .int 0, .ref h7, .ref h8, .ref h9, .int 0, .ref h10, .ref h11, .ref h12, .ref h13, .ref h14, .ref h15, .ref h16, .ref h17, .ref h18, .ref h19, .ref h20, .ref h21, .ref h22])), (h19, .inl (zI g, 4, .inl (upd (upd (upd (upd (fun _ => 0) 0 (-1)) 1 (-1)) 2 (-1)) 3 (-1))))] sz)) (va_Qi (fun (r : Int32) (_ : Nat) => r = (-11)) (zPost g (fun _ : Nat => [(h0, .inr (5, [.ref h1, .int 0, .ref h2, .int 0, .int 0, .ref h3, .ref h4, .ref h5, .ref h6, .int 0, .ref h7, .ref h8, .ref h9, .int 0, .ref h10, .ref h11, .ref h12, .ref h13, .ref h14, .ref h15, .ref h16, .ref h17, .ref h18, .ref h19, .ref h20, .ref h21, .ref h22])), (h19, .inl (zI g, 4, .inl (upd (upd (upd (upd (fun _ => 0) 0 (-1)) 1 (-1)) 2 (-1)) 3 (-1))))]) (va_A [(h0, .inr (5, [.ref h1, .int 0, .ref h2, .int 0, .int 0, .ref h3, .ref h4, .ref h5, .ref h6, .int 0, .ref h7, .ref h8, .ref h9, .int 0, .ref h10, .ref h11, .ref h12, .ref h13, .ref h14, .ref h15, .ref h16, .ref h17, .ref h18, .ref h19, .ref h20, .ref h21, .ref h22])), (h19, .inl (zI g, 4, .inl (upd (upd (upd (upd (fun _ => 0) 0 (-1)) 1 (-1)) 2 (-1)) 3 (-1))))] sz)) (va_A [(h0, .inr (5, [.ref h1, .int 0, .ref h2, .int 0, .int 0, .ref h3, .ref h4, .ref h5, .ref h6, .int 0, .ref h7, .ref h8, .ref h9, .int 0, .ref h10, .ref h11, .ref h12, .ref h13, .ref h14, .ref h15, .ref h16, .ref h17, .ref h18, .ref h19, .ref h20, .ref h21, .ref h22])), (h19, .inl (zI g, 4, .inl (upd (upd (upd (upd (fun _ => 0) 0 (-1)) 1 (-1)) 2 (-1)) 3 (-1))))] sz)) 0 0 (va_A [(h0, .inr (5, [.ref h1, .int 0, .ref h2, .int 0, .int 0, .ref h3, .ref h4, .ref h5, .ref h6, .int 0, .ref h7, .ref h8, .ref h9, .int 0, .ref h10, .ref h11, .ref h12, .ref h13, .ref h14, .ref h15, .ref h16, .ref h17, .ref h18, .ref h19, .ref h20, .ref h21, .ref h22])), (h19, .inl (zI g, 4, .inl (upd (upd (upd (upd (fun _ => 0) 0 (-1)) 1 (-1)) 2 (-1)) 3 (-1))))] sz) := by
  refine zMetI rfl (Nat.le_of_ble_eq_true rfl) ?_
  intro p e s m args below meth c A ls hx hb hml hr hlocks hin hown hts hK hN hZ hP hD hA hS hAe hl
  have hown : s.vm.findClass RX5 = some m.cls := hown
  have hl : lv_has ls 5 [(0, .ref h0), (1, .int 3), (2, .int p2), (3, .int p3), (4, .int 1)] := hl
  refine lv_aload_n hx hb dX5_bars_0 rfl (lv_at hl 0 rfl) ?_
  refine va_get (D := g.1) (ci := 5) (v := .ref h19) (C := RX5) (T := TX5) (N := 27) hx hb hts zl_X5 hown hK hP 0 rfl rfl 23 (by decide) (hts _ m_f_RX5_64) (fun _ h => h) rfl dX5_bars_1 ?_
  refine lv_iload_n hx hb dX5_bars_4 rfl (lv_at hl 1 rfl) ?_
  refine va_iald (D := g.1) hx hb hK hP 1 0 rfl rfl (vp_in_iff.mpr (by decide +kernel)) dX5_bars_5 ?_
  refine lv_topi (nm_r (e' := (-1)) (by rfl) ?_)
  refine lv_if_ge (tgt := 14) hx hb dX5_bars_6 (by decide) (fun h => absurd h (by decide +kernel)) (fun _ => ?_)
  refine lv_bipush (v := (-11)) hx hb dX5_bars_9 (by decide) ?_
  refine lv_goto (tgt := 61) hx hb dX5_bars_11 (by decide) ?_
  have hP9 := hP.sub (ws' := [(h0, .inr (5, [.ref h1, .int 0, .ref h2, .int 0, .int 0, .ref h3, .ref h4, .ref h5, .ref h6, .int 0, .ref h7, .ref h8, .ref h9, .int 0, .ref h10, .ref h11, .ref h12, .ref h13, .ref h14, .ref h15, .ref h16, .ref h17, .ref h18, .ref h19, .ref h20, .ref h21, .ref h22])), (h19, .inl (zI g, 4, .inl (upd (upd (upd (upd (fun _ => 0) 0 (-1)) 1 (-1)) 2 (-1)) 3 (-1))))]) [0, 1] rfl
  have hD9 := hD.sub (ws' := [(h0, .inr (5, [.ref h1, .int 0, .ref h2, .int 0, .int 0, .ref h3, .ref h4, .ref h5, .ref h6, .int 0, .ref h7, .ref h8, .ref h9, .int 0, .ref h10, .ref h11, .ref h12, .ref h13, .ref h14, .ref h15, .ref h16, .ref h17, .ref h18, .ref h19, .ref h20, .ref h21, .ref h22])), (h19, .inl (zI g, 4, .inl (upd (upd (upd (upd (fun _ => 0) 0 (-1)) 1 (-1)) 2 (-1)) 3 (-1))))]) [0, 1] (by decide) rfl
  exact W.iret (v := (-11)) hx hb hr (fun t ht hW => ⟨⟨(-11), 0, rfl, rfl, by rw [ht]; exact hP9, hD9⟩, hS.F ht⟩) hS.2.2 dX5_bars_61
set_option maxHeartbeats 4000000 in
set_option maxRecDepth 100000 in
theorem kX5_in_37 (l : Launch) (g : zG) (sz : Nat) (p0 : Int64) : Met l yX5_in (.code yX5_in cX5_in 6 (some .boolean) :: zBig) ({ frames := 0, cells := 0, slots := 0, locals := 0 }) (va_Pc [.long p0, .long 0, .long 2] (zPre g [] sz)) (va_Qi (fun (r : Int32) (_ : Nat) => ((p0 : Int64).toInt < 0 ∧ r = 0) ∨ (0 ≤ (p0 : Int64).toInt ∧ 2 < (p0 : Int64).toInt ∧ r = 0) ∨ (0 ≤ (p0 : Int64).toInt ∧ (p0 : Int64).toInt ≤ 2 ∧ r = 1)) (zPost g (fun _ : Nat => []) (va_A [] sz)) (va_A [] sz)) 0 0 (va_A [] sz) := by
  refine zMetI rfl (Nat.le_of_ble_eq_true rfl) ?_
  intro p e s m args below meth c A ls hx hb hml hr hlocks hin hown hts hK hN hZ hP hD hA hS hAe hl
  have hown : s.vm.findClass RX5 = some m.cls := hown
  have hl : lv_has ls 6 [(0, .long p0), (2, .long 0), (4, .long 2)] := hl
  refine lv_lload_n hx hb dX5_in_0 rfl (lv_at hl 0 rfl) ?_
  refine lv_lload_n hx hb dX5_in_1 rfl (lv_at hl 1 rfl) ?_
  refine W.lcmp hx hb dX5_in_2 ?_
  refine lv_if_lt (tgt := 17) hx hb dX5_in_3 (by decide) (fun c_0 => ?_) (fun c_0 => ?_)
  · have i_0 : (p0 : Int64).toInt < 0 := zl_lt (rfl) (rfl) ((lg_cmp_lt _ _).mp c_0)
    refine lv_iconst (v := 0) hx hb dX5_in_17 (by decide) ?_
    have hP9 := hP.sub (ws' := []) [] rfl
    have hD9 := hD.sub (ws' := []) [] (by decide) rfl
    exact W.zret (v := 0) hx hb hr (by decide) (fun t ht hW => ⟨⟨0, 0, rfl, Or.inl ⟨i_0, rfl⟩, by rw [ht]; exact hP9, hD9⟩, hS.F ht⟩) hS.2.2 dX5_in_18
  · have i_0 : 0 ≤ (p0 : Int64).toInt := zl_nlt (rfl) (rfl) (fun h => c_0 ((lg_cmp_lt _ _).mpr h))
    refine lv_lload_n hx hb dX5_in_6 rfl (lv_at hl 0 rfl) ?_
    refine lv_lload hx hb dX5_in_7 (lv_at hl 2 rfl) ?_
    refine W.lcmp hx hb dX5_in_9 ?_
    refine lv_if_gt (tgt := 17) hx hb dX5_in_10 (by decide) (fun c_1 => ?_) (fun c_1 => ?_)
    · have i_1 : 2 < (p0 : Int64).toInt := zl_lt (rfl) (rfl) ((lg_cmp_gt _ _).mp c_1)
      refine lv_iconst (v := 0) hx hb dX5_in_17 (by decide) ?_
      have hP9 := hP.sub (ws' := []) [] rfl
      have hD9 := hD.sub (ws' := []) [] (by decide) rfl
      exact W.zret (v := 0) hx hb hr (by decide) (fun t ht hW => ⟨⟨0, 0, rfl, Or.inr (Or.inl ⟨i_0, i_1, rfl⟩), by rw [ht]; exact hP9, hD9⟩, hS.F ht⟩) hS.2.2 dX5_in_18
    · have i_1 : (p0 : Int64).toInt ≤ 2 := zl_nlt (rfl) (rfl) (fun h => c_1 ((lg_cmp_gt _ _).mpr h))
      refine lv_iconst (v := 1) hx hb dX5_in_13 (by decide) ?_
      refine lv_goto (tgt := 18) hx hb dX5_in_14 (by decide) ?_
      have hP9 := hP.sub (ws' := []) [] rfl
      have hD9 := hD.sub (ws' := []) [] (by decide) rfl
      exact W.zret (v := 1) hx hb hr (by decide) (fun t ht hW => ⟨⟨1, 0, rfl, Or.inr (Or.inr (⟨i_0, i_1, rfl⟩)), by rw [ht]; exact hP9, hD9⟩, hS.F ht⟩) hS.2.2 dX5_in_18
set_option maxHeartbeats 4000000 in
set_option maxRecDepth 100000 in
theorem kX5_bars_13 (l : Launch) (g : zG) (h0 h1 h2 h3 h4 h5 h6 h7 h8 h9 h10 h11 h12 h13 h14 h15 h16 h17 h18 h19 h20 h21 h22 : Nat) (sz : Nat) (p2 : Int32) (p3 : Int32) : Met l yX5_bars (.code yX5_bars cX5_bars 5 (some .int) :: zBig) ({ frames := 0, cells := 0, slots := 0, locals := 0 }) (va_Pc [.ref h0, .int 0, .int p2, .int p3, .int 1] (zPre g [(h0, .inr (5, [.ref h1, .int 0, .ref h2, .int 0, .int 0, .ref h3, .ref h4, .ref h5, .ref h6, .int 0, .ref h7, .ref h8, .ref h9, .int 0, .ref h10, .ref h11, .ref h12, .ref h13, .ref h14, .ref h15, .ref h16, .ref h17, .ref h18, .ref h19, .ref h20, .ref h21, .ref h22])), (h19, .inl (zI g, 4, .inl (upd (upd (upd (upd (fun _ => 0) 0 (-1)) 1 (-1)) 2 (-1)) 3 (-1))))] sz)) (va_Qi (fun (r : Int32) (_ : Nat) => r = (-11)) (zPost g (fun _ : Nat => [(h0, .inr (5, [.ref h1, .int 0, .ref h2, .int 0, .int 0, .ref h3, .ref h4, .ref h5, .ref h6, .int 0, .ref h7, .ref h8, .ref h9, .int 0, .ref h10, .ref h11, .ref h12, .ref h13, .ref h14, .ref h15, .ref h16, .ref h17, .ref h18, .ref h19, .ref h20, .ref h21, .ref h22])), (h19, .inl (zI g, 4, .inl (upd (upd (upd (upd (fun _ => 0) 0 (-1)) 1 (-1)) 2 (-1)) 3 (-1))))]) (va_A [(h0, .inr (5, [.ref h1, .int 0, .ref h2, .int 0, .int 0, .ref h3, .ref h4, .ref h5, .ref h6, .int 0, .ref h7, .ref h8, .ref h9, .int 0, .ref h10, .ref h11, .ref h12, .ref h13, .ref h14, .ref h15, .ref h16, .ref h17, .ref h18, .ref h19, .ref h20, .ref h21, .ref h22])), (h19, .inl (zI g, 4, .inl (upd (upd (upd (upd (fun _ => 0) 0 (-1)) 1 (-1)) 2 (-1)) 3 (-1))))] sz)) (va_A [(h0, .inr (5, [.ref h1, .int 0, .ref h2, .int 0, .int 0, .ref h3, .ref h4, .ref h5, .ref h6, .int 0, .ref h7, .ref h8, .ref h9, .int 0, .ref h10, .ref h11, .ref h12, .ref h13, .ref h14, .ref h15, .ref h16, .ref h17, .ref h18, .ref h19, .ref h20, .ref h21, .ref h22])), (h19, .inl (zI g, 4, .inl (upd (upd (upd (upd (fun _ => 0) 0 (-1)) 1 (-1)) 2 (-1)) 3 (-1))))] sz)) 0 0 (va_A [(h0, .inr (5, [.ref h1, .int 0, .ref h2, .int 0, .int 0, .ref h3, .ref h4, .ref h5, .ref h6, .int 0, .ref h7, .ref h8, .ref h9, .int 0, .ref h10, .ref h11, .ref h12, .ref h13, .ref h14, .ref h15, .ref h16, .ref h17, .ref h18, .ref h19, .ref h20, .ref h21, .ref h22])), (h19, .inl (zI g, 4, .inl (upd (upd (upd (upd (fun _ => 0) 0 (-1)) 1 (-1)) 2 (-1)) 3 (-1))))] sz) := by
  refine zMetI rfl (Nat.le_of_ble_eq_true rfl) ?_
  intro p e s m args below meth c A ls hx hb hml hr hlocks hin hown hts hK hN hZ hP hD hA hS hAe hl
  have hown : s.vm.findClass RX5 = some m.cls := hown
  have hl : lv_has ls 5 [(0, .ref h0), (1, .int 0), (2, .int p2), (3, .int p3), (4, .int 1)] := hl
  refine lv_aload_n hx hb dX5_bars_0 rfl (lv_at hl 0 rfl) ?_
  refine va_get (D := g.1) (ci := 5) (v := .ref h19) (C := RX5) (T := TX5) (N := 27) hx hb hts zl_X5 hown hK hP 0 rfl rfl 23 (by decide) (hts _ m_f_RX5_64) (fun _ h => h) rfl dX5_bars_1 ?_
  refine lv_iload_n hx hb dX5_bars_4 rfl (lv_at hl 1 rfl) ?_
  refine va_iald (D := g.1) hx hb hK hP 1 0 rfl rfl (vp_in_iff.mpr (by decide +kernel)) dX5_bars_5 ?_
  refine lv_topi (nm_r (e' := (-1)) (by rfl) ?_)
  refine lv_if_ge (tgt := 14) hx hb dX5_bars_6 (by decide) (fun h => absurd h (by decide +kernel)) (fun _ => ?_)
  refine lv_bipush (v := (-11)) hx hb dX5_bars_9 (by decide) ?_
  refine lv_goto (tgt := 61) hx hb dX5_bars_11 (by decide) ?_
  have hP9 := hP.sub (ws' := [(h0, .inr (5, [.ref h1, .int 0, .ref h2, .int 0, .int 0, .ref h3, .ref h4, .ref h5, .ref h6, .int 0, .ref h7, .ref h8, .ref h9, .int 0, .ref h10, .ref h11, .ref h12, .ref h13, .ref h14, .ref h15, .ref h16, .ref h17, .ref h18, .ref h19, .ref h20, .ref h21, .ref h22])), (h19, .inl (zI g, 4, .inl (upd (upd (upd (upd (fun _ => 0) 0 (-1)) 1 (-1)) 2 (-1)) 3 (-1))))]) [0, 1] rfl
  have hD9 := hD.sub (ws' := [(h0, .inr (5, [.ref h1, .int 0, .ref h2, .int 0, .int 0, .ref h3, .ref h4, .ref h5, .ref h6, .int 0, .ref h7, .ref h8, .ref h9, .int 0, .ref h10, .ref h11, .ref h12, .ref h13, .ref h14, .ref h15, .ref h16, .ref h17, .ref h18, .ref h19, .ref h20, .ref h21, .ref h22])), (h19, .inl (zI g, 4, .inl (upd (upd (upd (upd (fun _ => 0) 0 (-1)) 1 (-1)) 2 (-1)) 3 (-1))))]) [0, 1] (by decide) rfl
  exact W.iret (v := (-11)) hx hb hr (fun t ht hW => ⟨⟨(-11), 0, rfl, rfl, by rw [ht]; exact hP9, hD9⟩, hS.F ht⟩) hS.2.2 dX5_bars_61
set_option maxHeartbeats 4000000 in
set_option maxRecDepth 100000 in
theorem kX5_bars_14 (l : Launch) (g : zG) (h0 h1 h2 h3 h4 h5 h6 h7 h8 h9 h10 h11 h12 h13 h14 h15 h16 h17 h18 h19 h20 h21 h22 : Nat) (sz : Nat) (p2 : Int32) (p3 : Int32) : Met l yX5_bars (.code yX5_bars cX5_bars 5 (some .int) :: zBig) ({ frames := 0, cells := 0, slots := 0, locals := 0 }) (va_Pc [.ref h0, .int 1, .int p2, .int p3, .int 1] (zPre g [(h0, .inr (5, [.ref h1, .int 0, .ref h2, .int 0, .int 0, .ref h3, .ref h4, .ref h5, .ref h6, .int 0, .ref h7, .ref h8, .ref h9, .int 0, .ref h10, .ref h11, .ref h12, .ref h13, .ref h14, .ref h15, .ref h16, .ref h17, .ref h18, .ref h19, .ref h20, .ref h21, .ref h22])), (h19, .inl (zI g, 4, .inl (upd (upd (upd (upd (fun _ => 0) 0 (-1)) 1 (-1)) 2 (-1)) 3 (-1))))] sz)) (va_Qi (fun (r : Int32) (_ : Nat) => r = (-11)) (zPost g (fun _ : Nat => [(h0, .inr (5, [.ref h1, .int 0, .ref h2, .int 0, .int 0, .ref h3, .ref h4, .ref h5, .ref h6, .int 0, .ref h7, .ref h8, .ref h9, .int 0, .ref h10, .ref h11, .ref h12, .ref h13, .ref h14, .ref h15, .ref h16, .ref h17, .ref h18, .ref h19, .ref h20, .ref h21, .ref h22])), (h19, .inl (zI g, 4, .inl (upd (upd (upd (upd (fun _ => 0) 0 (-1)) 1 (-1)) 2 (-1)) 3 (-1))))]) (va_A [(h0, .inr (5, [.ref h1, .int 0, .ref h2, .int 0, .int 0, .ref h3, .ref h4, .ref h5, .ref h6, .int 0, .ref h7, .ref h8, .ref h9, .int 0, .ref h10, .ref h11, .ref h12, .ref h13, .ref h14, .ref h15, .ref h16, .ref h17, .ref h18, .ref h19, .ref h20, .ref h21, .ref h22])), (h19, .inl (zI g, 4, .inl (upd (upd (upd (upd (fun _ => 0) 0 (-1)) 1 (-1)) 2 (-1)) 3 (-1))))] sz)) (va_A [(h0, .inr (5, [.ref h1, .int 0, .ref h2, .int 0, .int 0, .ref h3, .ref h4, .ref h5, .ref h6, .int 0, .ref h7, .ref h8, .ref h9, .int 0, .ref h10, .ref h11, .ref h12, .ref h13, .ref h14, .ref h15, .ref h16, .ref h17, .ref h18, .ref h19, .ref h20, .ref h21, .ref h22])), (h19, .inl (zI g, 4, .inl (upd (upd (upd (upd (fun _ => 0) 0 (-1)) 1 (-1)) 2 (-1)) 3 (-1))))] sz)) 0 0 (va_A [(h0, .inr (5, [.ref h1, .int 0, .ref h2, .int 0, .int 0, .ref h3, .ref h4, .ref h5, .ref h6, .int 0, .ref h7, .ref h8, .ref h9, .int 0, .ref h10, .ref h11, .ref h12, .ref h13, .ref h14, .ref h15, .ref h16, .ref h17, .ref h18, .ref h19, .ref h20, .ref h21, .ref h22])), (h19, .inl (zI g, 4, .inl (upd (upd (upd (upd (fun _ => 0) 0 (-1)) 1 (-1)) 2 (-1)) 3 (-1))))] sz) := by
  refine zMetI rfl (Nat.le_of_ble_eq_true rfl) ?_
  intro p e s m args below meth c A ls hx hb hml hr hlocks hin hown hts hK hN hZ hP hD hA hS hAe hl
  have hown : s.vm.findClass RX5 = some m.cls := hown
  have hl : lv_has ls 5 [(0, .ref h0), (1, .int 1), (2, .int p2), (3, .int p3), (4, .int 1)] := hl
  refine lv_aload_n hx hb dX5_bars_0 rfl (lv_at hl 0 rfl) ?_
  refine va_get (D := g.1) (ci := 5) (v := .ref h19) (C := RX5) (T := TX5) (N := 27) hx hb hts zl_X5 hown hK hP 0 rfl rfl 23 (by decide) (hts _ m_f_RX5_64) (fun _ h => h) rfl dX5_bars_1 ?_
  refine lv_iload_n hx hb dX5_bars_4 rfl (lv_at hl 1 rfl) ?_
  refine va_iald (D := g.1) hx hb hK hP 1 0 rfl rfl (vp_in_iff.mpr (by decide +kernel)) dX5_bars_5 ?_
  refine lv_topi (nm_r (e' := (-1)) (by rfl) ?_)
  refine lv_if_ge (tgt := 14) hx hb dX5_bars_6 (by decide) (fun h => absurd h (by decide +kernel)) (fun _ => ?_)
  refine lv_bipush (v := (-11)) hx hb dX5_bars_9 (by decide) ?_
  refine lv_goto (tgt := 61) hx hb dX5_bars_11 (by decide) ?_
  have hP9 := hP.sub (ws' := [(h0, .inr (5, [.ref h1, .int 0, .ref h2, .int 0, .int 0, .ref h3, .ref h4, .ref h5, .ref h6, .int 0, .ref h7, .ref h8, .ref h9, .int 0, .ref h10, .ref h11, .ref h12, .ref h13, .ref h14, .ref h15, .ref h16, .ref h17, .ref h18, .ref h19, .ref h20, .ref h21, .ref h22])), (h19, .inl (zI g, 4, .inl (upd (upd (upd (upd (fun _ => 0) 0 (-1)) 1 (-1)) 2 (-1)) 3 (-1))))]) [0, 1] rfl
  have hD9 := hD.sub (ws' := [(h0, .inr (5, [.ref h1, .int 0, .ref h2, .int 0, .int 0, .ref h3, .ref h4, .ref h5, .ref h6, .int 0, .ref h7, .ref h8, .ref h9, .int 0, .ref h10, .ref h11, .ref h12, .ref h13, .ref h14, .ref h15, .ref h16, .ref h17, .ref h18, .ref h19, .ref h20, .ref h21, .ref h22])), (h19, .inl (zI g, 4, .inl (upd (upd (upd (upd (fun _ => 0) 0 (-1)) 1 (-1)) 2 (-1)) 3 (-1))))]) [0, 1] (by decide) rfl
  exact W.iret (v := (-11)) hx hb hr (fun t ht hW => ⟨⟨(-11), 0, rfl, rfl, by rw [ht]; exact hP9, hD9⟩, hS.F ht⟩) hS.2.2 dX5_bars_61
set_option maxHeartbeats 4000000 in
set_option maxRecDepth 100000 in
theorem kX5_bars_15 (l : Launch) (g : zG) (h0 h1 h2 h3 h4 h5 h6 h7 h8 h9 h10 h11 h12 h13 h14 h15 h16 h17 h18 h19 h20 h21 h22 : Nat) (sz : Nat) (p2 : Int32) (p3 : Int32) : Met l yX5_bars (.code yX5_bars cX5_bars 5 (some .int) :: zBig) ({ frames := 0, cells := 0, slots := 0, locals := 0 }) (va_Pc [.ref h0, .int 2, .int p2, .int p3, .int 1] (zPre g [(h0, .inr (5, [.ref h1, .int 0, .ref h2, .int 0, .int 0, .ref h3, .ref h4, .ref h5, .ref h6, .int 0, .ref h7, .ref h8, .ref h9, .int 0, .ref h10, .ref h11, .ref h12, .ref h13, .ref h14, .ref h15, .ref h16, .ref h17, .ref h18, .ref h19, .ref h20, .ref h21, .ref h22])), (h19, .inl (zI g, 4, .inl (upd (upd (upd (upd (fun _ => 0) 0 (-1)) 1 (-1)) 2 (-1)) 3 (-1))))] sz)) (va_Qi (fun (r : Int32) (_ : Nat) => r = (-11)) (zPost g (fun _ : Nat => [(h0, .inr (5, [.ref h1, .int 0, .ref h2, .int 0, .int 0, .ref h3, .ref h4, .ref h5, .ref h6, .int 0, .ref h7, .ref h8, .ref h9, .int 0, .ref h10, .ref h11, .ref h12, .ref h13, .ref h14, .ref h15, .ref h16, .ref h17, .ref h18, .ref h19, .ref h20, .ref h21, .ref h22])), (h19, .inl (zI g, 4, .inl (upd (upd (upd (upd (fun _ => 0) 0 (-1)) 1 (-1)) 2 (-1)) 3 (-1))))]) (va_A [(h0, .inr (5, [.ref h1, .int 0, .ref h2, .int 0, .int 0, .ref h3, .ref h4, .ref h5, .ref h6, .int 0, .ref h7, .ref h8, .ref h9, .int 0, .ref h10, .ref h11, .ref h12, .ref h13, .ref h14, .ref h15, .ref h16, .ref h17, .ref h18, .ref h19, .ref h20, .ref h21, .ref h22])), (h19, .inl (zI g, 4, .inl (upd (upd (upd (upd (fun _ => 0) 0 (-1)) 1 (-1)) 2 (-1)) 3 (-1))))] sz)) (va_A [(h0, .inr (5, [.ref h1, .int 0, .ref h2, .int 0, .int 0, .ref h3, .ref h4, .ref h5, .ref h6, .int 0, .ref h7, .ref h8, .ref h9, .int 0, .ref h10, .ref h11, .ref h12, .ref h13, .ref h14, .ref h15, .ref h16, .ref h17, .ref h18, .ref h19, .ref h20, .ref h21, .ref h22])), (h19, .inl (zI g, 4, .inl (upd (upd (upd (upd (fun _ => 0) 0 (-1)) 1 (-1)) 2 (-1)) 3 (-1))))] sz)) 0 0 (va_A [(h0, .inr (5, [.ref h1, .int 0, .ref h2, .int 0, .int 0, .ref h3, .ref h4, .ref h5, .ref h6, .int 0, .ref h7, .ref h8, .ref h9, .int 0, .ref h10, .ref h11, .ref h12, .ref h13, .ref h14, .ref h15, .ref h16, .ref h17, .ref h18, .ref h19, .ref h20, .ref h21, .ref h22])), (h19, .inl (zI g, 4, .inl (upd (upd (upd (upd (fun _ => 0) 0 (-1)) 1 (-1)) 2 (-1)) 3 (-1))))] sz) := by
  refine zMetI rfl (Nat.le_of_ble_eq_true rfl) ?_
  intro p e s m args below meth c A ls hx hb hml hr hlocks hin hown hts hK hN hZ hP hD hA hS hAe hl
  have hown : s.vm.findClass RX5 = some m.cls := hown
  have hl : lv_has ls 5 [(0, .ref h0), (1, .int 2), (2, .int p2), (3, .int p3), (4, .int 1)] := hl
  refine lv_aload_n hx hb dX5_bars_0 rfl (lv_at hl 0 rfl) ?_
  refine va_get (D := g.1) (ci := 5) (v := .ref h19) (C := RX5) (T := TX5) (N := 27) hx hb hts zl_X5 hown hK hP 0 rfl rfl 23 (by decide) (hts _ m_f_RX5_64) (fun _ h => h) rfl dX5_bars_1 ?_
  refine lv_iload_n hx hb dX5_bars_4 rfl (lv_at hl 1 rfl) ?_
  refine va_iald (D := g.1) hx hb hK hP 1 0 rfl rfl (vp_in_iff.mpr (by decide +kernel)) dX5_bars_5 ?_
  refine lv_topi (nm_r (e' := (-1)) (by rfl) ?_)
  refine lv_if_ge (tgt := 14) hx hb dX5_bars_6 (by decide) (fun h => absurd h (by decide +kernel)) (fun _ => ?_)
  refine lv_bipush (v := (-11)) hx hb dX5_bars_9 (by decide) ?_
  refine lv_goto (tgt := 61) hx hb dX5_bars_11 (by decide) ?_
  have hP9 := hP.sub (ws' := [(h0, .inr (5, [.ref h1, .int 0, .ref h2, .int 0, .int 0, .ref h3, .ref h4, .ref h5, .ref h6, .int 0, .ref h7, .ref h8, .ref h9, .int 0, .ref h10, .ref h11, .ref h12, .ref h13, .ref h14, .ref h15, .ref h16, .ref h17, .ref h18, .ref h19, .ref h20, .ref h21, .ref h22])), (h19, .inl (zI g, 4, .inl (upd (upd (upd (upd (fun _ => 0) 0 (-1)) 1 (-1)) 2 (-1)) 3 (-1))))]) [0, 1] rfl
  have hD9 := hD.sub (ws' := [(h0, .inr (5, [.ref h1, .int 0, .ref h2, .int 0, .int 0, .ref h3, .ref h4, .ref h5, .ref h6, .int 0, .ref h7, .ref h8, .ref h9, .int 0, .ref h10, .ref h11, .ref h12, .ref h13, .ref h14, .ref h15, .ref h16, .ref h17, .ref h18, .ref h19, .ref h20, .ref h21, .ref h22])), (h19, .inl (zI g, 4, .inl (upd (upd (upd (upd (fun _ => 0) 0 (-1)) 1 (-1)) 2 (-1)) 3 (-1))))]) [0, 1] (by decide) rfl
  exact W.iret (v := (-11)) hx hb hr (fun t ht hW => ⟨⟨(-11), 0, rfl, rfl, by rw [ht]; exact hP9, hD9⟩, hS.F ht⟩) hS.2.2 dX5_bars_61
set_option maxHeartbeats 4000000 in
set_option maxRecDepth 100000 in
theorem kX5_bars_16 (l : Launch) (g : zG) (h0 h1 h2 h3 h4 h5 h6 h7 h8 h9 h10 h11 h12 h13 h14 h15 h16 h17 h18 h19 h20 h21 h22 : Nat) (sz : Nat) (p2 : Int32) (p3 : Int32) : Met l yX5_bars (.code yX5_bars cX5_bars 5 (some .int) :: zBig) ({ frames := 0, cells := 0, slots := 0, locals := 0 }) (va_Pc [.ref h0, .int 3, .int p2, .int p3, .int 1] (zPre g [(h0, .inr (5, [.ref h1, .int 0, .ref h2, .int 0, .int 0, .ref h3, .ref h4, .ref h5, .ref h6, .int 0, .ref h7, .ref h8, .ref h9, .int 0, .ref h10, .ref h11, .ref h12, .ref h13, .ref h14, .ref h15, .ref h16, .ref h17, .ref h18, .ref h19, .ref h20, .ref h21, .ref h22])), (h19, .inl (zI g, 4, .inl (upd (upd (upd (upd (fun _ => 0) 0 (-1)) 1 (-1)) 2 (-1)) 3 (-1))))] sz)) (va_Qi (fun (r : Int32) (_ : Nat) => r = (-11)) (zPost g (fun _ : Nat => [(h0, .inr (5, [.ref h1, .int 0, .ref h2, .int 0, .int 0, .ref h3, .ref h4, .ref h5, .ref h6, .int 0, .ref h7, .ref h8, .ref h9, .int 0, .ref h10, .ref h11, .ref h12, .ref h13, .ref h14, .ref h15, .ref h16, .ref h17, .ref h18, .ref h19, .ref h20, .ref h21, .ref h22])), (h19, .inl (zI g, 4, .inl (upd (upd (upd (upd (fun _ => 0) 0 (-1)) 1 (-1)) 2 (-1)) 3 (-1))))]) (va_A [(h0, .inr (5, [.ref h1, .int 0, .ref h2, .int 0, .int 0, .ref h3, .ref h4, .ref h5, .ref h6, .int 0, .ref h7, .ref h8, .ref h9, .int 0, .ref h10, .ref h11, .ref h12, .ref h13, .ref h14, .ref h15, .ref h16, .ref h17, .ref h18, .ref h19, .ref h20, .ref h21, .ref h22])), (h19, .inl (zI g, 4, .inl (upd (upd (upd (upd (fun _ => 0) 0 (-1)) 1 (-1)) 2 (-1)) 3 (-1))))] sz)) (va_A [(h0, .inr (5, [.ref h1, .int 0, .ref h2, .int 0, .int 0, .ref h3, .ref h4, .ref h5, .ref h6, .int 0, .ref h7, .ref h8, .ref h9, .int 0, .ref h10, .ref h11, .ref h12, .ref h13, .ref h14, .ref h15, .ref h16, .ref h17, .ref h18, .ref h19, .ref h20, .ref h21, .ref h22])), (h19, .inl (zI g, 4, .inl (upd (upd (upd (upd (fun _ => 0) 0 (-1)) 1 (-1)) 2 (-1)) 3 (-1))))] sz)) 0 0 (va_A [(h0, .inr (5, [.ref h1, .int 0, .ref h2, .int 0, .int 0, .ref h3, .ref h4, .ref h5, .ref h6, .int 0, .ref h7, .ref h8, .ref h9, .int 0, .ref h10, .ref h11, .ref h12, .ref h13, .ref h14, .ref h15, .ref h16, .ref h17, .ref h18, .ref h19, .ref h20, .ref h21, .ref h22])), (h19, .inl (zI g, 4, .inl (upd (upd (upd (upd (fun _ => 0) 0 (-1)) 1 (-1)) 2 (-1)) 3 (-1))))] sz) := by
  refine zMetI rfl (Nat.le_of_ble_eq_true rfl) ?_
  intro p e s m args below meth c A ls hx hb hml hr hlocks hin hown hts hK hN hZ hP hD hA hS hAe hl
  have hown : s.vm.findClass RX5 = some m.cls := hown
  have hl : lv_has ls 5 [(0, .ref h0), (1, .int 3), (2, .int p2), (3, .int p3), (4, .int 1)] := hl
  refine lv_aload_n hx hb dX5_bars_0 rfl (lv_at hl 0 rfl) ?_
  refine va_get (D := g.1) (ci := 5) (v := .ref h19) (C := RX5) (T := TX5) (N := 27) hx hb hts zl_X5 hown hK hP 0 rfl rfl 23 (by decide) (hts _ m_f_RX5_64) (fun _ h => h) rfl dX5_bars_1 ?_
  refine lv_iload_n hx hb dX5_bars_4 rfl (lv_at hl 1 rfl) ?_
  refine va_iald (D := g.1) hx hb hK hP 1 0 rfl rfl (vp_in_iff.mpr (by decide +kernel)) dX5_bars_5 ?_
  refine lv_topi (nm_r (e' := (-1)) (by rfl) ?_)
  refine lv_if_ge (tgt := 14) hx hb dX5_bars_6 (by decide) (fun h => absurd h (by decide +kernel)) (fun _ => ?_)
  refine lv_bipush (v := (-11)) hx hb dX5_bars_9 (by decide) ?_
  refine lv_goto (tgt := 61) hx hb dX5_bars_11 (by decide) ?_
  have hP9 := hP.sub (ws' := [(h0, .inr (5, [.ref h1, .int 0, .ref h2, .int 0, .int 0, .ref h3, .ref h4, .ref h5, .ref h6, .int 0, .ref h7, .ref h8, .ref h9, .int 0, .ref h10, .ref h11, .ref h12, .ref h13, .ref h14, .ref h15, .ref h16, .ref h17, .ref h18, .ref h19, .ref h20, .ref h21, .ref h22])), (h19, .inl (zI g, 4, .inl (upd (upd (upd (upd (fun _ => 0) 0 (-1)) 1 (-1)) 2 (-1)) 3 (-1))))]) [0, 1] rfl
  have hD9 := hD.sub (ws' := [(h0, .inr (5, [.ref h1, .int 0, .ref h2, .int 0, .int 0, .ref h3, .ref h4, .ref h5, .ref h6, .int 0, .ref h7, .ref h8, .ref h9, .int 0, .ref h10, .ref h11, .ref h12, .ref h13, .ref h14, .ref h15, .ref h16, .ref h17, .ref h18, .ref h19, .ref h20, .ref h21, .ref h22])), (h19, .inl (zI g, 4, .inl (upd (upd (upd (upd (fun _ => 0) 0 (-1)) 1 (-1)) 2 (-1)) 3 (-1))))]) [0, 1] (by decide) rfl
  exact W.iret (v := (-11)) hx hb hr (fun t ht hW => ⟨⟨(-11), 0, rfl, rfl, by rw [ht]; exact hP9, hD9⟩, hS.F ht⟩) hS.2.2 dX5_bars_61
set_option maxHeartbeats 4000000 in
set_option maxRecDepth 100000 in
theorem kX5_item (l : Launch) (g : zG) (h0 h1 h2 h3 h4 h5 h6 h7 h8 h9 h10 h11 h12 h13 h14 h15 h16 h17 h18 h19 h20 h21 h22 : Nat) (sz : Nat) (p1 : Int32) (p2 : Int32) (p3 : Int32) (p4 : Int64) : Met l yX5_item (.code yX5_item cX5_item 7 (some .int) :: zBig) ({ frames := 2, cells := 0, slots := 0, locals := 45 }) (va_Pc [.ref h0, .int p1, .int p2, .int p3, .long p4] (zPre g [(h0, .inr (5, [.ref h1, .int 0, .ref h2, .int 0, .int 0, .ref h3, .ref h4, .ref h5, .ref h6, .int 0, .ref h7, .ref h8, .ref h9, .int 0, .ref h10, .ref h11, .ref h12, .ref h13, .ref h14, .ref h15, .ref h16, .ref h17, .ref h18, .ref h19, .ref h20, .ref h21, .ref h22])), (h19, .inl (zI g, 4, .inl (upd (upd (upd (upd (fun _ => 0) 0 (-1)) 1 (-1)) 2 (-1)) 3 (-1))))] sz)) (va_Qi (fun (r : Int32) (_ : Nat) => (p1.toInt < 0 ∧ r = (-1)) ∨ (0 ≤ p1.toInt ∧ 3 < p1.toInt ∧ r = (-1)) ∨ (0 ≤ p1.toInt ∧ p1.toInt ≤ 3 ∧ p2.toInt < 0 ∧ r = (-1)) ∨ (0 ≤ p1.toInt ∧ p1.toInt ≤ 3 ∧ 0 ≤ p2.toInt ∧ 2 < p2.toInt ∧ r = (-1)) ∨ (0 ≤ p1.toInt ∧ p1.toInt ≤ 3 ∧ 0 ≤ p2.toInt ∧ p2.toInt ≤ 2 ∧ p1.toInt = 0 ∧ r = (-11)) ∨ (0 ≤ p1.toInt ∧ p1.toInt ≤ 3 ∧ 0 ≤ p2.toInt ∧ p2.toInt ≤ 2 ∧ p1.toInt = 1 ∧ r = (-11)) ∨ (0 ≤ p1.toInt ∧ p1.toInt ≤ 3 ∧ 0 ≤ p2.toInt ∧ p2.toInt ≤ 2 ∧ p1.toInt = 2 ∧ r = (-11)) ∨ (0 ≤ p1.toInt ∧ p1.toInt ≤ 3 ∧ 0 ≤ p2.toInt ∧ p2.toInt ≤ 2 ∧ p1.toInt = 3 ∧ r = (-11))) (zPost g (fun _ : Nat => []) (va_A [(h0, .inr (5, [.ref h1, .int 0, .ref h2, .int 0, .int 0, .ref h3, .ref h4, .ref h5, .ref h6, .int 0, .ref h7, .ref h8, .ref h9, .int 0, .ref h10, .ref h11, .ref h12, .ref h13, .ref h14, .ref h15, .ref h16, .ref h17, .ref h18, .ref h19, .ref h20, .ref h21, .ref h22])), (h19, .inl (zI g, 4, .inl (upd (upd (upd (upd (fun _ => 0) 0 (-1)) 1 (-1)) 2 (-1)) 3 (-1))))] sz)) (va_A [(h0, .inr (5, [.ref h1, .int 0, .ref h2, .int 0, .int 0, .ref h3, .ref h4, .ref h5, .ref h6, .int 0, .ref h7, .ref h8, .ref h9, .int 0, .ref h10, .ref h11, .ref h12, .ref h13, .ref h14, .ref h15, .ref h16, .ref h17, .ref h18, .ref h19, .ref h20, .ref h21, .ref h22])), (h19, .inl (zI g, 4, .inl (upd (upd (upd (upd (fun _ => 0) 0 (-1)) 1 (-1)) 2 (-1)) 3 (-1))))] sz)) 0 0 (va_A [(h0, .inr (5, [.ref h1, .int 0, .ref h2, .int 0, .int 0, .ref h3, .ref h4, .ref h5, .ref h6, .int 0, .ref h7, .ref h8, .ref h9, .int 0, .ref h10, .ref h11, .ref h12, .ref h13, .ref h14, .ref h15, .ref h16, .ref h17, .ref h18, .ref h19, .ref h20, .ref h21, .ref h22])), (h19, .inl (zI g, 4, .inl (upd (upd (upd (upd (fun _ => 0) 0 (-1)) 1 (-1)) 2 (-1)) 3 (-1))))] sz) := by
  refine zMetI rfl (Nat.le_of_ble_eq_true rfl) ?_
  intro p e s m args below meth c A ls hx hb hml hr hlocks hin hown hts hK hN hZ hP hD hA hS hAe hl
  have hown : s.vm.findClass RX5 = some m.cls := hown
  have hl : lv_has ls 7 [(0, .ref h0), (1, .int p1), (2, .int p2), (3, .int p3), (4, .long p4)] := hl
  refine lv_iload_n hx hb dX5_item_0 rfl (lv_at hl 1 rfl) ?_
  refine z_calli (wr := [(h0, .inr (5, [.ref h1, .int 0, .ref h2, .int 0, .int 0, .ref h3, .ref h4, .ref h5, .ref h6, .int 0, .ref h7, .ref h8, .ref h9, .int 0, .ref h10, .ref h11, .ref h12, .ref h13, .ref h14, .ref h15, .ref h16, .ref h17, .ref h18, .ref h19, .ref h20, .ref h21, .ref h22])), (h19, .inl (zI g, 4, .inl (upd (upd (upd (upd (fun _ => 0) 0 (-1)) 1 (-1)) 2 (-1)) 3 (-1))))]) hP hD hS hA [] [0, 1] (by decide) rfl rfl (by decide) (va_runS (As := [.int p1]) (rest := []) ⟨hx, hb, hml, hown, hts⟩ (kX5_isSheet_4 l g  s.heap.size p1) ⟨callB_of 1 hts (zGood m_o_yX5_isSheet) rfl rfl rfl (hts _ m_z_RX5) (hts _ m_m_RX5_225) ⟨by decide +kernel, by decide +kernel, by decide +kernel⟩ ⟨Nat.le_of_ble_eq_true rfl, Nat.le_of_ble_eq_true rfl⟩, hts _ m_s_yX5_isSheet⟩ (zPreS hK hN hZ hP hD hS hA [] (by decide) rfl rfl) rfl rfl hl.1 rfl (lv_room (Nat.le_of_ble_eq_true rfl)) dX5_item_1 ⟨Nat.le_of_ble_eq_true rfl, Nat.le_of_ble_eq_true rfl⟩) (fun r u H locs hw hP hD hS => ?_)
  rcases hw with ⟨i_0, rfl⟩ | ⟨i_1, i_2, rfl⟩ | ⟨i_3, i_4, rfl⟩
  · skip
    have i_0 : p1.toInt < 0 := i_0
    have hP : va_P g.1 vwCl [(h0, .inr (5, [.ref h1, .int 0, .ref h2, .int 0, .int 0, .ref h3, .ref h4, .ref h5, .ref h6, .int 0, .ref h7, .ref h8, .ref h9, .int 0, .ref h10, .ref h11, .ref h12, .ref h13, .ref h14, .ref h15, .ref h16, .ref h17, .ref h18, .ref h19, .ref h20, .ref h21, .ref h22])), (h19, .inl (zI g, 4, .inl (upd (upd (upd (upd (fun _ => 0) 0 (-1)) 1 (-1)) 2 (-1)) 3 (-1))))] H := hP
    have hD : va_D A [(h0, .inr (5, [.ref h1, .int 0, .ref h2, .int 0, .int 0, .ref h3, .ref h4, .ref h5, .ref h6, .int 0, .ref h7, .ref h8, .ref h9, .int 0, .ref h10, .ref h11, .ref h12, .ref h13, .ref h14, .ref h15, .ref h16, .ref h17, .ref h18, .ref h19, .ref h20, .ref h21, .ref h22])), (h19, .inl (zI g, 4, .inl (upd (upd (upd (upd (fun _ => 0) 0 (-1)) 1 (-1)) 2 (-1)) 3 (-1))))] := hD
    refine lv_if_eq (tgt := 19) hx hb dX5_item_4 (by decide) (fun _ => ?_) (fun h => absurd h (by decide +kernel))
    refine lv_iconst (v := (-1)) hx hb dX5_item_19 (by decide) ?_
    have hP9 := hP.sub (ws' := []) [] rfl
    have hD9 := hD.sub (ws' := []) [] (by decide) rfl
    exact W.iret (v := (-1)) hx hb hr (fun t ht hW => ⟨⟨(-1), 0, rfl, Or.inl ⟨i_0, rfl⟩, by rw [ht]; exact hP9, hD9⟩, hS.F ht⟩) hS.2.2 dX5_item_20
  · skip
    have i_1 : 0 ≤ p1.toInt := i_1
    have i_2 : 3 < p1.toInt := i_2
    have hP : va_P g.1 vwCl [(h0, .inr (5, [.ref h1, .int 0, .ref h2, .int 0, .int 0, .ref h3, .ref h4, .ref h5, .ref h6, .int 0, .ref h7, .ref h8, .ref h9, .int 0, .ref h10, .ref h11, .ref h12, .ref h13, .ref h14, .ref h15, .ref h16, .ref h17, .ref h18, .ref h19, .ref h20, .ref h21, .ref h22])), (h19, .inl (zI g, 4, .inl (upd (upd (upd (upd (fun _ => 0) 0 (-1)) 1 (-1)) 2 (-1)) 3 (-1))))] H := hP
    have hD : va_D A [(h0, .inr (5, [.ref h1, .int 0, .ref h2, .int 0, .int 0, .ref h3, .ref h4, .ref h5, .ref h6, .int 0, .ref h7, .ref h8, .ref h9, .int 0, .ref h10, .ref h11, .ref h12, .ref h13, .ref h14, .ref h15, .ref h16, .ref h17, .ref h18, .ref h19, .ref h20, .ref h21, .ref h22])), (h19, .inl (zI g, 4, .inl (upd (upd (upd (upd (fun _ => 0) 0 (-1)) 1 (-1)) 2 (-1)) 3 (-1))))] := hD
    refine lv_if_eq (tgt := 19) hx hb dX5_item_4 (by decide) (fun _ => ?_) (fun h => absurd h (by decide +kernel))
    refine lv_iconst (v := (-1)) hx hb dX5_item_19 (by decide) ?_
    have hP9 := hP.sub (ws' := []) [] rfl
    have hD9 := hD.sub (ws' := []) [] (by decide) rfl
    exact W.iret (v := (-1)) hx hb hr (fun t ht hW => ⟨⟨(-1), 0, rfl, Or.inr (Or.inl ⟨i_1, i_2, rfl⟩), by rw [ht]; exact hP9, hD9⟩, hS.F ht⟩) hS.2.2 dX5_item_20
  · skip
    have i_3 : 0 ≤ p1.toInt := i_3
    have i_4 : p1.toInt ≤ 3 := i_4
    have hP : va_P g.1 vwCl [(h0, .inr (5, [.ref h1, .int 0, .ref h2, .int 0, .int 0, .ref h3, .ref h4, .ref h5, .ref h6, .int 0, .ref h7, .ref h8, .ref h9, .int 0, .ref h10, .ref h11, .ref h12, .ref h13, .ref h14, .ref h15, .ref h16, .ref h17, .ref h18, .ref h19, .ref h20, .ref h21, .ref h22])), (h19, .inl (zI g, 4, .inl (upd (upd (upd (upd (fun _ => 0) 0 (-1)) 1 (-1)) 2 (-1)) 3 (-1))))] H := hP
    have hD : va_D A [(h0, .inr (5, [.ref h1, .int 0, .ref h2, .int 0, .int 0, .ref h3, .ref h4, .ref h5, .ref h6, .int 0, .ref h7, .ref h8, .ref h9, .int 0, .ref h10, .ref h11, .ref h12, .ref h13, .ref h14, .ref h15, .ref h16, .ref h17, .ref h18, .ref h19, .ref h20, .ref h21, .ref h22])), (h19, .inl (zI g, 4, .inl (upd (upd (upd (upd (fun _ => 0) 0 (-1)) 1 (-1)) 2 (-1)) 3 (-1))))] := hD
    refine lv_if_eq (tgt := 19) hx hb dX5_item_4 (by decide) (fun h => absurd h (by decide +kernel)) (fun _ => ?_)
    refine lv_iload_n hx hb dX5_item_7 rfl (lv_at hl 2 rfl) ?_
    refine lv_i2l (v := p2.toInt64) hx hb dX5_item_8 rfl ?_
    refine lv_lconst (v := 0) hx hb dX5_item_9 (by decide) ?_
    refine lv_ldc2 (v := 2) hx hb hown (hts _ m_k_RX5_197) dX5_item_10 ?_
    refine z_calli (wr := [(h0, .inr (5, [.ref h1, .int 0, .ref h2, .int 0, .int 0, .ref h3, .ref h4, .ref h5, .ref h6, .int 0, .ref h7, .ref h8, .ref h9, .int 0, .ref h10, .ref h11, .ref h12, .ref h13, .ref h14, .ref h15, .ref h16, .ref h17, .ref h18, .ref h19, .ref h20, .ref h21, .ref h22])), (h19, .inl (zI g, 4, .inl (upd (upd (upd (upd (fun _ => 0) 0 (-1)) 1 (-1)) 2 (-1)) 3 (-1))))]) hP hD hS hA [] [0, 1] (by decide) rfl rfl (by decide) (va_runS (As := [.long p2.toInt64, .long 0, .long 2]) (rest := []) ⟨hx, hb, hml, hown, hts⟩ (kX5_in_37 l g  H.size p2.toInt64) ⟨callB_of 3 hts (zGood m_o_yX5_in) rfl rfl rfl (hts _ m_z_RX5) (hts _ m_m_RX5_77) ⟨by decide +kernel, by decide +kernel, by decide +kernel⟩ ⟨Nat.le_of_ble_eq_true rfl, Nat.le_of_ble_eq_true rfl⟩, hts _ m_s_yX5_in⟩ (zPreS hK hN hZ hP hD hS hA [] (by decide) rfl rfl) rfl rfl hl.1 rfl (lv_room (Nat.le_of_ble_eq_true rfl)) dX5_item_13 ⟨Nat.le_of_ble_eq_true rfl, Nat.le_of_ble_eq_true rfl⟩) (fun r u H locs hw hP hD hS => ?_)
    rcases hw with ⟨i_5, rfl⟩ | ⟨i_6, i_7, rfl⟩ | ⟨i_8, i_9, rfl⟩
    · skip
      have i_5 : p2.toInt < 0 := by simpa only [Int32.toInt_toInt64] using i_5
      have hP : va_P g.1 vwCl [(h0, .inr (5, [.ref h1, .int 0, .ref h2, .int 0, .int 0, .ref h3, .ref h4, .ref h5, .ref h6, .int 0, .ref h7, .ref h8, .ref h9, .int 0, .ref h10, .ref h11, .ref h12, .ref h13, .ref h14, .ref h15, .ref h16, .ref h17, .ref h18, .ref h19, .ref h20, .ref h21, .ref h22])), (h19, .inl (zI g, 4, .inl (upd (upd (upd (upd (fun _ => 0) 0 (-1)) 1 (-1)) 2 (-1)) 3 (-1))))] H := hP
      have hD : va_D A [(h0, .inr (5, [.ref h1, .int 0, .ref h2, .int 0, .int 0, .ref h3, .ref h4, .ref h5, .ref h6, .int 0, .ref h7, .ref h8, .ref h9, .int 0, .ref h10, .ref h11, .ref h12, .ref h13, .ref h14, .ref h15, .ref h16, .ref h17, .ref h18, .ref h19, .ref h20, .ref h21, .ref h22])), (h19, .inl (zI g, 4, .inl (upd (upd (upd (upd (fun _ => 0) 0 (-1)) 1 (-1)) 2 (-1)) 3 (-1))))] := hD
      refine lv_if_ne (tgt := 21) hx hb dX5_item_16 (by decide) (fun h => absurd h (by decide +kernel)) (fun _ => ?_)
      refine lv_iconst (v := (-1)) hx hb dX5_item_19 (by decide) ?_
      have hP9 := hP.sub (ws' := []) [] rfl
      have hD9 := hD.sub (ws' := []) [] (by decide) rfl
      exact W.iret (v := (-1)) hx hb hr (fun t ht hW => ⟨⟨(-1), 0, rfl, Or.inr (Or.inr (Or.inl ⟨i_3, i_4, i_5, rfl⟩)), by rw [ht]; exact hP9, hD9⟩, hS.F ht⟩) hS.2.2 dX5_item_20
    · skip
      have i_6 : 0 ≤ p2.toInt := by simpa only [Int32.toInt_toInt64] using i_6
      have i_7 : 2 < p2.toInt := by simpa only [Int32.toInt_toInt64] using i_7
      have hP : va_P g.1 vwCl [(h0, .inr (5, [.ref h1, .int 0, .ref h2, .int 0, .int 0, .ref h3, .ref h4, .ref h5, .ref h6, .int 0, .ref h7, .ref h8, .ref h9, .int 0, .ref h10, .ref h11, .ref h12, .ref h13, .ref h14, .ref h15, .ref h16, .ref h17, .ref h18, .ref h19, .ref h20, .ref h21, .ref h22])), (h19, .inl (zI g, 4, .inl (upd (upd (upd (upd (fun _ => 0) 0 (-1)) 1 (-1)) 2 (-1)) 3 (-1))))] H := hP
      have hD : va_D A [(h0, .inr (5, [.ref h1, .int 0, .ref h2, .int 0, .int 0, .ref h3, .ref h4, .ref h5, .ref h6, .int 0, .ref h7, .ref h8, .ref h9, .int 0, .ref h10, .ref h11, .ref h12, .ref h13, .ref h14, .ref h15, .ref h16, .ref h17, .ref h18, .ref h19, .ref h20, .ref h21, .ref h22])), (h19, .inl (zI g, 4, .inl (upd (upd (upd (upd (fun _ => 0) 0 (-1)) 1 (-1)) 2 (-1)) 3 (-1))))] := hD
      refine lv_if_ne (tgt := 21) hx hb dX5_item_16 (by decide) (fun h => absurd h (by decide +kernel)) (fun _ => ?_)
      refine lv_iconst (v := (-1)) hx hb dX5_item_19 (by decide) ?_
      have hP9 := hP.sub (ws' := []) [] rfl
      have hD9 := hD.sub (ws' := []) [] (by decide) rfl
      exact W.iret (v := (-1)) hx hb hr (fun t ht hW => ⟨⟨(-1), 0, rfl, Or.inr (Or.inr (Or.inr (Or.inl ⟨i_3, i_4, i_6, i_7, rfl⟩))), by rw [ht]; exact hP9, hD9⟩, hS.F ht⟩) hS.2.2 dX5_item_20
    · skip
      have i_8 : 0 ≤ p2.toInt := by simpa only [Int32.toInt_toInt64] using i_8
      have i_9 : p2.toInt ≤ 2 := by simpa only [Int32.toInt_toInt64] using i_9
      have hP : va_P g.1 vwCl [(h0, .inr (5, [.ref h1, .int 0, .ref h2, .int 0, .int 0, .ref h3, .ref h4, .ref h5, .ref h6, .int 0, .ref h7, .ref h8, .ref h9, .int 0, .ref h10, .ref h11, .ref h12, .ref h13, .ref h14, .ref h15, .ref h16, .ref h17, .ref h18, .ref h19, .ref h20, .ref h21, .ref h22])), (h19, .inl (zI g, 4, .inl (upd (upd (upd (upd (fun _ => 0) 0 (-1)) 1 (-1)) 2 (-1)) 3 (-1))))] H := hP
      have hD : va_D A [(h0, .inr (5, [.ref h1, .int 0, .ref h2, .int 0, .int 0, .ref h3, .ref h4, .ref h5, .ref h6, .int 0, .ref h7, .ref h8, .ref h9, .int 0, .ref h10, .ref h11, .ref h12, .ref h13, .ref h14, .ref h15, .ref h16, .ref h17, .ref h18, .ref h19, .ref h20, .ref h21, .ref h22])), (h19, .inl (zI g, 4, .inl (upd (upd (upd (upd (fun _ => 0) 0 (-1)) 1 (-1)) 2 (-1)) 3 (-1))))] := hD
      refine lv_if_ne (tgt := 21) hx hb dX5_item_16 (by decide) (fun _ => ?_) (fun h => absurd h (by decide +kernel))
      refine lv_aload_n hx hb dX5_item_21 rfl (lv_at hl 0 rfl) ?_
      refine lv_iload_n hx hb dX5_item_22 rfl (lv_at hl 1 rfl) ?_
      refine lv_iload_n hx hb dX5_item_23 rfl (lv_at hl 2 rfl) ?_
      refine lv_iload_n hx hb dX5_item_24 rfl (lv_at hl 3 rfl) ?_
      refine lv_iconst (v := 1) hx hb dX5_item_25 (by decide) ?_
      rcases (show p1.toInt = 0 ∨ p1.toInt = 1 ∨ p1.toInt = 2 ∨ p1.toInt = 3 by omega) with j_10 | j_10 | j_10 | j_10
      · obtain rfl : p1 = 0 := Int32.toInt_inj.mp (show p1.toInt = (0 : Int32).toInt from j_10.trans rfl)
        refine z_calli (wr := []) hP hD hS hA [0, 1] [] (by decide) rfl rfl (by decide) (va_runV (As := [.int 0, .int p2, .int p3, .int 1]) (rest := []) ⟨hx, hb, hml, hown, hts⟩ (kX5_bars_13 l g h0 h1 h2 h3 h4 h5 h6 h7 h8 h9 h10 h11 h12 h13 h14 h15 h16 h17 h18 h19 h20 h21 h22 H.size p2 p3) ⟨callB_of 4 hts (zGood m_o_yX5_bars) rfl rfl rfl (hts _ m_z_RX5) (hts _ m_m_RX5_228) ⟨by decide +kernel, by decide +kernel, by decide +kernel⟩ ⟨Nat.le_of_ble_eq_true rfl, Nat.le_of_ble_eq_true rfl⟩, hts _ m_i_yX5_bars, hts _ m_e_yX5_bars⟩ (zPreV hK hN hZ hP hD hS hA [0, 1] (by decide) rfl rfl 5 0 rfl rfl) rfl rfl hl.1 rfl (lv_room (Nat.le_of_ble_eq_true rfl)) dX5_item_26 ⟨Nat.le_of_ble_eq_true rfl, Nat.le_of_ble_eq_true rfl⟩) (fun r u H locs hw hP hD hS => ?_)
        obtain rfl := hw
        have hP : va_P g.1 vwCl [(h0, .inr (5, [.ref h1, .int 0, .ref h2, .int 0, .int 0, .ref h3, .ref h4, .ref h5, .ref h6, .int 0, .ref h7, .ref h8, .ref h9, .int 0, .ref h10, .ref h11, .ref h12, .ref h13, .ref h14, .ref h15, .ref h16, .ref h17, .ref h18, .ref h19, .ref h20, .ref h21, .ref h22])), (h19, .inl (zI g, 4, .inl (upd (upd (upd (upd (fun _ => 0) 0 (-1)) 1 (-1)) 2 (-1)) 3 (-1))))] H := hP
        have hD : va_D A [(h0, .inr (5, [.ref h1, .int 0, .ref h2, .int 0, .int 0, .ref h3, .ref h4, .ref h5, .ref h6, .int 0, .ref h7, .ref h8, .ref h9, .int 0, .ref h10, .ref h11, .ref h12, .ref h13, .ref h14, .ref h15, .ref h16, .ref h17, .ref h18, .ref h19, .ref h20, .ref h21, .ref h22])), (h19, .inl (zI g, 4, .inl (upd (upd (upd (upd (fun _ => 0) 0 (-1)) 1 (-1)) 2 (-1)) 3 (-1))))] := hD
        refine lv_istore (lv' := [(6, .int (-11)), (0, .ref h0), (1, .int 0), (2, .int p2), (3, .int p3), (4, .long p4)]) hx hb dX5_item_29 hl (by decide) rfl (fun ls hl => ?_)
        refine lv_iload hx hb dX5_item_31 (lv_at hl 0 rfl) ?_
        refine lv_if_eq (tgt := 39) hx hb dX5_item_33 (by decide) (fun h => absurd h (by decide +kernel)) (fun _ => ?_)
        refine lv_iload hx hb dX5_item_36 (lv_at hl 0 rfl) ?_
        have hP9 := hP.sub (ws' := []) [] rfl
        have hD9 := hD.sub (ws' := []) [] (by decide) rfl
        exact W.iret (v := (-11)) hx hb hr (fun t ht hW => ⟨⟨(-11), 0, rfl, Or.inr (Or.inr (Or.inr (Or.inr (Or.inl ⟨i_3, i_4, i_8, i_9, j_10, rfl⟩)))), by rw [ht]; exact hP9, hD9⟩, hS.F ht⟩) hS.2.2 dX5_item_38
      · obtain rfl : p1 = 1 := Int32.toInt_inj.mp (show p1.toInt = (1 : Int32).toInt from j_10.trans rfl)
        refine z_calli (wr := []) hP hD hS hA [0, 1] [] (by decide) rfl rfl (by decide) (va_runV (As := [.int 1, .int p2, .int p3, .int 1]) (rest := []) ⟨hx, hb, hml, hown, hts⟩ (kX5_bars_14 l g h0 h1 h2 h3 h4 h5 h6 h7 h8 h9 h10 h11 h12 h13 h14 h15 h16 h17 h18 h19 h20 h21 h22 H.size p2 p3) ⟨callB_of 4 hts (zGood m_o_yX5_bars) rfl rfl rfl (hts _ m_z_RX5) (hts _ m_m_RX5_228) ⟨by decide +kernel, by decide +kernel, by decide +kernel⟩ ⟨Nat.le_of_ble_eq_true rfl, Nat.le_of_ble_eq_true rfl⟩, hts _ m_i_yX5_bars, hts _ m_e_yX5_bars⟩ (zPreV hK hN hZ hP hD hS hA [0, 1] (by decide) rfl rfl 5 0 rfl rfl) rfl rfl hl.1 rfl (lv_room (Nat.le_of_ble_eq_true rfl)) dX5_item_26 ⟨Nat.le_of_ble_eq_true rfl, Nat.le_of_ble_eq_true rfl⟩) (fun r u H locs hw hP hD hS => ?_)
        obtain rfl := hw
        have hP : va_P g.1 vwCl [(h0, .inr (5, [.ref h1, .int 0, .ref h2, .int 0, .int 0, .ref h3, .ref h4, .ref h5, .ref h6, .int 0, .ref h7, .ref h8, .ref h9, .int 0, .ref h10, .ref h11, .ref h12, .ref h13, .ref h14, .ref h15, .ref h16, .ref h17, .ref h18, .ref h19, .ref h20, .ref h21, .ref h22])), (h19, .inl (zI g, 4, .inl (upd (upd (upd (upd (fun _ => 0) 0 (-1)) 1 (-1)) 2 (-1)) 3 (-1))))] H := hP
        have hD : va_D A [(h0, .inr (5, [.ref h1, .int 0, .ref h2, .int 0, .int 0, .ref h3, .ref h4, .ref h5, .ref h6, .int 0, .ref h7, .ref h8, .ref h9, .int 0, .ref h10, .ref h11, .ref h12, .ref h13, .ref h14, .ref h15, .ref h16, .ref h17, .ref h18, .ref h19, .ref h20, .ref h21, .ref h22])), (h19, .inl (zI g, 4, .inl (upd (upd (upd (upd (fun _ => 0) 0 (-1)) 1 (-1)) 2 (-1)) 3 (-1))))] := hD
        refine lv_istore (lv' := [(6, .int (-11)), (0, .ref h0), (1, .int 1), (2, .int p2), (3, .int p3), (4, .long p4)]) hx hb dX5_item_29 hl (by decide) rfl (fun ls hl => ?_)
        refine lv_iload hx hb dX5_item_31 (lv_at hl 0 rfl) ?_
        refine lv_if_eq (tgt := 39) hx hb dX5_item_33 (by decide) (fun h => absurd h (by decide +kernel)) (fun _ => ?_)
        refine lv_iload hx hb dX5_item_36 (lv_at hl 0 rfl) ?_
        have hP9 := hP.sub (ws' := []) [] rfl
        have hD9 := hD.sub (ws' := []) [] (by decide) rfl
        exact W.iret (v := (-11)) hx hb hr (fun t ht hW => ⟨⟨(-11), 0, rfl, Or.inr (Or.inr (Or.inr (Or.inr (Or.inr (Or.inl ⟨i_3, i_4, i_8, i_9, j_10, rfl⟩))))), by rw [ht]; exact hP9, hD9⟩, hS.F ht⟩) hS.2.2 dX5_item_38
      · obtain rfl : p1 = 2 := Int32.toInt_inj.mp (show p1.toInt = (2 : Int32).toInt from j_10.trans rfl)
        refine z_calli (wr := []) hP hD hS hA [0, 1] [] (by decide) rfl rfl (by decide) (va_runV (As := [.int 2, .int p2, .int p3, .int 1]) (rest := []) ⟨hx, hb, hml, hown, hts⟩ (kX5_bars_15 l g h0 h1 h2 h3 h4 h5 h6 h7 h8 h9 h10 h11 h12 h13 h14 h15 h16 h17 h18 h19 h20 h21 h22 H.size p2 p3) ⟨callB_of 4 hts (zGood m_o_yX5_bars) rfl rfl rfl (hts _ m_z_RX5) (hts _ m_m_RX5_228) ⟨by decide +kernel, by decide +kernel, by decide +kernel⟩ ⟨Nat.le_of_ble_eq_true rfl, Nat.le_of_ble_eq_true rfl⟩, hts _ m_i_yX5_bars, hts _ m_e_yX5_bars⟩ (zPreV hK hN hZ hP hD hS hA [0, 1] (by decide) rfl rfl 5 0 rfl rfl) rfl rfl hl.1 rfl (lv_room (Nat.le_of_ble_eq_true rfl)) dX5_item_26 ⟨Nat.le_of_ble_eq_true rfl, Nat.le_of_ble_eq_true rfl⟩) (fun r u H locs hw hP hD hS => ?_)
        obtain rfl := hw
        have hP : va_P g.1 vwCl [(h0, .inr (5, [.ref h1, .int 0, .ref h2, .int 0, .int 0, .ref h3, .ref h4, .ref h5, .ref h6, .int 0, .ref h7, .ref h8, .ref h9, .int 0, .ref h10, .ref h11, .ref h12, .ref h13, .ref h14, .ref h15, .ref h16, .ref h17, .ref h18, .ref h19, .ref h20, .ref h21, .ref h22])), (h19, .inl (zI g, 4, .inl (upd (upd (upd (upd (fun _ => 0) 0 (-1)) 1 (-1)) 2 (-1)) 3 (-1))))] H := hP
        have hD : va_D A [(h0, .inr (5, [.ref h1, .int 0, .ref h2, .int 0, .int 0, .ref h3, .ref h4, .ref h5, .ref h6, .int 0, .ref h7, .ref h8, .ref h9, .int 0, .ref h10, .ref h11, .ref h12, .ref h13, .ref h14, .ref h15, .ref h16, .ref h17, .ref h18, .ref h19, .ref h20, .ref h21, .ref h22])), (h19, .inl (zI g, 4, .inl (upd (upd (upd (upd (fun _ => 0) 0 (-1)) 1 (-1)) 2 (-1)) 3 (-1))))] := hD
        refine lv_istore (lv' := [(6, .int (-11)), (0, .ref h0), (1, .int 2), (2, .int p2), (3, .int p3), (4, .long p4)]) hx hb dX5_item_29 hl (by decide) rfl (fun ls hl => ?_)
        refine lv_iload hx hb dX5_item_31 (lv_at hl 0 rfl) ?_
        refine lv_if_eq (tgt := 39) hx hb dX5_item_33 (by decide) (fun h => absurd h (by decide +kernel)) (fun _ => ?_)
        refine lv_iload hx hb dX5_item_36 (lv_at hl 0 rfl) ?_
        have hP9 := hP.sub (ws' := []) [] rfl
        have hD9 := hD.sub (ws' := []) [] (by decide) rfl
        exact W.iret (v := (-11)) hx hb hr (fun t ht hW => ⟨⟨(-11), 0, rfl, Or.inr (Or.inr (Or.inr (Or.inr (Or.inr (Or.inr (Or.inl ⟨i_3, i_4, i_8, i_9, j_10, rfl⟩)))))), by rw [ht]; exact hP9, hD9⟩, hS.F ht⟩) hS.2.2 dX5_item_38
      · obtain rfl : p1 = 3 := Int32.toInt_inj.mp (show p1.toInt = (3 : Int32).toInt from j_10.trans rfl)
        refine z_calli (wr := []) hP hD hS hA [0, 1] [] (by decide) rfl rfl (by decide) (va_runV (As := [.int 3, .int p2, .int p3, .int 1]) (rest := []) ⟨hx, hb, hml, hown, hts⟩ (kX5_bars_16 l g h0 h1 h2 h3 h4 h5 h6 h7 h8 h9 h10 h11 h12 h13 h14 h15 h16 h17 h18 h19 h20 h21 h22 H.size p2 p3) ⟨callB_of 4 hts (zGood m_o_yX5_bars) rfl rfl rfl (hts _ m_z_RX5) (hts _ m_m_RX5_228) ⟨by decide +kernel, by decide +kernel, by decide +kernel⟩ ⟨Nat.le_of_ble_eq_true rfl, Nat.le_of_ble_eq_true rfl⟩, hts _ m_i_yX5_bars, hts _ m_e_yX5_bars⟩ (zPreV hK hN hZ hP hD hS hA [0, 1] (by decide) rfl rfl 5 0 rfl rfl) rfl rfl hl.1 rfl (lv_room (Nat.le_of_ble_eq_true rfl)) dX5_item_26 ⟨Nat.le_of_ble_eq_true rfl, Nat.le_of_ble_eq_true rfl⟩) (fun r u H locs hw hP hD hS => ?_)
        obtain rfl := hw
        have hP : va_P g.1 vwCl [(h0, .inr (5, [.ref h1, .int 0, .ref h2, .int 0, .int 0, .ref h3, .ref h4, .ref h5, .ref h6, .int 0, .ref h7, .ref h8, .ref h9, .int 0, .ref h10, .ref h11, .ref h12, .ref h13, .ref h14, .ref h15, .ref h16, .ref h17, .ref h18, .ref h19, .ref h20, .ref h21, .ref h22])), (h19, .inl (zI g, 4, .inl (upd (upd (upd (upd (fun _ => 0) 0 (-1)) 1 (-1)) 2 (-1)) 3 (-1))))] H := hP
        have hD : va_D A [(h0, .inr (5, [.ref h1, .int 0, .ref h2, .int 0, .int 0, .ref h3, .ref h4, .ref h5, .ref h6, .int 0, .ref h7, .ref h8, .ref h9, .int 0, .ref h10, .ref h11, .ref h12, .ref h13, .ref h14, .ref h15, .ref h16, .ref h17, .ref h18, .ref h19, .ref h20, .ref h21, .ref h22])), (h19, .inl (zI g, 4, .inl (upd (upd (upd (upd (fun _ => 0) 0 (-1)) 1 (-1)) 2 (-1)) 3 (-1))))] := hD
        refine lv_istore (lv' := [(6, .int (-11)), (0, .ref h0), (1, .int 3), (2, .int p2), (3, .int p3), (4, .long p4)]) hx hb dX5_item_29 hl (by decide) rfl (fun ls hl => ?_)
        refine lv_iload hx hb dX5_item_31 (lv_at hl 0 rfl) ?_
        refine lv_if_eq (tgt := 39) hx hb dX5_item_33 (by decide) (fun h => absurd h (by decide +kernel)) (fun _ => ?_)
        refine lv_iload hx hb dX5_item_36 (lv_at hl 0 rfl) ?_
        have hP9 := hP.sub (ws' := []) [] rfl
        have hD9 := hD.sub (ws' := []) [] (by decide) rfl
        exact W.iret (v := (-11)) hx hb hr (fun t ht hW => ⟨⟨(-11), 0, rfl, Or.inr (Or.inr (Or.inr (Or.inr (Or.inr (Or.inr (Or.inr (⟨i_3, i_4, i_8, i_9, j_10, rfl⟩))))))), by rw [ht]; exact hP9, hD9⟩, hS.F ht⟩) hS.2.2 dX5_item_38
set_option maxHeartbeats 4000000 in
set_option maxRecDepth 100000 in
theorem kX5_copy (l : Launch) (g : zG) (h0 h1 h2 h3 h4 h5 h6 h7 h8 h9 h10 h11 h12 h13 h14 h15 h16 h17 h18 h19 h20 h21 h22 : Nat) (sz : Nat) (p1 : Int32) (p2 : Int32) (p3 : Int32) (p4 : Int32) (p5 : Int32) : Met l yX5_copy (.code yX5_copy cX5_copy 8 (some .int) :: zBig) ({ frames := 2, cells := 0, slots := 0, locals := 45 }) (va_Pc [.ref h0, .int p1, .int p2, .int p3, .int p4, .int p5] (zPre g [(h0, .inr (5, [.ref h1, .int 0, .ref h2, .int 0, .int 0, .ref h3, .ref h4, .ref h5, .ref h6, .int 0, .ref h7, .ref h8, .ref h9, .int 0, .ref h10, .ref h11, .ref h12, .ref h13, .ref h14, .ref h15, .ref h16, .ref h17, .ref h18, .ref h19, .ref h20, .ref h21, .ref h22])), (h19, .inl (zI g, 4, .inl (upd (upd (upd (upd (fun _ => 0) 0 (-1)) 1 (-1)) 2 (-1)) 3 (-1))))] sz)) (va_Qi (fun (r : Int32) (_ : Nat) => (p1.toInt < 0 ∧ r = (-1)) ∨ (0 ≤ p1.toInt ∧ 3 < p1.toInt ∧ r = (-1)) ∨ (0 ≤ p1.toInt ∧ p1.toInt ≤ 3 ∧ p3.toInt < 0 ∧ r = (-1)) ∨ (0 ≤ p1.toInt ∧ p1.toInt ≤ 3 ∧ 0 ≤ p3.toInt ∧ 3 < p3.toInt ∧ r = (-1)) ∨ (0 ≤ p1.toInt ∧ p1.toInt ≤ 3 ∧ 0 ≤ p3.toInt ∧ p3.toInt ≤ 3 ∧ p1.toInt = 0 ∧ r = (-11)) ∨ (0 ≤ p1.toInt ∧ p1.toInt ≤ 3 ∧ 0 ≤ p3.toInt ∧ p3.toInt ≤ 3 ∧ p1.toInt = 1 ∧ r = (-11)) ∨ (0 ≤ p1.toInt ∧ p1.toInt ≤ 3 ∧ 0 ≤ p3.toInt ∧ p3.toInt ≤ 3 ∧ p1.toInt = 2 ∧ r = (-11)) ∨ (0 ≤ p1.toInt ∧ p1.toInt ≤ 3 ∧ 0 ≤ p3.toInt ∧ p3.toInt ≤ 3 ∧ p1.toInt = 3 ∧ r = (-11))) (zPost g (fun _ : Nat => []) (va_A [(h0, .inr (5, [.ref h1, .int 0, .ref h2, .int 0, .int 0, .ref h3, .ref h4, .ref h5, .ref h6, .int 0, .ref h7, .ref h8, .ref h9, .int 0, .ref h10, .ref h11, .ref h12, .ref h13, .ref h14, .ref h15, .ref h16, .ref h17, .ref h18, .ref h19, .ref h20, .ref h21, .ref h22])), (h19, .inl (zI g, 4, .inl (upd (upd (upd (upd (fun _ => 0) 0 (-1)) 1 (-1)) 2 (-1)) 3 (-1))))] sz)) (va_A [(h0, .inr (5, [.ref h1, .int 0, .ref h2, .int 0, .int 0, .ref h3, .ref h4, .ref h5, .ref h6, .int 0, .ref h7, .ref h8, .ref h9, .int 0, .ref h10, .ref h11, .ref h12, .ref h13, .ref h14, .ref h15, .ref h16, .ref h17, .ref h18, .ref h19, .ref h20, .ref h21, .ref h22])), (h19, .inl (zI g, 4, .inl (upd (upd (upd (upd (fun _ => 0) 0 (-1)) 1 (-1)) 2 (-1)) 3 (-1))))] sz)) 0 0 (va_A [(h0, .inr (5, [.ref h1, .int 0, .ref h2, .int 0, .int 0, .ref h3, .ref h4, .ref h5, .ref h6, .int 0, .ref h7, .ref h8, .ref h9, .int 0, .ref h10, .ref h11, .ref h12, .ref h13, .ref h14, .ref h15, .ref h16, .ref h17, .ref h18, .ref h19, .ref h20, .ref h21, .ref h22])), (h19, .inl (zI g, 4, .inl (upd (upd (upd (upd (fun _ => 0) 0 (-1)) 1 (-1)) 2 (-1)) 3 (-1))))] sz) := by
  refine zMetI rfl (Nat.le_of_ble_eq_true rfl) ?_
  intro p e s m args below meth c A ls hx hb hml hr hlocks hin hown hts hK hN hZ hP hD hA hS hAe hl
  have hown : s.vm.findClass RX5 = some m.cls := hown
  have hl : lv_has ls 8 [(0, .ref h0), (1, .int p1), (2, .int p2), (3, .int p3), (4, .int p4), (5, .int p5)] := hl
  refine lv_iload_n hx hb dX5_copy_0 rfl (lv_at hl 1 rfl) ?_
  refine z_calli (wr := [(h0, .inr (5, [.ref h1, .int 0, .ref h2, .int 0, .int 0, .ref h3, .ref h4, .ref h5, .ref h6, .int 0, .ref h7, .ref h8, .ref h9, .int 0, .ref h10, .ref h11, .ref h12, .ref h13, .ref h14, .ref h15, .ref h16, .ref h17, .ref h18, .ref h19, .ref h20, .ref h21, .ref h22])), (h19, .inl (zI g, 4, .inl (upd (upd (upd (upd (fun _ => 0) 0 (-1)) 1 (-1)) 2 (-1)) 3 (-1))))]) hP hD hS hA [] [0, 1] (by decide) rfl rfl (by decide) (va_runS (As := [.int p1]) (rest := []) ⟨hx, hb, hml, hown, hts⟩ (kX5_isSheet_4 l g  s.heap.size p1) ⟨callB_of 1 hts (zGood m_o_yX5_isSheet) rfl rfl rfl (hts _ m_z_RX5) (hts _ m_m_RX5_225) ⟨by decide +kernel, by decide +kernel, by decide +kernel⟩ ⟨Nat.le_of_ble_eq_true rfl, Nat.le_of_ble_eq_true rfl⟩, hts _ m_s_yX5_isSheet⟩ (zPreS hK hN hZ hP hD hS hA [] (by decide) rfl rfl) rfl rfl hl.1 rfl (lv_room (Nat.le_of_ble_eq_true rfl)) dX5_copy_1 ⟨Nat.le_of_ble_eq_true rfl, Nat.le_of_ble_eq_true rfl⟩) (fun r u H locs hw hP hD hS => ?_)
  rcases hw with ⟨i_0, rfl⟩ | ⟨i_1, i_2, rfl⟩ | ⟨i_3, i_4, rfl⟩
  · skip
    have i_0 : p1.toInt < 0 := i_0
    have hP : va_P g.1 vwCl [(h0, .inr (5, [.ref h1, .int 0, .ref h2, .int 0, .int 0, .ref h3, .ref h4, .ref h5, .ref h6, .int 0, .ref h7, .ref h8, .ref h9, .int 0, .ref h10, .ref h11, .ref h12, .ref h13, .ref h14, .ref h15, .ref h16, .ref h17, .ref h18, .ref h19, .ref h20, .ref h21, .ref h22])), (h19, .inl (zI g, 4, .inl (upd (upd (upd (upd (fun _ => 0) 0 (-1)) 1 (-1)) 2 (-1)) 3 (-1))))] H := hP
    have hD : va_D A [(h0, .inr (5, [.ref h1, .int 0, .ref h2, .int 0, .int 0, .ref h3, .ref h4, .ref h5, .ref h6, .int 0, .ref h7, .ref h8, .ref h9, .int 0, .ref h10, .ref h11, .ref h12, .ref h13, .ref h14, .ref h15, .ref h16, .ref h17, .ref h18, .ref h19, .ref h20, .ref h21, .ref h22])), (h19, .inl (zI g, 4, .inl (upd (upd (upd (upd (fun _ => 0) 0 (-1)) 1 (-1)) 2 (-1)) 3 (-1))))] := hD
    refine lv_if_eq (tgt := 14) hx hb dX5_copy_4 (by decide) (fun _ => ?_) (fun h => absurd h (by decide +kernel))
    refine lv_iconst (v := (-1)) hx hb dX5_copy_14 (by decide) ?_
    have hP9 := hP.sub (ws' := []) [] rfl
    have hD9 := hD.sub (ws' := []) [] (by decide) rfl
    exact W.iret (v := (-1)) hx hb hr (fun t ht hW => ⟨⟨(-1), 0, rfl, Or.inl ⟨i_0, rfl⟩, by rw [ht]; exact hP9, hD9⟩, hS.F ht⟩) hS.2.2 dX5_copy_15
  · skip
    have i_1 : 0 ≤ p1.toInt := i_1
    have i_2 : 3 < p1.toInt := i_2
    have hP : va_P g.1 vwCl [(h0, .inr (5, [.ref h1, .int 0, .ref h2, .int 0, .int 0, .ref h3, .ref h4, .ref h5, .ref h6, .int 0, .ref h7, .ref h8, .ref h9, .int 0, .ref h10, .ref h11, .ref h12, .ref h13, .ref h14, .ref h15, .ref h16, .ref h17, .ref h18, .ref h19, .ref h20, .ref h21, .ref h22])), (h19, .inl (zI g, 4, .inl (upd (upd (upd (upd (fun _ => 0) 0 (-1)) 1 (-1)) 2 (-1)) 3 (-1))))] H := hP
    have hD : va_D A [(h0, .inr (5, [.ref h1, .int 0, .ref h2, .int 0, .int 0, .ref h3, .ref h4, .ref h5, .ref h6, .int 0, .ref h7, .ref h8, .ref h9, .int 0, .ref h10, .ref h11, .ref h12, .ref h13, .ref h14, .ref h15, .ref h16, .ref h17, .ref h18, .ref h19, .ref h20, .ref h21, .ref h22])), (h19, .inl (zI g, 4, .inl (upd (upd (upd (upd (fun _ => 0) 0 (-1)) 1 (-1)) 2 (-1)) 3 (-1))))] := hD
    refine lv_if_eq (tgt := 14) hx hb dX5_copy_4 (by decide) (fun _ => ?_) (fun h => absurd h (by decide +kernel))
    refine lv_iconst (v := (-1)) hx hb dX5_copy_14 (by decide) ?_
    have hP9 := hP.sub (ws' := []) [] rfl
    have hD9 := hD.sub (ws' := []) [] (by decide) rfl
    exact W.iret (v := (-1)) hx hb hr (fun t ht hW => ⟨⟨(-1), 0, rfl, Or.inr (Or.inl ⟨i_1, i_2, rfl⟩), by rw [ht]; exact hP9, hD9⟩, hS.F ht⟩) hS.2.2 dX5_copy_15
  · skip
    have i_3 : 0 ≤ p1.toInt := i_3
    have i_4 : p1.toInt ≤ 3 := i_4
    have hP : va_P g.1 vwCl [(h0, .inr (5, [.ref h1, .int 0, .ref h2, .int 0, .int 0, .ref h3, .ref h4, .ref h5, .ref h6, .int 0, .ref h7, .ref h8, .ref h9, .int 0, .ref h10, .ref h11, .ref h12, .ref h13, .ref h14, .ref h15, .ref h16, .ref h17, .ref h18, .ref h19, .ref h20, .ref h21, .ref h22])), (h19, .inl (zI g, 4, .inl (upd (upd (upd (upd (fun _ => 0) 0 (-1)) 1 (-1)) 2 (-1)) 3 (-1))))] H := hP
    have hD : va_D A [(h0, .inr (5, [.ref h1, .int 0, .ref h2, .int 0, .int 0, .ref h3, .ref h4, .ref h5, .ref h6, .int 0, .ref h7, .ref h8, .ref h9, .int 0, .ref h10, .ref h11, .ref h12, .ref h13, .ref h14, .ref h15, .ref h16, .ref h17, .ref h18, .ref h19, .ref h20, .ref h21, .ref h22])), (h19, .inl (zI g, 4, .inl (upd (upd (upd (upd (fun _ => 0) 0 (-1)) 1 (-1)) 2 (-1)) 3 (-1))))] := hD
    refine lv_if_eq (tgt := 14) hx hb dX5_copy_4 (by decide) (fun h => absurd h (by decide +kernel)) (fun _ => ?_)
    refine lv_iload_n hx hb dX5_copy_7 rfl (lv_at hl 3 rfl) ?_
    refine z_calli (wr := [(h0, .inr (5, [.ref h1, .int 0, .ref h2, .int 0, .int 0, .ref h3, .ref h4, .ref h5, .ref h6, .int 0, .ref h7, .ref h8, .ref h9, .int 0, .ref h10, .ref h11, .ref h12, .ref h13, .ref h14, .ref h15, .ref h16, .ref h17, .ref h18, .ref h19, .ref h20, .ref h21, .ref h22])), (h19, .inl (zI g, 4, .inl (upd (upd (upd (upd (fun _ => 0) 0 (-1)) 1 (-1)) 2 (-1)) 3 (-1))))]) hP hD hS hA [] [0, 1] (by decide) rfl rfl (by decide) (va_runS (As := [.int p3]) (rest := []) ⟨hx, hb, hml, hown, hts⟩ (kX5_isSheet_4 l g  H.size p3) ⟨callB_of 1 hts (zGood m_o_yX5_isSheet) rfl rfl rfl (hts _ m_z_RX5) (hts _ m_m_RX5_225) ⟨by decide +kernel, by decide +kernel, by decide +kernel⟩ ⟨Nat.le_of_ble_eq_true rfl, Nat.le_of_ble_eq_true rfl⟩, hts _ m_s_yX5_isSheet⟩ (zPreS hK hN hZ hP hD hS hA [] (by decide) rfl rfl) rfl rfl hl.1 rfl (lv_room (Nat.le_of_ble_eq_true rfl)) dX5_copy_8 ⟨Nat.le_of_ble_eq_true rfl, Nat.le_of_ble_eq_true rfl⟩) (fun r u H locs hw hP hD hS => ?_)
    rcases hw with ⟨i_5, rfl⟩ | ⟨i_6, i_7, rfl⟩ | ⟨i_8, i_9, rfl⟩
    · skip
      have i_5 : p3.toInt < 0 := i_5
      have hP : va_P g.1 vwCl [(h0, .inr (5, [.ref h1, .int 0, .ref h2, .int 0, .int 0, .ref h3, .ref h4, .ref h5, .ref h6, .int 0, .ref h7, .ref h8, .ref h9, .int 0, .ref h10, .ref h11, .ref h12, .ref h13, .ref h14, .ref h15, .ref h16, .ref h17, .ref h18, .ref h19, .ref h20, .ref h21, .ref h22])), (h19, .inl (zI g, 4, .inl (upd (upd (upd (upd (fun _ => 0) 0 (-1)) 1 (-1)) 2 (-1)) 3 (-1))))] H := hP
      have hD : va_D A [(h0, .inr (5, [.ref h1, .int 0, .ref h2, .int 0, .int 0, .ref h3, .ref h4, .ref h5, .ref h6, .int 0, .ref h7, .ref h8, .ref h9, .int 0, .ref h10, .ref h11, .ref h12, .ref h13, .ref h14, .ref h15, .ref h16, .ref h17, .ref h18, .ref h19, .ref h20, .ref h21, .ref h22])), (h19, .inl (zI g, 4, .inl (upd (upd (upd (upd (fun _ => 0) 0 (-1)) 1 (-1)) 2 (-1)) 3 (-1))))] := hD
      refine lv_if_ne (tgt := 16) hx hb dX5_copy_11 (by decide) (fun h => absurd h (by decide +kernel)) (fun _ => ?_)
      refine lv_iconst (v := (-1)) hx hb dX5_copy_14 (by decide) ?_
      have hP9 := hP.sub (ws' := []) [] rfl
      have hD9 := hD.sub (ws' := []) [] (by decide) rfl
      exact W.iret (v := (-1)) hx hb hr (fun t ht hW => ⟨⟨(-1), 0, rfl, Or.inr (Or.inr (Or.inl ⟨i_3, i_4, i_5, rfl⟩)), by rw [ht]; exact hP9, hD9⟩, hS.F ht⟩) hS.2.2 dX5_copy_15
    · skip
      have i_6 : 0 ≤ p3.toInt := i_6
      have i_7 : 3 < p3.toInt := i_7
      have hP : va_P g.1 vwCl [(h0, .inr (5, [.ref h1, .int 0, .ref h2, .int 0, .int 0, .ref h3, .ref h4, .ref h5, .ref h6, .int 0, .ref h7, .ref h8, .ref h9, .int 0, .ref h10, .ref h11, .ref h12, .ref h13, .ref h14, .ref h15, .ref h16, .ref h17, .ref h18, .ref h19, .ref h20, .ref h21, .ref h22])), (h19, .inl (zI g, 4, .inl (upd (upd (upd (upd (fun _ => 0) 0 (-1)) 1 (-1)) 2 (-1)) 3 (-1))))] H := hP
      have hD : va_D A [(h0, .inr (5, [.ref h1, .int 0, .ref h2, .int 0, .int 0, .ref h3, .ref h4, .ref h5, .ref h6, .int 0, .ref h7, .ref h8, .ref h9, .int 0, .ref h10, .ref h11, .ref h12, .ref h13, .ref h14, .ref h15, .ref h16, .ref h17, .ref h18, .ref h19, .ref h20, .ref h21, .ref h22])), (h19, .inl (zI g, 4, .inl (upd (upd (upd (upd (fun _ => 0) 0 (-1)) 1 (-1)) 2 (-1)) 3 (-1))))] := hD
      refine lv_if_ne (tgt := 16) hx hb dX5_copy_11 (by decide) (fun h => absurd h (by decide +kernel)) (fun _ => ?_)
      refine lv_iconst (v := (-1)) hx hb dX5_copy_14 (by decide) ?_
      have hP9 := hP.sub (ws' := []) [] rfl
      have hD9 := hD.sub (ws' := []) [] (by decide) rfl
      exact W.iret (v := (-1)) hx hb hr (fun t ht hW => ⟨⟨(-1), 0, rfl, Or.inr (Or.inr (Or.inr (Or.inl ⟨i_3, i_4, i_6, i_7, rfl⟩))), by rw [ht]; exact hP9, hD9⟩, hS.F ht⟩) hS.2.2 dX5_copy_15
    · skip
      have i_8 : 0 ≤ p3.toInt := i_8
      have i_9 : p3.toInt ≤ 3 := i_9
      have hP : va_P g.1 vwCl [(h0, .inr (5, [.ref h1, .int 0, .ref h2, .int 0, .int 0, .ref h3, .ref h4, .ref h5, .ref h6, .int 0, .ref h7, .ref h8, .ref h9, .int 0, .ref h10, .ref h11, .ref h12, .ref h13, .ref h14, .ref h15, .ref h16, .ref h17, .ref h18, .ref h19, .ref h20, .ref h21, .ref h22])), (h19, .inl (zI g, 4, .inl (upd (upd (upd (upd (fun _ => 0) 0 (-1)) 1 (-1)) 2 (-1)) 3 (-1))))] H := hP
      have hD : va_D A [(h0, .inr (5, [.ref h1, .int 0, .ref h2, .int 0, .int 0, .ref h3, .ref h4, .ref h5, .ref h6, .int 0, .ref h7, .ref h8, .ref h9, .int 0, .ref h10, .ref h11, .ref h12, .ref h13, .ref h14, .ref h15, .ref h16, .ref h17, .ref h18, .ref h19, .ref h20, .ref h21, .ref h22])), (h19, .inl (zI g, 4, .inl (upd (upd (upd (upd (fun _ => 0) 0 (-1)) 1 (-1)) 2 (-1)) 3 (-1))))] := hD
      refine lv_if_ne (tgt := 16) hx hb dX5_copy_11 (by decide) (fun _ => ?_) (fun h => absurd h (by decide +kernel))
      refine lv_aload_n hx hb dX5_copy_16 rfl (lv_at hl 0 rfl) ?_
      refine va_get (D := g.1) (ci := 5) (v := .ref h19) (C := RX5) (T := TX5) (N := 27) hx hb hts zl_X5 hown hK hP 0 rfl rfl 23 (by decide) (hts _ m_f_RX5_64) (fun _ h => h) rfl dX5_copy_17 ?_
      refine lv_iload_n hx hb dX5_copy_20 rfl (lv_at hl 1 rfl) ?_
      rcases (show p1.toInt = 0 ∨ p1.toInt = 1 ∨ p1.toInt = 2 ∨ p1.toInt = 3 by omega) with j_10 | j_10 | j_10 | j_10
      · obtain rfl : p1 = 0 := Int32.toInt_inj.mp (show p1.toInt = (0 : Int32).toInt from j_10.trans rfl)
        refine va_iald (D := g.1) hx hb hK hP 1 0 rfl rfl (vp_in_iff.mpr (by decide +kernel)) dX5_copy_21 ?_
        refine lv_topi (nm_r (e' := (-1)) (by rfl) ?_)
        refine lv_if_lt (tgt := 34) hx hb dX5_copy_22 (by decide) (fun _ => ?_) (fun h => absurd h (by decide +kernel))
        refine lv_bipush (v := (-11)) hx hb dX5_copy_34 (by decide) ?_
        have hP9 := hP.sub (ws' := []) [] rfl
        have hD9 := hD.sub (ws' := []) [] (by decide) rfl
        exact W.iret (v := (-11)) hx hb hr (fun t ht hW => ⟨⟨(-11), 0, rfl, Or.inr (Or.inr (Or.inr (Or.inr (Or.inl ⟨i_3, i_4, i_8, i_9, j_10, rfl⟩)))), by rw [ht]; exact hP9, hD9⟩, hS.F ht⟩) hS.2.2 dX5_copy_36
      · obtain rfl : p1 = 1 := Int32.toInt_inj.mp (show p1.toInt = (1 : Int32).toInt from j_10.trans rfl)
        refine va_iald (D := g.1) hx hb hK hP 1 0 rfl rfl (vp_in_iff.mpr (by decide +kernel)) dX5_copy_21 ?_
        refine lv_topi (nm_r (e' := (-1)) (by rfl) ?_)
        refine lv_if_lt (tgt := 34) hx hb dX5_copy_22 (by decide) (fun _ => ?_) (fun h => absurd h (by decide +kernel))
        refine lv_bipush (v := (-11)) hx hb dX5_copy_34 (by decide) ?_
        have hP9 := hP.sub (ws' := []) [] rfl
        have hD9 := hD.sub (ws' := []) [] (by decide) rfl
        exact W.iret (v := (-11)) hx hb hr (fun t ht hW => ⟨⟨(-11), 0, rfl, Or.inr (Or.inr (Or.inr (Or.inr (Or.inr (Or.inl ⟨i_3, i_4, i_8, i_9, j_10, rfl⟩))))), by rw [ht]; exact hP9, hD9⟩, hS.F ht⟩) hS.2.2 dX5_copy_36
      · obtain rfl : p1 = 2 := Int32.toInt_inj.mp (show p1.toInt = (2 : Int32).toInt from j_10.trans rfl)
        refine va_iald (D := g.1) hx hb hK hP 1 0 rfl rfl (vp_in_iff.mpr (by decide +kernel)) dX5_copy_21 ?_
        refine lv_topi (nm_r (e' := (-1)) (by rfl) ?_)
        refine lv_if_lt (tgt := 34) hx hb dX5_copy_22 (by decide) (fun _ => ?_) (fun h => absurd h (by decide +kernel))
        refine lv_bipush (v := (-11)) hx hb dX5_copy_34 (by decide) ?_
        have hP9 := hP.sub (ws' := []) [] rfl
        have hD9 := hD.sub (ws' := []) [] (by decide) rfl
        exact W.iret (v := (-11)) hx hb hr (fun t ht hW => ⟨⟨(-11), 0, rfl, Or.inr (Or.inr (Or.inr (Or.inr (Or.inr (Or.inr (Or.inl ⟨i_3, i_4, i_8, i_9, j_10, rfl⟩)))))), by rw [ht]; exact hP9, hD9⟩, hS.F ht⟩) hS.2.2 dX5_copy_36
      · obtain rfl : p1 = 3 := Int32.toInt_inj.mp (show p1.toInt = (3 : Int32).toInt from j_10.trans rfl)
        refine va_iald (D := g.1) hx hb hK hP 1 0 rfl rfl (vp_in_iff.mpr (by decide +kernel)) dX5_copy_21 ?_
        refine lv_topi (nm_r (e' := (-1)) (by rfl) ?_)
        refine lv_if_lt (tgt := 34) hx hb dX5_copy_22 (by decide) (fun _ => ?_) (fun h => absurd h (by decide +kernel))
        refine lv_bipush (v := (-11)) hx hb dX5_copy_34 (by decide) ?_
        have hP9 := hP.sub (ws' := []) [] rfl
        have hD9 := hD.sub (ws' := []) [] (by decide) rfl
        exact W.iret (v := (-11)) hx hb hr (fun t ht hW => ⟨⟨(-11), 0, rfl, Or.inr (Or.inr (Or.inr (Or.inr (Or.inr (Or.inr (Or.inr (⟨i_3, i_4, i_8, i_9, j_10, rfl⟩))))))), by rw [ht]; exact hP9, hD9⟩, hS.F ht⟩) hS.2.2 dX5_copy_36
