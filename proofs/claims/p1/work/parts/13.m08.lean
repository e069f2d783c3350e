set_option maxHeartbeats 4000000 in
set_option maxRecDepth 100000 in
theorem kX5_in_14 (l : Launch) (g : zG) (sz : Nat) (p0 : Int64) : Met l yX5_in (.code yX5_in cX5_in 6 (some .boolean) :: zBig) ({ frames := 0, cells := 0, slots := 0, locals := 0 }) (va_Pc [.long p0, .long 0, .long (-1)] (zPre g [] sz)) (va_Qi (fun (r : Int32) (_ : Nat) => ((p0 : Int64).toInt < 0 ∧ r = 0) ∨ (0 ≤ (p0 : Int64).toInt ∧ r = 0)) (zPost g (fun _ : Nat => []) (va_A [] sz)) (va_A [] sz)) 0 0 (va_A [] sz) := by
  refine zMetI rfl (Nat.le_of_ble_eq_true rfl) ?_
  intro p e s m args below meth c A ls hx hb hml hr hlocks hin hown hts hK hN hZ hP hD hA hS hAe hl
  have hown : s.vm.findClass RX5 = some m.cls := hown
  have hl : lv_has ls 6 [(0, .long p0), (2, .long 0), (4, .long (-1))] := hl
  refine lv_lload_n hx hb dX5_in_0 rfl (lv_at hl 0 rfl) ?_
  refine lv_lload_n hx hb dX5_in_1 rfl (lv_at hl 1 rfl) ?_
  refine W.lcmp hx hb dX5_in_2 ?_
  refine lv_if_lt (tgt := 17) hx hb dX5_in_3 (by decide) (fun c_0 => ?_) (fun c_0 => ?_)
  · have i_0 : (p0 : Int64).toInt < 0 := zl_lt (rfl) (rfl) ((lg_cmp_lt _ _).mp c_0)
    refine lv_iconst (v := 0) hx hb dX5_in_17 (by decide) ?_
    have hP9 := hP.sub (ws' := []) [] rfl
    have hD9 := hD.sub (ws' := []) [] (by decide) rfl
    exact W.zret (v := 0) hx hb hr (by decide) (fun t ht hW => ⟨⟨0, 0, rfl, Or.inl ⟨i_0, rfl⟩, by rw [ht]; exact hP9, hD9⟩, hS.F ht⟩) hS.2.2 dX5_in_18
  · have i_0 : 0 ≤ (p0 : Int64).toInt := zl_nlt (rfl) (rfl) (fun h => c_0 ((lg_cmp_lt _ _).mpr h))
    refine lv_lload_n hx hb dX5_in_6 rfl (lv_at hl 0 rfl) ?_
    refine lv_lload hx hb dX5_in_7 (lv_at hl 2 rfl) ?_
    refine W.lcmp hx hb dX5_in_9 ?_
    refine lv_if_gt (tgt := 17) hx hb dX5_in_10 (by decide) (fun c_1 => ?_) (fun c_1 => absurd (show (p0 : Int64).toInt ≤ (-1) from zl_nlt (rfl) (rfl) (fun h => c_1 ((lg_cmp_gt _ _).mpr h))) (by omega))
    have i_1 : (-1) < (p0 : Int64).toInt := zl_lt (rfl) (rfl) ((lg_cmp_gt _ _).mp c_1)
    refine lv_iconst (v := 0) hx hb dX5_in_17 (by decide) ?_
    have hP9 := hP.sub (ws' := []) [] rfl
    have hD9 := hD.sub (ws' := []) [] (by decide) rfl
    exact W.zret (v := 0) hx hb hr (by decide) (fun t ht hW => ⟨⟨0, 0, rfl, Or.inr (⟨i_0, rfl⟩), by rw [ht]; exact hP9, hD9⟩, hS.F ht⟩) hS.2.2 dX5_in_18
set_option maxHeartbeats 4000000 in
set_option maxRecDepth 100000 in
theorem kX5_isBuyer (l : Launch) (g : zG) (h0 h1 h2 h3 h4 h5 h6 h7 h8 h9 h10 h11 h12 h13 h14 h15 h16 h17 h18 h19 h20 h21 h22 : Nat) (sz : Nat) (p1 : Int32) : Met l yX5_isBuyer (.code yX5_isBuyer cX5_isBuyer 2 (some .boolean) :: zBig) ({ frames := 1, cells := 0, slots := 0, locals := 25 }) (va_Pc [.ref h0, .int p1] (zPre g [(h0, .inr (5, [.ref h1, .int 0, .ref h2, .int 0, .int 0, .ref h3, .ref h4, .ref h5, .ref h6, .int 0, .ref h7, .ref h8, .ref h9, .int 0, .ref h10, .ref h11, .ref h12, .ref h13, .ref h14, .ref h15, .ref h16, .ref h17, .ref h18, .ref h19, .ref h20, .ref h21, .ref h22])), (h1, .inl (zI g, 180, .inl (upd (upd (upd (fun _ => 0) 0 60) 1 1) 2 1)))] sz)) (va_Qi (fun (r : Int32) (_ : Nat) => (p1.toInt < 0 ∧ r = 0) ∨ (0 ≤ p1.toInt ∧ r = 0)) (zPost g (fun _ : Nat => [(h0, .inr (5, [.ref h1, .int 0, .ref h2, .int 0, .int 0, .ref h3, .ref h4, .ref h5, .ref h6, .int 0, .ref h7, .ref h8, .ref h9, .int 0, .ref h10, .ref h11, .ref h12, .ref h13, .ref h14, .ref h15, .ref h16, .ref h17, .ref h18, .ref h19, .ref h20, .ref h21, .ref h22])), (h1, .inl (zI g, 180, .inl (upd (upd (upd (fun _ => 0) 0 60) 1 1) 2 1)))]) (va_A [(h0, .inr (5, [.ref h1, .int 0, .ref h2, .int 0, .int 0, .ref h3, .ref h4, .ref h5, .ref h6, .int 0, .ref h7, .ref h8, .ref h9, .int 0, .ref h10, .ref h11, .ref h12, .ref h13, .ref h14, .ref h15, .ref h16, .ref h17, .ref h18, .ref h19, .ref h20, .ref h21, .ref h22])), (h1, .inl (zI g, 180, .inl (upd (upd (upd (fun _ => 0) 0 60) 1 1) 2 1)))] sz)) (va_A [(h0, .inr (5, [.ref h1, .int 0, .ref h2, .int 0, .int 0, .ref h3, .ref h4, .ref h5, .ref h6, .int 0, .ref h7, .ref h8, .ref h9, .int 0, .ref h10, .ref h11, .ref h12, .ref h13, .ref h14, .ref h15, .ref h16, .ref h17, .ref h18, .ref h19, .ref h20, .ref h21, .ref h22])), (h1, .inl (zI g, 180, .inl (upd (upd (upd (fun _ => 0) 0 60) 1 1) 2 1)))] sz)) 0 0 (va_A [(h0, .inr (5, [.ref h1, .int 0, .ref h2, .int 0, .int 0, .ref h3, .ref h4, .ref h5, .ref h6, .int 0, .ref h7, .ref h8, .ref h9, .int 0, .ref h10, .ref h11, .ref h12, .ref h13, .ref h14, .ref h15, .ref h16, .ref h17, .ref h18, .ref h19, .ref h20, .ref h21, .ref h22])), (h1, .inl (zI g, 180, .inl (upd (upd (upd (fun _ => 0) 0 60) 1 1) 2 1)))] sz) := by
  refine zMetI rfl (Nat.le_of_ble_eq_true rfl) ?_
  intro p e s m args below meth c A ls hx hb hml hr hlocks hin hown hts hK hN hZ hP hD hA hS hAe hl
  have hown : s.vm.findClass RX5 = some m.cls := hown
  have hl : lv_has ls 2 [(0, .ref h0), (1, .int p1)] := hl
  refine lv_iload_n hx hb dX5_isBuyer_0 rfl (lv_at hl 1 rfl) ?_
  refine lv_i2l (v := p1.toInt64) hx hb dX5_isBuyer_1 rfl ?_
  refine lv_lconst (v := 0) hx hb dX5_isBuyer_2 (by decide) ?_
  refine lv_aload_n hx hb dX5_isBuyer_3 rfl (lv_at hl 0 rfl) ?_
  refine va_get (D := g.1) (ci := 5) (v := .ref h1) (C := RX5) (T := TX5) (N := 27) hx hb hts zl_X5 hown hK hP 0 rfl rfl 0 (by decide) (hts _ m_f_RX5_7) (fun _ h => h) rfl dX5_isBuyer_4 ?_
  refine lv_bipush (v := 12) hx hb dX5_isBuyer_7 (by decide) ?_
  refine va_iald (D := g.1) hx hb hK hP 1 0 rfl rfl (vp_in_iff.mpr (by decide +kernel)) dX5_isBuyer_9 ?_
  refine lv_topi (nm_r (e' := 0) (by rfl) ?_)
  refine lv_iconst (v := 1) hx hb dX5_isBuyer_10 (by decide) ?_
  refine lv_isub hx hb dX5_isBuyer_11 ?_
  refine lv_topi (nm_r (e' := (-1)) (by decide +kernel) ?_)
  refine lv_i2l (v := (-1)) hx hb dX5_isBuyer_12 (by decide) ?_
  refine z_calli (wr := [(h0, .inr (5, [.ref h1, .int 0, .ref h2, .int 0, .int 0, .ref h3, .ref h4, .ref h5, .ref h6, .int 0, .ref h7, .ref h8, .ref h9, .int 0, .ref h10, .ref h11, .ref h12, .ref h13, .ref h14, .ref h15, .ref h16, .ref h17, .ref h18, .ref h19, .ref h20, .ref h21, .ref h22])), (h1, .inl (zI g, 180, .inl (upd (upd (upd (fun _ => 0) 0 60) 1 1) 2 1)))]) hP hD hS hA [] [0, 1] (by decide) rfl rfl (by decide) (va_runS (As := [.long p1.toInt64, .long 0, .long (-1)]) (rest := []) ⟨hx, hb, hml, hown, hts⟩ (kX5_in_14 l g  s.heap.size p1.toInt64) ⟨callB_of 3 hts (zGood m_o_yX5_in) rfl rfl rfl (hts _ m_z_RX5) (hts _ m_m_RX5_77) ⟨by decide +kernel, by decide +kernel, by decide +kernel⟩ ⟨Nat.le_of_ble_eq_true rfl, Nat.le_of_ble_eq_true rfl⟩, hts _ m_s_yX5_in⟩ (zPreS hK hN hZ hP hD hS hA [] (by decide) rfl rfl) rfl rfl hl.1 rfl (lv_room (Nat.le_of_ble_eq_true rfl)) dX5_isBuyer_13 ⟨Nat.le_of_ble_eq_true rfl, Nat.le_of_ble_eq_true rfl⟩) (fun r u H locs hw hP hD hS => ?_)
  rcases hw with ⟨i_0, rfl⟩ | ⟨i_1, rfl⟩
  · skip
    have i_0 : p1.toInt < 0 := by simpa only [Int32.toInt_toInt64] using i_0
    have hP : va_P g.1 vwCl [(h0, .inr (5, [.ref h1, .int 0, .ref h2, .int 0, .int 0, .ref h3, .ref h4, .ref h5, .ref h6, .int 0, .ref h7, .ref h8, .ref h9, .int 0, .ref h10, .ref h11, .ref h12, .ref h13, .ref h14, .ref h15, .ref h16, .ref h17, .ref h18, .ref h19, .ref h20, .ref h21, .ref h22])), (h1, .inl (zI g, 180, .inl (upd (upd (upd (fun _ => 0) 0 60) 1 1) 2 1)))] H := hP
    have hD : va_D A [(h0, .inr (5, [.ref h1, .int 0, .ref h2, .int 0, .int 0, .ref h3, .ref h4, .ref h5, .ref h6, .int 0, .ref h7, .ref h8, .ref h9, .int 0, .ref h10, .ref h11, .ref h12, .ref h13, .ref h14, .ref h15, .ref h16, .ref h17, .ref h18, .ref h19, .ref h20, .ref h21, .ref h22])), (h1, .inl (zI g, 180, .inl (upd (upd (upd (fun _ => 0) 0 60) 1 1) 2 1)))] := hD
    have hP9 := hP.sub (ws' := [(h0, .inr (5, [.ref h1, .int 0, .ref h2, .int 0, .int 0, .ref h3, .ref h4, .ref h5, .ref h6, .int 0, .ref h7, .ref h8, .ref h9, .int 0, .ref h10, .ref h11, .ref h12, .ref h13, .ref h14, .ref h15, .ref h16, .ref h17, .ref h18, .ref h19, .ref h20, .ref h21, .ref h22])), (h1, .inl (zI g, 180, .inl (upd (upd (upd (fun _ => 0) 0 60) 1 1) 2 1)))]) [0, 1] rfl
    have hD9 := hD.sub (ws' := [(h0, .inr (5, [.ref h1, .int 0, .ref h2, .int 0, .int 0, .ref h3, .ref h4, .ref h5, .ref h6, .int 0, .ref h7, .ref h8, .ref h9, .int 0, .ref h10, .ref h11, .ref h12, .ref h13, .ref h14, .ref h15, .ref h16, .ref h17, .ref h18, .ref h19, .ref h20, .ref h21, .ref h22])), (h1, .inl (zI g, 180, .inl (upd (upd (upd (fun _ => 0) 0 60) 1 1) 2 1)))]) [0, 1] (by decide) rfl
    exact W.zret (v := 0) hx hb hr (by decide) (fun t ht hW => ⟨⟨0, 0, rfl, Or.inl ⟨i_0, rfl⟩, by rw [ht]; exact hP9, hD9⟩, hS.F ht⟩) hS.2.2 dX5_isBuyer_16
  · skip
    have i_1 : 0 ≤ p1.toInt := by simpa only [Int32.toInt_toInt64] using i_1
    have hP : va_P g.1 vwCl [(h0, .inr (5, [.ref h1, .int 0, .ref h2, .int 0, .int 0, .ref h3, .ref h4, .ref h5, .ref h6, .int 0, .ref h7, .ref h8, .ref h9, .int 0, .ref h10, .ref h11, .ref h12, .ref h13, .ref h14, .ref h15, .ref h16, .ref h17, .ref h18, .ref h19, .ref h20, .ref h21, .ref h22])), (h1, .inl (zI g, 180, .inl (upd (upd (upd (fun _ => 0) 0 60) 1 1) 2 1)))] H := hP
    have hD : va_D A [(h0, .inr (5, [.ref h1, .int 0, .ref h2, .int 0, .int 0, .ref h3, .ref h4, .ref h5, .ref h6, .int 0, .ref h7, .ref h8, .ref h9, .int 0, .ref h10, .ref h11, .ref h12, .ref h13, .ref h14, .ref h15, .ref h16, .ref h17, .ref h18, .ref h19, .ref h20, .ref h21, .ref h22])), (h1, .inl (zI g, 180, .inl (upd (upd (upd (fun _ => 0) 0 60) 1 1) 2 1)))] := hD
    have hP9 := hP.sub (ws' := [(h0, .inr (5, [.ref h1, .int 0, .ref h2, .int 0, .int 0, .ref h3, .ref h4, .ref h5, .ref h6, .int 0, .ref h7, .ref h8, .ref h9, .int 0, .ref h10, .ref h11, .ref h12, .ref h13, .ref h14, .ref h15, .ref h16, .ref h17, .ref h18, .ref h19, .ref h20, .ref h21, .ref h22])), (h1, .inl (zI g, 180, .inl (upd (upd (upd (fun _ => 0) 0 60) 1 1) 2 1)))]) [0, 1] rfl
    have hD9 := hD.sub (ws' := [(h0, .inr (5, [.ref h1, .int 0, .ref h2, .int 0, .int 0, .ref h3, .ref h4, .ref h5, .ref h6, .int 0, .ref h7, .ref h8, .ref h9, .int 0, .ref h10, .ref h11, .ref h12, .ref h13, .ref h14, .ref h15, .ref h16, .ref h17, .ref h18, .ref h19, .ref h20, .ref h21, .ref h22])), (h1, .inl (zI g, 180, .inl (upd (upd (upd (fun _ => 0) 0 60) 1 1) 2 1)))]) [0, 1] (by decide) rfl
    exact W.zret (v := 0) hx hb hr (by decide) (fun t ht hW => ⟨⟨0, 0, rfl, Or.inr (⟨i_1, rfl⟩), by rw [ht]; exact hP9, hD9⟩, hS.F ht⟩) hS.2.2 dX5_isBuyer_16
set_option maxHeartbeats 4000000 in
set_option maxRecDepth 100000 in
theorem kX5_isBuyer_2 (l : Launch) (g : zG) (h0 h1 h2 h3 h4 h5 h6 h7 h8 h9 h10 h11 h12 h13 h14 h15 h16 h17 h18 h19 h20 h21 h22 : Nat) (sz : Nat) (p1 : Int32) : Met l yX5_isBuyer (.code yX5_isBuyer cX5_isBuyer 2 (some .boolean) :: zBig) ({ frames := 1, cells := 0, slots := 0, locals := 25 }) (va_Pc [.ref h0, .int p1] (zPre g [(h0, .inr (5, [.ref h1, .int 0, .ref h2, .int 0, .int 0, .ref h3, .ref h4, .ref h5, .ref h6, .int 0, .ref h7, .ref h8, .ref h9, .int 0, .ref h10, .ref h11, .ref h12, .ref h13, .ref h14, .ref h15, .ref h16, .ref h17, .ref h18, .ref h19, .ref h20, .ref h21, .ref h22])), (h1, .inl (zI g, 180, .inl (upd (upd (upd (fun _ => 0) 0 60) 1 1) 2 1)))] sz)) (va_Qi (fun (r : Int32) (_ : Nat) => (p1.toInt < 0 ∧ r = 0) ∨ (0 ≤ p1.toInt ∧ r = 0)) (zPost g (fun _ : Nat => [(h0, .inr (5, [.ref h1, .int 0, .ref h2, .int 0, .int 0, .ref h3, .ref h4, .ref h5, .ref h6, .int 0, .ref h7, .ref h8, .ref h9, .int 0, .ref h10, .ref h11, .ref h12, .ref h13, .ref h14, .ref h15, .ref h16, .ref h17, .ref h18, .ref h19, .ref h20, .ref h21, .ref h22])), (h1, .inl (zI g, 180, .inl (upd (upd (upd (fun _ => 0) 0 60) 1 1) 2 1)))]) (va_A [(h0, .inr (5, [.ref h1, .int 0, .ref h2, .int 0, .int 0, .ref h3, .ref h4, .ref h5, .ref h6, .int 0, .ref h7, .ref h8, .ref h9, .int 0, .ref h10, .ref h11, .ref h12, .ref h13, .ref h14, .ref h15, .ref h16, .ref h17, .ref h18, .ref h19, .ref h20, .ref h21, .ref h22])), (h1, .inl (zI g, 180, .inl (upd (upd (upd (fun _ => 0) 0 60) 1 1) 2 1)))] sz)) (va_A [(h0, .inr (5, [.ref h1, .int 0, .ref h2, .int 0, .int 0, .ref h3, .ref h4, .ref h5, .ref h6, .int 0, .ref h7, .ref h8, .ref h9, .int 0, .ref h10, .ref h11, .ref h12, .ref h13, .ref h14, .ref h15, .ref h16, .ref h17, .ref h18, .ref h19, .ref h20, .ref h21, .ref h22])), (h1, .inl (zI g, 180, .inl (upd (upd (upd (fun _ => 0) 0 60) 1 1) 2 1)))] sz)) 0 0 (va_A [(h0, .inr (5, [.ref h1, .int 0, .ref h2, .int 0, .int 0, .ref h3, .ref h4, .ref h5, .ref h6, .int 0, .ref h7, .ref h8, .ref h9, .int 0, .ref h10, .ref h11, .ref h12, .ref h13, .ref h14, .ref h15, .ref h16, .ref h17, .ref h18, .ref h19, .ref h20, .ref h21, .ref h22])), (h1, .inl (zI g, 180, .inl (upd (upd (upd (fun _ => 0) 0 60) 1 1) 2 1)))] sz) := by
  refine zMetI rfl (Nat.le_of_ble_eq_true rfl) ?_
  intro p e s m args below meth c A ls hx hb hml hr hlocks hin hown hts hK hN hZ hP hD hA hS hAe hl
  have hown : s.vm.findClass RX5 = some m.cls := hown
  have hl : lv_has ls 2 [(0, .ref h0), (1, .int p1)] := hl
  refine lv_iload_n hx hb dX5_isBuyer_0 rfl (lv_at hl 1 rfl) ?_
  refine lv_i2l (v := p1.toInt64) hx hb dX5_isBuyer_1 rfl ?_
  refine lv_lconst (v := 0) hx hb dX5_isBuyer_2 (by decide) ?_
  refine lv_aload_n hx hb dX5_isBuyer_3 rfl (lv_at hl 0 rfl) ?_
  refine va_get (D := g.1) (ci := 5) (v := .ref h1) (C := RX5) (T := TX5) (N := 27) hx hb hts zl_X5 hown hK hP 0 rfl rfl 0 (by decide) (hts _ m_f_RX5_7) (fun _ h => h) rfl dX5_isBuyer_4 ?_
  refine lv_bipush (v := 12) hx hb dX5_isBuyer_7 (by decide) ?_
  refine va_iald (D := g.1) hx hb hK hP 1 0 rfl rfl (vp_in_iff.mpr (by decide +kernel)) dX5_isBuyer_9 ?_
  refine lv_topi (nm_r (e' := 0) (by rfl) ?_)
  refine lv_iconst (v := 1) hx hb dX5_isBuyer_10 (by decide) ?_
  refine lv_isub hx hb dX5_isBuyer_11 ?_
  refine lv_topi (nm_r (e' := (-1)) (by decide +kernel) ?_)
  refine lv_i2l (v := (-1)) hx hb dX5_isBuyer_12 (by decide) ?_
  refine z_calli (wr := [(h0, .inr (5, [.ref h1, .int 0, .ref h2, .int 0, .int 0, .ref h3, .ref h4, .ref h5, .ref h6, .int 0, .ref h7, .ref h8, .ref h9, .int 0, .ref h10, .ref h11, .ref h12, .ref h13, .ref h14, .ref h15, .ref h16, .ref h17, .ref h18, .ref h19, .ref h20, .ref h21, .ref h22])), (h1, .inl (zI g, 180, .inl (upd (upd (upd (fun _ => 0) 0 60) 1 1) 2 1)))]) hP hD hS hA [] [0, 1] (by decide) rfl rfl (by decide) (va_runS (As := [.long p1.toInt64, .long 0, .long (-1)]) (rest := []) ⟨hx, hb, hml, hown, hts⟩ (kX5_in_14 l g  s.heap.size p1.toInt64) ⟨callB_of 3 hts (zGood m_o_yX5_in) rfl rfl rfl (hts _ m_z_RX5) (hts _ m_m_RX5_77) ⟨by decide +kernel, by decide +kernel, by decide +kernel⟩ ⟨Nat.le_of_ble_eq_true rfl, Nat.le_of_ble_eq_true rfl⟩, hts _ m_s_yX5_in⟩ (zPreS hK hN hZ hP hD hS hA [] (by decide) rfl rfl) rfl rfl hl.1 rfl (lv_room (Nat.le_of_ble_eq_true rfl)) dX5_isBuyer_13 ⟨Nat.le_of_ble_eq_true rfl, Nat.le_of_ble_eq_true rfl⟩) (fun r u H locs hw hP hD hS => ?_)
  rcases hw with ⟨i_0, rfl⟩ | ⟨i_1, rfl⟩
  · skip
    have i_0 : p1.toInt < 0 := by simpa only [Int32.toInt_toInt64] using i_0
    have hP : va_P g.1 vwCl [(h0, .inr (5, [.ref h1, .int 0, .ref h2, .int 0, .int 0, .ref h3, .ref h4, .ref h5, .ref h6, .int 0, .ref h7, .ref h8, .ref h9, .int 0, .ref h10, .ref h11, .ref h12, .ref h13, .ref h14, .ref h15, .ref h16, .ref h17, .ref h18, .ref h19, .ref h20, .ref h21, .ref h22])), (h1, .inl (zI g, 180, .inl (upd (upd (upd (fun _ => 0) 0 60) 1 1) 2 1)))] H := hP
    have hD : va_D A [(h0, .inr (5, [.ref h1, .int 0, .ref h2, .int 0, .int 0, .ref h3, .ref h4, .ref h5, .ref h6, .int 0, .ref h7, .ref h8, .ref h9, .int 0, .ref h10, .ref h11, .ref h12, .ref h13, .ref h14, .ref h15, .ref h16, .ref h17, .ref h18, .ref h19, .ref h20, .ref h21, .ref h22])), (h1, .inl (zI g, 180, .inl (upd (upd (upd (fun _ => 0) 0 60) 1 1) 2 1)))] := hD
    have hP9 := hP.sub (ws' := [(h0, .inr (5, [.ref h1, .int 0, .ref h2, .int 0, .int 0, .ref h3, .ref h4, .ref h5, .ref h6, .int 0, .ref h7, .ref h8, .ref h9, .int 0, .ref h10, .ref h11, .ref h12, .ref h13, .ref h14, .ref h15, .ref h16, .ref h17, .ref h18, .ref h19, .ref h20, .ref h21, .ref h22])), (h1, .inl (zI g, 180, .inl (upd (upd (upd (fun _ => 0) 0 60) 1 1) 2 1)))]) [0, 1] rfl
    have hD9 := hD.sub (ws' := [(h0, .inr (5, [.ref h1, .int 0, .ref h2, .int 0, .int 0, .ref h3, .ref h4, .ref h5, .ref h6, .int 0, .ref h7, .ref h8, .ref h9, .int 0, .ref h10, .ref h11, .ref h12, .ref h13, .ref h14, .ref h15, .ref h16, .ref h17, .ref h18, .ref h19, .ref h20, .ref h21, .ref h22])), (h1, .inl (zI g, 180, .inl (upd (upd (upd (fun _ => 0) 0 60) 1 1) 2 1)))]) [0, 1] (by decide) rfl
    exact W.zret (v := 0) hx hb hr (by decide) (fun t ht hW => ⟨⟨0, 0, rfl, Or.inl ⟨i_0, rfl⟩, by rw [ht]; exact hP9, hD9⟩, hS.F ht⟩) hS.2.2 dX5_isBuyer_16
  · skip
    have i_1 : 0 ≤ p1.toInt := by simpa only [Int32.toInt_toInt64] using i_1
    have hP : va_P g.1 vwCl [(h0, .inr (5, [.ref h1, .int 0, .ref h2, .int 0, .int 0, .ref h3, .ref h4, .ref h5, .ref h6, .int 0, .ref h7, .ref h8, .ref h9, .int 0, .ref h10, .ref h11, .ref h12, .ref h13, .ref h14, .ref h15, .ref h16, .ref h17, .ref h18, .ref h19, .ref h20, .ref h21, .ref h22])), (h1, .inl (zI g, 180, .inl (upd (upd (upd (fun _ => 0) 0 60) 1 1) 2 1)))] H := hP
    have hD : va_D A [(h0, .inr (5, [.ref h1, .int 0, .ref h2, .int 0, .int 0, .ref h3, .ref h4, .ref h5, .ref h6, .int 0, .ref h7, .ref h8, .ref h9, .int 0, .ref h10, .ref h11, .ref h12, .ref h13, .ref h14, .ref h15, .ref h16, .ref h17, .ref h18, .ref h19, .ref h20, .ref h21, .ref h22])), (h1, .inl (zI g, 180, .inl (upd (upd (upd (fun _ => 0) 0 60) 1 1) 2 1)))] := hD
    have hP9 := hP.sub (ws' := [(h0, .inr (5, [.ref h1, .int 0, .ref h2, .int 0, .int 0, .ref h3, .ref h4, .ref h5, .ref h6, .int 0, .ref h7, .ref h8, .ref h9, .int 0, .ref h10, .ref h11, .ref h12, .ref h13, .ref h14, .ref h15, .ref h16, .ref h17, .ref h18, .ref h19, .ref h20, .ref h21, .ref h22])), (h1, .inl (zI g, 180, .inl (upd (upd (upd (fun _ => 0) 0 60) 1 1) 2 1)))]) [0, 1] rfl
    have hD9 := hD.sub (ws' := [(h0, .inr (5, [.ref h1, .int 0, .ref h2, .int 0, .int 0, .ref h3, .ref h4, .ref h5, .ref h6, .int 0, .ref h7, .ref h8, .ref h9, .int 0, .ref h10, .ref h11, .ref h12, .ref h13, .ref h14, .ref h15, .ref h16, .ref h17, .ref h18, .ref h19, .ref h20, .ref h21, .ref h22])), (h1, .inl (zI g, 180, .inl (upd (upd (upd (fun _ => 0) 0 60) 1 1) 2 1)))]) [0, 1] (by decide) rfl
    exact W.zret (v := 0) hx hb hr (by decide) (fun t ht hW => ⟨⟨0, 0, rfl, Or.inr (⟨i_1, rfl⟩), by rw [ht]; exact hP9, hD9⟩, hS.F ht⟩) hS.2.2 dX5_isBuyer_16
set_option maxHeartbeats 4000000 in
set_option maxRecDepth 100000 in
theorem kX5_worth (l : Launch) (g : zG) (h0 h1 h2 h3 h4 h5 h6 h7 h8 h9 h10 h11 h12 h13 h14 h15 h16 h17 h18 h19 h20 h21 h22 : Nat) (sz : Nat) (p1 : Int32) (p2 : Int32) (p3 : Int32) : Met l yX5_worth (.code yX5_worth cX5_worth 6 (some .int) :: zBig) ({ frames := 2, cells := 0, slots := 0, locals := 46 }) (va_Pc [.ref h0, .int p1, .int p2, .int p3] (zPre g [(h0, .inr (5, [.ref h1, .int 0, .ref h2, .int 0, .int 0, .ref h3, .ref h4, .ref h5, .ref h6, .int 0, .ref h7, .ref h8, .ref h9, .int 0, .ref h10, .ref h11, .ref h12, .ref h13, .ref h14, .ref h15, .ref h16, .ref h17, .ref h18, .ref h19, .ref h20, .ref h21, .ref h22])), (h1, .inl (zI g, 180, .inl (upd (upd (upd (fun _ => 0) 0 60) 1 1) 2 1)))] sz)) (va_Qi (fun (r : Int32) (_ : Nat) => (p1.toInt < 0 ∧ r = (-1)) ∨ (0 ≤ p1.toInt ∧ r = (-1))) (zPost g (fun _ : Nat => []) (va_A [(h0, .inr (5, [.ref h1, .int 0, .ref h2, .int 0, .int 0, .ref h3, .ref h4, .ref h5, .ref h6, .int 0, .ref h7, .ref h8, .ref h9, .int 0, .ref h10, .ref h11, .ref h12, .ref h13, .ref h14, .ref h15, .ref h16, .ref h17, .ref h18, .ref h19, .ref h20, .ref h21, .ref h22])), (h1, .inl (zI g, 180, .inl (upd (upd (upd (fun _ => 0) 0 60) 1 1) 2 1)))] sz)) (va_A [(h0, .inr (5, [.ref h1, .int 0, .ref h2, .int 0, .int 0, .ref h3, .ref h4, .ref h5, .ref h6, .int 0, .ref h7, .ref h8, .ref h9, .int 0, .ref h10, .ref h11, .ref h12, .ref h13, .ref h14, .ref h15, .ref h16, .ref h17, .ref h18, .ref h19, .ref h20, .ref h21, .ref h22])), (h1, .inl (zI g, 180, .inl (upd (upd (upd (fun _ => 0) 0 60) 1 1) 2 1)))] sz)) 0 0 (va_A [(h0, .inr (5, [.ref h1, .int 0, .ref h2, .int 0, .int 0, .ref h3, .ref h4, .ref h5, .ref h6, .int 0, .ref h7, .ref h8, .ref h9, .int 0, .ref h10, .ref h11, .ref h12, .ref h13, .ref h14, .ref h15, .ref h16, .ref h17, .ref h18, .ref h19, .ref h20, .ref h21, .ref h22])), (h1, .inl (zI g, 180, .inl (upd (upd (upd (fun _ => 0) 0 60) 1 1) 2 1)))] sz) := by
  refine zMetI rfl (Nat.le_of_ble_eq_true rfl) ?_
  intro p e s m args below meth c A ls hx hb hml hr hlocks hin hown hts hK hN hZ hP hD hA hS hAe hl
  have hown : s.vm.findClass RX5 = some m.cls := hown
  have hl : lv_has ls 6 [(0, .ref h0), (1, .int p1), (2, .int p2), (3, .int p3)] := hl
  refine lv_aload_n hx hb dX5_worth_0 rfl (lv_at hl 0 rfl) ?_
  refine lv_iload_n hx hb dX5_worth_1 rfl (lv_at hl 1 rfl) ?_
  refine z_calli (wr := []) hP hD hS hA [0, 1] [] (by decide) rfl rfl (by decide) (va_runV (As := [.int p1]) (rest := []) ⟨hx, hb, hml, hown, hts⟩ (kX5_isBuyer_2 l g h0 h1 h2 h3 h4 h5 h6 h7 h8 h9 h10 h11 h12 h13 h14 h15 h16 h17 h18 h19 h20 h21 h22 s.heap.size p1) ⟨callB_of 1 hts (zGood m_o_yX5_isBuyer) rfl rfl rfl (hts _ m_z_RX5) (hts _ m_m_RX5_92) ⟨by decide +kernel, by decide +kernel, by decide +kernel⟩ ⟨Nat.le_of_ble_eq_true rfl, Nat.le_of_ble_eq_true rfl⟩, hts _ m_i_yX5_isBuyer, hts _ m_e_yX5_isBuyer⟩ (zPreV hK hN hZ hP hD hS hA [0, 1] (by decide) rfl rfl 5 0 rfl rfl) rfl rfl hl.1 rfl (lv_room (Nat.le_of_ble_eq_true rfl)) dX5_worth_2 ⟨Nat.le_of_ble_eq_true rfl, Nat.le_of_ble_eq_true rfl⟩) (fun r u H locs hw hP hD hS => ?_)
  rcases hw with ⟨i_0, rfl⟩ | ⟨i_1, rfl⟩
  · skip
    have i_0 : p1.toInt < 0 := i_0
    have hP : va_P g.1 vwCl [(h0, .inr (5, [.ref h1, .int 0, .ref h2, .int 0, .int 0, .ref h3, .ref h4, .ref h5, .ref h6, .int 0, .ref h7, .ref h8, .ref h9, .int 0, .ref h10, .ref h11, .ref h12, .ref h13, .ref h14, .ref h15, .ref h16, .ref h17, .ref h18, .ref h19, .ref h20, .ref h21, .ref h22])), (h1, .inl (zI g, 180, .inl (upd (upd (upd (fun _ => 0) 0 60) 1 1) 2 1)))] H := hP
    have hD : va_D A [(h0, .inr (5, [.ref h1, .int 0, .ref h2, .int 0, .int 0, .ref h3, .ref h4, .ref h5, .ref h6, .int 0, .ref h7, .ref h8, .ref h9, .int 0, .ref h10, .ref h11, .ref h12, .ref h13, .ref h14, .ref h15, .ref h16, .ref h17, .ref h18, .ref h19, .ref h20, .ref h21, .ref h22])), (h1, .inl (zI g, 180, .inl (upd (upd (upd (fun _ => 0) 0 60) 1 1) 2 1)))] := hD
    refine lv_if_eq (tgt := 32) hx hb dX5_worth_5 (by decide) (fun _ => ?_) (fun h => absurd h (by decide +kernel))
    refine lv_iconst (v := (-1)) hx hb dX5_worth_32 (by decide) ?_
    have hP9 := hP.sub (ws' := []) [] rfl
    have hD9 := hD.sub (ws' := []) [] (by decide) rfl
    exact W.iret (v := (-1)) hx hb hr (fun t ht hW => ⟨⟨(-1), 0, rfl, Or.inl ⟨i_0, rfl⟩, by rw [ht]; exact hP9, hD9⟩, hS.F ht⟩) hS.2.2 dX5_worth_33
  · skip
    have i_1 : 0 ≤ p1.toInt := i_1
    have hP : va_P g.1 vwCl [(h0, .inr (5, [.ref h1, .int 0, .ref h2, .int 0, .int 0, .ref h3, .ref h4, .ref h5, .ref h6, .int 0, .ref h7, .ref h8, .ref h9, .int 0, .ref h10, .ref h11, .ref h12, .ref h13, .ref h14, .ref h15, .ref h16, .ref h17, .ref h18, .ref h19, .ref h20, .ref h21, .ref h22])), (h1, .inl (zI g, 180, .inl (upd (upd (upd (fun _ => 0) 0 60) 1 1) 2 1)))] H := hP
    have hD : va_D A [(h0, .inr (5, [.ref h1, .int 0, .ref h2, .int 0, .int 0, .ref h3, .ref h4, .ref h5, .ref h6, .int 0, .ref h7, .ref h8, .ref h9, .int 0, .ref h10, .ref h11, .ref h12, .ref h13, .ref h14, .ref h15, .ref h16, .ref h17, .ref h18, .ref h19, .ref h20, .ref h21, .ref h22])), (h1, .inl (zI g, 180, .inl (upd (upd (upd (fun _ => 0) 0 60) 1 1) 2 1)))] := hD
    refine lv_if_eq (tgt := 32) hx hb dX5_worth_5 (by decide) (fun _ => ?_) (fun h => absurd h (by decide +kernel))
    refine lv_iconst (v := (-1)) hx hb dX5_worth_32 (by decide) ?_
    have hP9 := hP.sub (ws' := []) [] rfl
    have hD9 := hD.sub (ws' := []) [] (by decide) rfl
    exact W.iret (v := (-1)) hx hb hr (fun t ht hW => ⟨⟨(-1), 0, rfl, Or.inr (⟨i_1, rfl⟩), by rw [ht]; exact hP9, hD9⟩, hS.F ht⟩) hS.2.2 dX5_worth_33
set_option maxHeartbeats 4000000 in
set_option maxRecDepth 100000 in
theorem kX5_margin (l : Launch) (g : zG) (h0 h1 h2 h3 h4 h5 h6 h7 h8 h9 h10 h11 h12 h13 h14 h15 h16 h17 h18 h19 h20 h21 h22 : Nat) (sz : Nat) (p1 : Int32) (p2 : Int32) : Met l yX5_margin (.code yX5_margin cX5_margin 4 (some .int) :: zBig) ({ frames := 2, cells := 0, slots := 0, locals := 46 }) (va_Pc [.ref h0, .int p1, .int p2] (zPre g [(h0, .inr (5, [.ref h1, .int 0, .ref h2, .int 0, .int 0, .ref h3, .ref h4, .ref h5, .ref h6, .int 0, .ref h7, .ref h8, .ref h9, .int 0, .ref h10, .ref h11, .ref h12, .ref h13, .ref h14, .ref h15, .ref h16, .ref h17, .ref h18, .ref h19, .ref h20, .ref h21, .ref h22])), (h1, .inl (zI g, 180, .inl (upd (upd (upd (fun _ => 0) 0 60) 1 1) 2 1)))] sz)) (va_Qi (fun (r : Int32) (_ : Nat) => (p1.toInt < 0 ∧ r = (-1)) ∨ (0 ≤ p1.toInt ∧ r = (-1))) (zPost g (fun _ : Nat => []) (va_A [(h0, .inr (5, [.ref h1, .int 0, .ref h2, .int 0, .int 0, .ref h3, .ref h4, .ref h5, .ref h6, .int 0, .ref h7, .ref h8, .ref h9, .int 0, .ref h10, .ref h11, .ref h12, .ref h13, .ref h14, .ref h15, .ref h16, .ref h17, .ref h18, .ref h19, .ref h20, .ref h21, .ref h22])), (h1, .inl (zI g, 180, .inl (upd (upd (upd (fun _ => 0) 0 60) 1 1) 2 1)))] sz)) (va_A [(h0, .inr (5, [.ref h1, .int 0, .ref h2, .int 0, .int 0, .ref h3, .ref h4, .ref h5, .ref h6, .int 0, .ref h7, .ref h8, .ref h9, .int 0, .ref h10, .ref h11, .ref h12, .ref h13, .ref h14, .ref h15, .ref h16, .ref h17, .ref h18, .ref h19, .ref h20, .ref h21, .ref h22])), (h1, .inl (zI g, 180, .inl (upd (upd (upd (fun _ => 0) 0 60) 1 1) 2 1)))] sz)) 0 0 (va_A [(h0, .inr (5, [.ref h1, .int 0, .ref h2, .int 0, .int 0, .ref h3, .ref h4, .ref h5, .ref h6, .int 0, .ref h7, .ref h8, .ref h9, .int 0, .ref h10, .ref h11, .ref h12, .ref h13, .ref h14, .ref h15, .ref h16, .ref h17, .ref h18, .ref h19, .ref h20, .ref h21, .ref h22])), (h1, .inl (zI g, 180, .inl (upd (upd (upd (fun _ => 0) 0 60) 1 1) 2 1)))] sz) := by
  refine zMetI rfl (Nat.le_of_ble_eq_true rfl) ?_
  intro p e s m args below meth c A ls hx hb hml hr hlocks hin hown hts hK hN hZ hP hD hA hS hAe hl
  have hown : s.vm.findClass RX5 = some m.cls := hown
  have hl : lv_has ls 4 [(0, .ref h0), (1, .int p1), (2, .int p2)] := hl
  refine lv_aload_n hx hb dX5_margin_0 rfl (lv_at hl 0 rfl) ?_
  refine lv_iload_n hx hb dX5_margin_1 rfl (lv_at hl 1 rfl) ?_
  refine z_calli (wr := []) hP hD hS hA [0, 1] [] (by decide) rfl rfl (by decide) (va_runV (As := [.int p1]) (rest := []) ⟨hx, hb, hml, hown, hts⟩ (kX5_isBuyer_2 l g h0 h1 h2 h3 h4 h5 h6 h7 h8 h9 h10 h11 h12 h13 h14 h15 h16 h17 h18 h19 h20 h21 h22 s.heap.size p1) ⟨callB_of 1 hts (zGood m_o_yX5_isBuyer) rfl rfl rfl (hts _ m_z_RX5) (hts _ m_m_RX5_92) ⟨by decide +kernel, by decide +kernel, by decide +kernel⟩ ⟨Nat.le_of_ble_eq_true rfl, Nat.le_of_ble_eq_true rfl⟩, hts _ m_i_yX5_isBuyer, hts _ m_e_yX5_isBuyer⟩ (zPreV hK hN hZ hP hD hS hA [0, 1] (by decide) rfl rfl 5 0 rfl rfl) rfl rfl hl.1 rfl (lv_room (Nat.le_of_ble_eq_true rfl)) dX5_margin_2 ⟨Nat.le_of_ble_eq_true rfl, Nat.le_of_ble_eq_true rfl⟩) (fun r u H locs hw hP hD hS => ?_)
  rcases hw with ⟨i_0, rfl⟩ | ⟨i_1, rfl⟩
  · skip
    have i_0 : p1.toInt < 0 := i_0
    have hP : va_P g.1 vwCl [(h0, .inr (5, [.ref h1, .int 0, .ref h2, .int 0, .int 0, .ref h3, .ref h4, .ref h5, .ref h6, .int 0, .ref h7, .ref h8, .ref h9, .int 0, .ref h10, .ref h11, .ref h12, .ref h13, .ref h14, .ref h15, .ref h16, .ref h17, .ref h18, .ref h19, .ref h20, .ref h21, .ref h22])), (h1, .inl (zI g, 180, .inl (upd (upd (upd (fun _ => 0) 0 60) 1 1) 2 1)))] H := hP
    have hD : va_D A [(h0, .inr (5, [.ref h1, .int 0, .ref h2, .int 0, .int 0, .ref h3, .ref h4, .ref h5, .ref h6, .int 0, .ref h7, .ref h8, .ref h9, .int 0, .ref h10, .ref h11, .ref h12, .ref h13, .ref h14, .ref h15, .ref h16, .ref h17, .ref h18, .ref h19, .ref h20, .ref h21, .ref h22])), (h1, .inl (zI g, 180, .inl (upd (upd (upd (fun _ => 0) 0 60) 1 1) 2 1)))] := hD
    refine lv_if_eq (tgt := 20) hx hb dX5_margin_5 (by decide) (fun _ => ?_) (fun h => absurd h (by decide +kernel))
    refine lv_iconst (v := (-1)) hx hb dX5_margin_20 (by decide) ?_
    have hP9 := hP.sub (ws' := []) [] rfl
    have hD9 := hD.sub (ws' := []) [] (by decide) rfl
    exact W.iret (v := (-1)) hx hb hr (fun t ht hW => ⟨⟨(-1), 0, rfl, Or.inl ⟨i_0, rfl⟩, by rw [ht]; exact hP9, hD9⟩, hS.F ht⟩) hS.2.2 dX5_margin_21
  · skip
    have i_1 : 0 ≤ p1.toInt := i_1
    have hP : va_P g.1 vwCl [(h0, .inr (5, [.ref h1, .int 0, .ref h2, .int 0, .int 0, .ref h3, .ref h4, .ref h5, .ref h6, .int 0, .ref h7, .ref h8, .ref h9, .int 0, .ref h10, .ref h11, .ref h12, .ref h13, .ref h14, .ref h15, .ref h16, .ref h17, .ref h18, .ref h19, .ref h20, .ref h21, .ref h22])), (h1, .inl (zI g, 180, .inl (upd (upd (upd (fun _ => 0) 0 60) 1 1) 2 1)))] H := hP
    have hD : va_D A [(h0, .inr (5, [.ref h1, .int 0, .ref h2, .int 0, .int 0, .ref h3, .ref h4, .ref h5, .ref h6, .int 0, .ref h7, .ref h8, .ref h9, .int 0, .ref h10, .ref h11, .ref h12, .ref h13, .ref h14, .ref h15, .ref h16, .ref h17, .ref h18, .ref h19, .ref h20, .ref h21, .ref h22])), (h1, .inl (zI g, 180, .inl (upd (upd (upd (fun _ => 0) 0 60) 1 1) 2 1)))] := hD
    refine lv_if_eq (tgt := 20) hx hb dX5_margin_5 (by decide) (fun _ => ?_) (fun h => absurd h (by decide +kernel))
    refine lv_iconst (v := (-1)) hx hb dX5_margin_20 (by decide) ?_
    have hP9 := hP.sub (ws' := []) [] rfl
    have hD9 := hD.sub (ws' := []) [] (by decide) rfl
    exact W.iret (v := (-1)) hx hb hr (fun t ht hW => ⟨⟨(-1), 0, rfl, Or.inr (⟨i_1, rfl⟩), by rw [ht]; exact hP9, hD9⟩, hS.F ht⟩) hS.2.2 dX5_margin_21
set_option maxHeartbeats 4000000 in
set_option maxRecDepth 100000 in
theorem kX5_told (l : Launch) (g : zG) (h0 h1 h2 h3 h4 h5 h6 h7 h8 h9 h10 h11 h12 h13 h14 h15 h16 h17 h18 h19 h20 h21 h22 : Nat) (sz : Nat) (p1 : Int32) (p2 : Int32) : Met l yX5_told (.code yX5_told cX5_told 3 (some .int) :: zBig) ({ frames := 2, cells := 0, slots := 0, locals := 46 }) (va_Pc [.ref h0, .int p1, .int p2] (zPre g [(h0, .inr (5, [.ref h1, .int 0, .ref h2, .int 0, .int 0, .ref h3, .ref h4, .ref h5, .ref h6, .int 0, .ref h7, .ref h8, .ref h9, .int 0, .ref h10, .ref h11, .ref h12, .ref h13, .ref h14, .ref h15, .ref h16, .ref h17, .ref h18, .ref h19, .ref h20, .ref h21, .ref h22])), (h1, .inl (zI g, 180, .inl (upd (upd (upd (fun _ => 0) 0 60) 1 1) 2 1)))] sz)) (va_Qi (fun (r : Int32) (_ : Nat) => (p1.toInt < 0 ∧ r = (-100001)) ∨ (0 ≤ p1.toInt ∧ r = (-100001))) (zPost g (fun _ : Nat => []) (va_A [(h0, .inr (5, [.ref h1, .int 0, .ref h2, .int 0, .int 0, .ref h3, .ref h4, .ref h5, .ref h6, .int 0, .ref h7, .ref h8, .ref h9, .int 0, .ref h10, .ref h11, .ref h12, .ref h13, .ref h14, .ref h15, .ref h16, .ref h17, .ref h18, .ref h19, .ref h20, .ref h21, .ref h22])), (h1, .inl (zI g, 180, .inl (upd (upd (upd (fun _ => 0) 0 60) 1 1) 2 1)))] sz)) (va_A [(h0, .inr (5, [.ref h1, .int 0, .ref h2, .int 0, .int 0, .ref h3, .ref h4, .ref h5, .ref h6, .int 0, .ref h7, .ref h8, .ref h9, .int 0, .ref h10, .ref h11, .ref h12, .ref h13, .ref h14, .ref h15, .ref h16, .ref h17, .ref h18, .ref h19, .ref h20, .ref h21, .ref h22])), (h1, .inl (zI g, 180, .inl (upd (upd (upd (fun _ => 0) 0 60) 1 1) 2 1)))] sz)) 0 0 (va_A [(h0, .inr (5, [.ref h1, .int 0, .ref h2, .int 0, .int 0, .ref h3, .ref h4, .ref h5, .ref h6, .int 0, .ref h7, .ref h8, .ref h9, .int 0, .ref h10, .ref h11, .ref h12, .ref h13, .ref h14, .ref h15, .ref h16, .ref h17, .ref h18, .ref h19, .ref h20, .ref h21, .ref h22])), (h1, .inl (zI g, 180, .inl (upd (upd (upd (fun _ => 0) 0 60) 1 1) 2 1)))] sz) := by
  refine zMetI rfl (Nat.le_of_ble_eq_true rfl) ?_
  intro p e s m args below meth c A ls hx hb hml hr hlocks hin hown hts hK hN hZ hP hD hA hS hAe hl
  have hown : s.vm.findClass RX5 = some m.cls := hown
  have hl : lv_has ls 3 [(0, .ref h0), (1, .int p1), (2, .int p2)] := hl
  refine lv_aload_n hx hb dX5_told_0 rfl (lv_at hl 0 rfl) ?_
  refine lv_iload_n hx hb dX5_told_1 rfl (lv_at hl 1 rfl) ?_
  refine z_calli (wr := []) hP hD hS hA [0, 1] [] (by decide) rfl rfl (by decide) (va_runV (As := [.int p1]) (rest := []) ⟨hx, hb, hml, hown, hts⟩ (kX5_isBuyer_2 l g h0 h1 h2 h3 h4 h5 h6 h7 h8 h9 h10 h11 h12 h13 h14 h15 h16 h17 h18 h19 h20 h21 h22 s.heap.size p1) ⟨callB_of 1 hts (zGood m_o_yX5_isBuyer) rfl rfl rfl (hts _ m_z_RX5) (hts _ m_m_RX5_92) ⟨by decide +kernel, by decide +kernel, by decide +kernel⟩ ⟨Nat.le_of_ble_eq_true rfl, Nat.le_of_ble_eq_true rfl⟩, hts _ m_i_yX5_isBuyer, hts _ m_e_yX5_isBuyer⟩ (zPreV hK hN hZ hP hD hS hA [0, 1] (by decide) rfl rfl 5 0 rfl rfl) rfl rfl hl.1 rfl (lv_room (Nat.le_of_ble_eq_true rfl)) dX5_told_2 ⟨Nat.le_of_ble_eq_true rfl, Nat.le_of_ble_eq_true rfl⟩) (fun r u H locs hw hP hD hS => ?_)
  rcases hw with ⟨i_0, rfl⟩ | ⟨i_1, rfl⟩
  · skip
    have i_0 : p1.toInt < 0 := i_0
    have hP : va_P g.1 vwCl [(h0, .inr (5, [.ref h1, .int 0, .ref h2, .int 0, .int 0, .ref h3, .ref h4, .ref h5, .ref h6, .int 0, .ref h7, .ref h8, .ref h9, .int 0, .ref h10, .ref h11, .ref h12, .ref h13, .ref h14, .ref h15, .ref h16, .ref h17, .ref h18, .ref h19, .ref h20, .ref h21, .ref h22])), (h1, .inl (zI g, 180, .inl (upd (upd (upd (fun _ => 0) 0 60) 1 1) 2 1)))] H := hP
    have hD : va_D A [(h0, .inr (5, [.ref h1, .int 0, .ref h2, .int 0, .int 0, .ref h3, .ref h4, .ref h5, .ref h6, .int 0, .ref h7, .ref h8, .ref h9, .int 0, .ref h10, .ref h11, .ref h12, .ref h13, .ref h14, .ref h15, .ref h16, .ref h17, .ref h18, .ref h19, .ref h20, .ref h21, .ref h22])), (h1, .inl (zI g, 180, .inl (upd (upd (upd (fun _ => 0) 0 60) 1 1) 2 1)))] := hD
    refine lv_if_eq (tgt := 20) hx hb dX5_told_5 (by decide) (fun _ => ?_) (fun h => absurd h (by decide +kernel))
    refine lv_ldc (v := (-100001)) hx hb hown (hts _ m_k_RX5_104) dX5_told_20 ?_
    have hP9 := hP.sub (ws' := []) [] rfl
    have hD9 := hD.sub (ws' := []) [] (by decide) rfl
    exact W.iret (v := (-100001)) hx hb hr (fun t ht hW => ⟨⟨(-100001), 0, rfl, Or.inl ⟨i_0, rfl⟩, by rw [ht]; exact hP9, hD9⟩, hS.F ht⟩) hS.2.2 dX5_told_22
  · skip
    have i_1 : 0 ≤ p1.toInt := i_1
    have hP : va_P g.1 vwCl [(h0, .inr (5, [.ref h1, .int 0, .ref h2, .int 0, .int 0, .ref h3, .ref h4, .ref h5, .ref h6, .int 0, .ref h7, .ref h8, .ref h9, .int 0, .ref h10, .ref h11, .ref h12, .ref h13, .ref h14, .ref h15, .ref h16, .ref h17, .ref h18, .ref h19, .ref h20, .ref h21, .ref h22])), (h1, .inl (zI g, 180, .inl (upd (upd (upd (fun _ => 0) 0 60) 1 1) 2 1)))] H := hP
    have hD : va_D A [(h0, .inr (5, [.ref h1, .int 0, .ref h2, .int 0, .int 0, .ref h3, .ref h4, .ref h5, .ref h6, .int 0, .ref h7, .ref h8, .ref h9, .int 0, .ref h10, .ref h11, .ref h12, .ref h13, .ref h14, .ref h15, .ref h16, .ref h17, .ref h18, .ref h19, .ref h20, .ref h21, .ref h22])), (h1, .inl (zI g, 180, .inl (upd (upd (upd (fun _ => 0) 0 60) 1 1) 2 1)))] := hD
    refine lv_if_eq (tgt := 20) hx hb dX5_told_5 (by decide) (fun _ => ?_) (fun h => absurd h (by decide +kernel))
    refine lv_ldc (v := (-100001)) hx hb hown (hts _ m_k_RX5_104) dX5_told_20 ?_
    have hP9 := hP.sub (ws' := []) [] rfl
    have hD9 := hD.sub (ws' := []) [] (by decide) rfl
    exact W.iret (v := (-100001)) hx hb hr (fun t ht hW => ⟨⟨(-100001), 0, rfl, Or.inr (⟨i_1, rfl⟩), by rw [ht]; exact hP9, hD9⟩, hS.F ht⟩) hS.2.2 dX5_told_22
set_option maxHeartbeats 4000000 in
set_option maxRecDepth 100000 in
theorem kX5_earn (l : Launch) (g : zG) (h0 h1 h2 h3 h4 h5 h6 h7 h8 h9 h10 h11 h12 h13 h14 h15 h16 h17 h18 h19 h20 h21 h22 : Nat) (sz : Nat) (p1 : Int32) (p2 : Int32) : Met l yX5_earn (.code yX5_earn cX5_earn 3 (some .int) :: zBig) ({ frames := 2, cells := 0, slots := 0, locals := 46 }) (va_Pc [.ref h0, .int p1, .int p2] (zPre g [(h0, .inr (5, [.ref h1, .int 0, .ref h2, .int 0, .int 0, .ref h3, .ref h4, .ref h5, .ref h6, .int 0, .ref h7, .ref h8, .ref h9, .int 0, .ref h10, .ref h11, .ref h12, .ref h13, .ref h14, .ref h15, .ref h16, .ref h17, .ref h18, .ref h19, .ref h20, .ref h21, .ref h22])), (h1, .inl (zI g, 180, .inl (upd (upd (upd (fun _ => 0) 0 60) 1 1) 2 1)))] sz)) (va_Qi (fun (r : Int32) (_ : Nat) => (p1.toInt < 0 ∧ r = (-100001)) ∨ (0 ≤ p1.toInt ∧ r = (-100001))) (zPost g (fun _ : Nat => []) (va_A [(h0, .inr (5, [.ref h1, .int 0, .ref h2, .int 0, .int 0, .ref h3, .ref h4, .ref h5, .ref h6, .int 0, .ref h7, .ref h8, .ref h9, .int 0, .ref h10, .ref h11, .ref h12, .ref h13, .ref h14, .ref h15, .ref h16, .ref h17, .ref h18, .ref h19, .ref h20, .ref h21, .ref h22])), (h1, .inl (zI g, 180, .inl (upd (upd (upd (fun _ => 0) 0 60) 1 1) 2 1)))] sz)) (va_A [(h0, .inr (5, [.ref h1, .int 0, .ref h2, .int 0, .int 0, .ref h3, .ref h4, .ref h5, .ref h6, .int 0, .ref h7, .ref h8, .ref h9, .int 0, .ref h10, .ref h11, .ref h12, .ref h13, .ref h14, .ref h15, .ref h16, .ref h17, .ref h18, .ref h19, .ref h20, .ref h21, .ref h22])), (h1, .inl (zI g, 180, .inl (upd (upd (upd (fun _ => 0) 0 60) 1 1) 2 1)))] sz)) 0 0 (va_A [(h0, .inr (5, [.ref h1, .int 0, .ref h2, .int 0, .int 0, .ref h3, .ref h4, .ref h5, .ref h6, .int 0, .ref h7, .ref h8, .ref h9, .int 0, .ref h10, .ref h11, .ref h12, .ref h13, .ref h14, .ref h15, .ref h16, .ref h17, .ref h18, .ref h19, .ref h20, .ref h21, .ref h22])), (h1, .inl (zI g, 180, .inl (upd (upd (upd (fun _ => 0) 0 60) 1 1) 2 1)))] sz) := by
  refine zMetI rfl (Nat.le_of_ble_eq_true rfl) ?_
  intro p e s m args below meth c A ls hx hb hml hr hlocks hin hown hts hK hN hZ hP hD hA hS hAe hl
  have hown : s.vm.findClass RX5 = some m.cls := hown
  have hl : lv_has ls 3 [(0, .ref h0), (1, .int p1), (2, .int p2)] := hl
  refine lv_aload_n hx hb dX5_earn_0 rfl (lv_at hl 0 rfl) ?_
  refine lv_iload_n hx hb dX5_earn_1 rfl (lv_at hl 1 rfl) ?_
  refine z_calli (wr := []) hP hD hS hA [0, 1] [] (by decide) rfl rfl (by decide) (va_runV (As := [.int p1]) (rest := []) ⟨hx, hb, hml, hown, hts⟩ (kX5_isBuyer_2 l g h0 h1 h2 h3 h4 h5 h6 h7 h8 h9 h10 h11 h12 h13 h14 h15 h16 h17 h18 h19 h20 h21 h22 s.heap.size p1) ⟨callB_of 1 hts (zGood m_o_yX5_isBuyer) rfl rfl rfl (hts _ m_z_RX5) (hts _ m_m_RX5_92) ⟨by decide +kernel, by decide +kernel, by decide +kernel⟩ ⟨Nat.le_of_ble_eq_true rfl, Nat.le_of_ble_eq_true rfl⟩, hts _ m_i_yX5_isBuyer, hts _ m_e_yX5_isBuyer⟩ (zPreV hK hN hZ hP hD hS hA [0, 1] (by decide) rfl rfl 5 0 rfl rfl) rfl rfl hl.1 rfl (lv_room (Nat.le_of_ble_eq_true rfl)) dX5_earn_2 ⟨Nat.le_of_ble_eq_true rfl, Nat.le_of_ble_eq_true rfl⟩) (fun r u H locs hw hP hD hS => ?_)
  rcases hw with ⟨i_0, rfl⟩ | ⟨i_1, rfl⟩
  · skip
    have i_0 : p1.toInt < 0 := i_0
    have hP : va_P g.1 vwCl [(h0, .inr (5, [.ref h1, .int 0, .ref h2, .int 0, .int 0, .ref h3, .ref h4, .ref h5, .ref h6, .int 0, .ref h7, .ref h8, .ref h9, .int 0, .ref h10, .ref h11, .ref h12, .ref h13, .ref h14, .ref h15, .ref h16, .ref h17, .ref h18, .ref h19, .ref h20, .ref h21, .ref h22])), (h1, .inl (zI g, 180, .inl (upd (upd (upd (fun _ => 0) 0 60) 1 1) 2 1)))] H := hP
    have hD : va_D A [(h0, .inr (5, [.ref h1, .int 0, .ref h2, .int 0, .int 0, .ref h3, .ref h4, .ref h5, .ref h6, .int 0, .ref h7, .ref h8, .ref h9, .int 0, .ref h10, .ref h11, .ref h12, .ref h13, .ref h14, .ref h15, .ref h16, .ref h17, .ref h18, .ref h19, .ref h20, .ref h21, .ref h22])), (h1, .inl (zI g, 180, .inl (upd (upd (upd (fun _ => 0) 0 60) 1 1) 2 1)))] := hD
    refine lv_if_eq (tgt := 20) hx hb dX5_earn_5 (by decide) (fun _ => ?_) (fun h => absurd h (by decide +kernel))
    refine lv_ldc (v := (-100001)) hx hb hown (hts _ m_k_RX5_104) dX5_earn_20 ?_
    have hP9 := hP.sub (ws' := []) [] rfl
    have hD9 := hD.sub (ws' := []) [] (by decide) rfl
    exact W.iret (v := (-100001)) hx hb hr (fun t ht hW => ⟨⟨(-100001), 0, rfl, Or.inl ⟨i_0, rfl⟩, by rw [ht]; exact hP9, hD9⟩, hS.F ht⟩) hS.2.2 dX5_earn_22
  · skip
    have i_1 : 0 ≤ p1.toInt := i_1
    have hP : va_P g.1 vwCl [(h0, .inr (5, [.ref h1, .int 0, .ref h2, .int 0, .int 0, .ref h3, .ref h4, .ref h5, .ref h6, .int 0, .ref h7, .ref h8, .ref h9, .int 0, .ref h10, .ref h11, .ref h12, .ref h13, .ref h14, .ref h15, .ref h16, .ref h17, .ref h18, .ref h19, .ref h20, .ref h21, .ref h22])), (h1, .inl (zI g, 180, .inl (upd (upd (upd (fun _ => 0) 0 60) 1 1) 2 1)))] H := hP
    have hD : va_D A [(h0, .inr (5, [.ref h1, .int 0, .ref h2, .int 0, .int 0, .ref h3, .ref h4, .ref h5, .ref h6, .int 0, .ref h7, .ref h8, .ref h9, .int 0, .ref h10, .ref h11, .ref h12, .ref h13, .ref h14, .ref h15, .ref h16, .ref h17, .ref h18, .ref h19, .ref h20, .ref h21, .ref h22])), (h1, .inl (zI g, 180, .inl (upd (upd (upd (fun _ => 0) 0 60) 1 1) 2 1)))] := hD
    refine lv_if_eq (tgt := 20) hx hb dX5_earn_5 (by decide) (fun _ => ?_) (fun h => absurd h (by decide +kernel))
    refine lv_ldc (v := (-100001)) hx hb hown (hts _ m_k_RX5_104) dX5_earn_20 ?_
    have hP9 := hP.sub (ws' := []) [] rfl
    have hD9 := hD.sub (ws' := []) [] (by decide) rfl
    exact W.iret (v := (-100001)) hx hb hr (fun t ht hW => ⟨⟨(-100001), 0, rfl, Or.inr (⟨i_1, rfl⟩), by rw [ht]; exact hP9, hD9⟩, hS.F ht⟩) hS.2.2 dX5_earn_22
set_option maxHeartbeats 4000000 in
set_option maxRecDepth 100000 in
theorem kX5_in_15 (l : Launch) (g : zG) (sz : Nat) (p0 : Int64) : Met l yX5_in (.code yX5_in cX5_in 6 (some .boolean) :: zBig) ({ frames := 0, cells := 0, slots := 0, locals := 0 }) (va_Pc [.long p0, .long 1, .long 8] (zPre g [] sz)) (va_Qi (fun (r : Int32) (_ : Nat) => ((p0 : Int64).toInt < 1 ∧ r = 0) ∨ (1 ≤ (p0 : Int64).toInt ∧ 8 < (p0 : Int64).toInt ∧ r = 0) ∨ (1 ≤ (p0 : Int64).toInt ∧ (p0 : Int64).toInt ≤ 8 ∧ r = 1)) (zPost g (fun _ : Nat => []) (va_A [] sz)) (va_A [] sz)) 0 0 (va_A [] sz) := by
  refine zMetI rfl (Nat.le_of_ble_eq_true rfl) ?_
  intro p e s m args below meth c A ls hx hb hml hr hlocks hin hown hts hK hN hZ hP hD hA hS hAe hl
  have hown : s.vm.findClass RX5 = some m.cls := hown
  have hl : lv_has ls 6 [(0, .long p0), (2, .long 1), (4, .long 8)] := hl
  refine lv_lload_n hx hb dX5_in_0 rfl (lv_at hl 0 rfl) ?_
  refine lv_lload_n hx hb dX5_in_1 rfl (lv_at hl 1 rfl) ?_
  refine W.lcmp hx hb dX5_in_2 ?_
  refine lv_if_lt (tgt := 17) hx hb dX5_in_3 (by decide) (fun c_0 => ?_) (fun c_0 => ?_)
  · have i_0 : (p0 : Int64).toInt < 1 := zl_lt (rfl) (rfl) ((lg_cmp_lt _ _).mp c_0)
    refine lv_iconst (v := 0) hx hb dX5_in_17 (by decide) ?_
    have hP9 := hP.sub (ws' := []) [] rfl
    have hD9 := hD.sub (ws' := []) [] (by decide) rfl
    exact W.zret (v := 0) hx hb hr (by decide) (fun t ht hW => ⟨⟨0, 0, rfl, Or.inl ⟨i_0, rfl⟩, by rw [ht]; exact hP9, hD9⟩, hS.F ht⟩) hS.2.2 dX5_in_18
  · have i_0 : 1 ≤ (p0 : Int64).toInt := zl_nlt (rfl) (rfl) (fun h => c_0 ((lg_cmp_lt _ _).mpr h))
    refine lv_lload_n hx hb dX5_in_6 rfl (lv_at hl 0 rfl) ?_
    refine lv_lload hx hb dX5_in_7 (lv_at hl 2 rfl) ?_
    refine W.lcmp hx hb dX5_in_9 ?_
    refine lv_if_gt (tgt := 17) hx hb dX5_in_10 (by decide) (fun c_1 => ?_) (fun c_1 => ?_)
    · have i_1 : 8 < (p0 : Int64).toInt := zl_lt (rfl) (rfl) ((lg_cmp_gt _ _).mp c_1)
      refine lv_iconst (v := 0) hx hb dX5_in_17 (by decide) ?_
      have hP9 := hP.sub (ws' := []) [] rfl
      have hD9 := hD.sub (ws' := []) [] (by decide) rfl
      exact W.zret (v := 0) hx hb hr (by decide) (fun t ht hW => ⟨⟨0, 0, rfl, Or.inr (Or.inl ⟨i_0, i_1, rfl⟩), by rw [ht]; exact hP9, hD9⟩, hS.F ht⟩) hS.2.2 dX5_in_18
    · have i_1 : (p0 : Int64).toInt ≤ 8 := zl_nlt (rfl) (rfl) (fun h => c_1 ((lg_cmp_gt _ _).mpr h))
      refine lv_iconst (v := 1) hx hb dX5_in_13 (by decide) ?_
      refine lv_goto (tgt := 18) hx hb dX5_in_14 (by decide) ?_
      have hP9 := hP.sub (ws' := []) [] rfl
      have hD9 := hD.sub (ws' := []) [] (by decide) rfl
      exact W.zret (v := 1) hx hb hr (by decide) (fun t ht hW => ⟨⟨1, 0, rfl, Or.inr (Or.inr (⟨i_0, i_1, rfl⟩)), by rw [ht]; exact hP9, hD9⟩, hS.F ht⟩) hS.2.2 dX5_in_18
set_option maxHeartbeats 4000000 in
set_option maxRecDepth 100000 in
theorem kX5_in_16 (l : Launch) (g : zG) (sz : Nat) (p0 : Int64) : Met l yX5_in (.code yX5_in cX5_in 6 (some .boolean) :: zBig) ({ frames := 0, cells := 0, slots := 0, locals := 0 }) (va_Pc [.long p0, .long 32, .long 126] (zPre g [] sz)) (va_Qi (fun (r : Int32) (_ : Nat) => ((p0 : Int64).toInt < 32 ∧ r = 0) ∨ (32 ≤ (p0 : Int64).toInt ∧ 126 < (p0 : Int64).toInt ∧ r = 0) ∨ (32 ≤ (p0 : Int64).toInt ∧ (p0 : Int64).toInt ≤ 126 ∧ r = 1)) (zPost g (fun _ : Nat => []) (va_A [] sz)) (va_A [] sz)) 0 0 (va_A [] sz) := by
  refine zMetI rfl (Nat.le_of_ble_eq_true rfl) ?_
  intro p e s m args below meth c A ls hx hb hml hr hlocks hin hown hts hK hN hZ hP hD hA hS hAe hl
  have hown : s.vm.findClass RX5 = some m.cls := hown
  have hl : lv_has ls 6 [(0, .long p0), (2, .long 32), (4, .long 126)] := hl
  refine lv_lload_n hx hb dX5_in_0 rfl (lv_at hl 0 rfl) ?_
  refine lv_lload_n hx hb dX5_in_1 rfl (lv_at hl 1 rfl) ?_
  refine W.lcmp hx hb dX5_in_2 ?_
  refine lv_if_lt (tgt := 17) hx hb dX5_in_3 (by decide) (fun c_0 => ?_) (fun c_0 => ?_)
  · have i_0 : (p0 : Int64).toInt < 32 := zl_lt (rfl) (rfl) ((lg_cmp_lt _ _).mp c_0)
    refine lv_iconst (v := 0) hx hb dX5_in_17 (by decide) ?_
    have hP9 := hP.sub (ws' := []) [] rfl
    have hD9 := hD.sub (ws' := []) [] (by decide) rfl
    exact W.zret (v := 0) hx hb hr (by decide) (fun t ht hW => ⟨⟨0, 0, rfl, Or.inl ⟨i_0, rfl⟩, by rw [ht]; exact hP9, hD9⟩, hS.F ht⟩) hS.2.2 dX5_in_18
  · have i_0 : 32 ≤ (p0 : Int64).toInt := zl_nlt (rfl) (rfl) (fun h => c_0 ((lg_cmp_lt _ _).mpr h))
    refine lv_lload_n hx hb dX5_in_6 rfl (lv_at hl 0 rfl) ?_
    refine lv_lload hx hb dX5_in_7 (lv_at hl 2 rfl) ?_
    refine W.lcmp hx hb dX5_in_9 ?_
    refine lv_if_gt (tgt := 17) hx hb dX5_in_10 (by decide) (fun c_1 => ?_) (fun c_1 => ?_)
    · have i_1 : 126 < (p0 : Int64).toInt := zl_lt (rfl) (rfl) ((lg_cmp_gt _ _).mp c_1)
      refine lv_iconst (v := 0) hx hb dX5_in_17 (by decide) ?_
      have hP9 := hP.sub (ws' := []) [] rfl
      have hD9 := hD.sub (ws' := []) [] (by decide) rfl
      exact W.zret (v := 0) hx hb hr (by decide) (fun t ht hW => ⟨⟨0, 0, rfl, Or.inr (Or.inl ⟨i_0, i_1, rfl⟩), by rw [ht]; exact hP9, hD9⟩, hS.F ht⟩) hS.2.2 dX5_in_18
    · have i_1 : (p0 : Int64).toInt ≤ 126 := zl_nlt (rfl) (rfl) (fun h => c_1 ((lg_cmp_gt _ _).mpr h))
      refine lv_iconst (v := 1) hx hb dX5_in_13 (by decide) ?_
      refine lv_goto (tgt := 18) hx hb dX5_in_14 (by decide) ?_
      have hP9 := hP.sub (ws' := []) [] rfl
      have hD9 := hD.sub (ws' := []) [] (by decide) rfl
      exact W.zret (v := 1) hx hb hr (by decide) (fun t ht hW => ⟨⟨1, 0, rfl, Or.inr (Or.inr (⟨i_0, i_1, rfl⟩)), by rw [ht]; exact hP9, hD9⟩, hS.F ht⟩) hS.2.2 dX5_in_18
set_option maxHeartbeats 4000000 in
set_option maxRecDepth 100000 in
theorem kX5_in_17 (l : Launch) (g : zG) (sz : Nat) (p0 : Int64) : Met l yX5_in (.code yX5_in cX5_in 6 (some .boolean) :: zBig) ({ frames := 0, cells := 0, slots := 0, locals := 0 }) (va_Pc [.long p0, .long 1, .long 8] (zPre g [] sz)) (va_Qi (fun (r : Int32) (_ : Nat) => ((p0 : Int64).toInt < 1 ∧ r = 0) ∨ (1 ≤ (p0 : Int64).toInt ∧ 8 < (p0 : Int64).toInt ∧ r = 0) ∨ (1 ≤ (p0 : Int64).toInt ∧ (p0 : Int64).toInt ≤ 8 ∧ r = 1)) (zPost g (fun _ : Nat => []) (va_A [] sz)) (va_A [] sz)) 0 0 (va_A [] sz) := by
  refine zMetI rfl (Nat.le_of_ble_eq_true rfl) ?_
  intro p e s m args below meth c A ls hx hb hml hr hlocks hin hown hts hK hN hZ hP hD hA hS hAe hl
  have hown : s.vm.findClass RX5 = some m.cls := hown
  have hl : lv_has ls 6 [(0, .long p0), (2, .long 1), (4, .long 8)] := hl
  refine lv_lload_n hx hb dX5_in_0 rfl (lv_at hl 0 rfl) ?_
  refine lv_lload_n hx hb dX5_in_1 rfl (lv_at hl 1 rfl) ?_
  refine W.lcmp hx hb dX5_in_2 ?_
  refine lv_if_lt (tgt := 17) hx hb dX5_in_3 (by decide) (fun c_0 => ?_) (fun c_0 => ?_)
  · have i_0 : (p0 : Int64).toInt < 1 := zl_lt (rfl) (rfl) ((lg_cmp_lt _ _).mp c_0)
    refine lv_iconst (v := 0) hx hb dX5_in_17 (by decide) ?_
    have hP9 := hP.sub (ws' := []) [] rfl
    have hD9 := hD.sub (ws' := []) [] (by decide) rfl
    exact W.zret (v := 0) hx hb hr (by decide) (fun t ht hW => ⟨⟨0, 0, rfl, Or.inl ⟨i_0, rfl⟩, by rw [ht]; exact hP9, hD9⟩, hS.F ht⟩) hS.2.2 dX5_in_18
  · have i_0 : 1 ≤ (p0 : Int64).toInt := zl_nlt (rfl) (rfl) (fun h => c_0 ((lg_cmp_lt _ _).mpr h))
    refine lv_lload_n hx hb dX5_in_6 rfl (lv_at hl 0 rfl) ?_
    refine lv_lload hx hb dX5_in_7 (lv_at hl 2 rfl) ?_
    refine W.lcmp hx hb dX5_in_9 ?_
    refine lv_if_gt (tgt := 17) hx hb dX5_in_10 (by decide) (fun c_1 => ?_) (fun c_1 => ?_)
    · have i_1 : 8 < (p0 : Int64).toInt := zl_lt (rfl) (rfl) ((lg_cmp_gt _ _).mp c_1)
      refine lv_iconst (v := 0) hx hb dX5_in_17 (by decide) ?_
      have hP9 := hP.sub (ws' := []) [] rfl
      have hD9 := hD.sub (ws' := []) [] (by decide) rfl
      exact W.zret (v := 0) hx hb hr (by decide) (fun t ht hW => ⟨⟨0, 0, rfl, Or.inr (Or.inl ⟨i_0, i_1, rfl⟩), by rw [ht]; exact hP9, hD9⟩, hS.F ht⟩) hS.2.2 dX5_in_18
    · have i_1 : (p0 : Int64).toInt ≤ 8 := zl_nlt (rfl) (rfl) (fun h => c_1 ((lg_cmp_gt _ _).mpr h))
      refine lv_iconst (v := 1) hx hb dX5_in_13 (by decide) ?_
      refine lv_goto (tgt := 18) hx hb dX5_in_14 (by decide) ?_
      have hP9 := hP.sub (ws' := []) [] rfl
      have hD9 := hD.sub (ws' := []) [] (by decide) rfl
      exact W.zret (v := 1) hx hb hr (by decide) (fun t ht hW => ⟨⟨1, 0, rfl, Or.inr (Or.inr (⟨i_0, i_1, rfl⟩)), by rw [ht]; exact hP9, hD9⟩, hS.F ht⟩) hS.2.2 dX5_in_18
set_option maxHeartbeats 4000000 in
set_option maxRecDepth 100000 in
theorem kX5_in_18 (l : Launch) (g : zG) (sz : Nat) (p0 : Int64) : Met l yX5_in (.code yX5_in cX5_in 6 (some .boolean) :: zBig) ({ frames := 0, cells := 0, slots := 0, locals := 0 }) (va_Pc [.long p0, .long 32, .long 126] (zPre g [] sz)) (va_Qi (fun (r : Int32) (_ : Nat) => ((p0 : Int64).toInt < 32 ∧ r = 0) ∨ (32 ≤ (p0 : Int64).toInt ∧ 126 < (p0 : Int64).toInt ∧ r = 0) ∨ (32 ≤ (p0 : Int64).toInt ∧ (p0 : Int64).toInt ≤ 126 ∧ r = 1)) (zPost g (fun _ : Nat => []) (va_A [] sz)) (va_A [] sz)) 0 0 (va_A [] sz) := by
  refine zMetI rfl (Nat.le_of_ble_eq_true rfl) ?_
  intro p e s m args below meth c A ls hx hb hml hr hlocks hin hown hts hK hN hZ hP hD hA hS hAe hl
  have hown : s.vm.findClass RX5 = some m.cls := hown
  have hl : lv_has ls 6 [(0, .long p0), (2, .long 32), (4, .long 126)] := hl
  refine lv_lload_n hx hb dX5_in_0 rfl (lv_at hl 0 rfl) ?_
  refine lv_lload_n hx hb dX5_in_1 rfl (lv_at hl 1 rfl) ?_
  refine W.lcmp hx hb dX5_in_2 ?_
  refine lv_if_lt (tgt := 17) hx hb dX5_in_3 (by decide) (fun c_0 => ?_) (fun c_0 => ?_)
  · have i_0 : (p0 : Int64).toInt < 32 := zl_lt (rfl) (rfl) ((lg_cmp_lt _ _).mp c_0)
    refine lv_iconst (v := 0) hx hb dX5_in_17 (by decide) ?_
    have hP9 := hP.sub (ws' := []) [] rfl
    have hD9 := hD.sub (ws' := []) [] (by decide) rfl
    exact W.zret (v := 0) hx hb hr (by decide) (fun t ht hW => ⟨⟨0, 0, rfl, Or.inl ⟨i_0, rfl⟩, by rw [ht]; exact hP9, hD9⟩, hS.F ht⟩) hS.2.2 dX5_in_18
  · have i_0 : 32 ≤ (p0 : Int64).toInt := zl_nlt (rfl) (rfl) (fun h => c_0 ((lg_cmp_lt _ _).mpr h))
    refine lv_lload_n hx hb dX5_in_6 rfl (lv_at hl 0 rfl) ?_
    refine lv_lload hx hb dX5_in_7 (lv_at hl 2 rfl) ?_
    refine W.lcmp hx hb dX5_in_9 ?_
    refine lv_if_gt (tgt := 17) hx hb dX5_in_10 (by decide) (fun c_1 => ?_) (fun c_1 => ?_)
    · have i_1 : 126 < (p0 : Int64).toInt := zl_lt (rfl) (rfl) ((lg_cmp_gt _ _).mp c_1)
      refine lv_iconst (v := 0) hx hb dX5_in_17 (by decide) ?_
      have hP9 := hP.sub (ws' := []) [] rfl
      have hD9 := hD.sub (ws' := []) [] (by decide) rfl
      exact W.zret (v := 0) hx hb hr (by decide) (fun t ht hW => ⟨⟨0, 0, rfl, Or.inr (Or.inl ⟨i_0, i_1, rfl⟩), by rw [ht]; exact hP9, hD9⟩, hS.F ht⟩) hS.2.2 dX5_in_18
    · have i_1 : (p0 : Int64).toInt ≤ 126 := zl_nlt (rfl) (rfl) (fun h => c_1 ((lg_cmp_gt _ _).mpr h))
      refine lv_iconst (v := 1) hx hb dX5_in_13 (by decide) ?_
      refine lv_goto (tgt := 18) hx hb dX5_in_14 (by decide) ?_
      have hP9 := hP.sub (ws' := []) [] rfl
      have hD9 := hD.sub (ws' := []) [] (by decide) rfl
      exact W.zret (v := 1) hx hb hr (by decide) (fun t ht hW => ⟨⟨1, 0, rfl, Or.inr (Or.inr (⟨i_0, i_1, rfl⟩)), by rw [ht]; exact hP9, hD9⟩, hS.F ht⟩) hS.2.2 dX5_in_18
set_option maxHeartbeats 4000000 in
set_option maxRecDepth 100000 in
theorem kX5_type (l : Launch) (g : zG) (h0 h1 h2 h3 h4 h5 h6 h7 h8 h9 h10 h11 h12 h13 h14 h15 h16 h17 h18 h19 h20 h21 h22 : Nat) (sz : Nat) (p1 : Int64) (p2 : Int32) : Met l yX5_type (.code yX5_type cX5_type 5 (some .int) :: zBig) ({ frames := 1, cells := 0, slots := 0, locals := 25 }) (va_Pc [.ref h0, .long p1, .int p2] (zPre g [(h0, .inr (5, [.ref h1, .int 0, .ref h2, .int 0, .int 0, .ref h3, .ref h4, .ref h5, .ref h6, .int 0, .ref h7, .ref h8, .ref h9, .int 0, .ref h10, .ref h11, .ref h12, .ref h13, .ref h14, .ref h15, .ref h16, .ref h17, .ref h18, .ref h19, .ref h20, .ref h21, .ref h22])), (h2, .inl (zI g, 60, .inl (fun _ => 0)))] sz)) (va_Qi (fun (r : Int32) (_ : Nat) => (p2.toInt < 1 ∧ r = (-1)) ∨ (1 ≤ p2.toInt ∧ 8 < p2.toInt ∧ r = (-1)) ∨ (1 ≤ p2.toInt ∧ p2.toInt ≤ 8 ∧ (((p1 >>> ((0 : Int32).toInt64 &&& 63)) &&& 255) : Int64).toInt < 32 ∧ r = (-1)) ∨ (1 ≤ p2.toInt ∧ p2.toInt ≤ 8 ∧ 32 ≤ (((p1 >>> ((0 : Int32).toInt64 &&& 63)) &&& 255) : Int64).toInt ∧ 126 < (((p1 >>> ((0 : Int32).toInt64 &&& 63)) &&& 255) : Int64).toInt ∧ r = (-1)) ∨ (1 ≤ p2.toInt ∧ p2.toInt ≤ 8 ∧ 32 ≤ (((p1 >>> ((0 : Int32).toInt64 &&& 63)) &&& 255) : Int64).toInt ∧ (((p1 >>> ((0 : Int32).toInt64 &&& 63)) &&& 255) : Int64).toInt ≤ 126 ∧ p2.toInt ≤ 1 ∧ r = 1) ∨ (1 ≤ p2.toInt ∧ p2.toInt ≤ 8 ∧ 32 ≤ (((p1 >>> ((0 : Int32).toInt64 &&& 63)) &&& 255) : Int64).toInt ∧ (((p1 >>> ((0 : Int32).toInt64 &&& 63)) &&& 255) : Int64).toInt ≤ 126 ∧ 1 < p2.toInt ∧ (((p1 >>> ((8 : Int32).toInt64 &&& 63)) &&& 255) : Int64).toInt < 32 ∧ r = (-1)) ∨ (1 ≤ p2.toInt ∧ p2.toInt ≤ 8 ∧ 32 ≤ (((p1 >>> ((0 : Int32).toInt64 &&& 63)) &&& 255) : Int64).toInt ∧ (((p1 >>> ((0 : Int32).toInt64 &&& 63)) &&& 255) : Int64).toInt ≤ 126 ∧ 1 < p2.toInt ∧ 32 ≤ (((p1 >>> ((8 : Int32).toInt64 &&& 63)) &&& 255) : Int64).toInt ∧ 126 < (((p1 >>> ((8 : Int32).toInt64 &&& 63)) &&& 255) : Int64).toInt ∧ r = (-1)) ∨ (1 ≤ p2.toInt ∧ p2.toInt ≤ 8 ∧ 32 ≤ (((p1 >>> ((0 : Int32).toInt64 &&& 63)) &&& 255) : Int64).toInt ∧ (((p1 >>> ((0 : Int32).toInt64 &&& 63)) &&& 255) : Int64).toInt ≤ 126 ∧ 1 < p2.toInt ∧ 32 ≤ (((p1 >>> ((8 : Int32).toInt64 &&& 63)) &&& 255) : Int64).toInt ∧ (((p1 >>> ((8 : Int32).toInt64 &&& 63)) &&& 255) : Int64).toInt ≤ 126 ∧ p2.toInt ≤ 2 ∧ r = 2) ∨ (1 ≤ p2.toInt ∧ p2.toInt ≤ 8 ∧ 32 ≤ (((p1 >>> ((0 : Int32).toInt64 &&& 63)) &&& 255) : Int64).toInt ∧ (((p1 >>> ((0 : Int32).toInt64 &&& 63)) &&& 255) : Int64).toInt ≤ 126 ∧ 1 < p2.toInt ∧ 32 ≤ (((p1 >>> ((8 : Int32).toInt64 &&& 63)) &&& 255) : Int64).toInt ∧ (((p1 >>> ((8 : Int32).toInt64 &&& 63)) &&& 255) : Int64).toInt ≤ 126 ∧ 2 < p2.toInt ∧ (((p1 >>> ((16 : Int32).toInt64 &&& 63)) &&& 255) : Int64).toInt < 32 ∧ r = (-1)) ∨ (1 ≤ p2.toInt ∧ p2.toInt ≤ 8 ∧ 32 ≤ (((p1 >>> ((0 : Int32).toInt64 &&& 63)) &&& 255) : Int64).toInt ∧ (((p1 >>> ((0 : Int32).toInt64 &&& 63)) &&& 255) : Int64).toInt ≤ 126 ∧ 1 < p2.toInt ∧ 32 ≤ (((p1 >>> ((8 : Int32).toInt64 &&& 63)) &&& 255) : Int64).toInt ∧ (((p1 >>> ((8 : Int32).toInt64 &&& 63)) &&& 255) : Int64).toInt ≤ 126 ∧ 2 < p2.toInt ∧ 32 ≤ (((p1 >>> ((16 : Int32).toInt64 &&& 63)) &&& 255) : Int64).toInt ∧ 126 < (((p1 >>> ((16 : Int32).toInt64 &&& 63)) &&& 255) : Int64).toInt ∧ r = (-1)) ∨ (1 ≤ p2.toInt ∧ p2.toInt ≤ 8 ∧ 32 ≤ (((p1 >>> ((0 : Int32).toInt64 &&& 63)) &&& 255) : Int64).toInt ∧ (((p1 >>> ((0 : Int32).toInt64 &&& 63)) &&& 255) : Int64).toInt ≤ 126 ∧ 1 < p2.toInt ∧ 32 ≤ (((p1 >>> ((8 : Int32).toInt64 &&& 63)) &&& 255) : Int64).toInt ∧ (((p1 >>> ((8 : Int32).toInt64 &&& 63)) &&& 255) : Int64).toInt ≤ 126 ∧ 2 < p2.toInt ∧ 32 ≤ (((p1 >>> ((16 : Int32).toInt64 &&& 63)) &&& 255) : Int64).toInt ∧ (((p1 >>> ((16 : Int32).toInt64 &&& 63)) &&& 255) : Int64).toInt ≤ 126 ∧ p2.toInt ≤ 3 ∧ r = 3) ∨ (1 ≤ p2.toInt ∧ p2.toInt ≤ 8 ∧ 32 ≤ (((p1 >>> ((0 : Int32).toInt64 &&& 63)) &&& 255) : Int64).toInt ∧ (((p1 >>> ((0 : Int32).toInt64 &&& 63)) &&& 255) : Int64).toInt ≤ 126 ∧ 1 < p2.toInt ∧ 32 ≤ (((p1 >>> ((8 : Int32).toInt64 &&& 63)) &&& 255) : Int64).toInt ∧ (((p1 >>> ((8 : Int32).toInt64 &&& 63)) &&& 255) : Int64).toInt ≤ 126 ∧ 2 < p2.toInt ∧ 32 ≤ (((p1 >>> ((16 : Int32).toInt64 &&& 63)) &&& 255) : Int64).toInt ∧ (((p1 >>> ((16 : Int32).toInt64 &&& 63)) &&& 255) : Int64).toInt ≤ 126 ∧ 3 < p2.toInt ∧ (((p1 >>> ((24 : Int32).toInt64 &&& 63)) &&& 255) : Int64).toInt < 32 ∧ r = (-1)) ∨ (1 ≤ p2.toInt ∧ p2.toInt ≤ 8 ∧ 32 ≤ (((p1 >>> ((0 : Int32).toInt64 &&& 63)) &&& 255) : Int64).toInt ∧ (((p1 >>> ((0 : Int32).toInt64 &&& 63)) &&& 255) : Int64).toInt ≤ 126 ∧ 1 < p2.toInt ∧ 32 ≤ (((p1 >>> ((8 : Int32).toInt64 &&& 63)) &&& 255) : Int64).toInt ∧ (((p1 >>> ((8 : Int32).toInt64 &&& 63)) &&& 255) : Int64).toInt ≤ 126 ∧ 2 < p2.toInt ∧ 32 ≤ (((p1 >>> ((16 : Int32).toInt64 &&& 63)) &&& 255) : Int64).toInt ∧ (((p1 >>> ((16 : Int32).toInt64 &&& 63)) &&& 255) : Int64).toInt ≤ 126 ∧ 3 < p2.toInt ∧ 32 ≤ (((p1 >>> ((24 : Int32).toInt64 &&& 63)) &&& 255) : Int64).toInt ∧ 126 < (((p1 >>> ((24 : Int32).toInt64 &&& 63)) &&& 255) : Int64).toInt ∧ r = (-1)) ∨ (1 ≤ p2.toInt ∧ p2.toInt ≤ 8 ∧ 32 ≤ (((p1 >>> ((0 : Int32).toInt64 &&& 63)) &&& 255) : Int64).toInt ∧ (((p1 >>> ((0 : Int32).toInt64 &&& 63)) &&& 255) : Int64).toInt ≤ 126 ∧ 1 < p2.toInt ∧ 32 ≤ (((p1 >>> ((8 : Int32).toInt64 &&& 63)) &&& 255) : Int64).toInt ∧ (((p1 >>> ((8 : Int32).toInt64 &&& 63)) &&& 255) : Int64).toInt ≤ 126 ∧ 2 < p2.toInt ∧ 32 ≤ (((p1 >>> ((16 : Int32).toInt64 &&& 63)) &&& 255) : Int64).toInt ∧ (((p1 >>> ((16 : Int32).toInt64 &&& 63)) &&& 255) : Int64).toInt ≤ 126 ∧ 3 < p2.toInt ∧ 32 ≤ (((p1 >>> ((24 : Int32).toInt64 &&& 63)) &&& 255) : Int64).toInt ∧ (((p1 >>> ((24 : Int32).toInt64 &&& 63)) &&& 255) : Int64).toInt ≤ 126 ∧ p2.toInt ≤ 4 ∧ r = 4) ∨ (1 ≤ p2.toInt ∧ p2.toInt ≤ 8 ∧ 32 ≤ (((p1 >>> ((0 : Int32).toInt64 &&& 63)) &&& 255) : Int64).toInt ∧ (((p1 >>> ((0 : Int32).toInt64 &&& 63)) &&& 255) : Int64).toInt ≤ 126 ∧ 1 < p2.toInt ∧ 32 ≤ (((p1 >>> ((8 : Int32).toInt64 &&& 63)) &&& 255) : Int64).toInt ∧ (((p1 >>> ((8 : Int32).toInt64 &&& 63)) &&& 255) : Int64).toInt ≤ 126 ∧ 2 < p2.toInt ∧ 32 ≤ (((p1 >>> ((16 : Int32).toInt64 &&& 63)) &&& 255) : Int64).toInt ∧ (((p1 >>> ((16 : Int32).toInt64 &&& 63)) &&& 255) : Int64).toInt ≤ 126 ∧ 3 < p2.toInt ∧ 32 ≤ (((p1 >>> ((24 : Int32).toInt64 &&& 63)) &&& 255) : Int64).toInt ∧ (((p1 >>> ((24 : Int32).toInt64 &&& 63)) &&& 255) : Int64).toInt ≤ 126 ∧ 4 < p2.toInt ∧ (((p1 >>> ((32 : Int32).toInt64 &&& 63)) &&& 255) : Int64).toInt < 32 ∧ r = (-1)) ∨ (1 ≤ p2.toInt ∧ p2.toInt ≤ 8 ∧ 32 ≤ (((p1 >>> ((0 : Int32).toInt64 &&& 63)) &&& 255) : Int64).toInt ∧ (((p1 >>> ((0 : Int32).toInt64 &&& 63)) &&& 255) : Int64).toInt ≤ 126 ∧ 1 < p2.toInt ∧ 32 ≤ (((p1 >>> ((8 : Int32).toInt64 &&& 63)) &&& 255) : Int64).toInt ∧ (((p1 >>> ((8 : Int32).toInt64 &&& 63)) &&& 255) : Int64).toInt ≤ 126 ∧ 2 < p2.toInt ∧ 32 ≤ (((p1 >>> ((16 : Int32).toInt64 &&& 63)) &&& 255) : Int64).toInt ∧ (((p1 >>> ((16 : Int32).toInt64 &&& 63)) &&& 255) : Int64).toInt ≤ 126 ∧ 3 < p2.toInt ∧ 32 ≤ (((p1 >>> ((24 : Int32).toInt64 &&& 63)) &&& 255) : Int64).toInt ∧ (((p1 >>> ((24 : Int32).toInt64 &&& 63)) &&& 255) : Int64).toInt ≤ 126 ∧ 4 < p2.toInt ∧ 32 ≤ (((p1 >>> ((32 : Int32).toInt64 &&& 63)) &&& 255) : Int64).toInt ∧ 126 < (((p1 >>> ((32 : Int32).toInt64 &&& 63)) &&& 255) : Int64).toInt ∧ r = (-1)) ∨ (1 ≤ p2.toInt ∧ p2.toInt ≤ 8 ∧ 32 ≤ (((p1 >>> ((0 : Int32).toInt64 &&& 63)) &&& 255) : Int64).toInt ∧ (((p1 >>> ((0 : Int32).toInt64 &&& 63)) &&& 255) : Int64).toInt ≤ 126 ∧ 1 < p2.toInt ∧ 32 ≤ (((p1 >>> ((8 : Int32).toInt64 &&& 63)) &&& 255) : Int64).toInt ∧ (((p1 >>> ((8 : Int32).toInt64 &&& 63)) &&& 255) : Int64).toInt ≤ 126 ∧ 2 < p2.toInt ∧ 32 ≤ (((p1 >>> ((16 : Int32).toInt64 &&& 63)) &&& 255) : Int64).toInt ∧ (((p1 >>> ((16 : Int32).toInt64 &&& 63)) &&& 255) : Int64).toInt ≤ 126 ∧ 3 < p2.toInt ∧ 32 ≤ (((p1 >>> ((24 : Int32).toInt64 &&& 63)) &&& 255) : Int64).toInt ∧ (((p1 >>> ((24 : Int32).toInt64 &&& 63)) &&& 255) : Int64).toInt ≤ 126 ∧ 4 < p2.toInt ∧ 32 ≤ (((p1 >>> ((32 : Int32).toInt64 &&& 63)) &&& 255) : Int64).toInt ∧ (((p1 >>> ((32 : Int32).toInt64 &&& 63)) &&& 255) : Int64).toInt ≤ 126 ∧ p2.toInt ≤ 5 ∧ r = 5) ∨ (1 ≤ p2.toInt ∧ p2.toInt ≤ 8 ∧ 32 ≤ (((p1 >>> ((0 : Int32).toInt64 &&& 63)) &&& 255) : Int64).toInt ∧ (((p1 >>> ((0 : Int32).toInt64 &&& 63)) &&& 255) : Int64).toInt ≤ 126 ∧ 1 < p2.toInt ∧ 32 ≤ (((p1 >>> ((8 : Int32).toInt64 &&& 63)) &&& 255) : Int64).toInt ∧ (((p1 >>> ((8 : Int32).toInt64 &&& 63)) &&& 255) : Int64).toInt ≤ 126 ∧ 2 < p2.toInt ∧ 32 ≤ (((p1 >>> ((16 : Int32).toInt64 &&& 63)) &&& 255) : Int64).toInt ∧ (((p1 >>> ((16 : Int32).toInt64 &&& 63)) &&& 255) : Int64).toInt ≤ 126 ∧ 3 < p2.toInt ∧ 32 ≤ (((p1 >>> ((24 : Int32).toInt64 &&& 63)) &&& 255) : Int64).toInt ∧ (((p1 >>> ((24 : Int32).toInt64 &&& 63)) &&& 255) : Int64).toInt ≤ 126 ∧ 4 < p2.toInt ∧ 32 ≤ (((p1 >>> ((32 : Int32).toInt64 &&& 63)) &&& 255) : Int64).toInt ∧ (((p1 >>> ((32 : Int32).toInt64 &&& 63)) &&& 255) : Int64).toInt ≤ 126 ∧ 5 < p2.toInt ∧ (((p1 >>> ((40 : Int32).toInt64 &&& 63)) &&& 255) : Int64).toInt < 32 ∧ r = (-1)) ∨ (1 ≤ p2.toInt ∧ p2.toInt ≤ 8 ∧ 32 ≤ (((p1 >>> ((0 : Int32).toInt64 &&& 63)) &&& 255) : Int64).toInt ∧ (((p1 >>> ((0 : Int32).toInt64 &&& 63)) &&& 255) : Int64).toInt ≤ 126 ∧ 1 < p2.toInt ∧ 32 ≤ (((p1 >>> ((8 : Int32).toInt64 &&& 63)) &&& 255) : Int64).toInt ∧ (((p1 >>> ((8 : Int32).toInt64 &&& 63)) &&& 255) : Int64).toInt ≤ 126 ∧ 2 < p2.toInt ∧ 32 ≤ (((p1 >>> ((16 : Int32).toInt64 &&& 63)) &&& 255) : Int64).toInt ∧ (((p1 >>> ((16 : Int32).toInt64 &&& 63)) &&& 255) : Int64).toInt ≤ 126 ∧ 3 < p2.toInt ∧ 32 ≤ (((p1 >>> ((24 : Int32).toInt64 &&& 63)) &&& 255) : Int64).toInt ∧ (((p1 >>> ((24 : Int32).toInt64 &&& 63)) &&& 255) : Int64).toInt ≤ 126 ∧ 4 < p2.toInt ∧ 32 ≤ (((p1 >>> ((32 : Int32).toInt64 &&& 63)) &&& 255) : Int64).toInt ∧ (((p1 >>> ((32 : Int32).toInt64 &&& 63)) &&& 255) : Int64).toInt ≤ 126 ∧ 5 < p2.toInt ∧ 32 ≤ (((p1 >>> ((40 : Int32).toInt64 &&& 63)) &&& 255) : Int64).toInt ∧ 126 < (((p1 >>> ((40 : Int32).toInt64 &&& 63)) &&& 255) : Int64).toInt ∧ r = (-1)) ∨ (1 ≤ p2.toInt ∧ p2.toInt ≤ 8 ∧ 32 ≤ (((p1 >>> ((0 : Int32).toInt64 &&& 63)) &&& 255) : Int64).toInt ∧ (((p1 >>> ((0 : Int32).toInt64 &&& 63)) &&& 255) : Int64).toInt ≤ 126 ∧ 1 < p2.toInt ∧ 32 ≤ (((p1 >>> ((8 : Int32).toInt64 &&& 63)) &&& 255) : Int64).toInt ∧ (((p1 >>> ((8 : Int32).toInt64 &&& 63)) &&& 255) : Int64).toInt ≤ 126 ∧ 2 < p2.toInt ∧ 32 ≤ (((p1 >>> ((16 : Int32).toInt64 &&& 63)) &&& 255) : Int64).toInt ∧ (((p1 >>> ((16 : Int32).toInt64 &&& 63)) &&& 255) : Int64).toInt ≤ 126 ∧ 3 < p2.toInt ∧ 32 ≤ (((p1 >>> ((24 : Int32).toInt64 &&& 63)) &&& 255) : Int64).toInt ∧ (((p1 >>> ((24 : Int32).toInt64 &&& 63)) &&& 255) : Int64).toInt ≤ 126 ∧ 4 < p2.toInt ∧ 32 ≤ (((p1 >>> ((32 : Int32).toInt64 &&& 63)) &&& 255) : Int64).toInt ∧ (((p1 >>> ((32 : Int32).toInt64 &&& 63)) &&& 255) : Int64).toInt ≤ 126 ∧ 5 < p2.toInt ∧ 32 ≤ (((p1 >>> ((40 : Int32).toInt64 &&& 63)) &&& 255) : Int64).toInt ∧ (((p1 >>> ((40 : Int32).toInt64 &&& 63)) &&& 255) : Int64).toInt ≤ 126 ∧ p2.toInt ≤ 6 ∧ r = 6) ∨ (1 ≤ p2.toInt ∧ p2.toInt ≤ 8 ∧ 32 ≤ (((p1 >>> ((0 : Int32).toInt64 &&& 63)) &&& 255) : Int64).toInt ∧ (((p1 >>> ((0 : Int32).toInt64 &&& 63)) &&& 255) : Int64).toInt ≤ 126 ∧ 1 < p2.toInt ∧ 32 ≤ (((p1 >>> ((8 : Int32).toInt64 &&& 63)) &&& 255) : Int64).toInt ∧ (((p1 >>> ((8 : Int32).toInt64 &&& 63)) &&& 255) : Int64).toInt ≤ 126 ∧ 2 < p2.toInt ∧ 32 ≤ (((p1 >>> ((16 : Int32).toInt64 &&& 63)) &&& 255) : Int64).toInt ∧ (((p1 >>> ((16 : Int32).toInt64 &&& 63)) &&& 255) : Int64).toInt ≤ 126 ∧ 3 < p2.toInt ∧ 32 ≤ (((p1 >>> ((24 : Int32).toInt64 &&& 63)) &&& 255) : Int64).toInt ∧ (((p1 >>> ((24 : Int32).toInt64 &&& 63)) &&& 255) : Int64).toInt ≤ 126 ∧ 4 < p2.toInt ∧ 32 ≤ (((p1 >>> ((32 : Int32).toInt64 &&& 63)) &&& 255) : Int64).toInt ∧ (((p1 >>> ((32 : Int32).toInt64 &&& 63)) &&& 255) : Int64).toInt ≤ 126 ∧ 5 < p2.toInt ∧ 32 ≤ (((p1 >>> ((40 : Int32).toInt64 &&& 63)) &&& 255) : Int64).toInt ∧ (((p1 >>> ((40 : Int32).toInt64 &&& 63)) &&& 255) : Int64).toInt ≤ 126 ∧ 6 < p2.toInt ∧ (((p1 >>> ((48 : Int32).toInt64 &&& 63)) &&& 255) : Int64).toInt < 32 ∧ r = (-1)) ∨ (1 ≤ p2.toInt ∧ p2.toInt ≤ 8 ∧ 32 ≤ (((p1 >>> ((0 : Int32).toInt64 &&& 63)) &&& 255) : Int64).toInt ∧ (((p1 >>> ((0 : Int32).toInt64 &&& 63)) &&& 255) : Int64).toInt ≤ 126 ∧ 1 < p2.toInt ∧ 32 ≤ (((p1 >>> ((8 : Int32).toInt64 &&& 63)) &&& 255) : Int64).toInt ∧ (((p1 >>> ((8 : Int32).toInt64 &&& 63)) &&& 255) : Int64).toInt ≤ 126 ∧ 2 < p2.toInt ∧ 32 ≤ (((p1 >>> ((16 : Int32).toInt64 &&& 63)) &&& 255) : Int64).toInt ∧ (((p1 >>> ((16 : Int32).toInt64 &&& 63)) &&& 255) : Int64).toInt ≤ 126 ∧ 3 < p2.toInt ∧ 32 ≤ (((p1 >>> ((24 : Int32).toInt64 &&& 63)) &&& 255) : Int64).toInt ∧ (((p1 >>> ((24 : Int32).toInt64 &&& 63)) &&& 255) : Int64).toInt ≤ 126 ∧ 4 < p2.toInt ∧ 32 ≤ (((p1 >>> ((32 : Int32).toInt64 &&& 63)) &&& 255) : Int64).toInt ∧ (((p1 >>> ((32 : Int32).toInt64 &&& 63)) &&& 255) : Int64).toInt ≤ 126 ∧ 5 < p2.toInt ∧ 32 ≤ (((p1 >>> ((40 : Int32).toInt64 &&& 63)) &&& 255) : Int64).toInt ∧ (((p1 >>> ((40 : Int32).toInt64 &&& 63)) &&& 255) : Int64).toInt ≤ 126 ∧ 6 < p2.toInt ∧ 32 ≤ (((p1 >>> ((48 : Int32).toInt64 &&& 63)) &&& 255) : Int64).toInt ∧ 126 < (((p1 >>> ((48 : Int32).toInt64 &&& 63)) &&& 255) : Int64).toInt ∧ r = (-1)) ∨ (1 ≤ p2.toInt ∧ p2.toInt ≤ 8 ∧ 32 ≤ (((p1 >>> ((0 : Int32).toInt64 &&& 63)) &&& 255) : Int64).toInt ∧ (((p1 >>> ((0 : Int32).toInt64 &&& 63)) &&& 255) : Int64).toInt ≤ 126 ∧ 1 < p2.toInt ∧ 32 ≤ (((p1 >>> ((8 : Int32).toInt64 &&& 63)) &&& 255) : Int64).toInt ∧ (((p1 >>> ((8 : Int32).toInt64 &&& 63)) &&& 255) : Int64).toInt ≤ 126 ∧ 2 < p2.toInt ∧ 32 ≤ (((p1 >>> ((16 : Int32).toInt64 &&& 63)) &&& 255) : Int64).toInt ∧ (((p1 >>> ((16 : Int32).toInt64 &&& 63)) &&& 255) : Int64).toInt ≤ 126 ∧ 3 < p2.toInt ∧ 32 ≤ (((p1 >>> ((24 : Int32).toInt64 &&& 63)) &&& 255) : Int64).toInt ∧ (((p1 >>> ((24 : Int32).toInt64 &&& 63)) &&& 255) : Int64).toInt ≤ 126 ∧ 4 < p2.toInt ∧ 32 ≤ (((p1 >>> ((32 : Int32).toInt64 &&& 63)) &&& 255) : Int64).toInt ∧ (((p1 >>> ((32 : Int32).toInt64 &&& 63)) &&& 255) : Int64).toInt ≤ 126 ∧ 5 < p2.toInt ∧ 32 ≤ (((p1 >>> ((40 : Int32).toInt64 &&& 63)) &&& 255) : Int64).toInt ∧ (((p1 >>> ((40 : Int32).toInt64 &&& 63)) &&& 255) : Int64).toInt ≤ 126 ∧ 6 < p2.toInt ∧ 32 ≤ (((p1 >>> ((48 : Int32).toInt64 &&& 63)) &&& 255) : Int64).toInt ∧ (((p1 >>> ((48 : Int32).toInt64 &&& 63)) &&& 255) : Int64).toInt ≤ 126 ∧ p2.toInt ≤ 7 ∧ r = 7) ∨ (1 ≤ p2.toInt ∧ p2.toInt ≤ 8 ∧ 32 ≤ (((p1 >>> ((0 : Int32).toInt64 &&& 63)) &&& 255) : Int64).toInt ∧ (((p1 >>> ((0 : Int32).toInt64 &&& 63)) &&& 255) : Int64).toInt ≤ 126 ∧ 1 < p2.toInt ∧ 32 ≤ (((p1 >>> ((8 : Int32).toInt64 &&& 63)) &&& 255) : Int64).toInt ∧ (((p1 >>> ((8 : Int32).toInt64 &&& 63)) &&& 255) : Int64).toInt ≤ 126 ∧ 2 < p2.toInt ∧ 32 ≤ (((p1 >>> ((16 : Int32).toInt64 &&& 63)) &&& 255) : Int64).toInt ∧ (((p1 >>> ((16 : Int32).toInt64 &&& 63)) &&& 255) : Int64).toInt ≤ 126 ∧ 3 < p2.toInt ∧ 32 ≤ (((p1 >>> ((24 : Int32).toInt64 &&& 63)) &&& 255) : Int64).toInt ∧ (((p1 >>> ((24 : Int32).toInt64 &&& 63)) &&& 255) : Int64).toInt ≤ 126 ∧ 4 < p2.toInt ∧ 32 ≤ (((p1 >>> ((32 : Int32).toInt64 &&& 63)) &&& 255) : Int64).toInt ∧ (((p1 >>> ((32 : Int32).toInt64 &&& 63)) &&& 255) : Int64).toInt ≤ 126 ∧ 5 < p2.toInt ∧ 32 ≤ (((p1 >>> ((40 : Int32).toInt64 &&& 63)) &&& 255) : Int64).toInt ∧ (((p1 >>> ((40 : Int32).toInt64 &&& 63)) &&& 255) : Int64).toInt ≤ 126 ∧ 6 < p2.toInt ∧ 32 ≤ (((p1 >>> ((48 : Int32).toInt64 &&& 63)) &&& 255) : Int64).toInt ∧ (((p1 >>> ((48 : Int32).toInt64 &&& 63)) &&& 255) : Int64).toInt ≤ 126 ∧ 7 < p2.toInt ∧ (((p1 >>> ((56 : Int32).toInt64 &&& 63)) &&& 255) : Int64).toInt < 32 ∧ r = (-1)) ∨ (1 ≤ p2.toInt ∧ p2.toInt ≤ 8 ∧ 32 ≤ (((p1 >>> ((0 : Int32).toInt64 &&& 63)) &&& 255) : Int64).toInt ∧ (((p1 >>> ((0 : Int32).toInt64 &&& 63)) &&& 255) : Int64).toInt ≤ 126 ∧ 1 < p2.toInt ∧ 32 ≤ (((p1 >>> ((8 : Int32).toInt64 &&& 63)) &&& 255) : Int64).toInt ∧ (((p1 >>> ((8 : Int32).toInt64 &&& 63)) &&& 255) : Int64).toInt ≤ 126 ∧ 2 < p2.toInt ∧ 32 ≤ (((p1 >>> ((16 : Int32).toInt64 &&& 63)) &&& 255) : Int64).toInt ∧ (((p1 >>> ((16 : Int32).toInt64 &&& 63)) &&& 255) : Int64).toInt ≤ 126 ∧ 3 < p2.toInt ∧ 32 ≤ (((p1 >>> ((24 : Int32).toInt64 &&& 63)) &&& 255) : Int64).toInt ∧ (((p1 >>> ((24 : Int32).toInt64 &&& 63)) &&& 255) : Int64).toInt ≤ 126 ∧ 4 < p2.toInt ∧ 32 ≤ (((p1 >>> ((32 : Int32).toInt64 &&& 63)) &&& 255) : Int64).toInt ∧ (((p1 >>> ((32 : Int32).toInt64 &&& 63)) &&& 255) : Int64).toInt ≤ 126 ∧ 5 < p2.toInt ∧ 32 ≤ (((p1 >>> ((40 : Int32).toInt64 &&& 63)) &&& 255) : Int64).toInt ∧ (((p1 >>> ((40 : Int32).toInt64 &&& 63)) &&& 255) : Int64).toInt ≤ 126 ∧ 6 < p2.toInt ∧ 32 ≤ (((p1 >>> ((48 : Int32).toInt64 &&& 63)) &&& 255) : Int64).toInt ∧ (((p1 >>> ((48 : Int32).toInt64 &&& 63)) &&& 255) : Int64).toInt ≤ 126 ∧ 7 < p2.toInt ∧ 32 ≤ (((p1 >>> ((56 : Int32).toInt64 &&& 63)) &&& 255) : Int64).toInt ∧ 126 < (((p1 >>> ((56 : Int32).toInt64 &&& 63)) &&& 255) : Int64).toInt ∧ r = (-1)) ∨ (1 ≤ p2.toInt ∧ p2.toInt ≤ 8 ∧ 32 ≤ (((p1 >>> ((0 : Int32).toInt64 &&& 63)) &&& 255) : Int64).toInt ∧ (((p1 >>> ((0 : Int32).toInt64 &&& 63)) &&& 255) : Int64).toInt ≤ 126 ∧ 1 < p2.toInt ∧ 32 ≤ (((p1 >>> ((8 : Int32).toInt64 &&& 63)) &&& 255) : Int64).toInt ∧ (((p1 >>> ((8 : Int32).toInt64 &&& 63)) &&& 255) : Int64).toInt ≤ 126 ∧ 2 < p2.toInt ∧ 32 ≤ (((p1 >>> ((16 : Int32).toInt64 &&& 63)) &&& 255) : Int64).toInt ∧ (((p1 >>> ((16 : Int32).toInt64 &&& 63)) &&& 255) : Int64).toInt ≤ 126 ∧ 3 < p2.toInt ∧ 32 ≤ (((p1 >>> ((24 : Int32).toInt64 &&& 63)) &&& 255) : Int64).toInt ∧ (((p1 >>> ((24 : Int32).toInt64 &&& 63)) &&& 255) : Int64).toInt ≤ 126 ∧ 4 < p2.toInt ∧ 32 ≤ (((p1 >>> ((32 : Int32).toInt64 &&& 63)) &&& 255) : Int64).toInt ∧ (((p1 >>> ((32 : Int32).toInt64 &&& 63)) &&& 255) : Int64).toInt ≤ 126 ∧ 5 < p2.toInt ∧ 32 ≤ (((p1 >>> ((40 : Int32).toInt64 &&& 63)) &&& 255) : Int64).toInt ∧ (((p1 >>> ((40 : Int32).toInt64 &&& 63)) &&& 255) : Int64).toInt ≤ 126 ∧ 6 < p2.toInt ∧ 32 ≤ (((p1 >>> ((48 : Int32).toInt64 &&& 63)) &&& 255) : Int64).toInt ∧ (((p1 >>> ((48 : Int32).toInt64 &&& 63)) &&& 255) : Int64).toInt ≤ 126 ∧ 7 < p2.toInt ∧ 32 ≤ (((p1 >>> ((56 : Int32).toInt64 &&& 63)) &&& 255) : Int64).toInt ∧ (((p1 >>> ((56 : Int32).toInt64 &&& 63)) &&& 255) : Int64).toInt ≤ 126 ∧ r = 8)) (zPost g (fun _ : Nat => []) (va_A [(h0, .inr (5, [.ref h1, .int 0, .ref h2, .int 0, .int 0, .ref h3, .ref h4, .ref h5, .ref h6, .int 0, .ref h7, .ref h8, .ref h9, .int 0, .ref h10, .ref h11, .ref h12, .ref h13, .ref h14, .ref h15, .ref h16, .ref h17, .ref h18, .ref h19, .ref h20, .ref h21, .ref h22])), (h2, .inl (zI g, 60, .inl (fun _ => 0)))] sz)) (va_A [(h0, .inr (5, [.ref h1, .int 0, .ref h2, .int 0, .int 0, .ref h3, .ref h4, .ref h5, .ref h6, .int 0, .ref h7, .ref h8, .ref h9, .int 0, .ref h10, .ref h11, .ref h12, .ref h13, .ref h14, .ref h15, .ref h16, .ref h17, .ref h18, .ref h19, .ref h20, .ref h21, .ref h22])), (h2, .inl (zI g, 60, .inl (fun _ => 0)))] sz)) 0 0 (va_A [(h0, .inr (5, [.ref h1, .int 0, .ref h2, .int 0, .int 0, .ref h3, .ref h4, .ref h5, .ref h6, .int 0, .ref h7, .ref h8, .ref h9, .int 0, .ref h10, .ref h11, .ref h12, .ref h13, .ref h14, .ref h15, .ref h16, .ref h17, .ref h18, .ref h19, .ref h20, .ref h21, .ref h22])), (h2, .inl (zI g, 60, .inl (fun _ => 0)))] sz) := by
  refine zMetI rfl (Nat.le_of_ble_eq_true rfl) ?_
  intro p e s m args below meth c A ls hx hb hml hr hlocks hin hown hts hK hN hZ hP hD hA hS hAe hl
  have hown : s.vm.findClass RX5 = some m.cls := hown
  have hl : lv_has ls 5 [(0, .ref h0), (1, .long p1), (3, .int p2)] := hl
  refine lv_iload_n hx hb dX5_type_0 rfl (lv_at hl 2 rfl) ?_
  refine lv_i2l (v := p2.toInt64) hx hb dX5_type_1 rfl ?_
  refine lv_lconst (v := 1) hx hb dX5_type_2 (by decide) ?_
  refine lv_ldc2 (v := 8) hx hb hown (hts _ m_k_RX5_106) dX5_type_3 ?_
  refine z_calli (wr := [(h0, .inr (5, [.ref h1, .int 0, .ref h2, .int 0, .int 0, .ref h3, .ref h4, .ref h5, .ref h6, .int 0, .ref h7, .ref h8, .ref h9, .int 0, .ref h10, .ref h11, .ref h12, .ref h13, .ref h14, .ref h15, .ref h16, .ref h17, .ref h18, .ref h19, .ref h20, .ref h21, .ref h22])), (h2, .inl (zI g, 60, .inl (fun _ => 0)))]) hP hD hS hA [] [0, 1] (by decide) rfl rfl (by decide) (va_runS (As := [.long p2.toInt64, .long 1, .long 8]) (rest := []) ⟨hx, hb, hml, hown, hts⟩ (kX5_in_17 l g  s.heap.size p2.toInt64) ⟨callB_of 3 hts (zGood m_o_yX5_in) rfl rfl rfl (hts _ m_z_RX5) (hts _ m_m_RX5_77) ⟨by decide +kernel, by decide +kernel, by decide +kernel⟩ ⟨Nat.le_of_ble_eq_true rfl, Nat.le_of_ble_eq_true rfl⟩, hts _ m_s_yX5_in⟩ (zPreS hK hN hZ hP hD hS hA [] (by decide) rfl rfl) rfl rfl hl.1 rfl (lv_room (Nat.le_of_ble_eq_true rfl)) dX5_type_6 ⟨Nat.le_of_ble_eq_true rfl, Nat.le_of_ble_eq_true rfl⟩) (fun r u H locs hw hP hD hS => ?_)
  rcases hw with ⟨i_0, rfl⟩ | ⟨i_1, i_2, rfl⟩ | ⟨i_3, i_4, rfl⟩
  · skip
    have i_0 : p2.toInt < 1 := by simpa only [Int32.toInt_toInt64] using i_0
    have hP : va_P g.1 vwCl [(h0, .inr (5, [.ref h1, .int 0, .ref h2, .int 0, .int 0, .ref h3, .ref h4, .ref h5, .ref h6, .int 0, .ref h7, .ref h8, .ref h9, .int 0, .ref h10, .ref h11, .ref h12, .ref h13, .ref h14, .ref h15, .ref h16, .ref h17, .ref h18, .ref h19, .ref h20, .ref h21, .ref h22])), (h2, .inl (zI g, 60, .inl (fun _ => 0)))] H := hP
    have hD : va_D A [(h0, .inr (5, [.ref h1, .int 0, .ref h2, .int 0, .int 0, .ref h3, .ref h4, .ref h5, .ref h6, .int 0, .ref h7, .ref h8, .ref h9, .int 0, .ref h10, .ref h11, .ref h12, .ref h13, .ref h14, .ref h15, .ref h16, .ref h17, .ref h18, .ref h19, .ref h20, .ref h21, .ref h22])), (h2, .inl (zI g, 60, .inl (fun _ => 0)))] := hD
    refine lv_if_ne (tgt := 14) hx hb dX5_type_9 (by decide) (fun h => absurd h (by decide +kernel)) (fun _ => ?_)
    refine lv_iconst (v := (-1)) hx hb dX5_type_12 (by decide) ?_
    have hP9 := hP.sub (ws' := []) [] rfl
    have hD9 := hD.sub (ws' := []) [] (by decide) rfl
    exact W.iret (v := (-1)) hx hb hr (fun t ht hW => ⟨⟨(-1), 0, rfl, Or.inl ⟨i_0, rfl⟩, by rw [ht]; exact hP9, hD9⟩, hS.F ht⟩) hS.2.2 dX5_type_13
  · skip
    have i_1 : 1 ≤ p2.toInt := by simpa only [Int32.toInt_toInt64] using i_1
    have i_2 : 8 < p2.toInt := by simpa only [Int32.toInt_toInt64] using i_2
    have hP : va_P g.1 vwCl [(h0, .inr (5, [.ref h1, .int 0, .ref h2, .int 0, .int 0, .ref h3, .ref h4, .ref h5, .ref h6, .int 0, .ref h7, .ref h8, .ref h9, .int 0, .ref h10, .ref h11, .ref h12, .ref h13, .ref h14, .ref h15, .ref h16, .ref h17, .ref h18, .ref h19, .ref h20, .ref h21, .ref h22])), (h2, .inl (zI g, 60, .inl (fun _ => 0)))] H := hP
    have hD : va_D A [(h0, .inr (5, [.ref h1, .int 0, .ref h2, .int 0, .int 0, .ref h3, .ref h4, .ref h5, .ref h6, .int 0, .ref h7, .ref h8, .ref h9, .int 0, .ref h10, .ref h11, .ref h12, .ref h13, .ref h14, .ref h15, .ref h16, .ref h17, .ref h18, .ref h19, .ref h20, .ref h21, .ref h22])), (h2, .inl (zI g, 60, .inl (fun _ => 0)))] := hD
    refine lv_if_ne (tgt := 14) hx hb dX5_type_9 (by decide) (fun h => absurd h (by decide +kernel)) (fun _ => ?_)
    refine lv_iconst (v := (-1)) hx hb dX5_type_12 (by decide) ?_
    have hP9 := hP.sub (ws' := []) [] rfl
    have hD9 := hD.sub (ws' := []) [] (by decide) rfl
    exact W.iret (v := (-1)) hx hb hr (fun t ht hW => ⟨⟨(-1), 0, rfl, Or.inr (Or.inl ⟨i_1, i_2, rfl⟩), by rw [ht]; exact hP9, hD9⟩, hS.F ht⟩) hS.2.2 dX5_type_13
  · skip
    have i_3 : 1 ≤ p2.toInt := by simpa only [Int32.toInt_toInt64] using i_3
    have i_4 : p2.toInt ≤ 8 := by simpa only [Int32.toInt_toInt64] using i_4
    have hP : va_P g.1 vwCl [(h0, .inr (5, [.ref h1, .int 0, .ref h2, .int 0, .int 0, .ref h3, .ref h4, .ref h5, .ref h6, .int 0, .ref h7, .ref h8, .ref h9, .int 0, .ref h10, .ref h11, .ref h12, .ref h13, .ref h14, .ref h15, .ref h16, .ref h17, .ref h18, .ref h19, .ref h20, .ref h21, .ref h22])), (h2, .inl (zI g, 60, .inl (fun _ => 0)))] H := hP
    have hD : va_D A [(h0, .inr (5, [.ref h1, .int 0, .ref h2, .int 0, .int 0, .ref h3, .ref h4, .ref h5, .ref h6, .int 0, .ref h7, .ref h8, .ref h9, .int 0, .ref h10, .ref h11, .ref h12, .ref h13, .ref h14, .ref h15, .ref h16, .ref h17, .ref h18, .ref h19, .ref h20, .ref h21, .ref h22])), (h2, .inl (zI g, 60, .inl (fun _ => 0)))] := hD
    refine lv_if_ne (tgt := 14) hx hb dX5_type_9 (by decide) (fun _ => ?_) (fun h => absurd h (by decide +kernel))
    refine lv_iconst (v := 0) hx hb dX5_type_14 (by decide) ?_
    refine lv_istore (lv' := [(4, .int 0), (0, .ref h0), (1, .long p1), (3, .int p2)]) hx hb dX5_type_15 hl (by decide) rfl (fun ls hl => ?_)
    refine lv_iload hx hb dX5_type_17 (lv_at hl 0 rfl) ?_
    refine lv_iload_n hx hb dX5_type_19 rfl (lv_at hl 3 rfl) ?_
    refine lv_icmp_ge (tgt := 54) hx hb dX5_type_20 (by decide) (fun c_5 => absurd (show p2.toInt ≤ 0 from z_le (rfl) (rfl) c_5) (by omega)) (fun c_5 => ?_)
    have i_5 : 0 < p2.toInt := z_nle (rfl) (rfl) c_5
    refine lv_lload_n hx hb dX5_type_23 rfl (lv_at hl 2 rfl) ?_
    refine lv_bipush (v := 8) hx hb dX5_type_24 (by decide) ?_
    refine lv_iload hx hb dX5_type_26 (lv_at hl 0 rfl) ?_
    refine lv_imul hx hb dX5_type_28 ?_
    refine lv_topi (nm_r (e' := 0) (by decide +kernel) ?_)
    refine lv_lshr (v := (p1 >>> ((0 : Int32).toInt64 &&& 63))) hx hb dX5_type_29 rfl ?_
    refine lv_ldc2 (v := 255) hx hb hown (hts _ m_k_RX5_108) dX5_type_30 ?_
    refine lv_land hx hb dX5_type_33 ?_
    refine lv_ldc2 (v := 32) hx hb hown (hts _ m_k_RX5_110) dX5_type_34 ?_
    refine lv_ldc2 (v := 126) hx hb hown (hts _ m_k_RX5_112) dX5_type_37 ?_
    refine z_calli (wr := [(h0, .inr (5, [.ref h1, .int 0, .ref h2, .int 0, .int 0, .ref h3, .ref h4, .ref h5, .ref h6, .int 0, .ref h7, .ref h8, .ref h9, .int 0, .ref h10, .ref h11, .ref h12, .ref h13, .ref h14, .ref h15, .ref h16, .ref h17, .ref h18, .ref h19, .ref h20, .ref h21, .ref h22])), (h2, .inl (zI g, 60, .inl (fun _ => 0)))]) hP hD hS hA [] [0, 1] (by decide) rfl rfl (by decide) (va_runS (As := [.long ((p1 >>> ((0 : Int32).toInt64 &&& 63)) &&& 255), .long 32, .long 126]) (rest := []) ⟨hx, hb, hml, hown, hts⟩ (kX5_in_18 l g  H.size ((p1 >>> ((0 : Int32).toInt64 &&& 63)) &&& 255)) ⟨callB_of 3 hts (zGood m_o_yX5_in) rfl rfl rfl (hts _ m_z_RX5) (hts _ m_m_RX5_77) ⟨by decide +kernel, by decide +kernel, by decide +kernel⟩ ⟨Nat.le_of_ble_eq_true rfl, Nat.le_of_ble_eq_true rfl⟩, hts _ m_s_yX5_in⟩ (zPreS hK hN hZ hP hD hS hA [] (by decide) rfl rfl) rfl rfl hl.1 rfl (lv_room (Nat.le_of_ble_eq_true rfl)) dX5_type_40 ⟨Nat.le_of_ble_eq_true rfl, Nat.le_of_ble_eq_true rfl⟩) (fun r u H locs hw hP hD hS => ?_)
    rcases hw with ⟨i_6, rfl⟩ | ⟨i_7, i_8, rfl⟩ | ⟨i_9, i_10, rfl⟩
    · skip
      have i_6 : (((p1 >>> ((0 : Int32).toInt64 &&& 63)) &&& 255) : Int64).toInt < 32 := i_6
      have hP : va_P g.1 vwCl [(h0, .inr (5, [.ref h1, .int 0, .ref h2, .int 0, .int 0, .ref h3, .ref h4, .ref h5, .ref h6, .int 0, .ref h7, .ref h8, .ref h9, .int 0, .ref h10, .ref h11, .ref h12, .ref h13, .ref h14, .ref h15, .ref h16, .ref h17, .ref h18, .ref h19, .ref h20, .ref h21, .ref h22])), (h2, .inl (zI g, 60, .inl (fun _ => 0)))] H := hP
      have hD : va_D A [(h0, .inr (5, [.ref h1, .int 0, .ref h2, .int 0, .int 0, .ref h3, .ref h4, .ref h5, .ref h6, .int 0, .ref h7, .ref h8, .ref h9, .int 0, .ref h10, .ref h11, .ref h12, .ref h13, .ref h14, .ref h15, .ref h16, .ref h17, .ref h18, .ref h19, .ref h20, .ref h21, .ref h22])), (h2, .inl (zI g, 60, .inl (fun _ => 0)))] := hD
      refine lv_if_ne (tgt := 48) hx hb dX5_type_43 (by decide) (fun h => absurd h (by decide +kernel)) (fun _ => ?_)
      refine lv_iconst (v := (-1)) hx hb dX5_type_46 (by decide) ?_
      have hP9 := hP.sub (ws' := []) [] rfl
      have hD9 := hD.sub (ws' := []) [] (by decide) rfl
      exact W.iret (v := (-1)) hx hb hr (fun t ht hW => ⟨⟨(-1), 0, rfl, Or.inr (Or.inr (Or.inl ⟨i_3, i_4, i_6, rfl⟩)), by rw [ht]; exact hP9, hD9⟩, hS.F ht⟩) hS.2.2 dX5_type_47
    · skip
      have i_7 : 32 ≤ (((p1 >>> ((0 : Int32).toInt64 &&& 63)) &&& 255) : Int64).toInt := i_7
      have i_8 : 126 < (((p1 >>> ((0 : Int32).toInt64 &&& 63)) &&& 255) : Int64).toInt := i_8
      have hP : va_P g.1 vwCl [(h0, .inr (5, [.ref h1, .int 0, .ref h2, .int 0, .int 0, .ref h3, .ref h4, .ref h5, .ref h6, .int 0, .ref h7, .ref h8, .ref h9, .int 0, .ref h10, .ref h11, .ref h12, .ref h13, .ref h14, .ref h15, .ref h16, .ref h17, .ref h18, .ref h19, .ref h20, .ref h21, .ref h22])), (h2, .inl (zI g, 60, .inl (fun _ => 0)))] H := hP
      have hD : va_D A [(h0, .inr (5, [.ref h1, .int 0, .ref h2, .int 0, .int 0, .ref h3, .ref h4, .ref h5, .ref h6, .int 0, .ref h7, .ref h8, .ref h9, .int 0, .ref h10, .ref h11, .ref h12, .ref h13, .ref h14, .ref h15, .ref h16, .ref h17, .ref h18, .ref h19, .ref h20, .ref h21, .ref h22])), (h2, .inl (zI g, 60, .inl (fun _ => 0)))] := hD
      refine lv_if_ne (tgt := 48) hx hb dX5_type_43 (by decide) (fun h => absurd h (by decide +kernel)) (fun _ => ?_)
      refine lv_iconst (v := (-1)) hx hb dX5_type_46 (by decide) ?_
      have hP9 := hP.sub (ws' := []) [] rfl
      have hD9 := hD.sub (ws' := []) [] (by decide) rfl
      exact W.iret (v := (-1)) hx hb hr (fun t ht hW => ⟨⟨(-1), 0, rfl, Or.inr (Or.inr (Or.inr (Or.inl ⟨i_3, i_4, i_7, i_8, rfl⟩))), by rw [ht]; exact hP9, hD9⟩, hS.F ht⟩) hS.2.2 dX5_type_47
    · skip
      have i_9 : 32 ≤ (((p1 >>> ((0 : Int32).toInt64 &&& 63)) &&& 255) : Int64).toInt := i_9
      have i_10 : (((p1 >>> ((0 : Int32).toInt64 &&& 63)) &&& 255) : Int64).toInt ≤ 126 := i_10
      have hP : va_P g.1 vwCl [(h0, .inr (5, [.ref h1, .int 0, .ref h2, .int 0, .int 0, .ref h3, .ref h4, .ref h5, .ref h6, .int 0, .ref h7, .ref h8, .ref h9, .int 0, .ref h10, .ref h11, .ref h12, .ref h13, .ref h14, .ref h15, .ref h16, .ref h17, .ref h18, .ref h19, .ref h20, .ref h21, .ref h22])), (h2, .inl (zI g, 60, .inl (fun _ => 0)))] H := hP
      have hD : va_D A [(h0, .inr (5, [.ref h1, .int 0, .ref h2, .int 0, .int 0, .ref h3, .ref h4, .ref h5, .ref h6, .int 0, .ref h7, .ref h8, .ref h9, .int 0, .ref h10, .ref h11, .ref h12, .ref h13, .ref h14, .ref h15, .ref h16, .ref h17, .ref h18, .ref h19, .ref h20, .ref h21, .ref h22])), (h2, .inl (zI g, 60, .inl (fun _ => 0)))] := hD
      refine lv_if_ne (tgt := 48) hx hb dX5_type_43 (by decide) (fun _ => ?_) (fun h => absurd h (by decide +kernel))
      refine lv_iinc (v := 1) (lv' := [(4, .int 1), (0, .ref h0), (1, .long p1), (3, .int p2)]) hx hb dX5_type_48 hl (k := 0) rfl (by decide) (by decide) rfl (fun ls hl => ?_)
      refine lv_goto (tgt := 17) hx hb dX5_type_51 (by decide) ?_
      refine lv_iload hx hb dX5_type_17 (lv_at hl 0 rfl) ?_
      refine lv_iload_n hx hb dX5_type_19 rfl (lv_at hl 3 rfl) ?_
      refine lv_icmp_ge (tgt := 54) hx hb dX5_type_20 (by decide) (fun c_11 => ?_) (fun c_11 => ?_)
      · have i_11 : p2.toInt ≤ 1 := z_le (rfl) (rfl) c_11
        refine lv_aload_n hx hb dX5_type_54 rfl (lv_at hl 1 rfl) ?_
        refine va_get (D := g.1) (ci := 5) (v := .int 0) (C := RX5) (T := TX5) (N := 27) hx hb hts zl_X5 hown hK hP 0 rfl rfl 3 (by decide) (hts _ m_f_RX5_114) (fun _ h => h) rfl dX5_type_55 ?_
        refine lv_iload_n hx hb dX5_type_58 rfl (lv_at hl 3 rfl) ?_
        obtain rfl : p2 = 1 := Int32.toInt_inj.mp (show p2.toInt = (1 : Int32).toInt from (show p2.toInt = 1 by omega).trans rfl)
        refine lv_iadd hx hb dX5_type_59 ?_
        refine lv_topi (nm_r (e' := 1) (by decide +kernel) ?_)
        refine lv_bipush (v := 60) hx hb dX5_type_60 (by decide) ?_
        refine lv_icmp_le (tgt := 68) hx hb dX5_type_62 (by decide) (fun _ => ?_) (fun h => absurd h (by decide +kernel))
        refine lv_iload_n hx hb dX5_type_68 rfl (lv_at hl 3 rfl) ?_
        refine lv_iconst (v := 1) hx hb dX5_type_69 (by decide) ?_
        refine lv_isub hx hb dX5_type_70 ?_
        refine lv_topi (nm_r (e' := 0) (by decide +kernel) ?_)
        refine lv_istore (lv' := [(4, .int 0), (0, .ref h0), (1, .long p1), (3, .int 1)]) hx hb dX5_type_71 hl (by decide) rfl (fun ls hl => ?_)
        refine lv_iload hx hb dX5_type_73 (lv_at hl 0 rfl) ?_
        refine lv_if_lt (tgt := 115) hx hb dX5_type_75 (by decide) (fun h => absurd h (by decide +kernel)) (fun _ => ?_)
        refine lv_aload_n hx hb dX5_type_78 rfl (lv_at hl 1 rfl) ?_
        refine va_get (D := g.1) (ci := 5) (v := .ref h2) (C := RX5) (T := TX5) (N := 27) hx hb hts zl_X5 hown hK hP 0 rfl rfl 2 (by decide) (hts _ m_f_RX5_13) (fun _ h => h) rfl dX5_type_79 ?_
        refine lv_aload_n hx hb dX5_type_82 rfl (lv_at hl 1 rfl) ?_
        refine va_get (D := g.1) (ci := 5) (v := .int 0) (C := RX5) (T := TX5) (N := 27) hx hb hts zl_X5 hown hK hP 0 rfl rfl 3 (by decide) (hts _ m_f_RX5_114) (fun _ h => h) rfl dX5_type_83 ?_
        refine lv_lload_n hx hb dX5_type_86 rfl (lv_at hl 2 rfl) ?_
        refine lv_bipush (v := 8) hx hb dX5_type_87 (by decide) ?_
        refine lv_iload hx hb dX5_type_89 (lv_at hl 0 rfl) ?_
        refine lv_imul hx hb dX5_type_91 ?_
        refine lv_topi (nm_r (e' := 0) (by decide +kernel) ?_)
        refine lv_lshr (v := (p1 >>> ((0 : Int32).toInt64 &&& 63))) hx hb dX5_type_92 rfl ?_
        refine lv_ldc2 (v := 255) hx hb hown (hts _ m_k_RX5_108) dX5_type_93 ?_
        refine lv_land hx hb dX5_type_96 ?_
        refine lv_l2i (v := ((p1 >>> ((0 : Int32).toInt64 &&& 63)) &&& 255).toInt32) hx hb dX5_type_97 rfl ?_
        refine va_iast (D := g.1) hx hb hK hP hD hS 1 0 rfl rfl (vp_in_iff.mpr (by decide +kernel)) dX5_type_98 (fun H locs hP hD hS => ?_)
        have hP : va_P g.1 vwCl [(h0, .inr (5, [.ref h1, .int 0, .ref h2, .int 0, .int 0, .ref h3, .ref h4, .ref h5, .ref h6, .int 0, .ref h7, .ref h8, .ref h9, .int 0, .ref h10, .ref h11, .ref h12, .ref h13, .ref h14, .ref h15, .ref h16, .ref h17, .ref h18, .ref h19, .ref h20, .ref h21, .ref h22])), (h2, .inl (zI g, 60, .inl (upd (fun _ => 0) 0 (((p1 >>> ((0 : Int32).toInt64 &&& 63)) &&& 255).toInt32))))] H := hP
        have hD : va_D A [(h0, .inr (5, [.ref h1, .int 0, .ref h2, .int 0, .int 0, .ref h3, .ref h4, .ref h5, .ref h6, .int 0, .ref h7, .ref h8, .ref h9, .int 0, .ref h10, .ref h11, .ref h12, .ref h13, .ref h14, .ref h15, .ref h16, .ref h17, .ref h18, .ref h19, .ref h20, .ref h21, .ref h22])), (h2, .inl (zI g, 60, .inl (upd (fun _ => 0) 0 (((p1 >>> ((0 : Int32).toInt64 &&& 63)) &&& 255).toInt32))))] := hD
        refine lv_aload_n hx hb dX5_type_99 rfl (lv_at hl 1 rfl) ?_
        refine lv_dup hx hb dX5_type_100 rfl ?_
        refine va_get (D := g.1) (ci := 5) (v := .int 0) (C := RX5) (T := TX5) (N := 27) hx hb hts zl_X5 hown hK hP 0 rfl rfl 3 (by decide) (hts _ m_f_RX5_114) (fun _ h => h) rfl dX5_type_101 ?_
        refine lv_iconst (v := 1) hx hb dX5_type_104 (by decide) ?_
        refine lv_iadd hx hb dX5_type_105 ?_
        refine lv_topi (nm_r (e' := 1) (by decide +kernel) ?_)
        refine va_put (D := g.1) (ci := 5) (v := .int 1) (ty := .int) (C := RX5) (T := TX5) (N := 27) hx hb hts zl_X5 tyX5 tyX5_ok nmX5 hown hK hP hD hS 0 rfl rfl 3 (by decide) (hts _ m_f_RX5_114) (fun _ h => h) rfl (by decide +kernel) rfl rfl (Nat.le_of_ble_eq_true rfl) dX5_type_106 (fun H locs hP hD hS => ?_)
        have hP : va_P g.1 vwCl [(h0, .inr (5, [.ref h1, .int 0, .ref h2, .int 1, .int 0, .ref h3, .ref h4, .ref h5, .ref h6, .int 0, .ref h7, .ref h8, .ref h9, .int 0, .ref h10, .ref h11, .ref h12, .ref h13, .ref h14, .ref h15, .ref h16, .ref h17, .ref h18, .ref h19, .ref h20, .ref h21, .ref h22])), (h2, .inl (zI g, 60, .inl (upd (fun _ => 0) 0 (((p1 >>> ((0 : Int32).toInt64 &&& 63)) &&& 255).toInt32))))] H := hP
        have hD : va_D A [(h0, .inr (5, [.ref h1, .int 0, .ref h2, .int 1, .int 0, .ref h3, .ref h4, .ref h5, .ref h6, .int 0, .ref h7, .ref h8, .ref h9, .int 0, .ref h10, .ref h11, .ref h12, .ref h13, .ref h14, .ref h15, .ref h16, .ref h17, .ref h18, .ref h19, .ref h20, .ref h21, .ref h22])), (h2, .inl (zI g, 60, .inl (upd (fun _ => 0) 0 (((p1 >>> ((0 : Int32).toInt64 &&& 63)) &&& 255).toInt32))))] := hD
        refine lv_iinc (v := (-1)) (lv' := [(4, .int (-1)), (0, .ref h0), (1, .long p1), (3, .int 1)]) hx hb dX5_type_109 hl (k := 0) rfl (by decide) (by decide) rfl (fun ls hl => ?_)
        refine lv_goto (tgt := 73) hx hb dX5_type_112 (by decide) ?_
        refine lv_iload hx hb dX5_type_73 (lv_at hl 0 rfl) ?_
        refine lv_if_lt (tgt := 115) hx hb dX5_type_75 (by decide) (fun _ => ?_) (fun h => absurd h (by decide +kernel))
        refine lv_aload_n hx hb dX5_type_115 rfl (lv_at hl 1 rfl) ?_
        refine va_get (D := g.1) (ci := 5) (v := .int 1) (C := RX5) (T := TX5) (N := 27) hx hb hts zl_X5 hown hK hP 0 rfl rfl 3 (by decide) (hts _ m_f_RX5_114) (fun _ h => h) rfl dX5_type_116 ?_
        have hP9 := hP.sub (ws' := []) [] rfl
        have hD9 := hD.sub (ws' := []) [] (by decide) rfl
        exact W.iret (v := 1) hx hb hr (fun t ht hW => ⟨⟨1, 0, rfl, Or.inr (Or.inr (Or.inr (Or.inr (Or.inl ⟨i_3, i_4, i_9, i_10, i_11, rfl⟩)))), by rw [ht]; exact hP9, hD9⟩, hS.F ht⟩) hS.2.2 dX5_type_119
      · have i_11 : 1 < p2.toInt := z_nle (rfl) (rfl) c_11
        refine lv_lload_n hx hb dX5_type_23 rfl (lv_at hl 2 rfl) ?_
        refine lv_bipush (v := 8) hx hb dX5_type_24 (by decide) ?_
        refine lv_iload hx hb dX5_type_26 (lv_at hl 0 rfl) ?_
        refine lv_imul hx hb dX5_type_28 ?_
        refine lv_topi (nm_r (e' := 8) (by decide +kernel) ?_)
        refine lv_lshr (v := (p1 >>> ((8 : Int32).toInt64 &&& 63))) hx hb dX5_type_29 rfl ?_
        refine lv_ldc2 (v := 255) hx hb hown (hts _ m_k_RX5_108) dX5_type_30 ?_
        refine lv_land hx hb dX5_type_33 ?_
        refine lv_ldc2 (v := 32) hx hb hown (hts _ m_k_RX5_110) dX5_type_34 ?_
        refine lv_ldc2 (v := 126) hx hb hown (hts _ m_k_RX5_112) dX5_type_37 ?_
        refine z_calli (wr := [(h0, .inr (5, [.ref h1, .int 0, .ref h2, .int 0, .int 0, .ref h3, .ref h4, .ref h5, .ref h6, .int 0, .ref h7, .ref h8, .ref h9, .int 0, .ref h10, .ref h11, .ref h12, .ref h13, .ref h14, .ref h15, .ref h16, .ref h17, .ref h18, .ref h19, .ref h20, .ref h21, .ref h22])), (h2, .inl (zI g, 60, .inl (fun _ => 0)))]) hP hD hS hA [] [0, 1] (by decide) rfl rfl (by decide) (va_runS (As := [.long ((p1 >>> ((8 : Int32).toInt64 &&& 63)) &&& 255), .long 32, .long 126]) (rest := []) ⟨hx, hb, hml, hown, hts⟩ (kX5_in_18 l g  H.size ((p1 >>> ((8 : Int32).toInt64 &&& 63)) &&& 255)) ⟨callB_of 3 hts (zGood m_o_yX5_in) rfl rfl rfl (hts _ m_z_RX5) (hts _ m_m_RX5_77) ⟨by decide +kernel, by decide +kernel, by decide +kernel⟩ ⟨Nat.le_of_ble_eq_true rfl, Nat.le_of_ble_eq_true rfl⟩, hts _ m_s_yX5_in⟩ (zPreS hK hN hZ hP hD hS hA [] (by decide) rfl rfl) rfl rfl hl.1 rfl (lv_room (Nat.le_of_ble_eq_true rfl)) dX5_type_40 ⟨Nat.le_of_ble_eq_true rfl, Nat.le_of_ble_eq_true rfl⟩) (fun r u H locs hw hP hD hS => ?_)
        rcases hw with ⟨i_13, rfl⟩ | ⟨i_14, i_15, rfl⟩ | ⟨i_16, i_17, rfl⟩
        · skip
          have i_13 : (((p1 >>> ((8 : Int32).toInt64 &&& 63)) &&& 255) : Int64).toInt < 32 := i_13
          have hP : va_P g.1 vwCl [(h0, .inr (5, [.ref h1, .int 0, .ref h2, .int 0, .int 0, .ref h3, .ref h4, .ref h5, .ref h6, .int 0, .ref h7, .ref h8, .ref h9, .int 0, .ref h10, .ref h11, .ref h12, .ref h13, .ref h14, .ref h15, .ref h16, .ref h17, .ref h18, .ref h19, .ref h20, .ref h21, .ref h22])), (h2, .inl (zI g, 60, .inl (fun _ => 0)))] H := hP
          have hD : va_D A [(h0, .inr (5, [.ref h1, .int 0, .ref h2, .int 0, .int 0, .ref h3, .ref h4, .ref h5, .ref h6, .int 0, .ref h7, .ref h8, .ref h9, .int 0, .ref h10, .ref h11, .ref h12, .ref h13, .ref h14, .ref h15, .ref h16, .ref h17, .ref h18, .ref h19, .ref h20, .ref h21, .ref h22])), (h2, .inl (zI g, 60, .inl (fun _ => 0)))] := hD
          refine lv_if_ne (tgt := 48) hx hb dX5_type_43 (by decide) (fun h => absurd h (by decide +kernel)) (fun _ => ?_)
          refine lv_iconst (v := (-1)) hx hb dX5_type_46 (by decide) ?_
          have hP9 := hP.sub (ws' := []) [] rfl
          have hD9 := hD.sub (ws' := []) [] (by decide) rfl
          exact W.iret (v := (-1)) hx hb hr (fun t ht hW => ⟨⟨(-1), 0, rfl, Or.inr (Or.inr (Or.inr (Or.inr (Or.inr (Or.inl ⟨i_3, i_4, i_9, i_10, i_11, i_13, rfl⟩))))), by rw [ht]; exact hP9, hD9⟩, hS.F ht⟩) hS.2.2 dX5_type_47
        · skip
          have i_14 : 32 ≤ (((p1 >>> ((8 : Int32).toInt64 &&& 63)) &&& 255) : Int64).toInt := i_14
          have i_15 : 126 < (((p1 >>> ((8 : Int32).toInt64 &&& 63)) &&& 255) : Int64).toInt := i_15
          have hP : va_P g.1 vwCl [(h0, .inr (5, [.ref h1, .int 0, .ref h2, .int 0, .int 0, .ref h3, .ref h4, .ref h5, .ref h6, .int 0, .ref h7, .ref h8, .ref h9, .int 0, .ref h10, .ref h11, .ref h12, .ref h13, .ref h14, .ref h15, .ref h16, .ref h17, .ref h18, .ref h19, .ref h20, .ref h21, .ref h22])), (h2, .inl (zI g, 60, .inl (fun _ => 0)))] H := hP
          have hD : va_D A [(h0, .inr (5, [.ref h1, .int 0, .ref h2, .int 0, .int 0, .ref h3, .ref h4, .ref h5, .ref h6, .int 0, .ref h7, .ref h8, .ref h9, .int 0, .ref h10, .ref h11, .ref h12, .ref h13, .ref h14, .ref h15, .ref h16, .ref h17, .ref h18, .ref h19, .ref h20, .ref h21, .ref h22])), (h2, .inl (zI g, 60, .inl (fun _ => 0)))] := hD
          refine lv_if_ne (tgt := 48) hx hb dX5_type_43 (by decide) (fun h => absurd h (by decide +kernel)) (fun _ => ?_)
          refine lv_iconst (v := (-1)) hx hb dX5_type_46 (by decide) ?_
          have hP9 := hP.sub (ws' := []) [] rfl
          have hD9 := hD.sub (ws' := []) [] (by decide) rfl
          exact W.iret (v := (-1)) hx hb hr (fun t ht hW => ⟨⟨(-1), 0, rfl, Or.inr (Or.inr (Or.inr (Or.inr (Or.inr (Or.inr (Or.inl ⟨i_3, i_4, i_9, i_10, i_11, i_14, i_15, rfl⟩)))))), by rw [ht]; exact hP9, hD9⟩, hS.F ht⟩) hS.2.2 dX5_type_47
        · skip
          have i_16 : 32 ≤ (((p1 >>> ((8 : Int32).toInt64 &&& 63)) &&& 255) : Int64).toInt := i_16
          have i_17 : (((p1 >>> ((8 : Int32).toInt64 &&& 63)) &&& 255) : Int64).toInt ≤ 126 := i_17
          have hP : va_P g.1 vwCl [(h0, .inr (5, [.ref h1, .int 0, .ref h2, .int 0, .int 0, .ref h3, .ref h4, .ref h5, .ref h6, .int 0, .ref h7, .ref h8, .ref h9, .int 0, .ref h10, .ref h11, .ref h12, .ref h13, .ref h14, .ref h15, .ref h16, .ref h17, .ref h18, .ref h19, .ref h20, .ref h21, .ref h22])), (h2, .inl (zI g, 60, .inl (fun _ => 0)))] H := hP
          have hD : va_D A [(h0, .inr (5, [.ref h1, .int 0, .ref h2, .int 0, .int 0, .ref h3, .ref h4, .ref h5, .ref h6, .int 0, .ref h7, .ref h8, .ref h9, .int 0, .ref h10, .ref h11, .ref h12, .ref h13, .ref h14, .ref h15, .ref h16, .ref h17, .ref h18, .ref h19, .ref h20, .ref h21, .ref h22])), (h2, .inl (zI g, 60, .inl (fun _ => 0)))] := hD
          refine lv_if_ne (tgt := 48) hx hb dX5_type_43 (by decide) (fun _ => ?_) (fun h => absurd h (by decide +kernel))
          refine lv_iinc (v := 2) (lv' := [(4, .int 2), (0, .ref h0), (1, .long p1), (3, .int p2)]) hx hb dX5_type_48 hl (k := 0) rfl (by decide) (by decide) rfl (fun ls hl => ?_)
          refine lv_goto (tgt := 17) hx hb dX5_type_51 (by decide) ?_
          refine lv_iload hx hb dX5_type_17 (lv_at hl 0 rfl) ?_
          refine lv_iload_n hx hb dX5_type_19 rfl (lv_at hl 3 rfl) ?_
          refine lv_icmp_ge (tgt := 54) hx hb dX5_type_20 (by decide) (fun c_18 => ?_) (fun c_18 => ?_)
          · have i_18 : p2.toInt ≤ 2 := z_le (rfl) (rfl) c_18
            refine lv_aload_n hx hb dX5_type_54 rfl (lv_at hl 1 rfl) ?_
            refine va_get (D := g.1) (ci := 5) (v := .int 0) (C := RX5) (T := TX5) (N := 27) hx hb hts zl_X5 hown hK hP 0 rfl rfl 3 (by decide) (hts _ m_f_RX5_114) (fun _ h => h) rfl dX5_type_55 ?_
            refine lv_iload_n hx hb dX5_type_58 rfl (lv_at hl 3 rfl) ?_
            obtain rfl : p2 = 2 := Int32.toInt_inj.mp (show p2.toInt = (2 : Int32).toInt from (show p2.toInt = 2 by omega).trans rfl)
            refine lv_iadd hx hb dX5_type_59 ?_
            refine lv_topi (nm_r (e' := 2) (by decide +kernel) ?_)
            refine lv_bipush (v := 60) hx hb dX5_type_60 (by decide) ?_
            refine lv_icmp_le (tgt := 68) hx hb dX5_type_62 (by decide) (fun _ => ?_) (fun h => absurd h (by decide +kernel))
            refine lv_iload_n hx hb dX5_type_68 rfl (lv_at hl 3 rfl) ?_
            refine lv_iconst (v := 1) hx hb dX5_type_69 (by decide) ?_
            refine lv_isub hx hb dX5_type_70 ?_
            refine lv_topi (nm_r (e' := 1) (by decide +kernel) ?_)
            refine lv_istore (lv' := [(4, .int 1), (0, .ref h0), (1, .long p1), (3, .int 2)]) hx hb dX5_type_71 hl (by decide) rfl (fun ls hl => ?_)
            refine lv_iload hx hb dX5_type_73 (lv_at hl 0 rfl) ?_
            refine lv_if_lt (tgt := 115) hx hb dX5_type_75 (by decide) (fun h => absurd h (by decide +kernel)) (fun _ => ?_)
            refine lv_aload_n hx hb dX5_type_78 rfl (lv_at hl 1 rfl) ?_
            refine va_get (D := g.1) (ci := 5) (v := .ref h2) (C := RX5) (T := TX5) (N := 27) hx hb hts zl_X5 hown hK hP 0 rfl rfl 2 (by decide) (hts _ m_f_RX5_13) (fun _ h => h) rfl dX5_type_79 ?_
            refine lv_aload_n hx hb dX5_type_82 rfl (lv_at hl 1 rfl) ?_
            refine va_get (D := g.1) (ci := 5) (v := .int 0) (C := RX5) (T := TX5) (N := 27) hx hb hts zl_X5 hown hK hP 0 rfl rfl 3 (by decide) (hts _ m_f_RX5_114) (fun _ h => h) rfl dX5_type_83 ?_
            refine lv_lload_n hx hb dX5_type_86 rfl (lv_at hl 2 rfl) ?_
            refine lv_bipush (v := 8) hx hb dX5_type_87 (by decide) ?_
            refine lv_iload hx hb dX5_type_89 (lv_at hl 0 rfl) ?_
            refine lv_imul hx hb dX5_type_91 ?_
            refine lv_topi (nm_r (e' := 8) (by decide +kernel) ?_)
            refine lv_lshr (v := (p1 >>> ((8 : Int32).toInt64 &&& 63))) hx hb dX5_type_92 rfl ?_
            refine lv_ldc2 (v := 255) hx hb hown (hts _ m_k_RX5_108) dX5_type_93 ?_
            refine lv_land hx hb dX5_type_96 ?_
            refine lv_l2i (v := ((p1 >>> ((8 : Int32).toInt64 &&& 63)) &&& 255).toInt32) hx hb dX5_type_97 rfl ?_
            refine va_iast (D := g.1) hx hb hK hP hD hS 1 0 rfl rfl (vp_in_iff.mpr (by decide +kernel)) dX5_type_98 (fun H locs hP hD hS => ?_)
            have hP : va_P g.1 vwCl [(h0, .inr (5, [.ref h1, .int 0, .ref h2, .int 0, .int 0, .ref h3, .ref h4, .ref h5, .ref h6, .int 0, .ref h7, .ref h8, .ref h9, .int 0, .ref h10, .ref h11, .ref h12, .ref h13, .ref h14, .ref h15, .ref h16, .ref h17, .ref h18, .ref h19, .ref h20, .ref h21, .ref h22])), (h2, .inl (zI g, 60, .inl (upd (fun _ => 0) 0 (((p1 >>> ((8 : Int32).toInt64 &&& 63)) &&& 255).toInt32))))] H := hP
            have hD : va_D A [(h0, .inr (5, [.ref h1, .int 0, .ref h2, .int 0, .int 0, .ref h3, .ref h4, .ref h5, .ref h6, .int 0, .ref h7, .ref h8, .ref h9, .int 0, .ref h10, .ref h11, .ref h12, .ref h13, .ref h14, .ref h15, .ref h16, .ref h17, .ref h18, .ref h19, .ref h20, .ref h21, .ref h22])), (h2, .inl (zI g, 60, .inl (upd (fun _ => 0) 0 (((p1 >>> ((8 : Int32).toInt64 &&& 63)) &&& 255).toInt32))))] := hD
            refine lv_aload_n hx hb dX5_type_99 rfl (lv_at hl 1 rfl) ?_
            refine lv_dup hx hb dX5_type_100 rfl ?_
            refine va_get (D := g.1) (ci := 5) (v := .int 0) (C := RX5) (T := TX5) (N := 27) hx hb hts zl_X5 hown hK hP 0 rfl rfl 3 (by decide) (hts _ m_f_RX5_114) (fun _ h => h) rfl dX5_type_101 ?_
            refine lv_iconst (v := 1) hx hb dX5_type_104 (by decide) ?_
            refine lv_iadd hx hb dX5_type_105 ?_
            refine lv_topi (nm_r (e' := 1) (by decide +kernel) ?_)
            refine va_put (D := g.1) (ci := 5) (v := .int 1) (ty := .int) (C := RX5) (T := TX5) (N := 27) hx hb hts zl_X5 tyX5 tyX5_ok nmX5 hown hK hP hD hS 0 rfl rfl 3 (by decide) (hts _ m_f_RX5_114) (fun _ h => h) rfl (by decide +kernel) rfl rfl (Nat.le_of_ble_eq_true rfl) dX5_type_106 (fun H locs hP hD hS => ?_)
            have hP : va_P g.1 vwCl [(h0, .inr (5, [.ref h1, .int 0, .ref h2, .int 1, .int 0, .ref h3, .ref h4, .ref h5, .ref h6, .int 0, .ref h7, .ref h8, .ref h9, .int 0, .ref h10, .ref h11, .ref h12, .ref h13, .ref h14, .ref h15, .ref h16, .ref h17, .ref h18, .ref h19, .ref h20, .ref h21, .ref h22])), (h2, .inl (zI g, 60, .inl (upd (fun _ => 0) 0 (((p1 >>> ((8 : Int32).toInt64 &&& 63)) &&& 255).toInt32))))] H := hP
            have hD : va_D A [(h0, .inr (5, [.ref h1, .int 0, .ref h2, .int 1, .int 0, .ref h3, .ref h4, .ref h5, .ref h6, .int 0, .ref h7, .ref h8, .ref h9, .int 0, .ref h10, .ref h11, .ref h12, .ref h13, .ref h14, .ref h15, .ref h16, .ref h17, .ref h18, .ref h19, .ref h20, .ref h21, .ref h22])), (h2, .inl (zI g, 60, .inl (upd (fun _ => 0) 0 (((p1 >>> ((8 : Int32).toInt64 &&& 63)) &&& 255).toInt32))))] := hD
            refine lv_iinc (v := 0) (lv' := [(4, .int 0), (0, .ref h0), (1, .long p1), (3, .int 2)]) hx hb dX5_type_109 hl (k := 0) rfl (by decide) (by decide) rfl (fun ls hl => ?_)
            refine lv_goto (tgt := 73) hx hb dX5_type_112 (by decide) ?_
            refine lv_iload hx hb dX5_type_73 (lv_at hl 0 rfl) ?_
            refine lv_if_lt (tgt := 115) hx hb dX5_type_75 (by decide) (fun h => absurd h (by decide +kernel)) (fun _ => ?_)
            refine lv_aload_n hx hb dX5_type_78 rfl (lv_at hl 1 rfl) ?_
            refine va_get (D := g.1) (ci := 5) (v := .ref h2) (C := RX5) (T := TX5) (N := 27) hx hb hts zl_X5 hown hK hP 0 rfl rfl 2 (by decide) (hts _ m_f_RX5_13) (fun _ h => h) rfl dX5_type_79 ?_
            refine lv_aload_n hx hb dX5_type_82 rfl (lv_at hl 1 rfl) ?_
            refine va_get (D := g.1) (ci := 5) (v := .int 1) (C := RX5) (T := TX5) (N := 27) hx hb hts zl_X5 hown hK hP 0 rfl rfl 3 (by decide) (hts _ m_f_RX5_114) (fun _ h => h) rfl dX5_type_83 ?_
            refine lv_lload_n hx hb dX5_type_86 rfl (lv_at hl 2 rfl) ?_
            refine lv_bipush (v := 8) hx hb dX5_type_87 (by decide) ?_
            refine lv_iload hx hb dX5_type_89 (lv_at hl 0 rfl) ?_
            refine lv_imul hx hb dX5_type_91 ?_
            refine lv_topi (nm_r (e' := 0) (by decide +kernel) ?_)
            refine lv_lshr (v := (p1 >>> ((0 : Int32).toInt64 &&& 63))) hx hb dX5_type_92 rfl ?_
            refine lv_ldc2 (v := 255) hx hb hown (hts _ m_k_RX5_108) dX5_type_93 ?_
            refine lv_land hx hb dX5_type_96 ?_
            refine lv_l2i (v := ((p1 >>> ((0 : Int32).toInt64 &&& 63)) &&& 255).toInt32) hx hb dX5_type_97 rfl ?_
            refine va_iast (D := g.1) hx hb hK hP hD hS 1 0 rfl rfl (vp_in_iff.mpr (by decide +kernel)) dX5_type_98 (fun H locs hP hD hS => ?_)
            have hP : va_P g.1 vwCl [(h0, .inr (5, [.ref h1, .int 0, .ref h2, .int 1, .int 0, .ref h3, .ref h4, .ref h5, .ref h6, .int 0, .ref h7, .ref h8, .ref h9, .int 0, .ref h10, .ref h11, .ref h12, .ref h13, .ref h14, .ref h15, .ref h16, .ref h17, .ref h18, .ref h19, .ref h20, .ref h21, .ref h22])), (h2, .inl (zI g, 60, .inl (upd (upd (fun _ => 0) 0 (((p1 >>> ((8 : Int32).toInt64 &&& 63)) &&& 255).toInt32)) 1 (((p1 >>> ((0 : Int32).toInt64 &&& 63)) &&& 255).toInt32))))] H := hP
            have hD : va_D A [(h0, .inr (5, [.ref h1, .int 0, .ref h2, .int 1, .int 0, .ref h3, .ref h4, .ref h5, .ref h6, .int 0, .ref h7, .ref h8, .ref h9, .int 0, .ref h10, .ref h11, .ref h12, .ref h13, .ref h14, .ref h15, .ref h16, .ref h17, .ref h18, .ref h19, .ref h20, .ref h21, .ref h22])), (h2, .inl (zI g, 60, .inl (upd (upd (fun _ => 0) 0 (((p1 >>> ((8 : Int32).toInt64 &&& 63)) &&& 255).toInt32)) 1 (((p1 >>> ((0 : Int32).toInt64 &&& 63)) &&& 255).toInt32))))] := hD
            refine lv_aload_n hx hb dX5_type_99 rfl (lv_at hl 1 rfl) ?_
            refine lv_dup hx hb dX5_type_100 rfl ?_
            refine va_get (D := g.1) (ci := 5) (v := .int 1) (C := RX5) (T := TX5) (N := 27) hx hb hts zl_X5 hown hK hP 0 rfl rfl 3 (by decide) (hts _ m_f_RX5_114) (fun _ h => h) rfl dX5_type_101 ?_
            refine lv_iconst (v := 1) hx hb dX5_type_104 (by decide) ?_
            refine lv_iadd hx hb dX5_type_105 ?_
            refine lv_topi (nm_r (e' := 2) (by decide +kernel) ?_)
            refine va_put (D := g.1) (ci := 5) (v := .int 2) (ty := .int) (C := RX5) (T := TX5) (N := 27) hx hb hts zl_X5 tyX5 tyX5_ok nmX5 hown hK hP hD hS 0 rfl rfl 3 (by decide) (hts _ m_f_RX5_114) (fun _ h => h) rfl (by decide +kernel) rfl rfl (Nat.le_of_ble_eq_true rfl) dX5_type_106 (fun H locs hP hD hS => ?_)
            have hP : va_P g.1 vwCl [(h0, .inr (5, [.ref h1, .int 0, .ref h2, .int 2, .int 0, .ref h3, .ref h4, .ref h5, .ref h6, .int 0, .ref h7, .ref h8, .ref h9, .int 0, .ref h10, .ref h11, .ref h12, .ref h13, .ref h14, .ref h15, .ref h16, .ref h17, .ref h18, .ref h19, .ref h20, .ref h21, .ref h22])), (h2, .inl (zI g, 60, .inl (upd (upd (fun _ => 0) 0 (((p1 >>> ((8 : Int32).toInt64 &&& 63)) &&& 255).toInt32)) 1 (((p1 >>> ((0 : Int32).toInt64 &&& 63)) &&& 255).toInt32))))] H := hP
            have hD : va_D A [(h0, .inr (5, [.ref h1, .int 0, .ref h2, .int 2, .int 0, .ref h3, .ref h4, .ref h5, .ref h6, .int 0, .ref h7, .ref h8, .ref h9, .int 0, .ref h10, .ref h11, .ref h12, .ref h13, .ref h14, .ref h15, .ref h16, .ref h17, .ref h18, .ref h19, .ref h20, .ref h21, .ref h22])), (h2, .inl (zI g, 60, .inl (upd (upd (fun _ => 0) 0 (((p1 >>> ((8 : Int32).toInt64 &&& 63)) &&& 255).toInt32)) 1 (((p1 >>> ((0 : Int32).toInt64 &&& 63)) &&& 255).toInt32))))] := hD
            refine lv_iinc (v := (-1)) (lv' := [(4, .int (-1)), (0, .ref h0), (1, .long p1), (3, .int 2)]) hx hb dX5_type_109 hl (k := 0) rfl (by decide) (by decide) rfl (fun ls hl => ?_)
            refine lv_goto (tgt := 73) hx hb dX5_type_112 (by decide) ?_
            refine lv_iload hx hb dX5_type_73 (lv_at hl 0 rfl) ?_
            refine lv_if_lt (tgt := 115) hx hb dX5_type_75 (by decide) (fun _ => ?_) (fun h => absurd h (by decide +kernel))
            refine lv_aload_n hx hb dX5_type_115 rfl (lv_at hl 1 rfl) ?_
            refine va_get (D := g.1) (ci := 5) (v := .int 2) (C := RX5) (T := TX5) (N := 27) hx hb hts zl_X5 hown hK hP 0 rfl rfl 3 (by decide) (hts _ m_f_RX5_114) (fun _ h => h) rfl dX5_type_116 ?_
            have hP9 := hP.sub (ws' := []) [] rfl
            have hD9 := hD.sub (ws' := []) [] (by decide) rfl
            exact W.iret (v := 2) hx hb hr (fun t ht hW => ⟨⟨2, 0, rfl, Or.inr (Or.inr (Or.inr (Or.inr (Or.inr (Or.inr (Or.inr (Or.inl ⟨i_3, i_4, i_9, i_10, i_11, i_16, i_17, i_18, rfl⟩))))))), by rw [ht]; exact hP9, hD9⟩, hS.F ht⟩) hS.2.2 dX5_type_119
          · have i_18 : 2 < p2.toInt := z_nle (rfl) (rfl) c_18
            refine lv_lload_n hx hb dX5_type_23 rfl (lv_at hl 2 rfl) ?_
            refine lv_bipush (v := 8) hx hb dX5_type_24 (by decide) ?_
            refine lv_iload hx hb dX5_type_26 (lv_at hl 0 rfl) ?_
            refine lv_imul hx hb dX5_type_28 ?_
            refine lv_topi (nm_r (e' := 16) (by decide +kernel) ?_)
            refine lv_lshr (v := (p1 >>> ((16 : Int32).toInt64 &&& 63))) hx hb dX5_type_29 rfl ?_
            refine lv_ldc2 (v := 255) hx hb hown (hts _ m_k_RX5_108) dX5_type_30 ?_
            refine lv_land hx hb dX5_type_33 ?_
            refine lv_ldc2 (v := 32) hx hb hown (hts _ m_k_RX5_110) dX5_type_34 ?_
            refine lv_ldc2 (v := 126) hx hb hown (hts _ m_k_RX5_112) dX5_type_37 ?_
            refine z_calli (wr := [(h0, .inr (5, [.ref h1, .int 0, .ref h2, .int 0, .int 0, .ref h3, .ref h4, .ref h5, .ref h6, .int 0, .ref h7, .ref h8, .ref h9, .int 0, .ref h10, .ref h11, .ref h12, .ref h13, .ref h14, .ref h15, .ref h16, .ref h17, .ref h18, .ref h19, .ref h20, .ref h21, .ref h22])), (h2, .inl (zI g, 60, .inl (fun _ => 0)))]) hP hD hS hA [] [0, 1] (by decide) rfl rfl (by decide) (va_runS (As := [.long ((p1 >>> ((16 : Int32).toInt64 &&& 63)) &&& 255), .long 32, .long 126]) (rest := []) ⟨hx, hb, hml, hown, hts⟩ (kX5_in_18 l g  H.size ((p1 >>> ((16 : Int32).toInt64 &&& 63)) &&& 255)) ⟨callB_of 3 hts (zGood m_o_yX5_in) rfl rfl rfl (hts _ m_z_RX5) (hts _ m_m_RX5_77) ⟨by decide +kernel, by decide +kernel, by decide +kernel⟩ ⟨Nat.le_of_ble_eq_true rfl, Nat.le_of_ble_eq_true rfl⟩, hts _ m_s_yX5_in⟩ (zPreS hK hN hZ hP hD hS hA [] (by decide) rfl rfl) rfl rfl hl.1 rfl (lv_room (Nat.le_of_ble_eq_true rfl)) dX5_type_40 ⟨Nat.le_of_ble_eq_true rfl, Nat.le_of_ble_eq_true rfl⟩) (fun r u H locs hw hP hD hS => ?_)
            rcases hw with ⟨i_20, rfl⟩ | ⟨i_21, i_22, rfl⟩ | ⟨i_23, i_24, rfl⟩
            · skip
              have i_20 : (((p1 >>> ((16 : Int32).toInt64 &&& 63)) &&& 255) : Int64).toInt < 32 := i_20
              have hP : va_P g.1 vwCl [(h0, .inr (5, [.ref h1, .int 0, .ref h2, .int 0, .int 0, .ref h3, .ref h4, .ref h5, .ref h6, .int 0, .ref h7, .ref h8, .ref h9, .int 0, .ref h10, .ref h11, .ref h12, .ref h13, .ref h14, .ref h15, .ref h16, .ref h17, .ref h18, .ref h19, .ref h20, .ref h21, .ref h22])), (h2, .inl (zI g, 60, .inl (fun _ => 0)))] H := hP
              have hD : va_D A [(h0, .inr (5, [.ref h1, .int 0, .ref h2, .int 0, .int 0, .ref h3, .ref h4, .ref h5, .ref h6, .int 0, .ref h7, .ref h8, .ref h9, .int 0, .ref h10, .ref h11, .ref h12, .ref h13, .ref h14, .ref h15, .ref h16, .ref h17, .ref h18, .ref h19, .ref h20, .ref h21, .ref h22])), (h2, .inl (zI g, 60, .inl (fun _ => 0)))] := hD
              refine lv_if_ne (tgt := 48) hx hb dX5_type_43 (by decide) (fun h => absurd h (by decide +kernel)) (fun _ => ?_)
              refine lv_iconst (v := (-1)) hx hb dX5_type_46 (by decide) ?_
              have hP9 := hP.sub (ws' := []) [] rfl
              have hD9 := hD.sub (ws' := []) [] (by decide) rfl
              exact W.iret (v := (-1)) hx hb hr (fun t ht hW => ⟨⟨(-1), 0, rfl, Or.inr (Or.inr (Or.inr (Or.inr (Or.inr (Or.inr (Or.inr (Or.inr (Or.inl ⟨i_3, i_4, i_9, i_10, i_11, i_16, i_17, i_18, i_20, rfl⟩)))))))), by rw [ht]; exact hP9, hD9⟩, hS.F ht⟩) hS.2.2 dX5_type_47
            · skip
              have i_21 : 32 ≤ (((p1 >>> ((16 : Int32).toInt64 &&& 63)) &&& 255) : Int64).toInt := i_21
              have i_22 : 126 < (((p1 >>> ((16 : Int32).toInt64 &&& 63)) &&& 255) : Int64).toInt := i_22
              have hP : va_P g.1 vwCl [(h0, .inr (5, [.ref h1, .int 0, .ref h2, .int 0, .int 0, .ref h3, .ref h4, .ref h5, .ref h6, .int 0, .ref h7, .ref h8, .ref h9, .int 0, .ref h10, .ref h11, .ref h12, .ref h13, .ref h14, .ref h15, .ref h16, .ref h17, .ref h18, .ref h19, .ref h20, .ref h21, .ref h22])), (h2, .inl (zI g, 60, .inl (fun _ => 0)))] H := hP
              have hD : va_D A [(h0, .inr (5, [.ref h1, .int 0, .ref h2, .int 0, .int 0, .ref h3, .ref h4, .ref h5, .ref h6, .int 0, .ref h7, .ref h8, .ref h9, .int 0, .ref h10, .ref h11, .ref h12, .ref h13, .ref h14, .ref h15, .ref h16, .ref h17, .ref h18, .ref h19, .ref h20, .ref h21, .ref h22])), (h2, .inl (zI g, 60, .inl (fun _ => 0)))] := hD
              refine lv_if_ne (tgt := 48) hx hb dX5_type_43 (by decide) (fun h => absurd h (by decide +kernel)) (fun _ => ?_)
              refine lv_iconst (v := (-1)) hx hb dX5_type_46 (by decide) ?_
              have hP9 := hP.sub (ws' := []) [] rfl
              have hD9 := hD.sub (ws' := []) [] (by decide) rfl
              exact W.iret (v := (-1)) hx hb hr (fun t ht hW => ⟨⟨(-1), 0, rfl, Or.inr (Or.inr (Or.inr (Or.inr (Or.inr (Or.inr (Or.inr (Or.inr (Or.inr (Or.inl ⟨i_3, i_4, i_9, i_10, i_11, i_16, i_17, i_18, i_21, i_22, rfl⟩))))))))), by rw [ht]; exact hP9, hD9⟩, hS.F ht⟩) hS.2.2 dX5_type_47
            · skip
              have i_23 : 32 ≤ (((p1 >>> ((16 : Int32).toInt64 &&& 63)) &&& 255) : Int64).toInt := i_23
              have i_24 : (((p1 >>> ((16 : Int32).toInt64 &&& 63)) &&& 255) : Int64).toInt ≤ 126 := i_24
              have hP : va_P g.1 vwCl [(h0, .inr (5, [.ref h1, .int 0, .ref h2, .int 0, .int 0, .ref h3, .ref h4, .ref h5, .ref h6, .int 0, .ref h7, .ref h8, .ref h9, .int 0, .ref h10, .ref h11, .ref h12, .ref h13, .ref h14, .ref h15, .ref h16, .ref h17, .ref h18, .ref h19, .ref h20, .ref h21, .ref h22])), (h2, .inl (zI g, 60, .inl (fun _ => 0)))] H := hP
              have hD : va_D A [(h0, .inr (5, [.ref h1, .int 0, .ref h2, .int 0, .int 0, .ref h3, .ref h4, .ref h5, .ref h6, .int 0, .ref h7, .ref h8, .ref h9, .int 0, .ref h10, .ref h11, .ref h12, .ref h13, .ref h14, .ref h15, .ref h16, .ref h17, .ref h18, .ref h19, .ref h20, .ref h21, .ref h22])), (h2, .inl (zI g, 60, .inl (fun _ => 0)))] := hD
              refine lv_if_ne (tgt := 48) hx hb dX5_type_43 (by decide) (fun _ => ?_) (fun h => absurd h (by decide +kernel))
              refine lv_iinc (v := 3) (lv' := [(4, .int 3), (0, .ref h0), (1, .long p1), (3, .int p2)]) hx hb dX5_type_48 hl (k := 0) rfl (by decide) (by decide) rfl (fun ls hl => ?_)
              refine lv_goto (tgt := 17) hx hb dX5_type_51 (by decide) ?_
              refine lv_iload hx hb dX5_type_17 (lv_at hl 0 rfl) ?_
              refine lv_iload_n hx hb dX5_type_19 rfl (lv_at hl 3 rfl) ?_
              refine lv_icmp_ge (tgt := 54) hx hb dX5_type_20 (by decide) (fun c_25 => ?_) (fun c_25 => ?_)
              · have i_25 : p2.toInt ≤ 3 := z_le (rfl) (rfl) c_25
                refine lv_aload_n hx hb dX5_type_54 rfl (lv_at hl 1 rfl) ?_
                refine va_get (D := g.1) (ci := 5) (v := .int 0) (C := RX5) (T := TX5) (N := 27) hx hb hts zl_X5 hown hK hP 0 rfl rfl 3 (by decide) (hts _ m_f_RX5_114) (fun _ h => h) rfl dX5_type_55 ?_
                refine lv_iload_n hx hb dX5_type_58 rfl (lv_at hl 3 rfl) ?_
                obtain rfl : p2 = 3 := Int32.toInt_inj.mp (show p2.toInt = (3 : Int32).toInt from (show p2.toInt = 3 by omega).trans rfl)
                refine lv_iadd hx hb dX5_type_59 ?_
                refine lv_topi (nm_r (e' := 3) (by decide +kernel) ?_)
                refine lv_bipush (v := 60) hx hb dX5_type_60 (by decide) ?_
                refine lv_icmp_le (tgt := 68) hx hb dX5_type_62 (by decide) (fun _ => ?_) (fun h => absurd h (by decide +kernel))
                refine lv_iload_n hx hb dX5_type_68 rfl (lv_at hl 3 rfl) ?_
                refine lv_iconst (v := 1) hx hb dX5_type_69 (by decide) ?_
                refine lv_isub hx hb dX5_type_70 ?_
                refine lv_topi (nm_r (e' := 2) (by decide +kernel) ?_)
                refine lv_istore (lv' := [(4, .int 2), (0, .ref h0), (1, .long p1), (3, .int 3)]) hx hb dX5_type_71 hl (by decide) rfl (fun ls hl => ?_)
                refine lv_iload hx hb dX5_type_73 (lv_at hl 0 rfl) ?_
                refine lv_if_lt (tgt := 115) hx hb dX5_type_75 (by decide) (fun h => absurd h (by decide +kernel)) (fun _ => ?_)
                refine lv_aload_n hx hb dX5_type_78 rfl (lv_at hl 1 rfl) ?_
                refine va_get (D := g.1) (ci := 5) (v := .ref h2) (C := RX5) (T := TX5) (N := 27) hx hb hts zl_X5 hown hK hP 0 rfl rfl 2 (by decide) (hts _ m_f_RX5_13) (fun _ h => h) rfl dX5_type_79 ?_
                refine lv_aload_n hx hb dX5_type_82 rfl (lv_at hl 1 rfl) ?_
                refine va_get (D := g.1) (ci := 5) (v := .int 0) (C := RX5) (T := TX5) (N := 27) hx hb hts zl_X5 hown hK hP 0 rfl rfl 3 (by decide) (hts _ m_f_RX5_114) (fun _ h => h) rfl dX5_type_83 ?_
                refine lv_lload_n hx hb dX5_type_86 rfl (lv_at hl 2 rfl) ?_
                refine lv_bipush (v := 8) hx hb dX5_type_87 (by decide) ?_
                refine lv_iload hx hb dX5_type_89 (lv_at hl 0 rfl) ?_
                refine lv_imul hx hb dX5_type_91 ?_
                refine lv_topi (nm_r (e' := 16) (by decide +kernel) ?_)
                refine lv_lshr (v := (p1 >>> ((16 : Int32).toInt64 &&& 63))) hx hb dX5_type_92 rfl ?_
                refine lv_ldc2 (v := 255) hx hb hown (hts _ m_k_RX5_108) dX5_type_93 ?_
                refine lv_land hx hb dX5_type_96 ?_
                refine lv_l2i (v := ((p1 >>> ((16 : Int32).toInt64 &&& 63)) &&& 255).toInt32) hx hb dX5_type_97 rfl ?_
                refine va_iast (D := g.1) hx hb hK hP hD hS 1 0 rfl rfl (vp_in_iff.mpr (by decide +kernel)) dX5_type_98 (fun H locs hP hD hS => ?_)
                have hP : va_P g.1 vwCl [(h0, .inr (5, [.ref h1, .int 0, .ref h2, .int 0, .int 0, .ref h3, .ref h4, .ref h5, .ref h6, .int 0, .ref h7, .ref h8, .ref h9, .int 0, .ref h10, .ref h11, .ref h12, .ref h13, .ref h14, .ref h15, .ref h16, .ref h17, .ref h18, .ref h19, .ref h20, .ref h21, .ref h22])), (h2, .inl (zI g, 60, .inl (upd (fun _ => 0) 0 (((p1 >>> ((16 : Int32).toInt64 &&& 63)) &&& 255).toInt32))))] H := hP
                have hD : va_D A [(h0, .inr (5, [.ref h1, .int 0, .ref h2, .int 0, .int 0, .ref h3, .ref h4, .ref h5, .ref h6, .int 0, .ref h7, .ref h8, .ref h9, .int 0, .ref h10, .ref h11, .ref h12, .ref h13, .ref h14, .ref h15, .ref h16, .ref h17, .ref h18, .ref h19, .ref h20, .ref h21, .ref h22])), (h2, .inl (zI g, 60, .inl (upd (fun _ => 0) 0 (((p1 >>> ((16 : Int32).toInt64 &&& 63)) &&& 255).toInt32))))] := hD
                refine lv_aload_n hx hb dX5_type_99 rfl (lv_at hl 1 rfl) ?_
                refine lv_dup hx hb dX5_type_100 rfl ?_
                refine va_get (D := g.1) (ci := 5) (v := .int 0) (C := RX5) (T := TX5) (N := 27) hx hb hts zl_X5 hown hK hP 0 rfl rfl 3 (by decide) (hts _ m_f_RX5_114) (fun _ h => h) rfl dX5_type_101 ?_
                refine lv_iconst (v := 1) hx hb dX5_type_104 (by decide) ?_
                refine lv_iadd hx hb dX5_type_105 ?_
                refine lv_topi (nm_r (e' := 1) (by decide +kernel) ?_)
                refine va_put (D := g.1) (ci := 5) (v := .int 1) (ty := .int) (C := RX5) (T := TX5) (N := 27) hx hb hts zl_X5 tyX5 tyX5_ok nmX5 hown hK hP hD hS 0 rfl rfl 3 (by decide) (hts _ m_f_RX5_114) (fun _ h => h) rfl (by decide +kernel) rfl rfl (Nat.le_of_ble_eq_true rfl) dX5_type_106 (fun H locs hP hD hS => ?_)
                have hP : va_P g.1 vwCl [(h0, .inr (5, [.ref h1, .int 0, .ref h2, .int 1, .int 0, .ref h3, .ref h4, .ref h5, .ref h6, .int 0, .ref h7, .ref h8, .ref h9, .int 0, .ref h10, .ref h11, .ref h12, .ref h13, .ref h14, .ref h15, .ref h16, .ref h17, .ref h18, .ref h19, .ref h20, .ref h21, .ref h22])), (h2, .inl (zI g, 60, .inl (upd (fun _ => 0) 0 (((p1 >>> ((16 : Int32).toInt64 &&& 63)) &&& 255).toInt32))))] H := hP
                have hD : va_D A [(h0, .inr (5, [.ref h1, .int 0, .ref h2, .int 1, .int 0, .ref h3, .ref h4, .ref h5, .ref h6, .int 0, .ref h7, .ref h8, .ref h9, .int 0, .ref h10, .ref h11, .ref h12, .ref h13, .ref h14, .ref h15, .ref h16, .ref h17, .ref h18, .ref h19, .ref h20, .ref h21, .ref h22])), (h2, .inl (zI g, 60, .inl (upd (fun _ => 0) 0 (((p1 >>> ((16 : Int32).toInt64 &&& 63)) &&& 255).toInt32))))] := hD
                refine lv_iinc (v := 1) (lv' := [(4, .int 1), (0, .ref h0), (1, .long p1), (3, .int 3)]) hx hb dX5_type_109 hl (k := 0) rfl (by decide) (by decide) rfl (fun ls hl => ?_)
                refine lv_goto (tgt := 73) hx hb dX5_type_112 (by decide) ?_
                refine lv_iload hx hb dX5_type_73 (lv_at hl 0 rfl) ?_
                refine lv_if_lt (tgt := 115) hx hb dX5_type_75 (by decide) (fun h => absurd h (by decide +kernel)) (fun _ => ?_)
                refine lv_aload_n hx hb dX5_type_78 rfl (lv_at hl 1 rfl) ?_
                refine va_get (D := g.1) (ci := 5) (v := .ref h2) (C := RX5) (T := TX5) (N := 27) hx hb hts zl_X5 hown hK hP 0 rfl rfl 2 (by decide) (hts _ m_f_RX5_13) (fun _ h => h) rfl dX5_type_79 ?_
                refine lv_aload_n hx hb dX5_type_82 rfl (lv_at hl 1 rfl) ?_
                refine va_get (D := g.1) (ci := 5) (v := .int 1) (C := RX5) (T := TX5) (N := 27) hx hb hts zl_X5 hown hK hP 0 rfl rfl 3 (by decide) (hts _ m_f_RX5_114) (fun _ h => h) rfl dX5_type_83 ?_
                refine lv_lload_n hx hb dX5_type_86 rfl (lv_at hl 2 rfl) ?_
                refine lv_bipush (v := 8) hx hb dX5_type_87 (by decide) ?_
                refine lv_iload hx hb dX5_type_89 (lv_at hl 0 rfl) ?_
                refine lv_imul hx hb dX5_type_91 ?_
                refine lv_topi (nm_r (e' := 8) (by decide +kernel) ?_)
                refine lv_lshr (v := (p1 >>> ((8 : Int32).toInt64 &&& 63))) hx hb dX5_type_92 rfl ?_
                refine lv_ldc2 (v := 255) hx hb hown (hts _ m_k_RX5_108) dX5_type_93 ?_
                refine lv_land hx hb dX5_type_96 ?_
                refine lv_l2i (v := ((p1 >>> ((8 : Int32).toInt64 &&& 63)) &&& 255).toInt32) hx hb dX5_type_97 rfl ?_
                refine va_iast (D := g.1) hx hb hK hP hD hS 1 0 rfl rfl (vp_in_iff.mpr (by decide +kernel)) dX5_type_98 (fun H locs hP hD hS => ?_)
                have hP : va_P g.1 vwCl [(h0, .inr (5, [.ref h1, .int 0, .ref h2, .int 1, .int 0, .ref h3, .ref h4, .ref h5, .ref h6, .int 0, .ref h7, .ref h8, .ref h9, .int 0, .ref h10, .ref h11, .ref h12, .ref h13, .ref h14, .ref h15, .ref h16, .ref h17, .ref h18, .ref h19, .ref h20, .ref h21, .ref h22])), (h2, .inl (zI g, 60, .inl (upd (upd (fun _ => 0) 0 (((p1 >>> ((16 : Int32).toInt64 &&& 63)) &&& 255).toInt32)) 1 (((p1 >>> ((8 : Int32).toInt64 &&& 63)) &&& 255).toInt32))))] H := hP
                have hD : va_D A [(h0, .inr (5, [.ref h1, .int 0, .ref h2, .int 1, .int 0, .ref h3, .ref h4, .ref h5, .ref h6, .int 0, .ref h7, .ref h8, .ref h9, .int 0, .ref h10, .ref h11, .ref h12, .ref h13, .ref h14, .ref h15, .ref h16, .ref h17, .ref h18, .ref h19, .ref h20, .ref h21, .ref h22])), (h2, .inl (zI g, 60, .inl (upd (upd (fun _ => 0) 0 (((p1 >>> ((16 : Int32).toInt64 &&& 63)) &&& 255).toInt32)) 1 (((p1 >>> ((8 : Int32).toInt64 &&& 63)) &&& 255).toInt32))))] := hD
                refine lv_aload_n hx hb dX5_type_99 rfl (lv_at hl 1 rfl) ?_
                refine lv_dup hx hb dX5_type_100 rfl ?_
                refine va_get (D := g.1) (ci := 5) (v := .int 1) (C := RX5) (T := TX5) (N := 27) hx hb hts zl_X5 hown hK hP 0 rfl rfl 3 (by decide) (hts _ m_f_RX5_114) (fun _ h => h) rfl dX5_type_101 ?_
                refine lv_iconst (v := 1) hx hb dX5_type_104 (by decide) ?_
                refine lv_iadd hx hb dX5_type_105 ?_
                refine lv_topi (nm_r (e' := 2) (by decide +kernel) ?_)
                refine va_put (D := g.1) (ci := 5) (v := .int 2) (ty := .int) (C := RX5) (T := TX5) (N := 27) hx hb hts zl_X5 tyX5 tyX5_ok nmX5 hown hK hP hD hS 0 rfl rfl 3 (by decide) (hts _ m_f_RX5_114) (fun _ h => h) rfl (by decide +kernel) rfl rfl (Nat.le_of_ble_eq_true rfl) dX5_type_106 (fun H locs hP hD hS => ?_)
                have hP : va_P g.1 vwCl [(h0, .inr (5, [.ref h1, .int 0, .ref h2, .int 2, .int 0, .ref h3, .ref h4, .ref h5, .ref h6, .int 0, .ref h7, .ref h8, .ref h9, .int 0, .ref h10, .ref h11, .ref h12, .ref h13, .ref h14, .ref h15, .ref h16, .ref h17, .ref h18, .ref h19, .ref h20, .ref h21, .ref h22])), (h2, .inl (zI g, 60, .inl (upd (upd (fun _ => 0) 0 (((p1 >>> ((16 : Int32).toInt64 &&& 63)) &&& 255).toInt32)) 1 (((p1 >>> ((8 : Int32).toInt64 &&& 63)) &&& 255).toInt32))))] H := hP
                have hD : va_D A [(h0, .inr (5, [.ref h1, .int 0, .ref h2, .int 2, .int 0, .ref h3, .ref h4, .ref h5, .ref h6, .int 0, .ref h7, .ref h8, .ref h9, .int 0, .ref h10, .ref h11, .ref h12, .ref h13, .ref h14, .ref h15, .ref h16, .ref h17, .ref h18, .ref h19, .ref h20, .ref h21, .ref h22])), (h2, .inl (zI g, 60, .inl (upd (upd (fun _ => 0) 0 (((p1 >>> ((16 : Int32).toInt64 &&& 63)) &&& 255).toInt32)) 1 (((p1 >>> ((8 : Int32).toInt64 &&& 63)) &&& 255).toInt32))))] := hD
                refine lv_iinc (v := 0) (lv' := [(4, .int 0), (0, .ref h0), (1, .long p1), (3, .int 3)]) hx hb dX5_type_109 hl (k := 0) rfl (by decide) (by decide) rfl (fun ls hl => ?_)
                refine lv_goto (tgt := 73) hx hb dX5_type_112 (by decide) ?_
                refine lv_iload hx hb dX5_type_73 (lv_at hl 0 rfl) ?_
                refine lv_if_lt (tgt := 115) hx hb dX5_type_75 (by decide) (fun h => absurd h (by decide +kernel)) (fun _ => ?_)
                refine lv_aload_n hx hb dX5_type_78 rfl (lv_at hl 1 rfl) ?_
                refine va_get (D := g.1) (ci := 5) (v := .ref h2) (C := RX5) (T := TX5) (N := 27) hx hb hts zl_X5 hown hK hP 0 rfl rfl 2 (by decide) (hts _ m_f_RX5_13) (fun _ h => h) rfl dX5_type_79 ?_
                refine lv_aload_n hx hb dX5_type_82 rfl (lv_at hl 1 rfl) ?_
                refine va_get (D := g.1) (ci := 5) (v := .int 2) (C := RX5) (T := TX5) (N := 27) hx hb hts zl_X5 hown hK hP 0 rfl rfl 3 (by decide) (hts _ m_f_RX5_114) (fun _ h => h) rfl dX5_type_83 ?_
                refine lv_lload_n hx hb dX5_type_86 rfl (lv_at hl 2 rfl) ?_
                refine lv_bipush (v := 8) hx hb dX5_type_87 (by decide) ?_
                refine lv_iload hx hb dX5_type_89 (lv_at hl 0 rfl) ?_
                refine lv_imul hx hb dX5_type_91 ?_
                refine lv_topi (nm_r (e' := 0) (by decide +kernel) ?_)
                refine lv_lshr (v := (p1 >>> ((0 : Int32).toInt64 &&& 63))) hx hb dX5_type_92 rfl ?_
                refine lv_ldc2 (v := 255) hx hb hown (hts _ m_k_RX5_108) dX5_type_93 ?_
                refine lv_land hx hb dX5_type_96 ?_
                refine lv_l2i (v := ((p1 >>> ((0 : Int32).toInt64 &&& 63)) &&& 255).toInt32) hx hb dX5_type_97 rfl ?_
                refine va_iast (D := g.1) hx hb hK hP hD hS 1 0 rfl rfl (vp_in_iff.mpr (by decide +kernel)) dX5_type_98 (fun H locs hP hD hS => ?_)
                have hP : va_P g.1 vwCl [(h0, .inr (5, [.ref h1, .int 0, .ref h2, .int 2, .int 0, .ref h3, .ref h4, .ref h5, .ref h6, .int 0, .ref h7, .ref h8, .ref h9, .int 0, .ref h10, .ref h11, .ref h12, .ref h13, .ref h14, .ref h15, .ref h16, .ref h17, .ref h18, .ref h19, .ref h20, .ref h21, .ref h22])), (h2, .inl (zI g, 60, .inl (upd (upd (upd (fun _ => 0) 0 (((p1 >>> ((16 : Int32).toInt64 &&& 63)) &&& 255).toInt32)) 1 (((p1 >>> ((8 : Int32).toInt64 &&& 63)) &&& 255).toInt32)) 2 (((p1 >>> ((0 : Int32).toInt64 &&& 63)) &&& 255).toInt32))))] H := hP
                have hD : va_D A [(h0, .inr (5, [.ref h1, .int 0, .ref h2, .int 2, .int 0, .ref h3, .ref h4, .ref h5, .ref h6, .int 0, .ref h7, .ref h8, .ref h9, .int 0, .ref h10, .ref h11, .ref h12, .ref h13, .ref h14, .ref h15, .ref h16, .ref h17, .ref h18, .ref h19, .ref h20, .ref h21, .ref h22])), (h2, .inl (zI g, 60, .inl (upd (upd (upd (fun _ => 0) 0 (((p1 >>> ((16 : Int32).toInt64 &&& 63)) &&& 255).toInt32)) 1 (((p1 >>> ((8 : Int32).toInt64 &&& 63)) &&& 255).toInt32)) 2 (((p1 >>> ((0 : Int32).toInt64 &&& 63)) &&& 255).toInt32))))] := hD
                refine lv_aload_n hx hb dX5_type_99 rfl (lv_at hl 1 rfl) ?_
                refine lv_dup hx hb dX5_type_100 rfl ?_
                refine va_get (D := g.1) (ci := 5) (v := .int 2) (C := RX5) (T := TX5) (N := 27) hx hb hts zl_X5 hown hK hP 0 rfl rfl 3 (by decide) (hts _ m_f_RX5_114) (fun _ h => h) rfl dX5_type_101 ?_
                refine lv_iconst (v := 1) hx hb dX5_type_104 (by decide) ?_
                refine lv_iadd hx hb dX5_type_105 ?_
                refine lv_topi (nm_r (e' := 3) (by decide +kernel) ?_)
                refine va_put (D := g.1) (ci := 5) (v := .int 3) (ty := .int) (C := RX5) (T := TX5) (N := 27) hx hb hts zl_X5 tyX5 tyX5_ok nmX5 hown hK hP hD hS 0 rfl rfl 3 (by decide) (hts _ m_f_RX5_114) (fun _ h => h) rfl (by decide +kernel) rfl rfl (Nat.le_of_ble_eq_true rfl) dX5_type_106 (fun H locs hP hD hS => ?_)
                have hP : va_P g.1 vwCl [(h0, .inr (5, [.ref h1, .int 0, .ref h2, .int 3, .int 0, .ref h3, .ref h4, .ref h5, .ref h6, .int 0, .ref h7, .ref h8, .ref h9, .int 0, .ref h10, .ref h11, .ref h12, .ref h13, .ref h14, .ref h15, .ref h16, .ref h17, .ref h18, .ref h19, .ref h20, .ref h21, .ref h22])), (h2, .inl (zI g, 60, .inl (upd (upd (upd (fun _ => 0) 0 (((p1 >>> ((16 : Int32).toInt64 &&& 63)) &&& 255).toInt32)) 1 (((p1 >>> ((8 : Int32).toInt64 &&& 63)) &&& 255).toInt32)) 2 (((p1 >>> ((0 : Int32).toInt64 &&& 63)) &&& 255).toInt32))))] H := hP
                have hD : va_D A [(h0, .inr (5, [.ref h1, .int 0, .ref h2, .int 3, .int 0, .ref h3, .ref h4, .ref h5, .ref h6, .int 0, .ref h7, .ref h8, .ref h9, .int 0, .ref h10, .ref h11, .ref h12, .ref h13, .ref h14, .ref h15, .ref h16, .ref h17, .ref h18, .ref h19, .ref h20, .ref h21, .ref h22])), (h2, .inl (zI g, 60, .inl (upd (upd (upd (fun _ => 0) 0 (((p1 >>> ((16 : Int32).toInt64 &&& 63)) &&& 255).toInt32)) 1 (((p1 >>> ((8 : Int32).toInt64 &&& 63)) &&& 255).toInt32)) 2 (((p1 >>> ((0 : Int32).toInt64 &&& 63)) &&& 255).toInt32))))] := hD
                refine lv_iinc (v := (-1)) (lv' := [(4, .int (-1)), (0, .ref h0), (1, .long p1), (3, .int 3)]) hx hb dX5_type_109 hl (k := 0) rfl (by decide) (by decide) rfl (fun ls hl => ?_)
                refine lv_goto (tgt := 73) hx hb dX5_type_112 (by decide) ?_
                refine lv_iload hx hb dX5_type_73 (lv_at hl 0 rfl) ?_
                refine lv_if_lt (tgt := 115) hx hb dX5_type_75 (by decide) (fun _ => ?_) (fun h => absurd h (by decide +kernel))
                refine lv_aload_n hx hb dX5_type_115 rfl (lv_at hl 1 rfl) ?_
                refine va_get (D := g.1) (ci := 5) (v := .int 3) (C := RX5) (T := TX5) (N := 27) hx hb hts zl_X5 hown hK hP 0 rfl rfl 3 (by decide) (hts _ m_f_RX5_114) (fun _ h => h) rfl dX5_type_116 ?_
                have hP9 := hP.sub (ws' := []) [] rfl
                have hD9 := hD.sub (ws' := []) [] (by decide) rfl
                exact W.iret (v := 3) hx hb hr (fun t ht hW => ⟨⟨3, 0, rfl, Or.inr (Or.inr (Or.inr (Or.inr (Or.inr (Or.inr (Or.inr (Or.inr (Or.inr (Or.inr (Or.inl ⟨i_3, i_4, i_9, i_10, i_11, i_16, i_17, i_18, i_23, i_24, i_25, rfl⟩)))))))))), by rw [ht]; exact hP9, hD9⟩, hS.F ht⟩) hS.2.2 dX5_type_119
              · have i_25 : 3 < p2.toInt := z_nle (rfl) (rfl) c_25
                refine lv_lload_n hx hb dX5_type_23 rfl (lv_at hl 2 rfl) ?_
                refine lv_bipush (v := 8) hx hb dX5_type_24 (by decide) ?_
                refine lv_iload hx hb dX5_type_26 (lv_at hl 0 rfl) ?_
                refine lv_imul hx hb dX5_type_28 ?_
                refine lv_topi (nm_r (e' := 24) (by decide +kernel) ?_)
                refine lv_lshr (v := (p1 >>> ((24 : Int32).toInt64 &&& 63))) hx hb dX5_type_29 rfl ?_
                refine lv_ldc2 (v := 255) hx hb hown (hts _ m_k_RX5_108) dX5_type_30 ?_
                refine lv_land hx hb dX5_type_33 ?_
                refine lv_ldc2 (v := 32) hx hb hown (hts _ m_k_RX5_110) dX5_type_34 ?_
                refine lv_ldc2 (v := 126) hx hb hown (hts _ m_k_RX5_112) dX5_type_37 ?_
                refine z_calli (wr := [(h0, .inr (5, [.ref h1, .int 0, .ref h2, .int 0, .int 0, .ref h3, .ref h4, .ref h5, .ref h6, .int 0, .ref h7, .ref h8, .ref h9, .int 0, .ref h10, .ref h11, .ref h12, .ref h13, .ref h14, .ref h15, .ref h16, .ref h17, .ref h18, .ref h19, .ref h20, .ref h21, .ref h22])), (h2, .inl (zI g, 60, .inl (fun _ => 0)))]) hP hD hS hA [] [0, 1] (by decide) rfl rfl (by decide) (va_runS (As := [.long ((p1 >>> ((24 : Int32).toInt64 &&& 63)) &&& 255), .long 32, .long 126]) (rest := []) ⟨hx, hb, hml, hown, hts⟩ (kX5_in_18 l g  H.size ((p1 >>> ((24 : Int32).toInt64 &&& 63)) &&& 255)) ⟨callB_of 3 hts (zGood m_o_yX5_in) rfl rfl rfl (hts _ m_z_RX5) (hts _ m_m_RX5_77) ⟨by decide +kernel, by decide +kernel, by decide +kernel⟩ ⟨Nat.le_of_ble_eq_true rfl, Nat.le_of_ble_eq_true rfl⟩, hts _ m_s_yX5_in⟩ (zPreS hK hN hZ hP hD hS hA [] (by decide) rfl rfl) rfl rfl hl.1 rfl (lv_room (Nat.le_of_ble_eq_true rfl)) dX5_type_40 ⟨Nat.le_of_ble_eq_true rfl, Nat.le_of_ble_eq_true rfl⟩) (fun r u H locs hw hP hD hS => ?_)
                rcases hw with ⟨i_27, rfl⟩ | ⟨i_28, i_29, rfl⟩ | ⟨i_30, i_31, rfl⟩
                · skip
                  have i_27 : (((p1 >>> ((24 : Int32).toInt64 &&& 63)) &&& 255) : Int64).toInt < 32 := i_27
                  have hP : va_P g.1 vwCl [(h0, .inr (5, [.ref h1, .int 0, .ref h2, .int 0, .int 0, .ref h3, .ref h4, .ref h5, .ref h6, .int 0, .ref h7, .ref h8, .ref h9, .int 0, .ref h10, .ref h11, .ref h12, .ref h13, .ref h14, .ref h15, .ref h16, .ref h17, .ref h18, .ref h19, .ref h20, .ref h21, .ref h22])), (h2, .inl (zI g, 60, .inl (fun _ => 0)))] H := hP
                  have hD : va_D A [(h0, .inr (5, [.ref h1, .int 0, .ref h2, .int 0, .int 0, .ref h3, .ref h4, .ref h5, .ref h6, .int 0, .ref h7, .ref h8, .ref h9, .int 0, .ref h10, .ref h11, .ref h12, .ref h13, .ref h14, .ref h15, .ref h16, .ref h17, .ref h18, .ref h19, .ref h20, .ref h21, .ref h22])), (h2, .inl (zI g, 60, .inl (fun _ => 0)))] := hD
                  refine lv_if_ne (tgt := 48) hx hb dX5_type_43 (by decide) (fun h => absurd h (by decide +kernel)) (fun _ => ?_)
                  refine lv_iconst (v := (-1)) hx hb dX5_type_46 (by decide) ?_
                  have hP9 := hP.sub (ws' := []) [] rfl
                  have hD9 := hD.sub (ws' := []) [] (by decide) rfl
                  exact W.iret (v := (-1)) hx hb hr (fun t ht hW => ⟨⟨(-1), 0, rfl, Or.inr (Or.inr (Or.inr (Or.inr (Or.inr (Or.inr (Or.inr (Or.inr (Or.inr (Or.inr (Or.inr (Or.inl ⟨i_3, i_4, i_9, i_10, i_11, i_16, i_17, i_18, i_23, i_24, i_25, i_27, rfl⟩))))))))))), by rw [ht]; exact hP9, hD9⟩, hS.F ht⟩) hS.2.2 dX5_type_47
                · skip
                  have i_28 : 32 ≤ (((p1 >>> ((24 : Int32).toInt64 &&& 63)) &&& 255) : Int64).toInt := i_28
                  have i_29 : 126 < (((p1 >>> ((24 : Int32).toInt64 &&& 63)) &&& 255) : Int64).toInt := i_29
                  have hP : va_P g.1 vwCl [(h0, .inr (5, [.ref h1, .int 0, .ref h2, .int 0, .int 0, .ref h3, .ref h4, .ref h5, .ref h6, .int 0, .ref h7, .ref h8, .ref h9, .int 0, .ref h10, .ref h11, .ref h12, .ref h13, .ref h14, .ref h15, .ref h16, .ref h17, .ref h18, .ref h19, .ref h20, .ref h21, .ref h22])), (h2, .inl (zI g, 60, .inl (fun _ => 0)))] H := hP
                  have hD : va_D A [(h0, .inr (5, [.ref h1, .int 0, .ref h2, .int 0, .int 0, .ref h3, .ref h4, .ref h5, .ref h6, .int 0, .ref h7, .ref h8, .ref h9, .int 0, .ref h10, .ref h11, .ref h12, .ref h13, .ref h14, .ref h15, .ref h16, .ref h17, .ref h18, .ref h19, .ref h20, .ref h21, .ref h22])), (h2, .inl (zI g, 60, .inl (fun _ => 0)))] := hD
                  refine lv_if_ne (tgt := 48) hx hb dX5_type_43 (by decide) (fun h => absurd h (by decide +kernel)) (fun _ => ?_)
                  refine lv_iconst (v := (-1)) hx hb dX5_type_46 (by decide) ?_
                  have hP9 := hP.sub (ws' := []) [] rfl
                  have hD9 := hD.sub (ws' := []) [] (by decide) rfl
                  exact W.iret (v := (-1)) hx hb hr (fun t ht hW => ⟨⟨(-1), 0, rfl, Or.inr (Or.inr (Or.inr (Or.inr (Or.inr (Or.inr (Or.inr (Or.inr (Or.inr (Or.inr (Or.inr (Or.inr (Or.inl ⟨i_3, i_4, i_9, i_10, i_11, i_16, i_17, i_18, i_23, i_24, i_25, i_28, i_29, rfl⟩)))))))))))), by rw [ht]; exact hP9, hD9⟩, hS.F ht⟩) hS.2.2 dX5_type_47
                · skip
                  have i_30 : 32 ≤ (((p1 >>> ((24 : Int32).toInt64 &&& 63)) &&& 255) : Int64).toInt := i_30
                  have i_31 : (((p1 >>> ((24 : Int32).toInt64 &&& 63)) &&& 255) : Int64).toInt ≤ 126 := i_31
                  have hP : va_P g.1 vwCl [(h0, .inr (5, [.ref h1, .int 0, .ref h2, .int 0, .int 0, .ref h3, .ref h4, .ref h5, .ref h6, .int 0, .ref h7, .ref h8, .ref h9, .int 0, .ref h10, .ref h11, .ref h12, .ref h13, .ref h14, .ref h15, .ref h16, .ref h17, .ref h18, .ref h19, .ref h20, .ref h21, .ref h22])), (h2, .inl (zI g, 60, .inl (fun _ => 0)))] H := hP
                  have hD : va_D A [(h0, .inr (5, [.ref h1, .int 0, .ref h2, .int 0, .int 0, .ref h3, .ref h4, .ref h5, .ref h6, .int 0, .ref h7, .ref h8, .ref h9, .int 0, .ref h10, .ref h11, .ref h12, .ref h13, .ref h14, .ref h15, .ref h16, .ref h17, .ref h18, .ref h19, .ref h20, .ref h21, .ref h22])), (h2, .inl (zI g, 60, .inl (fun _ => 0)))] := hD
                  refine lv_if_ne (tgt := 48) hx hb dX5_type_43 (by decide) (fun _ => ?_) (fun h => absurd h (by decide +kernel))
                  refine lv_iinc (v := 4) (lv' := [(4, .int 4), (0, .ref h0), (1, .long p1), (3, .int p2)]) hx hb dX5_type_48 hl (k := 0) rfl (by decide) (by decide) rfl (fun ls hl => ?_)
                  refine lv_goto (tgt := 17) hx hb dX5_type_51 (by decide) ?_
                  refine lv_iload hx hb dX5_type_17 (lv_at hl 0 rfl) ?_
                  refine lv_iload_n hx hb dX5_type_19 rfl (lv_at hl 3 rfl) ?_
                  refine lv_icmp_ge (tgt := 54) hx hb dX5_type_20 (by decide) (fun c_32 => ?_) (fun c_32 => ?_)
                  · have i_32 : p2.toInt ≤ 4 := z_le (rfl) (rfl) c_32
                    refine lv_aload_n hx hb dX5_type_54 rfl (lv_at hl 1 rfl) ?_
                    refine va_get (D := g.1) (ci := 5) (v := .int 0) (C := RX5) (T := TX5) (N := 27) hx hb hts zl_X5 hown hK hP 0 rfl rfl 3 (by decide) (hts _ m_f_RX5_114) (fun _ h => h) rfl dX5_type_55 ?_
                    refine lv_iload_n hx hb dX5_type_58 rfl (lv_at hl 3 rfl) ?_
                    obtain rfl : p2 = 4 := Int32.toInt_inj.mp (show p2.toInt = (4 : Int32).toInt from (show p2.toInt = 4 by omega).trans rfl)
                    refine lv_iadd hx hb dX5_type_59 ?_
                    refine lv_topi (nm_r (e' := 4) (by decide +kernel) ?_)
                    refine lv_bipush (v := 60) hx hb dX5_type_60 (by decide) ?_
                    refine lv_icmp_le (tgt := 68) hx hb dX5_type_62 (by decide) (fun _ => ?_) (fun h => absurd h (by decide +kernel))
                    refine lv_iload_n hx hb dX5_type_68 rfl (lv_at hl 3 rfl) ?_
                    refine lv_iconst (v := 1) hx hb dX5_type_69 (by decide) ?_
                    refine lv_isub hx hb dX5_type_70 ?_
                    refine lv_topi (nm_r (e' := 3) (by decide +kernel) ?_)
                    refine lv_istore (lv' := [(4, .int 3), (0, .ref h0), (1, .long p1), (3, .int 4)]) hx hb dX5_type_71 hl (by decide) rfl (fun ls hl => ?_)
                    refine lv_iload hx hb dX5_type_73 (lv_at hl 0 rfl) ?_
                    refine lv_if_lt (tgt := 115) hx hb dX5_type_75 (by decide) (fun h => absurd h (by decide +kernel)) (fun _ => ?_)
                    refine lv_aload_n hx hb dX5_type_78 rfl (lv_at hl 1 rfl) ?_
                    refine va_get (D := g.1) (ci := 5) (v := .ref h2) (C := RX5) (T := TX5) (N := 27) hx hb hts zl_X5 hown hK hP 0 rfl rfl 2 (by decide) (hts _ m_f_RX5_13) (fun _ h => h) rfl dX5_type_79 ?_
                    refine lv_aload_n hx hb dX5_type_82 rfl (lv_at hl 1 rfl) ?_
                    refine va_get (D := g.1) (ci := 5) (v := .int 0) (C := RX5) (T := TX5) (N := 27) hx hb hts zl_X5 hown hK hP 0 rfl rfl 3 (by decide) (hts _ m_f_RX5_114) (fun _ h => h) rfl dX5_type_83 ?_
                    refine lv_lload_n hx hb dX5_type_86 rfl (lv_at hl 2 rfl) ?_
                    refine lv_bipush (v := 8) hx hb dX5_type_87 (by decide) ?_
                    refine lv_iload hx hb dX5_type_89 (lv_at hl 0 rfl) ?_
                    refine lv_imul hx hb dX5_type_91 ?_
                    refine lv_topi (nm_r (e' := 24) (by decide +kernel) ?_)
                    refine lv_lshr (v := (p1 >>> ((24 : Int32).toInt64 &&& 63))) hx hb dX5_type_92 rfl ?_
                    refine lv_ldc2 (v := 255) hx hb hown (hts _ m_k_RX5_108) dX5_type_93 ?_
                    refine lv_land hx hb dX5_type_96 ?_
                    refine lv_l2i (v := ((p1 >>> ((24 : Int32).toInt64 &&& 63)) &&& 255).toInt32) hx hb dX5_type_97 rfl ?_
                    refine va_iast (D := g.1) hx hb hK hP hD hS 1 0 rfl rfl (vp_in_iff.mpr (by decide +kernel)) dX5_type_98 (fun H locs hP hD hS => ?_)
                    have hP : va_P g.1 vwCl [(h0, .inr (5, [.ref h1, .int 0, .ref h2, .int 0, .int 0, .ref h3, .ref h4, .ref h5, .ref h6, .int 0, .ref h7, .ref h8, .ref h9, .int 0, .ref h10, .ref h11, .ref h12, .ref h13, .ref h14, .ref h15, .ref h16, .ref h17, .ref h18, .ref h19, .ref h20, .ref h21, .ref h22])), (h2, .inl (zI g, 60, .inl (upd (fun _ => 0) 0 (((p1 >>> ((24 : Int32).toInt64 &&& 63)) &&& 255).toInt32))))] H := hP
                    have hD : va_D A [(h0, .inr (5, [.ref h1, .int 0, .ref h2, .int 0, .int 0, .ref h3, .ref h4, .ref h5, .ref h6, .int 0, .ref h7, .ref h8, .ref h9, .int 0, .ref h10, .ref h11, .ref h12, .ref h13, .ref h14, .ref h15, .ref h16, .ref h17, .ref h18, .ref h19, .ref h20, .ref h21, .ref h22])), (h2, .inl (zI g, 60, .inl (upd (fun _ => 0) 0 (((p1 >>> ((24 : Int32).toInt64 &&& 63)) &&& 255).toInt32))))] := hD
                    refine lv_aload_n hx hb dX5_type_99 rfl (lv_at hl 1 rfl) ?_
                    refine lv_dup hx hb dX5_type_100 rfl ?_
                    refine va_get (D := g.1) (ci := 5) (v := .int 0) (C := RX5) (T := TX5) (N := 27) hx hb hts zl_X5 hown hK hP 0 rfl rfl 3 (by decide) (hts _ m_f_RX5_114) (fun _ h => h) rfl dX5_type_101 ?_
                    refine lv_iconst (v := 1) hx hb dX5_type_104 (by decide) ?_
                    refine lv_iadd hx hb dX5_type_105 ?_
                    refine lv_topi (nm_r (e' := 1) (by decide +kernel) ?_)
                    refine va_put (D := g.1) (ci := 5) (v := .int 1) (ty := .int) (C := RX5) (T := TX5) (N := 27) hx hb hts zl_X5 tyX5 tyX5_ok nmX5 hown hK hP hD hS 0 rfl rfl 3 (by decide) (hts _ m_f_RX5_114) (fun _ h => h) rfl (by decide +kernel) rfl rfl (Nat.le_of_ble_eq_true rfl) dX5_type_106 (fun H locs hP hD hS => ?_)
                    have hP : va_P g.1 vwCl [(h0, .inr (5, [.ref h1, .int 0, .ref h2, .int 1, .int 0, .ref h3, .ref h4, .ref h5, .ref h6, .int 0, .ref h7, .ref h8, .ref h9, .int 0, .ref h10, .ref h11, .ref h12, .ref h13, .ref h14, .ref h15, .ref h16, .ref h17, .ref h18, .ref h19, .ref h20, .ref h21, .ref h22])), (h2, .inl (zI g, 60, .inl (upd (fun _ => 0) 0 (((p1 >>> ((24 : Int32).toInt64 &&& 63)) &&& 255).toInt32))))] H := hP
                    have hD : va_D A [(h0, .inr (5, [.ref h1, .int 0, .ref h2, .int 1, .int 0, .ref h3, .ref h4, .ref h5, .ref h6, .int 0, .ref h7, .ref h8, .ref h9, .int 0, .ref h10, .ref h11, .ref h12, .ref h13, .ref h14, .ref h15, .ref h16, .ref h17, .ref h18, .ref h19, .ref h20, .ref h21, .ref h22])), (h2, .inl (zI g, 60, .inl (upd (fun _ => 0) 0 (((p1 >>> ((24 : Int32).toInt64 &&& 63)) &&& 255).toInt32))))] := hD
                    refine lv_iinc (v := 2) (lv' := [(4, .int 2), (0, .ref h0), (1, .long p1), (3, .int 4)]) hx hb dX5_type_109 hl (k := 0) rfl (by decide) (by decide) rfl (fun ls hl => ?_)
                    refine lv_goto (tgt := 73) hx hb dX5_type_112 (by decide) ?_
                    refine lv_iload hx hb dX5_type_73 (lv_at hl 0 rfl) ?_
                    refine lv_if_lt (tgt := 115) hx hb dX5_type_75 (by decide) (fun h => absurd h (by decide +kernel)) (fun _ => ?_)
                    refine lv_aload_n hx hb dX5_type_78 rfl (lv_at hl 1 rfl) ?_
                    refine va_get (D := g.1) (ci := 5) (v := .ref h2) (C := RX5) (T := TX5) (N := 27) hx hb hts zl_X5 hown hK hP 0 rfl rfl 2 (by decide) (hts _ m_f_RX5_13) (fun _ h => h) rfl dX5_type_79 ?_
                    refine lv_aload_n hx hb dX5_type_82 rfl (lv_at hl 1 rfl) ?_
                    refine va_get (D := g.1) (ci := 5) (v := .int 1) (C := RX5) (T := TX5) (N := 27) hx hb hts zl_X5 hown hK hP 0 rfl rfl 3 (by decide) (hts _ m_f_RX5_114) (fun _ h => h) rfl dX5_type_83 ?_
                    refine lv_lload_n hx hb dX5_type_86 rfl (lv_at hl 2 rfl) ?_
                    refine lv_bipush (v := 8) hx hb dX5_type_87 (by decide) ?_
                    refine lv_iload hx hb dX5_type_89 (lv_at hl 0 rfl) ?_
                    refine lv_imul hx hb dX5_type_91 ?_
                    refine lv_topi (nm_r (e' := 16) (by decide +kernel) ?_)
                    refine lv_lshr (v := (p1 >>> ((16 : Int32).toInt64 &&& 63))) hx hb dX5_type_92 rfl ?_
                    refine lv_ldc2 (v := 255) hx hb hown (hts _ m_k_RX5_108) dX5_type_93 ?_
                    refine lv_land hx hb dX5_type_96 ?_
                    refine lv_l2i (v := ((p1 >>> ((16 : Int32).toInt64 &&& 63)) &&& 255).toInt32) hx hb dX5_type_97 rfl ?_
                    refine va_iast (D := g.1) hx hb hK hP hD hS 1 0 rfl rfl (vp_in_iff.mpr (by decide +kernel)) dX5_type_98 (fun H locs hP hD hS => ?_)
                    have hP : va_P g.1 vwCl [(h0, .inr (5, [.ref h1, .int 0, .ref h2, .int 1, .int 0, .ref h3, .ref h4, .ref h5, .ref h6, .int 0, .ref h7, .ref h8, .ref h9, .int 0, .ref h10, .ref h11, .ref h12, .ref h13, .ref h14, .ref h15, .ref h16, .ref h17, .ref h18, .ref h19, .ref h20, .ref h21, .ref h22])), (h2, .inl (zI g, 60, .inl (upd (upd (fun _ => 0) 0 (((p1 >>> ((24 : Int32).toInt64 &&& 63)) &&& 255).toInt32)) 1 (((p1 >>> ((16 : Int32).toInt64 &&& 63)) &&& 255).toInt32))))] H := hP
                    have hD : va_D A [(h0, .inr (5, [.ref h1, .int 0, .ref h2, .int 1, .int 0, .ref h3, .ref h4, .ref h5, .ref h6, .int 0, .ref h7, .ref h8, .ref h9, .int 0, .ref h10, .ref h11, .ref h12, .ref h13, .ref h14, .ref h15, .ref h16, .ref h17, .ref h18, .ref h19, .ref h20, .ref h21, .ref h22])), (h2, .inl (zI g, 60, .inl (upd (upd (fun _ => 0) 0 (((p1 >>> ((24 : Int32).toInt64 &&& 63)) &&& 255).toInt32)) 1 (((p1 >>> ((16 : Int32).toInt64 &&& 63)) &&& 255).toInt32))))] := hD
                    refine lv_aload_n hx hb dX5_type_99 rfl (lv_at hl 1 rfl) ?_
                    refine lv_dup hx hb dX5_type_100 rfl ?_
                    refine va_get (D := g.1) (ci := 5) (v := .int 1) (C := RX5) (T := TX5) (N := 27) hx hb hts zl_X5 hown hK hP 0 rfl rfl 3 (by decide) (hts _ m_f_RX5_114) (fun _ h => h) rfl dX5_type_101 ?_
                    refine lv_iconst (v := 1) hx hb dX5_type_104 (by decide) ?_
                    refine lv_iadd hx hb dX5_type_105 ?_
                    refine lv_topi (nm_r (e' := 2) (by decide +kernel) ?_)
                    refine va_put (D := g.1) (ci := 5) (v := .int 2) (ty := .int) (C := RX5) (T := TX5) (N := 27) hx hb hts zl_X5 tyX5 tyX5_ok nmX5 hown hK hP hD hS 0 rfl rfl 3 (by decide) (hts _ m_f_RX5_114) (fun _ h => h) rfl (by decide +kernel) rfl rfl (Nat.le_of_ble_eq_true rfl) dX5_type_106 (fun H locs hP hD hS => ?_)
                    have hP : va_P g.1 vwCl [(h0, .inr (5, [.ref h1, .int 0, .ref h2, .int 2, .int 0, .ref h3, .ref h4, .ref h5, .ref h6, .int 0, .ref h7, .ref h8, .ref h9, .int 0, .ref h10, .ref h11, .ref h12, .ref h13, .ref h14, .ref h15, .ref h16, .ref h17, .ref h18, .ref h19, .ref h20, .ref h21, .ref h22])), (h2, .inl (zI g, 60, .inl (upd (upd (fun _ => 0) 0 (((p1 >>> ((24 : Int32).toInt64 &&& 63)) &&& 255).toInt32)) 1 (((p1 >>> ((16 : Int32).toInt64 &&& 63)) &&& 255).toInt32))))] H := hP
                    have hD : va_D A [(h0, .inr (5, [.ref h1, .int 0, .ref h2, .int 2, .int 0, .ref h3, .ref h4, .ref h5, .ref h6, .int 0, .ref h7, .ref h8, .ref h9, .int 0, .ref h10, .ref h11, .ref h12, .ref h13, .ref h14, .ref h15, .ref h16, .ref h17, .ref h18, .ref h19, .ref h20, .ref h21, .ref h22])), (h2, .inl (zI g, 60, .inl (upd (upd (fun _ => 0) 0 (((p1 >>> ((24 : Int32).toInt64 &&& 63)) &&& 255).toInt32)) 1 (((p1 >>> ((16 : Int32).toInt64 &&& 63)) &&& 255).toInt32))))] := hD
                    refine lv_iinc (v := 1) (lv' := [(4, .int 1), (0, .ref h0), (1, .long p1), (3, .int 4)]) hx hb dX5_type_109 hl (k := 0) rfl (by decide) (by decide) rfl (fun ls hl => ?_)
                    refine lv_goto (tgt := 73) hx hb dX5_type_112 (by decide) ?_
                    refine lv_iload hx hb dX5_type_73 (lv_at hl 0 rfl) ?_
                    refine lv_if_lt (tgt := 115) hx hb dX5_type_75 (by decide) (fun h => absurd h (by decide +kernel)) (fun _ => ?_)
                    refine lv_aload_n hx hb dX5_type_78 rfl (lv_at hl 1 rfl) ?_
                    refine va_get (D := g.1) (ci := 5) (v := .ref h2) (C := RX5) (T := TX5) (N := 27) hx hb hts zl_X5 hown hK hP 0 rfl rfl 2 (by decide) (hts _ m_f_RX5_13) (fun _ h => h) rfl dX5_type_79 ?_
                    refine lv_aload_n hx hb dX5_type_82 rfl (lv_at hl 1 rfl) ?_
                    refine va_get (D := g.1) (ci := 5) (v := .int 2) (C := RX5) (T := TX5) (N := 27) hx hb hts zl_X5 hown hK hP 0 rfl rfl 3 (by decide) (hts _ m_f_RX5_114) (fun _ h => h) rfl dX5_type_83 ?_
                    refine lv_lload_n hx hb dX5_type_86 rfl (lv_at hl 2 rfl) ?_
                    refine lv_bipush (v := 8) hx hb dX5_type_87 (by decide) ?_
                    refine lv_iload hx hb dX5_type_89 (lv_at hl 0 rfl) ?_
                    refine lv_imul hx hb dX5_type_91 ?_
                    refine lv_topi (nm_r (e' := 8) (by decide +kernel) ?_)
                    refine lv_lshr (v := (p1 >>> ((8 : Int32).toInt64 &&& 63))) hx hb dX5_type_92 rfl ?_
                    refine lv_ldc2 (v := 255) hx hb hown (hts _ m_k_RX5_108) dX5_type_93 ?_
                    refine lv_land hx hb dX5_type_96 ?_
                    refine lv_l2i (v := ((p1 >>> ((8 : Int32).toInt64 &&& 63)) &&& 255).toInt32) hx hb dX5_type_97 rfl ?_
                    refine va_iast (D := g.1) hx hb hK hP hD hS 1 0 rfl rfl (vp_in_iff.mpr (by decide +kernel)) dX5_type_98 (fun H locs hP hD hS => ?_)
                    have hP : va_P g.1 vwCl [(h0, .inr (5, [.ref h1, .int 0, .ref h2, .int 2, .int 0, .ref h3, .ref h4, .ref h5, .ref h6, .int 0, .ref h7, .ref h8, .ref h9, .int 0, .ref h10, .ref h11, .ref h12, .ref h13, .ref h14, .ref h15, .ref h16, .ref h17, .ref h18, .ref h19, .ref h20, .ref h21, .ref h22])), (h2, .inl (zI g, 60, .inl (upd (upd (upd (fun _ => 0) 0 (((p1 >>> ((24 : Int32).toInt64 &&& 63)) &&& 255).toInt32)) 1 (((p1 >>> ((16 : Int32).toInt64 &&& 63)) &&& 255).toInt32)) 2 (((p1 >>> ((8 : Int32).toInt64 &&& 63)) &&& 255).toInt32))))] H := hP
                    have hD : va_D A [(h0, .inr (5, [.ref h1, .int 0, .ref h2, .int 2, .int 0, .ref h3, .ref h4, .ref h5, .ref h6, .int 0, .ref h7, .ref h8, .ref h9, .int 0, .ref h10, .ref h11, .ref h12, .ref h13, .ref h14, .ref h15, .ref h16, .ref h17, .ref h18, .ref h19, .ref h20, .ref h21, .ref h22])), (h2, .inl (zI g, 60, .inl (upd (upd (upd (fun _ => 0) 0 (((p1 >>> ((24 : Int32).toInt64 &&& 63)) &&& 255).toInt32)) 1 (((p1 >>> ((16 : Int32).toInt64 &&& 63)) &&& 255).toInt32)) 2 (((p1 >>> ((8 : Int32).toInt64 &&& 63)) &&& 255).toInt32))))] := hD
                    refine lv_aload_n hx hb dX5_type_99 rfl (lv_at hl 1 rfl) ?_
                    refine lv_dup hx hb dX5_type_100 rfl ?_
                    refine va_get (D := g.1) (ci := 5) (v := .int 2) (C := RX5) (T := TX5) (N := 27) hx hb hts zl_X5 hown hK hP 0 rfl rfl 3 (by decide) (hts _ m_f_RX5_114) (fun _ h => h) rfl dX5_type_101 ?_
                    refine lv_iconst (v := 1) hx hb dX5_type_104 (by decide) ?_
                    refine lv_iadd hx hb dX5_type_105 ?_
                    refine lv_topi (nm_r (e' := 3) (by decide +kernel) ?_)
                    refine va_put (D := g.1) (ci := 5) (v := .int 3) (ty := .int) (C := RX5) (T := TX5) (N := 27) hx hb hts zl_X5 tyX5 tyX5_ok nmX5 hown hK hP hD hS 0 rfl rfl 3 (by decide) (hts _ m_f_RX5_114) (fun _ h => h) rfl (by decide +kernel) rfl rfl (Nat.le_of_ble_eq_true rfl) dX5_type_106 (fun H locs hP hD hS => ?_)
                    have hP : va_P g.1 vwCl [(h0, .inr (5, [.ref h1, .int 0, .ref h2, .int 3, .int 0, .ref h3, .ref h4, .ref h5, .ref h6, .int 0, .ref h7, .ref h8, .ref h9, .int 0, .ref h10, .ref h11, .ref h12, .ref h13, .ref h14, .ref h15, .ref h16, .ref h17, .ref h18, .ref h19, .ref h20, .ref h21, .ref h22])), (h2, .inl (zI g, 60, .inl (upd (upd (upd (fun _ => 0) 0 (((p1 >>> ((24 : Int32).toInt64 &&& 63)) &&& 255).toInt32)) 1 (((p1 >>> ((16 : Int32).toInt64 &&& 63)) &&& 255).toInt32)) 2 (((p1 >>> ((8 : Int32).toInt64 &&& 63)) &&& 255).toInt32))))] H := hP
                    have hD : va_D A [(h0, .inr (5, [.ref h1, .int 0, .ref h2, .int 3, .int 0, .ref h3, .ref h4, .ref h5, .ref h6, .int 0, .ref h7, .ref h8, .ref h9, .int 0, .ref h10, .ref h11, .ref h12, .ref h13, .ref h14, .ref h15, .ref h16, .ref h17, .ref h18, .ref h19, .ref h20, .ref h21, .ref h22])), (h2, .inl (zI g, 60, .inl (upd (upd (upd (fun _ => 0) 0 (((p1 >>> ((24 : Int32).toInt64 &&& 63)) &&& 255).toInt32)) 1 (((p1 >>> ((16 : Int32).toInt64 &&& 63)) &&& 255).toInt32)) 2 (((p1 >>> ((8 : Int32).toInt64 &&& 63)) &&& 255).toInt32))))] := hD
                    refine lv_iinc (v := 0) (lv' := [(4, .int 0), (0, .ref h0), (1, .long p1), (3, .int 4)]) hx hb dX5_type_109 hl (k := 0) rfl (by decide) (by decide) rfl (fun ls hl => ?_)
                    refine lv_goto (tgt := 73) hx hb dX5_type_112 (by decide) ?_
                    refine lv_iload hx hb dX5_type_73 (lv_at hl 0 rfl) ?_
                    refine lv_if_lt (tgt := 115) hx hb dX5_type_75 (by decide) (fun h => absurd h (by decide +kernel)) (fun _ => ?_)
                    refine lv_aload_n hx hb dX5_type_78 rfl (lv_at hl 1 rfl) ?_
                    refine va_get (D := g.1) (ci := 5) (v := .ref h2) (C := RX5) (T := TX5) (N := 27) hx hb hts zl_X5 hown hK hP 0 rfl rfl 2 (by decide) (hts _ m_f_RX5_13) (fun _ h => h) rfl dX5_type_79 ?_
                    refine lv_aload_n hx hb dX5_type_82 rfl (lv_at hl 1 rfl) ?_
                    refine va_get (D := g.1) (ci := 5) (v := .int 3) (C := RX5) (T := TX5) (N := 27) hx hb hts zl_X5 hown hK hP 0 rfl rfl 3 (by decide) (hts _ m_f_RX5_114) (fun _ h => h) rfl dX5_type_83 ?_
                    refine lv_lload_n hx hb dX5_type_86 rfl (lv_at hl 2 rfl) ?_
                    refine lv_bipush (v := 8) hx hb dX5_type_87 (by decide) ?_
                    refine lv_iload hx hb dX5_type_89 (lv_at hl 0 rfl) ?_
                    refine lv_imul hx hb dX5_type_91 ?_
                    refine lv_topi (nm_r (e' := 0) (by decide +kernel) ?_)
                    refine lv_lshr (v := (p1 >>> ((0 : Int32).toInt64 &&& 63))) hx hb dX5_type_92 rfl ?_
                    refine lv_ldc2 (v := 255) hx hb hown (hts _ m_k_RX5_108) dX5_type_93 ?_
                    refine lv_land hx hb dX5_type_96 ?_
                    refine lv_l2i (v := ((p1 >>> ((0 : Int32).toInt64 &&& 63)) &&& 255).toInt32) hx hb dX5_type_97 rfl ?_
                    refine va_iast (D := g.1) hx hb hK hP hD hS 1 0 rfl rfl (vp_in_iff.mpr (by decide +kernel)) dX5_type_98 (fun H locs hP hD hS => ?_)
                    have hP : va_P g.1 vwCl [(h0, .inr (5, [.ref h1, .int 0, .ref h2, .int 3, .int 0, .ref h3, .ref h4, .ref h5, .ref h6, .int 0, .ref h7, .ref h8, .ref h9, .int 0, .ref h10, .ref h11, .ref h12, .ref h13, .ref h14, .ref h15, .ref h16, .ref h17, .ref h18, .ref h19, .ref h20, .ref h21, .ref h22])), (h2, .inl (zI g, 60, .inl (upd (upd (upd (upd (fun _ => 0) 0 (((p1 >>> ((24 : Int32).toInt64 &&& 63)) &&& 255).toInt32)) 1 (((p1 >>> ((16 : Int32).toInt64 &&& 63)) &&& 255).toInt32)) 2 (((p1 >>> ((8 : Int32).toInt64 &&& 63)) &&& 255).toInt32)) 3 (((p1 >>> ((0 : Int32).toInt64 &&& 63)) &&& 255).toInt32))))] H := hP
                    have hD : va_D A [(h0, .inr (5, [.ref h1, .int 0, .ref h2, .int 3, .int 0, .ref h3, .ref h4, .ref h5, .ref h6, .int 0, .ref h7, .ref h8, .ref h9, .int 0, .ref h10, .ref h11, .ref h12, .ref h13, .ref h14, .ref h15, .ref h16, .ref h17, .ref h18, .ref h19, .ref h20, .ref h21, .ref h22])), (h2, .inl (zI g, 60, .inl (upd (upd (upd (upd (fun _ => 0) 0 (((p1 >>> ((24 : Int32).toInt64 &&& 63)) &&& 255).toInt32)) 1 (((p1 >>> ((16 : Int32).toInt64 &&& 63)) &&& 255).toInt32)) 2 (((p1 >>> ((8 : Int32).toInt64 &&& 63)) &&& 255).toInt32)) 3 (((p1 >>> ((0 : Int32).toInt64 &&& 63)) &&& 255).toInt32))))] := hD
                    refine lv_aload_n hx hb dX5_type_99 rfl (lv_at hl 1 rfl) ?_
                    refine lv_dup hx hb dX5_type_100 rfl ?_
                    refine va_get (D := g.1) (ci := 5) (v := .int 3) (C := RX5) (T := TX5) (N := 27) hx hb hts zl_X5 hown hK hP 0 rfl rfl 3 (by decide) (hts _ m_f_RX5_114) (fun _ h => h) rfl dX5_type_101 ?_
                    refine lv_iconst (v := 1) hx hb dX5_type_104 (by decide) ?_
                    refine lv_iadd hx hb dX5_type_105 ?_
                    refine lv_topi (nm_r (e' := 4) (by decide +kernel) ?_)
                    refine va_put (D := g.1) (ci := 5) (v := .int 4) (ty := .int) (C := RX5) (T := TX5) (N := 27) hx hb hts zl_X5 tyX5 tyX5_ok nmX5 hown hK hP hD hS 0 rfl rfl 3 (by decide) (hts _ m_f_RX5_114) (fun _ h => h) rfl (by decide +kernel) rfl rfl (Nat.le_of_ble_eq_true rfl) dX5_type_106 (fun H locs hP hD hS => ?_)
                    have hP : va_P g.1 vwCl [(h0, .inr (5, [.ref h1, .int 0, .ref h2, .int 4, .int 0, .ref h3, .ref h4, .ref h5, .ref h6, .int 0, .ref h7, .ref h8, .ref h9, .int 0, .ref h10, .ref h11, .ref h12, .ref h13, .ref h14, .ref h15, .ref h16, .ref h17, .ref h18, .ref h19, .ref h20, .ref h21, .ref h22])), (h2, .inl (zI g, 60, .inl (upd (upd (upd (upd (fun _ => 0) 0 (((p1 >>> ((24 : Int32).toInt64 &&& 63)) &&& 255).toInt32)) 1 (((p1 >>> ((16 : Int32).toInt64 &&& 63)) &&& 255).toInt32)) 2 (((p1 >>> ((8 : Int32).toInt64 &&& 63)) &&& 255).toInt32)) 3 (((p1 >>> ((0 : Int32).toInt64 &&& 63)) &&& 255).toInt32))))] H := hP
                    have hD : va_D A [(h0, .inr (5, [.ref h1, .int 0, .ref h2, .int 4, .int 0, .ref h3, .ref h4, .ref h5, .ref h6, .int 0, .ref h7, .ref h8, .ref h9, .int 0, .ref h10, .ref h11, .ref h12, .ref h13, .ref h14, .ref h15, .ref h16, .ref h17, .ref h18, .ref h19, .ref h20, .ref h21, .ref h22])), (h2, .inl (zI g, 60, .inl (upd (upd (upd (upd (fun _ => 0) 0 (((p1 >>> ((24 : Int32).toInt64 &&& 63)) &&& 255).toInt32)) 1 (((p1 >>> ((16 : Int32).toInt64 &&& 63)) &&& 255).toInt32)) 2 (((p1 >>> ((8 : Int32).toInt64 &&& 63)) &&& 255).toInt32)) 3 (((p1 >>> ((0 : Int32).toInt64 &&& 63)) &&& 255).toInt32))))] := hD
                    refine lv_iinc (v := (-1)) (lv' := [(4, .int (-1)), (0, .ref h0), (1, .long p1), (3, .int 4)]) hx hb dX5_type_109 hl (k := 0) rfl (by decide) (by decide) rfl (fun ls hl => ?_)
                    refine lv_goto (tgt := 73) hx hb dX5_type_112 (by decide) ?_
                    refine lv_iload hx hb dX5_type_73 (lv_at hl 0 rfl) ?_
                    refine lv_if_lt (tgt := 115) hx hb dX5_type_75 (by decide) (fun _ => ?_) (fun h => absurd h (by decide +kernel))
                    refine lv_aload_n hx hb dX5_type_115 rfl (lv_at hl 1 rfl) ?_
                    refine va_get (D := g.1) (ci := 5) (v := .int 4) (C := RX5) (T := TX5) (N := 27) hx hb hts zl_X5 hown hK hP 0 rfl rfl 3 (by decide) (hts _ m_f_RX5_114) (fun _ h => h) rfl dX5_type_116 ?_
                    have hP9 := hP.sub (ws' := []) [] rfl
                    have hD9 := hD.sub (ws' := []) [] (by decide) rfl
                    exact W.iret (v := 4) hx hb hr (fun t ht hW => ⟨⟨4, 0, rfl, Or.inr (Or.inr (Or.inr (Or.inr (Or.inr (Or.inr (Or.inr (Or.inr (Or.inr (Or.inr (Or.inr (Or.inr (Or.inr (Or.inl ⟨i_3, i_4, i_9, i_10, i_11, i_16, i_17, i_18, i_23, i_24, i_25, i_30, i_31, i_32, rfl⟩))))))))))))), by rw [ht]; exact hP9, hD9⟩, hS.F ht⟩) hS.2.2 dX5_type_119
                  · have i_32 : 4 < p2.toInt := z_nle (rfl) (rfl) c_32
                    refine lv_lload_n hx hb dX5_type_23 rfl (lv_at hl 2 rfl) ?_
                    refine lv_bipush (v := 8) hx hb dX5_type_24 (by decide) ?_
                    refine lv_iload hx hb dX5_type_26 (lv_at hl 0 rfl) ?_
                    refine lv_imul hx hb dX5_type_28 ?_
                    refine lv_topi (nm_r (e' := 32) (by decide +kernel) ?_)
                    refine lv_lshr (v := (p1 >>> ((32 : Int32).toInt64 &&& 63))) hx hb dX5_type_29 rfl ?_
                    refine lv_ldc2 (v := 255) hx hb hown (hts _ m_k_RX5_108) dX5_type_30 ?_
                    refine lv_land hx hb dX5_type_33 ?_
                    refine lv_ldc2 (v := 32) hx hb hown (hts _ m_k_RX5_110) dX5_type_34 ?_
                    refine lv_ldc2 (v := 126) hx hb hown (hts _ m_k_RX5_112) dX5_type_37 ?_
                    refine z_calli (wr := [(h0, .inr (5, [.ref h1, .int 0, .ref h2, .int 0, .int 0, .ref h3, .ref h4, .ref h5, .ref h6, .int 0, .ref h7, .ref h8, .ref h9, .int 0, .ref h10, .ref h11, .ref h12, .ref h13, .ref h14, .ref h15, .ref h16, .ref h17, .ref h18, .ref h19, .ref h20, .ref h21, .ref h22])), (h2, .inl (zI g, 60, .inl (fun _ => 0)))]) hP hD hS hA [] [0, 1] (by decide) rfl rfl (by decide) (va_runS (As := [.long ((p1 >>> ((32 : Int32).toInt64 &&& 63)) &&& 255), .long 32, .long 126]) (rest := []) ⟨hx, hb, hml, hown, hts⟩ (kX5_in_18 l g  H.size ((p1 >>> ((32 : Int32).toInt64 &&& 63)) &&& 255)) ⟨callB_of 3 hts (zGood m_o_yX5_in) rfl rfl rfl (hts _ m_z_RX5) (hts _ m_m_RX5_77) ⟨by decide +kernel, by decide +kernel, by decide +kernel⟩ ⟨Nat.le_of_ble_eq_true rfl, Nat.le_of_ble_eq_true rfl⟩, hts _ m_s_yX5_in⟩ (zPreS hK hN hZ hP hD hS hA [] (by decide) rfl rfl) rfl rfl hl.1 rfl (lv_room (Nat.le_of_ble_eq_true rfl)) dX5_type_40 ⟨Nat.le_of_ble_eq_true rfl, Nat.le_of_ble_eq_true rfl⟩) (fun r u H locs hw hP hD hS => ?_)
                    rcases hw with ⟨i_34, rfl⟩ | ⟨i_35, i_36, rfl⟩ | ⟨i_37, i_38, rfl⟩
                    · skip
                      have i_34 : (((p1 >>> ((32 : Int32).toInt64 &&& 63)) &&& 255) : Int64).toInt < 32 := i_34
                      have hP : va_P g.1 vwCl [(h0, .inr (5, [.ref h1, .int 0, .ref h2, .int 0, .int 0, .ref h3, .ref h4, .ref h5, .ref h6, .int 0, .ref h7, .ref h8, .ref h9, .int 0, .ref h10, .ref h11, .ref h12, .ref h13, .ref h14, .ref h15, .ref h16, .ref h17, .ref h18, .ref h19, .ref h20, .ref h21, .ref h22])), (h2, .inl (zI g, 60, .inl (fun _ => 0)))] H := hP
                      have hD : va_D A [(h0, .inr (5, [.ref h1, .int 0, .ref h2, .int 0, .int 0, .ref h3, .ref h4, .ref h5, .ref h6, .int 0, .ref h7, .ref h8, .ref h9, .int 0, .ref h10, .ref h11, .ref h12, .ref h13, .ref h14, .ref h15, .ref h16, .ref h17, .ref h18, .ref h19, .ref h20, .ref h21, .ref h22])), (h2, .inl (zI g, 60, .inl (fun _ => 0)))] := hD
                      refine lv_if_ne (tgt := 48) hx hb dX5_type_43 (by decide) (fun h => absurd h (by decide +kernel)) (fun _ => ?_)
                      refine lv_iconst (v := (-1)) hx hb dX5_type_46 (by decide) ?_
                      have hP9 := hP.sub (ws' := []) [] rfl
                      have hD9 := hD.sub (ws' := []) [] (by decide) rfl
                      exact W.iret (v := (-1)) hx hb hr (fun t ht hW => ⟨⟨(-1), 0, rfl, Or.inr (Or.inr (Or.inr (Or.inr (Or.inr (Or.inr (Or.inr (Or.inr (Or.inr (Or.inr (Or.inr (Or.inr (Or.inr (Or.inr (Or.inl ⟨i_3, i_4, i_9, i_10, i_11, i_16, i_17, i_18, i_23, i_24, i_25, i_30, i_31, i_32, i_34, rfl⟩)))))))))))))), by rw [ht]; exact hP9, hD9⟩, hS.F ht⟩) hS.2.2 dX5_type_47
                    · skip
                      have i_35 : 32 ≤ (((p1 >>> ((32 : Int32).toInt64 &&& 63)) &&& 255) : Int64).toInt := i_35
                      have i_36 : 126 < (((p1 >>> ((32 : Int32).toInt64 &&& 63)) &&& 255) : Int64).toInt := i_36
                      have hP : va_P g.1 vwCl [(h0, .inr (5, [.ref h1, .int 0, .ref h2, .int 0, .int 0, .ref h3, .ref h4, .ref h5, .ref h6, .int 0, .ref h7, .ref h8, .ref h9, .int 0, .ref h10, .ref h11, .ref h12, .ref h13, .ref h14, .ref h15, .ref h16, .ref h17, .ref h18, .ref h19, .ref h20, .ref h21, .ref h22])), (h2, .inl (zI g, 60, .inl (fun _ => 0)))] H := hP
                      have hD : va_D A [(h0, .inr (5, [.ref h1, .int 0, .ref h2, .int 0, .int 0, .ref h3, .ref h4, .ref h5, .ref h6, .int 0, .ref h7, .ref h8, .ref h9, .int 0, .ref h10, .ref h11, .ref h12, .ref h13, .ref h14, .ref h15, .ref h16, .ref h17, .ref h18, .ref h19, .ref h20, .ref h21, .ref h22])), (h2, .inl (zI g, 60, .inl (fun _ => 0)))] := hD
                      refine lv_if_ne (tgt := 48) hx hb dX5_type_43 (by decide) (fun h => absurd h (by decide +kernel)) (fun _ => ?_)
                      refine lv_iconst (v := (-1)) hx hb dX5_type_46 (by decide) ?_
                      have hP9 := hP.sub (ws' := []) [] rfl
                      have hD9 := hD.sub (ws' := []) [] (by decide) rfl
                      exact W.iret (v := (-1)) hx hb hr (fun t ht hW => ⟨⟨(-1), 0, rfl, Or.inr (Or.inr (Or.inr (Or.inr (Or.inr (Or.inr (Or.inr (Or.inr (Or.inr (Or.inr (Or.inr (Or.inr (Or.inr (Or.inr (Or.inr (Or.inl ⟨i_3, i_4, i_9, i_10, i_11, i_16, i_17, i_18, i_23, i_24, i_25, i_30, i_31, i_32, i_35, i_36, rfl⟩))))))))))))))), by rw [ht]; exact hP9, hD9⟩, hS.F ht⟩) hS.2.2 dX5_type_47
                    · skip
                      have i_37 : 32 ≤ (((p1 >>> ((32 : Int32).toInt64 &&& 63)) &&& 255) : Int64).toInt := i_37
                      have i_38 : (((p1 >>> ((32 : Int32).toInt64 &&& 63)) &&& 255) : Int64).toInt ≤ 126 := i_38
                      have hP : va_P g.1 vwCl [(h0, .inr (5, [.ref h1, .int 0, .ref h2, .int 0, .int 0, .ref h3, .ref h4, .ref h5, .ref h6, .int 0, .ref h7, .ref h8, .ref h9, .int 0, .ref h10, .ref h11, .ref h12, .ref h13, .ref h14, .ref h15, .ref h16, .ref h17, .ref h18, .ref h19, .ref h20, .ref h21, .ref h22])), (h2, .inl (zI g, 60, .inl (fun _ => 0)))] H := hP
                      have hD : va_D A [(h0, .inr (5, [.ref h1, .int 0, .ref h2, .int 0, .int 0, .ref h3, .ref h4, .ref h5, .ref h6, .int 0, .ref h7, .ref h8, .ref h9, .int 0, .ref h10, .ref h11, .ref h12, .ref h13, .ref h14, .ref h15, .ref h16, .ref h17, .ref h18, .ref h19, .ref h20, .ref h21, .ref h22])), (h2, .inl (zI g, 60, .inl (fun _ => 0)))] := hD
                      refine lv_if_ne (tgt := 48) hx hb dX5_type_43 (by decide) (fun _ => ?_) (fun h => absurd h (by decide +kernel))
                      refine lv_iinc (v := 5) (lv' := [(4, .int 5), (0, .ref h0), (1, .long p1), (3, .int p2)]) hx hb dX5_type_48 hl (k := 0) rfl (by decide) (by decide) rfl (fun ls hl => ?_)
                      refine lv_goto (tgt := 17) hx hb dX5_type_51 (by decide) ?_
                      refine lv_iload hx hb dX5_type_17 (lv_at hl 0 rfl) ?_
                      refine lv_iload_n hx hb dX5_type_19 rfl (lv_at hl 3 rfl) ?_
                      refine lv_icmp_ge (tgt := 54) hx hb dX5_type_20 (by decide) (fun c_39 => ?_) (fun c_39 => ?_)
                      · have i_39 : p2.toInt ≤ 5 := z_le (rfl) (rfl) c_39
                        refine lv_aload_n hx hb dX5_type_54 rfl (lv_at hl 1 rfl) ?_
                        refine va_get (D := g.1) (ci := 5) (v := .int 0) (C := RX5) (T := TX5) (N := 27) hx hb hts zl_X5 hown hK hP 0 rfl rfl 3 (by decide) (hts _ m_f_RX5_114) (fun _ h => h) rfl dX5_type_55 ?_
                        refine lv_iload_n hx hb dX5_type_58 rfl (lv_at hl 3 rfl) ?_
                        obtain rfl : p2 = 5 := Int32.toInt_inj.mp (show p2.toInt = (5 : Int32).toInt from (show p2.toInt = 5 by omega).trans rfl)
                        refine lv_iadd hx hb dX5_type_59 ?_
                        refine lv_topi (nm_r (e' := 5) (by decide +kernel) ?_)
                        refine lv_bipush (v := 60) hx hb dX5_type_60 (by decide) ?_
                        refine lv_icmp_le (tgt := 68) hx hb dX5_type_62 (by decide) (fun _ => ?_) (fun h => absurd h (by decide +kernel))
                        refine lv_iload_n hx hb dX5_type_68 rfl (lv_at hl 3 rfl) ?_
                        refine lv_iconst (v := 1) hx hb dX5_type_69 (by decide) ?_
                        refine lv_isub hx hb dX5_type_70 ?_
                        refine lv_topi (nm_r (e' := 4) (by decide +kernel) ?_)
                        refine lv_istore (lv' := [(4, .int 4), (0, .ref h0), (1, .long p1), (3, .int 5)]) hx hb dX5_type_71 hl (by decide) rfl (fun ls hl => ?_)
                        refine lv_iload hx hb dX5_type_73 (lv_at hl 0 rfl) ?_
                        refine lv_if_lt (tgt := 115) hx hb dX5_type_75 (by decide) (fun h => absurd h (by decide +kernel)) (fun _ => ?_)
                        refine lv_aload_n hx hb dX5_type_78 rfl (lv_at hl 1 rfl) ?_
                        refine va_get (D := g.1) (ci := 5) (v := .ref h2) (C := RX5) (T := TX5) (N := 27) hx hb hts zl_X5 hown hK hP 0 rfl rfl 2 (by decide) (hts _ m_f_RX5_13) (fun _ h => h) rfl dX5_type_79 ?_
                        refine lv_aload_n hx hb dX5_type_82 rfl (lv_at hl 1 rfl) ?_
                        refine va_get (D := g.1) (ci := 5) (v := .int 0) (C := RX5) (T := TX5) (N := 27) hx hb hts zl_X5 hown hK hP 0 rfl rfl 3 (by decide) (hts _ m_f_RX5_114) (fun _ h => h) rfl dX5_type_83 ?_
                        refine lv_lload_n hx hb dX5_type_86 rfl (lv_at hl 2 rfl) ?_
                        refine lv_bipush (v := 8) hx hb dX5_type_87 (by decide) ?_
                        refine lv_iload hx hb dX5_type_89 (lv_at hl 0 rfl) ?_
                        refine lv_imul hx hb dX5_type_91 ?_
                        refine lv_topi (nm_r (e' := 32) (by decide +kernel) ?_)
                        refine lv_lshr (v := (p1 >>> ((32 : Int32).toInt64 &&& 63))) hx hb dX5_type_92 rfl ?_
                        refine lv_ldc2 (v := 255) hx hb hown (hts _ m_k_RX5_108) dX5_type_93 ?_
                        refine lv_land hx hb dX5_type_96 ?_
                        refine lv_l2i (v := ((p1 >>> ((32 : Int32).toInt64 &&& 63)) &&& 255).toInt32) hx hb dX5_type_97 rfl ?_
                        refine va_iast (D := g.1) hx hb hK hP hD hS 1 0 rfl rfl (vp_in_iff.mpr (by decide +kernel)) dX5_type_98 (fun H locs hP hD hS => ?_)
                        have hP : va_P g.1 vwCl [(h0, .inr (5, [.ref h1, .int 0, .ref h2, .int 0, .int 0, .ref h3, .ref h4, .ref h5, .ref h6, .int 0, .ref h7, .ref h8, .ref h9, .int 0, .ref h10, .ref h11, .ref h12, .ref h13, .ref h14, .ref h15, .ref h16, .ref h17, .ref h18, .ref h19, .ref h20, .ref h21, .ref h22])), (h2, .inl (zI g, 60, .inl (upd (fun _ => 0) 0 (((p1 >>> ((32 : Int32).toInt64 &&& 63)) &&& 255).toInt32))))] H := hP
                        have hD : va_D A [(h0, .inr (5, [.ref h1, .int 0, .ref h2, .int 0, .int 0, .ref h3, .ref h4, .ref h5, .ref h6, .int 0, .ref h7, .ref h8, .ref h9, .int 0, .ref h10, .ref h11, .ref h12, .ref h13, .ref h14, .ref h15, .ref h16, .ref h17, .ref h18, .ref h19, .ref h20, .ref h21, .ref h22])), (h2, .inl (zI g, 60, .inl (upd (fun _ => 0) 0 (((p1 >>> ((32 : Int32).toInt64 &&& 63)) &&& 255).toInt32))))] := hD
                        refine lv_aload_n hx hb dX5_type_99 rfl (lv_at hl 1 rfl) ?_
                        refine lv_dup hx hb dX5_type_100 rfl ?_
                        refine va_get (D := g.1) (ci := 5) (v := .int 0) (C := RX5) (T := TX5) (N := 27) hx hb hts zl_X5 hown hK hP 0 rfl rfl 3 (by decide) (hts _ m_f_RX5_114) (fun _ h => h) rfl dX5_type_101 ?_
                        refine lv_iconst (v := 1) hx hb dX5_type_104 (by decide) ?_
                        refine lv_iadd hx hb dX5_type_105 ?_
                        refine lv_topi (nm_r (e' := 1) (by decide +kernel) ?_)
                        refine va_put (D := g.1) (ci := 5) (v := .int 1) (ty := .int) (C := RX5) (T := TX5) (N := 27) hx hb hts zl_X5 tyX5 tyX5_ok nmX5 hown hK hP hD hS 0 rfl rfl 3 (by decide) (hts _ m_f_RX5_114) (fun _ h => h) rfl (by decide +kernel) rfl rfl (Nat.le_of_ble_eq_true rfl) dX5_type_106 (fun H locs hP hD hS => ?_)
                        have hP : va_P g.1 vwCl [(h0, .inr (5, [.ref h1, .int 0, .ref h2, .int 1, .int 0, .ref h3, .ref h4, .ref h5, .ref h6, .int 0, .ref h7, .ref h8, .ref h9, .int 0, .ref h10, .ref h11, .ref h12, .ref h13, .ref h14, .ref h15, .ref h16, .ref h17, .ref h18, .ref h19, .ref h20, .ref h21, .ref h22])), (h2, .inl (zI g, 60, .inl (upd (fun _ => 0) 0 (((p1 >>> ((32 : Int32).toInt64 &&& 63)) &&& 255).toInt32))))] H := hP
                        have hD : va_D A [(h0, .inr (5, [.ref h1, .int 0, .ref h2, .int 1, .int 0, .ref h3, .ref h4, .ref h5, .ref h6, .int 0, .ref h7, .ref h8, .ref h9, .int 0, .ref h10, .ref h11, .ref h12, .ref h13, .ref h14, .ref h15, .ref h16, .ref h17, .ref h18, .ref h19, .ref h20, .ref h21, .ref h22])), (h2, .inl (zI g, 60, .inl (upd (fun _ => 0) 0 (((p1 >>> ((32 : Int32).toInt64 &&& 63)) &&& 255).toInt32))))] := hD
                        refine lv_iinc (v := 3) (lv' := [(4, .int 3), (0, .ref h0), (1, .long p1), (3, .int 5)]) hx hb dX5_type_109 hl (k := 0) rfl (by decide) (by decide) rfl (fun ls hl => ?_)
                        refine lv_goto (tgt := 73) hx hb dX5_type_112 (by decide) ?_
                        refine lv_iload hx hb dX5_type_73 (lv_at hl 0 rfl) ?_
                        refine lv_if_lt (tgt := 115) hx hb dX5_type_75 (by decide) (fun h => absurd h (by decide +kernel)) (fun _ => ?_)
                        refine lv_aload_n hx hb dX5_type_78 rfl (lv_at hl 1 rfl) ?_
                        refine va_get (D := g.1) (ci := 5) (v := .ref h2) (C := RX5) (T := TX5) (N := 27) hx hb hts zl_X5 hown hK hP 0 rfl rfl 2 (by decide) (hts _ m_f_RX5_13) (fun _ h => h) rfl dX5_type_79 ?_
                        refine lv_aload_n hx hb dX5_type_82 rfl (lv_at hl 1 rfl) ?_
                        refine va_get (D := g.1) (ci := 5) (v := .int 1) (C := RX5) (T := TX5) (N := 27) hx hb hts zl_X5 hown hK hP 0 rfl rfl 3 (by decide) (hts _ m_f_RX5_114) (fun _ h => h) rfl dX5_type_83 ?_
                        refine lv_lload_n hx hb dX5_type_86 rfl (lv_at hl 2 rfl) ?_
                        refine lv_bipush (v := 8) hx hb dX5_type_87 (by decide) ?_
                        refine lv_iload hx hb dX5_type_89 (lv_at hl 0 rfl) ?_
                        refine lv_imul hx hb dX5_type_91 ?_
                        refine lv_topi (nm_r (e' := 24) (by decide +kernel) ?_)
                        refine lv_lshr (v := (p1 >>> ((24 : Int32).toInt64 &&& 63))) hx hb dX5_type_92 rfl ?_
                        refine lv_ldc2 (v := 255) hx hb hown (hts _ m_k_RX5_108) dX5_type_93 ?_
                        refine lv_land hx hb dX5_type_96 ?_
                        refine lv_l2i (v := ((p1 >>> ((24 : Int32).toInt64 &&& 63)) &&& 255).toInt32) hx hb dX5_type_97 rfl ?_
                        refine va_iast (D := g.1) hx hb hK hP hD hS 1 0 rfl rfl (vp_in_iff.mpr (by decide +kernel)) dX5_type_98 (fun H locs hP hD hS => ?_)
                        have hP : va_P g.1 vwCl [(h0, .inr (5, [.ref h1, .int 0, .ref h2, .int 1, .int 0, .ref h3, .ref h4, .ref h5, .ref h6, .int 0, .ref h7, .ref h8, .ref h9, .int 0, .ref h10, .ref h11, .ref h12, .ref h13, .ref h14, .ref h15, .ref h16, .ref h17, .ref h18, .ref h19, .ref h20, .ref h21, .ref h22])), (h2, .inl (zI g, 60, .inl (upd (upd (fun _ => 0) 0 (((p1 >>> ((32 : Int32).toInt64 &&& 63)) &&& 255).toInt32)) 1 (((p1 >>> ((24 : Int32).toInt64 &&& 63)) &&& 255).toInt32))))] H := hP
                        have hD : va_D A [(h0, .inr (5, [.ref h1, .int 0, .ref h2, .int 1, .int 0, .ref h3, .ref h4, .ref h5, .ref h6, .int 0, .ref h7, .ref h8, .ref h9, .int 0, .ref h10, .ref h11, .ref h12, .ref h13, .ref h14, .ref h15, .ref h16, .ref h17, .ref h18, .ref h19, .ref h20, .ref h21, .ref h22])), (h2, .inl (zI g, 60, .inl (upd (upd (fun _ => 0) 0 (((p1 >>> ((32 : Int32).toInt64 &&& 63)) &&& 255).toInt32)) 1 (((p1 >>> ((24 : Int32).toInt64 &&& 63)) &&& 255).toInt32))))] := hD
                        refine lv_aload_n hx hb dX5_type_99 rfl (lv_at hl 1 rfl) ?_
                        refine lv_dup hx hb dX5_type_100 rfl ?_
                        refine va_get (D := g.1) (ci := 5) (v := .int 1) (C := RX5) (T := TX5) (N := 27) hx hb hts zl_X5 hown hK hP 0 rfl rfl 3 (by decide) (hts _ m_f_RX5_114) (fun _ h => h) rfl dX5_type_101 ?_
                        refine lv_iconst (v := 1) hx hb dX5_type_104 (by decide) ?_
                        refine lv_iadd hx hb dX5_type_105 ?_
                        refine lv_topi (nm_r (e' := 2) (by decide +kernel) ?_)
                        refine va_put (D := g.1) (ci := 5) (v := .int 2) (ty := .int) (C := RX5) (T := TX5) (N := 27) hx hb hts zl_X5 tyX5 tyX5_ok nmX5 hown hK hP hD hS 0 rfl rfl 3 (by decide) (hts _ m_f_RX5_114) (fun _ h => h) rfl (by decide +kernel) rfl rfl (Nat.le_of_ble_eq_true rfl) dX5_type_106 (fun H locs hP hD hS => ?_)
                        have hP : va_P g.1 vwCl [(h0, .inr (5, [.ref h1, .int 0, .ref h2, .int 2, .int 0, .ref h3, .ref h4, .ref h5, .ref h6, .int 0, .ref h7, .ref h8, .ref h9, .int 0, .ref h10, .ref h11, .ref h12, .ref h13, .ref h14, .ref h15, .ref h16, .ref h17, .ref h18, .ref h19, .ref h20, .ref h21, .ref h22])), (h2, .inl (zI g, 60, .inl (upd (upd (fun _ => 0) 0 (((p1 >>> ((32 : Int32).toInt64 &&& 63)) &&& 255).toInt32)) 1 (((p1 >>> ((24 : Int32).toInt64 &&& 63)) &&& 255).toInt32))))] H := hP
                        have hD : va_D A [(h0, .inr (5, [.ref h1, .int 0, .ref h2, .int 2, .int 0, .ref h3, .ref h4, .ref h5, .ref h6, .int 0, .ref h7, .ref h8, .ref h9, .int 0, .ref h10, .ref h11, .ref h12, .ref h13, .ref h14, .ref h15, .ref h16, .ref h17, .ref h18, .ref h19, .ref h20, .ref h21, .ref h22])), (h2, .inl (zI g, 60, .inl (upd (upd (fun _ => 0) 0 (((p1 >>> ((32 : Int32).toInt64 &&& 63)) &&& 255).toInt32)) 1 (((p1 >>> ((24 : Int32).toInt64 &&& 63)) &&& 255).toInt32))))] := hD
                        refine lv_iinc (v := 2) (lv' := [(4, .int 2), (0, .ref h0), (1, .long p1), (3, .int 5)]) hx hb dX5_type_109 hl (k := 0) rfl (by decide) (by decide) rfl (fun ls hl => ?_)
                        refine lv_goto (tgt := 73) hx hb dX5_type_112 (by decide) ?_
                        refine lv_iload hx hb dX5_type_73 (lv_at hl 0 rfl) ?_
                        refine lv_if_lt (tgt := 115) hx hb dX5_type_75 (by decide) (fun h => absurd h (by decide +kernel)) (fun _ => ?_)
                        refine lv_aload_n hx hb dX5_type_78 rfl (lv_at hl 1 rfl) ?_
                        refine va_get (D := g.1) (ci := 5) (v := .ref h2) (C := RX5) (T := TX5) (N := 27) hx hb hts zl_X5 hown hK hP 0 rfl rfl 2 (by decide) (hts _ m_f_RX5_13) (fun _ h => h) rfl dX5_type_79 ?_
                        refine lv_aload_n hx hb dX5_type_82 rfl (lv_at hl 1 rfl) ?_
                        refine va_get (D := g.1) (ci := 5) (v := .int 2) (C := RX5) (T := TX5) (N := 27) hx hb hts zl_X5 hown hK hP 0 rfl rfl 3 (by decide) (hts _ m_f_RX5_114) (fun _ h => h) rfl dX5_type_83 ?_
                        refine lv_lload_n hx hb dX5_type_86 rfl (lv_at hl 2 rfl) ?_
                        refine lv_bipush (v := 8) hx hb dX5_type_87 (by decide) ?_
                        refine lv_iload hx hb dX5_type_89 (lv_at hl 0 rfl) ?_
                        refine lv_imul hx hb dX5_type_91 ?_
                        refine lv_topi (nm_r (e' := 16) (by decide +kernel) ?_)
                        refine lv_lshr (v := (p1 >>> ((16 : Int32).toInt64 &&& 63))) hx hb dX5_type_92 rfl ?_
                        refine lv_ldc2 (v := 255) hx hb hown (hts _ m_k_RX5_108) dX5_type_93 ?_
                        refine lv_land hx hb dX5_type_96 ?_
                        refine lv_l2i (v := ((p1 >>> ((16 : Int32).toInt64 &&& 63)) &&& 255).toInt32) hx hb dX5_type_97 rfl ?_
                        refine va_iast (D := g.1) hx hb hK hP hD hS 1 0 rfl rfl (vp_in_iff.mpr (by decide +kernel)) dX5_type_98 (fun H locs hP hD hS => ?_)
                        have hP : va_P g.1 vwCl [(h0, .inr (5, [.ref h1, .int 0, .ref h2, .int 2, .int 0, .ref h3, .ref h4, .ref h5, .ref h6, .int 0, .ref h7, .ref h8, .ref h9, .int 0, .ref h10, .ref h11, .ref h12, .ref h13, .ref h14, .ref h15, .ref h16, .ref h17, .ref h18, .ref h19, .ref h20, .ref h21, .ref h22])), (h2, .inl (zI g, 60, .inl (upd (upd (upd (fun _ => 0) 0 (((p1 >>> ((32 : Int32).toInt64 &&& 63)) &&& 255).toInt32)) 1 (((p1 >>> ((24 : Int32).toInt64 &&& 63)) &&& 255).toInt32)) 2 (((p1 >>> ((16 : Int32).toInt64 &&& 63)) &&& 255).toInt32))))] H := hP
                        have hD : va_D A [(h0, .inr (5, [.ref h1, .int 0, .ref h2, .int 2, .int 0, .ref h3, .ref h4, .ref h5, .ref h6, .int 0, .ref h7, .ref h8, .ref h9, .int 0, .ref h10, .ref h11, .ref h12, .ref h13, .ref h14, .ref h15, .ref h16, .ref h17, .ref h18, .ref h19, .ref h20, .ref h21, .ref h22])), (h2, .inl (zI g, 60, .inl (upd (upd (upd (fun _ => 0) 0 (((p1 >>> ((32 : Int32).toInt64 &&& 63)) &&& 255).toInt32)) 1 (((p1 >>> ((24 : Int32).toInt64 &&& 63)) &&& 255).toInt32)) 2 (((p1 >>> ((16 : Int32).toInt64 &&& 63)) &&& 255).toInt32))))] := hD
                        refine lv_aload_n hx hb dX5_type_99 rfl (lv_at hl 1 rfl) ?_
                        refine lv_dup hx hb dX5_type_100 rfl ?_
                        refine va_get (D := g.1) (ci := 5) (v := .int 2) (C := RX5) (T := TX5) (N := 27) hx hb hts zl_X5 hown hK hP 0 rfl rfl 3 (by decide) (hts _ m_f_RX5_114) (fun _ h => h) rfl dX5_type_101 ?_
                        refine lv_iconst (v := 1) hx hb dX5_type_104 (by decide) ?_
                        refine lv_iadd hx hb dX5_type_105 ?_
                        refine lv_topi (nm_r (e' := 3) (by decide +kernel) ?_)
                        refine va_put (D := g.1) (ci := 5) (v := .int 3) (ty := .int) (C := RX5) (T := TX5) (N := 27) hx hb hts zl_X5 tyX5 tyX5_ok nmX5 hown hK hP hD hS 0 rfl rfl 3 (by decide) (hts _ m_f_RX5_114) (fun _ h => h) rfl (by decide +kernel) rfl rfl (Nat.le_of_ble_eq_true rfl) dX5_type_106 (fun H locs hP hD hS => ?_)
                        have hP : va_P g.1 vwCl [(h0, .inr (5, [.ref h1, .int 0, .ref h2, .int 3, .int 0, .ref h3, .ref h4, .ref h5, .ref h6, .int 0, .ref h7, .ref h8, .ref h9, .int 0, .ref h10, .ref h11, .ref h12, .ref h13, .ref h14, .ref h15, .ref h16, .ref h17, .ref h18, .ref h19, .ref h20, .ref h21, .ref h22])), (h2, .inl (zI g, 60, .inl (upd (upd (upd (fun _ => 0) 0 (((p1 >>> ((32 : Int32).toInt64 &&& 63)) &&& 255).toInt32)) 1 (((p1 >>> ((24 : Int32).toInt64 &&& 63)) &&& 255).toInt32)) 2 (((p1 >>> ((16 : Int32).toInt64 &&& 63)) &&& 255).toInt32))))] H := hP
                        have hD : va_D A [(h0, .inr (5, [.ref h1, .int 0, .ref h2, .int 3, .int 0, .ref h3, .ref h4, .ref h5, .ref h6, .int 0, .ref h7, .ref h8, .ref h9, .int 0, .ref h10, .ref h11, .ref h12, .ref h13, .ref h14, .ref h15, .ref h16, .ref h17, .ref h18, .ref h19, .ref h20, .ref h21, .ref h22])), (h2, .inl (zI g, 60, .inl (upd (upd (upd (fun _ => 0) 0 (((p1 >>> ((32 : Int32).toInt64 &&& 63)) &&& 255).toInt32)) 1 (((p1 >>> ((24 : Int32).toInt64 &&& 63)) &&& 255).toInt32)) 2 (((p1 >>> ((16 : Int32).toInt64 &&& 63)) &&& 255).toInt32))))] := hD
                        refine lv_iinc (v := 1) (lv' := [(4, .int 1), (0, .ref h0), (1, .long p1), (3, .int 5)]) hx hb dX5_type_109 hl (k := 0) rfl (by decide) (by decide) rfl (fun ls hl => ?_)
                        refine lv_goto (tgt := 73) hx hb dX5_type_112 (by decide) ?_
                        refine lv_iload hx hb dX5_type_73 (lv_at hl 0 rfl) ?_
                        refine lv_if_lt (tgt := 115) hx hb dX5_type_75 (by decide) (fun h => absurd h (by decide +kernel)) (fun _ => ?_)
                        refine lv_aload_n hx hb dX5_type_78 rfl (lv_at hl 1 rfl) ?_
                        refine va_get (D := g.1) (ci := 5) (v := .ref h2) (C := RX5) (T := TX5) (N := 27) hx hb hts zl_X5 hown hK hP 0 rfl rfl 2 (by decide) (hts _ m_f_RX5_13) (fun _ h => h) rfl dX5_type_79 ?_
                        refine lv_aload_n hx hb dX5_type_82 rfl (lv_at hl 1 rfl) ?_
                        refine va_get (D := g.1) (ci := 5) (v := .int 3) (C := RX5) (T := TX5) (N := 27) hx hb hts zl_X5 hown hK hP 0 rfl rfl 3 (by decide) (hts _ m_f_RX5_114) (fun _ h => h) rfl dX5_type_83 ?_
                        refine lv_lload_n hx hb dX5_type_86 rfl (lv_at hl 2 rfl) ?_
                        refine lv_bipush (v := 8) hx hb dX5_type_87 (by decide) ?_
                        refine lv_iload hx hb dX5_type_89 (lv_at hl 0 rfl) ?_
                        refine lv_imul hx hb dX5_type_91 ?_
                        refine lv_topi (nm_r (e' := 8) (by decide +kernel) ?_)
                        refine lv_lshr (v := (p1 >>> ((8 : Int32).toInt64 &&& 63))) hx hb dX5_type_92 rfl ?_
                        refine lv_ldc2 (v := 255) hx hb hown (hts _ m_k_RX5_108) dX5_type_93 ?_
                        refine lv_land hx hb dX5_type_96 ?_
                        refine lv_l2i (v := ((p1 >>> ((8 : Int32).toInt64 &&& 63)) &&& 255).toInt32) hx hb dX5_type_97 rfl ?_
                        refine va_iast (D := g.1) hx hb hK hP hD hS 1 0 rfl rfl (vp_in_iff.mpr (by decide +kernel)) dX5_type_98 (fun H locs hP hD hS => ?_)
                        have hP : va_P g.1 vwCl [(h0, .inr (5, [.ref h1, .int 0, .ref h2, .int 3, .int 0, .ref h3, .ref h4, .ref h5, .ref h6, .int 0, .ref h7, .ref h8, .ref h9, .int 0, .ref h10, .ref h11, .ref h12, .ref h13, .ref h14, .ref h15, .ref h16, .ref h17, .ref h18, .ref h19, .ref h20, .ref h21, .ref h22])), (h2, .inl (zI g, 60, .inl (upd (upd (upd (upd (fun _ => 0) 0 (((p1 >>> ((32 : Int32).toInt64 &&& 63)) &&& 255).toInt32)) 1 (((p1 >>> ((24 : Int32).toInt64 &&& 63)) &&& 255).toInt32)) 2 (((p1 >>> ((16 : Int32).toInt64 &&& 63)) &&& 255).toInt32)) 3 (((p1 >>> ((8 : Int32).toInt64 &&& 63)) &&& 255).toInt32))))] H := hP
                        have hD : va_D A [(h0, .inr (5, [.ref h1, .int 0, .ref h2, .int 3, .int 0, .ref h3, .ref h4, .ref h5, .ref h6, .int 0, .ref h7, .ref h8, .ref h9, .int 0, .ref h10, .ref h11, .ref h12, .ref h13, .ref h14, .ref h15, .ref h16, .ref h17, .ref h18, .ref h19, .ref h20, .ref h21, .ref h22])), (h2, .inl (zI g, 60, .inl (upd (upd (upd (upd (fun _ => 0) 0 (((p1 >>> ((32 : Int32).toInt64 &&& 63)) &&& 255).toInt32)) 1 (((p1 >>> ((24 : Int32).toInt64 &&& 63)) &&& 255).toInt32)) 2 (((p1 >>> ((16 : Int32).toInt64 &&& 63)) &&& 255).toInt32)) 3 (((p1 >>> ((8 : Int32).toInt64 &&& 63)) &&& 255).toInt32))))] := hD
                        refine lv_aload_n hx hb dX5_type_99 rfl (lv_at hl 1 rfl) ?_
                        refine lv_dup hx hb dX5_type_100 rfl ?_
                        refine va_get (D := g.1) (ci := 5) (v := .int 3) (C := RX5) (T := TX5) (N := 27) hx hb hts zl_X5 hown hK hP 0 rfl rfl 3 (by decide) (hts _ m_f_RX5_114) (fun _ h => h) rfl dX5_type_101 ?_
                        refine lv_iconst (v := 1) hx hb dX5_type_104 (by decide) ?_
                        refine lv_iadd hx hb dX5_type_105 ?_
                        refine lv_topi (nm_r (e' := 4) (by decide +kernel) ?_)
                        refine va_put (D := g.1) (ci := 5) (v := .int 4) (ty := .int) (C := RX5) (T := TX5) (N := 27) hx hb hts zl_X5 tyX5 tyX5_ok nmX5 hown hK hP hD hS 0 rfl rfl 3 (by decide) (hts _ m_f_RX5_114) (fun _ h => h) rfl (by decide +kernel) rfl rfl (Nat.le_of_ble_eq_true rfl) dX5_type_106 (fun H locs hP hD hS => ?_)
                        have hP : va_P g.1 vwCl [(h0, .inr (5, [.ref h1, .int 0, .ref h2, .int 4, .int 0, .ref h3, .ref h4, .ref h5, .ref h6, .int 0, .ref h7, .ref h8, .ref h9, .int 0, .ref h10, .ref h11, .ref h12, .ref h13, .ref h14, .ref h15, .ref h16, .ref h17, .ref h18, .ref h19, .ref h20, .ref h21, .ref h22])), (h2, .inl (zI g, 60, .inl (upd (upd (upd (upd (fun _ => 0) 0 (((p1 >>> ((32 : Int32).toInt64 &&& 63)) &&& 255).toInt32)) 1 (((p1 >>> ((24 : Int32).toInt64 &&& 63)) &&& 255).toInt32)) 2 (((p1 >>> ((16 : Int32).toInt64 &&& 63)) &&& 255).toInt32)) 3 (((p1 >>> ((8 : Int32).toInt64 &&& 63)) &&& 255).toInt32))))] H := hP
                        have hD : va_D A [(h0, .inr (5, [.ref h1, .int 0, .ref h2, .int 4, .int 0, .ref h3, .ref h4, .ref h5, .ref h6, .int 0, .ref h7, .ref h8, .ref h9, .int 0, .ref h10, .ref h11, .ref h12, .ref h13, .ref h14, .ref h15, .ref h16, .ref h17, .ref h18, .ref h19, .ref h20, .ref h21, .ref h22])), (h2, .inl (zI g, 60, .inl (upd (upd (upd (upd (fun _ => 0) 0 (((p1 >>> ((32 : Int32).toInt64 &&& 63)) &&& 255).toInt32)) 1 (((p1 >>> ((24 : Int32).toInt64 &&& 63)) &&& 255).toInt32)) 2 (((p1 >>> ((16 : Int32).toInt64 &&& 63)) &&& 255).toInt32)) 3 (((p1 >>> ((8 : Int32).toInt64 &&& 63)) &&& 255).toInt32))))] := hD
                        refine lv_iinc (v := 0) (lv' := [(4, .int 0), (0, .ref h0), (1, .long p1), (3, .int 5)]) hx hb dX5_type_109 hl (k := 0) rfl (by decide) (by decide) rfl (fun ls hl => ?_)
                        refine lv_goto (tgt := 73) hx hb dX5_type_112 (by decide) ?_
                        refine lv_iload hx hb dX5_type_73 (lv_at hl 0 rfl) ?_
                        refine lv_if_lt (tgt := 115) hx hb dX5_type_75 (by decide) (fun h => absurd h (by decide +kernel)) (fun _ => ?_)
                        refine lv_aload_n hx hb dX5_type_78 rfl (lv_at hl 1 rfl) ?_
                        refine va_get (D := g.1) (ci := 5) (v := .ref h2) (C := RX5) (T := TX5) (N := 27) hx hb hts zl_X5 hown hK hP 0 rfl rfl 2 (by decide) (hts _ m_f_RX5_13) (fun _ h => h) rfl dX5_type_79 ?_
                        refine lv_aload_n hx hb dX5_type_82 rfl (lv_at hl 1 rfl) ?_
                        refine va_get (D := g.1) (ci := 5) (v := .int 4) (C := RX5) (T := TX5) (N := 27) hx hb hts zl_X5 hown hK hP 0 rfl rfl 3 (by decide) (hts _ m_f_RX5_114) (fun _ h => h) rfl dX5_type_83 ?_
                        refine lv_lload_n hx hb dX5_type_86 rfl (lv_at hl 2 rfl) ?_
                        refine lv_bipush (v := 8) hx hb dX5_type_87 (by decide) ?_
                        refine lv_iload hx hb dX5_type_89 (lv_at hl 0 rfl) ?_
                        refine lv_imul hx hb dX5_type_91 ?_
                        refine lv_topi (nm_r (e' := 0) (by decide +kernel) ?_)
                        refine lv_lshr (v := (p1 >>> ((0 : Int32).toInt64 &&& 63))) hx hb dX5_type_92 rfl ?_
                        refine lv_ldc2 (v := 255) hx hb hown (hts _ m_k_RX5_108) dX5_type_93 ?_
                        refine lv_land hx hb dX5_type_96 ?_
                        refine lv_l2i (v := ((p1 >>> ((0 : Int32).toInt64 &&& 63)) &&& 255).toInt32) hx hb dX5_type_97 rfl ?_
                        refine va_iast (D := g.1) hx hb hK hP hD hS 1 0 rfl rfl (vp_in_iff.mpr (by decide +kernel)) dX5_type_98 (fun H locs hP hD hS => ?_)
                        have hP : va_P g.1 vwCl [(h0, .inr (5, [.ref h1, .int 0, .ref h2, .int 4, .int 0, .ref h3, .ref h4, .ref h5, .ref h6, .int 0, .ref h7, .ref h8, .ref h9, .int 0, .ref h10, .ref h11, .ref h12, .ref h13, .ref h14, .ref h15, .ref h16, .ref h17, .ref h18, .ref h19, .ref h20, .ref h21, .ref h22])), (h2, .inl (zI g, 60, .inl (upd (upd (upd (upd (upd (fun _ => 0) 0 (((p1 >>> ((32 : Int32).toInt64 &&& 63)) &&& 255).toInt32)) 1 (((p1 >>> ((24 : Int32).toInt64 &&& 63)) &&& 255).toInt32)) 2 (((p1 >>> ((16 : Int32).toInt64 &&& 63)) &&& 255).toInt32)) 3 (((p1 >>> ((8 : Int32).toInt64 &&& 63)) &&& 255).toInt32)) 4 (((p1 >>> ((0 : Int32).toInt64 &&& 63)) &&& 255).toInt32))))] H := hP
                        have hD : va_D A [(h0, .inr (5, [.ref h1, .int 0, .ref h2, .int 4, .int 0, .ref h3, .ref h4, .ref h5, .ref h6, .int 0, .ref h7, .ref h8, .ref h9, .int 0, .ref h10, .ref h11, .ref h12, .ref h13, .ref h14, .ref h15, .ref h16, .ref h17, .ref h18, .ref h19, .ref h20, .ref h21, .ref h22])), (h2, .inl (zI g, 60, .inl (upd (upd (upd (upd (upd (fun _ => 0) 0 (((p1 >>> ((32 : Int32).toInt64 &&& 63)) &&& 255).toInt32)) 1 (((p1 >>> ((24 : Int32).toInt64 &&& 63)) &&& 255).toInt32)) 2 (((p1 >>> ((16 : Int32).toInt64 &&& 63)) &&& 255).toInt32)) 3 (((p1 >>> ((8 : Int32).toInt64 &&& 63)) &&& 255).toInt32)) 4 (((p1 >>> ((0 : Int32).toInt64 &&& 63)) &&& 255).toInt32))))] := hD
                        refine lv_aload_n hx hb dX5_type_99 rfl (lv_at hl 1 rfl) ?_
                        refine lv_dup hx hb dX5_type_100 rfl ?_
                        refine va_get (D := g.1) (ci := 5) (v := .int 4) (C := RX5) (T := TX5) (N := 27) hx hb hts zl_X5 hown hK hP 0 rfl rfl 3 (by decide) (hts _ m_f_RX5_114) (fun _ h => h) rfl dX5_type_101 ?_
                        refine lv_iconst (v := 1) hx hb dX5_type_104 (by decide) ?_
                        refine lv_iadd hx hb dX5_type_105 ?_
                        refine lv_topi (nm_r (e' := 5) (by decide +kernel) ?_)
                        refine va_put (D := g.1) (ci := 5) (v := .int 5) (ty := .int) (C := RX5) (T := TX5) (N := 27) hx hb hts zl_X5 tyX5 tyX5_ok nmX5 hown hK hP hD hS 0 rfl rfl 3 (by decide) (hts _ m_f_RX5_114) (fun _ h => h) rfl (by decide +kernel) rfl rfl (Nat.le_of_ble_eq_true rfl) dX5_type_106 (fun H locs hP hD hS => ?_)
                        have hP : va_P g.1 vwCl [(h0, .inr (5, [.ref h1, .int 0, .ref h2, .int 5, .int 0, .ref h3, .ref h4, .ref h5, .ref h6, .int 0, .ref h7, .ref h8, .ref h9, .int 0, .ref h10, .ref h11, .ref h12, .ref h13, .ref h14, .ref h15, .ref h16, .ref h17, .ref h18, .ref h19, .ref h20, .ref h21, .ref h22])), (h2, .inl (zI g, 60, .inl (upd (upd (upd (upd (upd (fun _ => 0) 0 (((p1 >>> ((32 : Int32).toInt64 &&& 63)) &&& 255).toInt32)) 1 (((p1 >>> ((24 : Int32).toInt64 &&& 63)) &&& 255).toInt32)) 2 (((p1 >>> ((16 : Int32).toInt64 &&& 63)) &&& 255).toInt32)) 3 (((p1 >>> ((8 : Int32).toInt64 &&& 63)) &&& 255).toInt32)) 4 (((p1 >>> ((0 : Int32).toInt64 &&& 63)) &&& 255).toInt32))))] H := hP
                        have hD : va_D A [(h0, .inr (5, [.ref h1, .int 0, .ref h2, .int 5, .int 0, .ref h3, .ref h4, .ref h5, .ref h6, .int 0, .ref h7, .ref h8, .ref h9, .int 0, .ref h10, .ref h11, .ref h12, .ref h13, .ref h14, .ref h15, .ref h16, .ref h17, .ref h18, .ref h19, .ref h20, .ref h21, .ref h22])), (h2, .inl (zI g, 60, .inl (upd (upd (upd (upd (upd (fun _ => 0) 0 (((p1 >>> ((32 : Int32).toInt64 &&& 63)) &&& 255).toInt32)) 1 (((p1 >>> ((24 : Int32).toInt64 &&& 63)) &&& 255).toInt32)) 2 (((p1 >>> ((16 : Int32).toInt64 &&& 63)) &&& 255).toInt32)) 3 (((p1 >>> ((8 : Int32).toInt64 &&& 63)) &&& 255).toInt32)) 4 (((p1 >>> ((0 : Int32).toInt64 &&& 63)) &&& 255).toInt32))))] := hD
                        refine lv_iinc (v := (-1)) (lv' := [(4, .int (-1)), (0, .ref h0), (1, .long p1), (3, .int 5)]) hx hb dX5_type_109 hl (k := 0) rfl (by decide) (by decide) rfl (fun ls hl => ?_)
                        refine lv_goto (tgt := 73) hx hb dX5_type_112 (by decide) ?_
                        refine lv_iload hx hb dX5_type_73 (lv_at hl 0 rfl) ?_
                        refine lv_if_lt (tgt := 115) hx hb dX5_type_75 (by decide) (fun _ => ?_) (fun h => absurd h (by decide +kernel))
                        refine lv_aload_n hx hb dX5_type_115 rfl (lv_at hl 1 rfl) ?_
                        refine va_get (D := g.1) (ci := 5) (v := .int 5) (C := RX5) (T := TX5) (N := 27) hx hb hts zl_X5 hown hK hP 0 rfl rfl 3 (by decide) (hts _ m_f_RX5_114) (fun _ h => h) rfl dX5_type_116 ?_
                        have hP9 := hP.sub (ws' := []) [] rfl
                        have hD9 := hD.sub (ws' := []) [] (by decide) rfl
                        exact W.iret (v := 5) hx hb hr (fun t ht hW => ⟨⟨5, 0, rfl, Or.inr (Or.inr (Or.inr (Or.inr (Or.inr (Or.inr (Or.inr (Or.inr (Or.inr (Or.inr (Or.inr (Or.inr (Or.inr (Or.inr (Or.inr (Or.inr (Or.inl ⟨i_3, i_4, i_9, i_10, i_11, i_16, i_17, i_18, i_23, i_24, i_25, i_30, i_31, i_32, i_37, i_38, i_39, rfl⟩)))))))))))))))), by rw [ht]; exact hP9, hD9⟩, hS.F ht⟩) hS.2.2 dX5_type_119
                      · have i_39 : 5 < p2.toInt := z_nle (rfl) (rfl) c_39
                        refine lv_lload_n hx hb dX5_type_23 rfl (lv_at hl 2 rfl) ?_
                        refine lv_bipush (v := 8) hx hb dX5_type_24 (by decide) ?_
                        refine lv_iload hx hb dX5_type_26 (lv_at hl 0 rfl) ?_
                        refine lv_imul hx hb dX5_type_28 ?_
                        refine lv_topi (nm_r (e' := 40) (by decide +kernel) ?_)
                        refine lv_lshr (v := (p1 >>> ((40 : Int32).toInt64 &&& 63))) hx hb dX5_type_29 rfl ?_
                        refine lv_ldc2 (v := 255) hx hb hown (hts _ m_k_RX5_108) dX5_type_30 ?_
                        refine lv_land hx hb dX5_type_33 ?_
                        refine lv_ldc2 (v := 32) hx hb hown (hts _ m_k_RX5_110) dX5_type_34 ?_
                        refine lv_ldc2 (v := 126) hx hb hown (hts _ m_k_RX5_112) dX5_type_37 ?_
                        refine z_calli (wr := [(h0, .inr (5, [.ref h1, .int 0, .ref h2, .int 0, .int 0, .ref h3, .ref h4, .ref h5, .ref h6, .int 0, .ref h7, .ref h8, .ref h9, .int 0, .ref h10, .ref h11, .ref h12, .ref h13, .ref h14, .ref h15, .ref h16, .ref h17, .ref h18, .ref h19, .ref h20, .ref h21, .ref h22])), (h2, .inl (zI g, 60, .inl (fun _ => 0)))]) hP hD hS hA [] [0, 1] (by decide) rfl rfl (by decide) (va_runS (As := [.long ((p1 >>> ((40 : Int32).toInt64 &&& 63)) &&& 255), .long 32, .long 126]) (rest := []) ⟨hx, hb, hml, hown, hts⟩ (kX5_in_18 l g  H.size ((p1 >>> ((40 : Int32).toInt64 &&& 63)) &&& 255)) ⟨callB_of 3 hts (zGood m_o_yX5_in) rfl rfl rfl (hts _ m_z_RX5) (hts _ m_m_RX5_77) ⟨by decide +kernel, by decide +kernel, by decide +kernel⟩ ⟨Nat.le_of_ble_eq_true rfl, Nat.le_of_ble_eq_true rfl⟩, hts _ m_s_yX5_in⟩ (zPreS hK hN hZ hP hD hS hA [] (by decide) rfl rfl) rfl rfl hl.1 rfl (lv_room (Nat.le_of_ble_eq_true rfl)) dX5_type_40 ⟨Nat.le_of_ble_eq_true rfl, Nat.le_of_ble_eq_true rfl⟩) (fun r u H locs hw hP hD hS => ?_)
                        rcases hw with ⟨i_41, rfl⟩ | ⟨i_42, i_43, rfl⟩ | ⟨i_44, i_45, rfl⟩
                        · skip
                          have i_41 : (((p1 >>> ((40 : Int32).toInt64 &&& 63)) &&& 255) : Int64).toInt < 32 := i_41
                          have hP : va_P g.1 vwCl [(h0, .inr (5, [.ref h1, .int 0, .ref h2, .int 0, .int 0, .ref h3, .ref h4, .ref h5, .ref h6, .int 0, .ref h7, .ref h8, .ref h9, .int 0, .ref h10, .ref h11, .ref h12, .ref h13, .ref h14, .ref h15, .ref h16, .ref h17, .ref h18, .ref h19, .ref h20, .ref h21, .ref h22])), (h2, .inl (zI g, 60, .inl (fun _ => 0)))] H := hP
                          have hD : va_D A [(h0, .inr (5, [.ref h1, .int 0, .ref h2, .int 0, .int 0, .ref h3, .ref h4, .ref h5, .ref h6, .int 0, .ref h7, .ref h8, .ref h9, .int 0, .ref h10, .ref h11, .ref h12, .ref h13, .ref h14, .ref h15, .ref h16, .ref h17, .ref h18, .ref h19, .ref h20, .ref h21, .ref h22])), (h2, .inl (zI g, 60, .inl (fun _ => 0)))] := hD
                          refine lv_if_ne (tgt := 48) hx hb dX5_type_43 (by decide) (fun h => absurd h (by decide +kernel)) (fun _ => ?_)
                          refine lv_iconst (v := (-1)) hx hb dX5_type_46 (by decide) ?_
                          have hP9 := hP.sub (ws' := []) [] rfl
                          have hD9 := hD.sub (ws' := []) [] (by decide) rfl
                          exact W.iret (v := (-1)) hx hb hr (fun t ht hW => ⟨⟨(-1), 0, rfl, Or.inr (Or.inr (Or.inr (Or.inr (Or.inr (Or.inr (Or.inr (Or.inr (Or.inr (Or.inr (Or.inr (Or.inr (Or.inr (Or.inr (Or.inr (Or.inr (Or.inr (Or.inl ⟨i_3, i_4, i_9, i_10, i_11, i_16, i_17, i_18, i_23, i_24, i_25, i_30, i_31, i_32, i_37, i_38, i_39, i_41, rfl⟩))))))))))))))))), by rw [ht]; exact hP9, hD9⟩, hS.F ht⟩) hS.2.2 dX5_type_47
                        · skip
                          have i_42 : 32 ≤ (((p1 >>> ((40 : Int32).toInt64 &&& 63)) &&& 255) : Int64).toInt := i_42
                          have i_43 : 126 < (((p1 >>> ((40 : Int32).toInt64 &&& 63)) &&& 255) : Int64).toInt := i_43
                          have hP : va_P g.1 vwCl [(h0, .inr (5, [.ref h1, .int 0, .ref h2, .int 0, .int 0, .ref h3, .ref h4, .ref h5, .ref h6, .int 0, .ref h7, .ref h8, .ref h9, .int 0, .ref h10, .ref h11, .ref h12, .ref h13, .ref h14, .ref h15, .ref h16, .ref h17, .ref h18, .ref h19, .ref h20, .ref h21, .ref h22])), (h2, .inl (zI g, 60, .inl (fun _ => 0)))] H := hP
                          have hD : va_D A [(h0, .inr (5, [.ref h1, .int 0, .ref h2, .int 0, .int 0, .ref h3, .ref h4, .ref h5, .ref h6, .int 0, .ref h7, .ref h8, .ref h9, .int 0, .ref h10, .ref h11, .ref h12, .ref h13, .ref h14, .ref h15, .ref h16, .ref h17, .ref h18, .ref h19, .ref h20, .ref h21, .ref h22])), (h2, .inl (zI g, 60, .inl (fun _ => 0)))] := hD
                          refine lv_if_ne (tgt := 48) hx hb dX5_type_43 (by decide) (fun h => absurd h (by decide +kernel)) (fun _ => ?_)
                          refine lv_iconst (v := (-1)) hx hb dX5_type_46 (by decide) ?_
                          have hP9 := hP.sub (ws' := []) [] rfl
                          have hD9 := hD.sub (ws' := []) [] (by decide) rfl
                          exact W.iret (v := (-1)) hx hb hr (fun t ht hW => ⟨⟨(-1), 0, rfl, Or.inr (Or.inr (Or.inr (Or.inr (Or.inr (Or.inr (Or.inr (Or.inr (Or.inr (Or.inr (Or.inr (Or.inr (Or.inr (Or.inr (Or.inr (Or.inr (Or.inr (Or.inr (Or.inl ⟨i_3, i_4, i_9, i_10, i_11, i_16, i_17, i_18, i_23, i_24, i_25, i_30, i_31, i_32, i_37, i_38, i_39, i_42, i_43, rfl⟩)))))))))))))))))), by rw [ht]; exact hP9, hD9⟩, hS.F ht⟩) hS.2.2 dX5_type_47
                        · skip
                          have i_44 : 32 ≤ (((p1 >>> ((40 : Int32).toInt64 &&& 63)) &&& 255) : Int64).toInt := i_44
                          have i_45 : (((p1 >>> ((40 : Int32).toInt64 &&& 63)) &&& 255) : Int64).toInt ≤ 126 := i_45
                          have hP : va_P g.1 vwCl [(h0, .inr (5, [.ref h1, .int 0, .ref h2, .int 0, .int 0, .ref h3, .ref h4, .ref h5, .ref h6, .int 0, .ref h7, .ref h8, .ref h9, .int 0, .ref h10, .ref h11, .ref h12, .ref h13, .ref h14, .ref h15, .ref h16, .ref h17, .ref h18, .ref h19, .ref h20, .ref h21, .ref h22])), (h2, .inl (zI g, 60, .inl (fun _ => 0)))] H := hP
                          have hD : va_D A [(h0, .inr (5, [.ref h1, .int 0, .ref h2, .int 0, .int 0, .ref h3, .ref h4, .ref h5, .ref h6, .int 0, .ref h7, .ref h8, .ref h9, .int 0, .ref h10, .ref h11, .ref h12, .ref h13, .ref h14, .ref h15, .ref h16, .ref h17, .ref h18, .ref h19, .ref h20, .ref h21, .ref h22])), (h2, .inl (zI g, 60, .inl (fun _ => 0)))] := hD
                          refine lv_if_ne (tgt := 48) hx hb dX5_type_43 (by decide) (fun _ => ?_) (fun h => absurd h (by decide +kernel))
                          refine lv_iinc (v := 6) (lv' := [(4, .int 6), (0, .ref h0), (1, .long p1), (3, .int p2)]) hx hb dX5_type_48 hl (k := 0) rfl (by decide) (by decide) rfl (fun ls hl => ?_)
                          refine lv_goto (tgt := 17) hx hb dX5_type_51 (by decide) ?_
                          refine lv_iload hx hb dX5_type_17 (lv_at hl 0 rfl) ?_
                          refine lv_iload_n hx hb dX5_type_19 rfl (lv_at hl 3 rfl) ?_
                          refine lv_icmp_ge (tgt := 54) hx hb dX5_type_20 (by decide) (fun c_46 => ?_) (fun c_46 => ?_)
                          · have i_46 : p2.toInt ≤ 6 := z_le (rfl) (rfl) c_46
                            refine lv_aload_n hx hb dX5_type_54 rfl (lv_at hl 1 rfl) ?_
                            refine va_get (D := g.1) (ci := 5) (v := .int 0) (C := RX5) (T := TX5) (N := 27) hx hb hts zl_X5 hown hK hP 0 rfl rfl 3 (by decide) (hts _ m_f_RX5_114) (fun _ h => h) rfl dX5_type_55 ?_
                            refine lv_iload_n hx hb dX5_type_58 rfl (lv_at hl 3 rfl) ?_
                            obtain rfl : p2 = 6 := Int32.toInt_inj.mp (show p2.toInt = (6 : Int32).toInt from (show p2.toInt = 6 by omega).trans rfl)
                            refine lv_iadd hx hb dX5_type_59 ?_
                            refine lv_topi (nm_r (e' := 6) (by decide +kernel) ?_)
                            refine lv_bipush (v := 60) hx hb dX5_type_60 (by decide) ?_
                            refine lv_icmp_le (tgt := 68) hx hb dX5_type_62 (by decide) (fun _ => ?_) (fun h => absurd h (by decide +kernel))
                            refine lv_iload_n hx hb dX5_type_68 rfl (lv_at hl 3 rfl) ?_
                            refine lv_iconst (v := 1) hx hb dX5_type_69 (by decide) ?_
                            refine lv_isub hx hb dX5_type_70 ?_
                            refine lv_topi (nm_r (e' := 5) (by decide +kernel) ?_)
                            refine lv_istore (lv' := [(4, .int 5), (0, .ref h0), (1, .long p1), (3, .int 6)]) hx hb dX5_type_71 hl (by decide) rfl (fun ls hl => ?_)
                            refine lv_iload hx hb dX5_type_73 (lv_at hl 0 rfl) ?_
                            refine lv_if_lt (tgt := 115) hx hb dX5_type_75 (by decide) (fun h => absurd h (by decide +kernel)) (fun _ => ?_)
                            refine lv_aload_n hx hb dX5_type_78 rfl (lv_at hl 1 rfl) ?_
                            refine va_get (D := g.1) (ci := 5) (v := .ref h2) (C := RX5) (T := TX5) (N := 27) hx hb hts zl_X5 hown hK hP 0 rfl rfl 2 (by decide) (hts _ m_f_RX5_13) (fun _ h => h) rfl dX5_type_79 ?_
                            refine lv_aload_n hx hb dX5_type_82 rfl (lv_at hl 1 rfl) ?_
                            refine va_get (D := g.1) (ci := 5) (v := .int 0) (C := RX5) (T := TX5) (N := 27) hx hb hts zl_X5 hown hK hP 0 rfl rfl 3 (by decide) (hts _ m_f_RX5_114) (fun _ h => h) rfl dX5_type_83 ?_
                            refine lv_lload_n hx hb dX5_type_86 rfl (lv_at hl 2 rfl) ?_
                            refine lv_bipush (v := 8) hx hb dX5_type_87 (by decide) ?_
                            refine lv_iload hx hb dX5_type_89 (lv_at hl 0 rfl) ?_
                            refine lv_imul hx hb dX5_type_91 ?_
                            refine lv_topi (nm_r (e' := 40) (by decide +kernel) ?_)
                            refine lv_lshr (v := (p1 >>> ((40 : Int32).toInt64 &&& 63))) hx hb dX5_type_92 rfl ?_
                            refine lv_ldc2 (v := 255) hx hb hown (hts _ m_k_RX5_108) dX5_type_93 ?_
                            refine lv_land hx hb dX5_type_96 ?_
                            refine lv_l2i (v := ((p1 >>> ((40 : Int32).toInt64 &&& 63)) &&& 255).toInt32) hx hb dX5_type_97 rfl ?_
                            refine va_iast (D := g.1) hx hb hK hP hD hS 1 0 rfl rfl (vp_in_iff.mpr (by decide +kernel)) dX5_type_98 (fun H locs hP hD hS => ?_)
                            have hP : va_P g.1 vwCl [(h0, .inr (5, [.ref h1, .int 0, .ref h2, .int 0, .int 0, .ref h3, .ref h4, .ref h5, .ref h6, .int 0, .ref h7, .ref h8, .ref h9, .int 0, .ref h10, .ref h11, .ref h12, .ref h13, .ref h14, .ref h15, .ref h16, .ref h17, .ref h18, .ref h19, .ref h20, .ref h21, .ref h22])), (h2, .inl (zI g, 60, .inl (upd (fun _ => 0) 0 (((p1 >>> ((40 : Int32).toInt64 &&& 63)) &&& 255).toInt32))))] H := hP
                            have hD : va_D A [(h0, .inr (5, [.ref h1, .int 0, .ref h2, .int 0, .int 0, .ref h3, .ref h4, .ref h5, .ref h6, .int 0, .ref h7, .ref h8, .ref h9, .int 0, .ref h10, .ref h11, .ref h12, .ref h13, .ref h14, .ref h15, .ref h16, .ref h17, .ref h18, .ref h19, .ref h20, .ref h21, .ref h22])), (h2, .inl (zI g, 60, .inl (upd (fun _ => 0) 0 (((p1 >>> ((40 : Int32).toInt64 &&& 63)) &&& 255).toInt32))))] := hD
                            refine lv_aload_n hx hb dX5_type_99 rfl (lv_at hl 1 rfl) ?_
                            refine lv_dup hx hb dX5_type_100 rfl ?_
                            refine va_get (D := g.1) (ci := 5) (v := .int 0) (C := RX5) (T := TX5) (N := 27) hx hb hts zl_X5 hown hK hP 0 rfl rfl 3 (by decide) (hts _ m_f_RX5_114) (fun _ h => h) rfl dX5_type_101 ?_
                            refine lv_iconst (v := 1) hx hb dX5_type_104 (by decide) ?_
                            refine lv_iadd hx hb dX5_type_105 ?_
                            refine lv_topi (nm_r (e' := 1) (by decide +kernel) ?_)
                            refine va_put (D := g.1) (ci := 5) (v := .int 1) (ty := .int) (C := RX5) (T := TX5) (N := 27) hx hb hts zl_X5 tyX5 tyX5_ok nmX5 hown hK hP hD hS 0 rfl rfl 3 (by decide) (hts _ m_f_RX5_114) (fun _ h => h) rfl (by decide +kernel) rfl rfl (Nat.le_of_ble_eq_true rfl) dX5_type_106 (fun H locs hP hD hS => ?_)
                            have hP : va_P g.1 vwCl [(h0, .inr (5, [.ref h1, .int 0, .ref h2, .int 1, .int 0, .ref h3, .ref h4, .ref h5, .ref h6, .int 0, .ref h7, .ref h8, .ref h9, .int 0, .ref h10, .ref h11, .ref h12, .ref h13, .ref h14, .ref h15, .ref h16, .ref h17, .ref h18, .ref h19, .ref h20, .ref h21, .ref h22])), (h2, .inl (zI g, 60, .inl (upd (fun _ => 0) 0 (((p1 >>> ((40 : Int32).toInt64 &&& 63)) &&& 255).toInt32))))] H := hP
                            have hD : va_D A [(h0, .inr (5, [.ref h1, .int 0, .ref h2, .int 1, .int 0, .ref h3, .ref h4, .ref h5, .ref h6, .int 0, .ref h7, .ref h8, .ref h9, .int 0, .ref h10, .ref h11, .ref h12, .ref h13, .ref h14, .ref h15, .ref h16, .ref h17, .ref h18, .ref h19, .ref h20, .ref h21, .ref h22])), (h2, .inl (zI g, 60, .inl (upd (fun _ => 0) 0 (((p1 >>> ((40 : Int32).toInt64 &&& 63)) &&& 255).toInt32))))] := hD
                            refine lv_iinc (v := 4) (lv' := [(4, .int 4), (0, .ref h0), (1, .long p1), (3, .int 6)]) hx hb dX5_type_109 hl (k := 0) rfl (by decide) (by decide) rfl (fun ls hl => ?_)
                            refine lv_goto (tgt := 73) hx hb dX5_type_112 (by decide) ?_
                            refine lv_iload hx hb dX5_type_73 (lv_at hl 0 rfl) ?_
                            refine lv_if_lt (tgt := 115) hx hb dX5_type_75 (by decide) (fun h => absurd h (by decide +kernel)) (fun _ => ?_)
                            refine lv_aload_n hx hb dX5_type_78 rfl (lv_at hl 1 rfl) ?_
                            refine va_get (D := g.1) (ci := 5) (v := .ref h2) (C := RX5) (T := TX5) (N := 27) hx hb hts zl_X5 hown hK hP 0 rfl rfl 2 (by decide) (hts _ m_f_RX5_13) (fun _ h => h) rfl dX5_type_79 ?_
                            refine lv_aload_n hx hb dX5_type_82 rfl (lv_at hl 1 rfl) ?_
                            refine va_get (D := g.1) (ci := 5) (v := .int 1) (C := RX5) (T := TX5) (N := 27) hx hb hts zl_X5 hown hK hP 0 rfl rfl 3 (by decide) (hts _ m_f_RX5_114) (fun _ h => h) rfl dX5_type_83 ?_
                            refine lv_lload_n hx hb dX5_type_86 rfl (lv_at hl 2 rfl) ?_
                            refine lv_bipush (v := 8) hx hb dX5_type_87 (by decide) ?_
                            refine lv_iload hx hb dX5_type_89 (lv_at hl 0 rfl) ?_
                            refine lv_imul hx hb dX5_type_91 ?_
                            refine lv_topi (nm_r (e' := 32) (by decide +kernel) ?_)
                            refine lv_lshr (v := (p1 >>> ((32 : Int32).toInt64 &&& 63))) hx hb dX5_type_92 rfl ?_
                            refine lv_ldc2 (v := 255) hx hb hown (hts _ m_k_RX5_108) dX5_type_93 ?_
                            refine lv_land hx hb dX5_type_96 ?_
                            refine lv_l2i (v := ((p1 >>> ((32 : Int32).toInt64 &&& 63)) &&& 255).toInt32) hx hb dX5_type_97 rfl ?_
                            refine va_iast (D := g.1) hx hb hK hP hD hS 1 0 rfl rfl (vp_in_iff.mpr (by decide +kernel)) dX5_type_98 (fun H locs hP hD hS => ?_)
                            have hP : va_P g.1 vwCl [(h0, .inr (5, [.ref h1, .int 0, .ref h2, .int 1, .int 0, .ref h3, .ref h4, .ref h5, .ref h6, .int 0, .ref h7, .ref h8, .ref h9, .int 0, .ref h10, .ref h11, .ref h12, .ref h13, .ref h14, .ref h15, .ref h16, .ref h17, .ref h18, .ref h19, .ref h20, .ref h21, .ref h22])), (h2, .inl (zI g, 60, .inl (upd (upd (fun _ => 0) 0 (((p1 >>> ((40 : Int32).toInt64 &&& 63)) &&& 255).toInt32)) 1 (((p1 >>> ((32 : Int32).toInt64 &&& 63)) &&& 255).toInt32))))] H := hP
                            have hD : va_D A [(h0, .inr (5, [.ref h1, .int 0, .ref h2, .int 1, .int 0, .ref h3, .ref h4, .ref h5, .ref h6, .int 0, .ref h7, .ref h8, .ref h9, .int 0, .ref h10, .ref h11, .ref h12, .ref h13, .ref h14, .ref h15, .ref h16, .ref h17, .ref h18, .ref h19, .ref h20, .ref h21, .ref h22])), (h2, .inl (zI g, 60, .inl (upd (upd (fun _ => 0) 0 (((p1 >>> ((40 : Int32).toInt64 &&& 63)) &&& 255).toInt32)) 1 (((p1 >>> ((32 : Int32).toInt64 &&& 63)) &&& 255).toInt32))))] := hD
                            refine lv_aload_n hx hb dX5_type_99 rfl (lv_at hl 1 rfl) ?_
                            refine lv_dup hx hb dX5_type_100 rfl ?_
                            refine va_get (D := g.1) (ci := 5) (v := .int 1) (C := RX5) (T := TX5) (N := 27) hx hb hts zl_X5 hown hK hP 0 rfl rfl 3 (by decide) (hts _ m_f_RX5_114) (fun _ h => h) rfl dX5_type_101 ?_
                            refine lv_iconst (v := 1) hx hb dX5_type_104 (by decide) ?_
                            refine lv_iadd hx hb dX5_type_105 ?_
                            refine lv_topi (nm_r (e' := 2) (by decide +kernel) ?_)
                            refine va_put (D := g.1) (ci := 5) (v := .int 2) (ty := .int) (C := RX5) (T := TX5) (N := 27) hx hb hts zl_X5 tyX5 tyX5_ok nmX5 hown hK hP hD hS 0 rfl rfl 3 (by decide) (hts _ m_f_RX5_114) (fun _ h => h) rfl (by decide +kernel) rfl rfl (Nat.le_of_ble_eq_true rfl) dX5_type_106 (fun H locs hP hD hS => ?_)
                            have hP : va_P g.1 vwCl [(h0, .inr (5, [.ref h1, .int 0, .ref h2, .int 2, .int 0, .ref h3, .ref h4, .ref h5, .ref h6, .int 0, .ref h7, .ref h8, .ref h9, .int 0, .ref h10, .ref h11, .ref h12, .ref h13, .ref h14, .ref h15, .ref h16, .ref h17, .ref h18, .ref h19, .ref h20, .ref h21, .ref h22])), (h2, .inl (zI g, 60, .inl (upd (upd (fun _ => 0) 0 (((p1 >>> ((40 : Int32).toInt64 &&& 63)) &&& 255).toInt32)) 1 (((p1 >>> ((32 : Int32).toInt64 &&& 63)) &&& 255).toInt32))))] H := hP
                            have hD : va_D A [(h0, .inr (5, [.ref h1, .int 0, .ref h2, .int 2, .int 0, .ref h3, .ref h4, .ref h5, .ref h6, .int 0, .ref h7, .ref h8, .ref h9, .int 0, .ref h10, .ref h11, .ref h12, .ref h13, .ref h14, .ref h15, .ref h16, .ref h17, .ref h18, .ref h19, .ref h20, .ref h21, .ref h22])), (h2, .inl (zI g, 60, .inl (upd (upd (fun _ => 0) 0 (((p1 >>> ((40 : Int32).toInt64 &&& 63)) &&& 255).toInt32)) 1 (((p1 >>> ((32 : Int32).toInt64 &&& 63)) &&& 255).toInt32))))] := hD
                            refine lv_iinc (v := 3) (lv' := [(4, .int 3), (0, .ref h0), (1, .long p1), (3, .int 6)]) hx hb dX5_type_109 hl (k := 0) rfl (by decide) (by decide) rfl (fun ls hl => ?_)
                            refine lv_goto (tgt := 73) hx hb dX5_type_112 (by decide) ?_
                            refine lv_iload hx hb dX5_type_73 (lv_at hl 0 rfl) ?_
                            refine lv_if_lt (tgt := 115) hx hb dX5_type_75 (by decide) (fun h => absurd h (by decide +kernel)) (fun _ => ?_)
                            refine lv_aload_n hx hb dX5_type_78 rfl (lv_at hl 1 rfl) ?_
                            refine va_get (D := g.1) (ci := 5) (v := .ref h2) (C := RX5) (T := TX5) (N := 27) hx hb hts zl_X5 hown hK hP 0 rfl rfl 2 (by decide) (hts _ m_f_RX5_13) (fun _ h => h) rfl dX5_type_79 ?_
                            refine lv_aload_n hx hb dX5_type_82 rfl (lv_at hl 1 rfl) ?_
                            refine va_get (D := g.1) (ci := 5) (v := .int 2) (C := RX5) (T := TX5) (N := 27) hx hb hts zl_X5 hown hK hP 0 rfl rfl 3 (by decide) (hts _ m_f_RX5_114) (fun _ h => h) rfl dX5_type_83 ?_
                            refine lv_lload_n hx hb dX5_type_86 rfl (lv_at hl 2 rfl) ?_
                            refine lv_bipush (v := 8) hx hb dX5_type_87 (by decide) ?_
                            refine lv_iload hx hb dX5_type_89 (lv_at hl 0 rfl) ?_
                            refine lv_imul hx hb dX5_type_91 ?_
                            refine lv_topi (nm_r (e' := 24) (by decide +kernel) ?_)
                            refine lv_lshr (v := (p1 >>> ((24 : Int32).toInt64 &&& 63))) hx hb dX5_type_92 rfl ?_
                            refine lv_ldc2 (v := 255) hx hb hown (hts _ m_k_RX5_108) dX5_type_93 ?_
                            refine lv_land hx hb dX5_type_96 ?_
                            refine lv_l2i (v := ((p1 >>> ((24 : Int32).toInt64 &&& 63)) &&& 255).toInt32) hx hb dX5_type_97 rfl ?_
                            refine va_iast (D := g.1) hx hb hK hP hD hS 1 0 rfl rfl (vp_in_iff.mpr (by decide +kernel)) dX5_type_98 (fun H locs hP hD hS => ?_)
                            have hP : va_P g.1 vwCl [(h0, .inr (5, [.ref h1, .int 0, .ref h2, .int 2, .int 0, .ref h3, .ref h4, .ref h5, .ref h6, .int 0, .ref h7, .ref h8, .ref h9, .int 0, .ref h10, .ref h11, .ref h12, .ref h13, .ref h14, .ref h15, .ref h16, .ref h17, .ref h18, .ref h19, .ref h20, .ref h21, .ref h22])), (h2, .inl (zI g, 60, .inl (upd (upd (upd (fun _ => 0) 0 (((p1 >>> ((40 : Int32).toInt64 &&& 63)) &&& 255).toInt32)) 1 (((p1 >>> ((32 : Int32).toInt64 &&& 63)) &&& 255).toInt32)) 2 (((p1 >>> ((24 : Int32).toInt64 &&& 63)) &&& 255).toInt32))))] H := hP
                            have hD : va_D A [(h0, .inr (5, [.ref h1, .int 0, .ref h2, .int 2, .int 0, .ref h3, .ref h4, .ref h5, .ref h6, .int 0, .ref h7, .ref h8, .ref h9, .int 0, .ref h10, .ref h11, .ref h12, .ref h13, .ref h14, .ref h15, .ref h16, .ref h17, .ref h18, .ref h19, .ref h20, .ref h21, .ref h22])), (h2, .inl (zI g, 60, .inl (upd (upd (upd (fun _ => 0) 0 (((p1 >>> ((40 : Int32).toInt64 &&& 63)) &&& 255).toInt32)) 1 (((p1 >>> ((32 : Int32).toInt64 &&& 63)) &&& 255).toInt32)) 2 (((p1 >>> ((24 : Int32).toInt64 &&& 63)) &&& 255).toInt32))))] := hD
                            refine lv_aload_n hx hb dX5_type_99 rfl (lv_at hl 1 rfl) ?_
                            refine lv_dup hx hb dX5_type_100 rfl ?_
                            refine va_get (D := g.1) (ci := 5) (v := .int 2) (C := RX5) (T := TX5) (N := 27) hx hb hts zl_X5 hown hK hP 0 rfl rfl 3 (by decide) (hts _ m_f_RX5_114) (fun _ h => h) rfl dX5_type_101 ?_
                            refine lv_iconst (v := 1) hx hb dX5_type_104 (by decide) ?_
                            refine lv_iadd hx hb dX5_type_105 ?_
                            refine lv_topi (nm_r (e' := 3) (by decide +kernel) ?_)
                            refine va_put (D := g.1) (ci := 5) (v := .int 3) (ty := .int) (C := RX5) (T := TX5) (N := 27) hx hb hts zl_X5 tyX5 tyX5_ok nmX5 hown hK hP hD hS 0 rfl rfl 3 (by decide) (hts _ m_f_RX5_114) (fun _ h => h) rfl (by decide +kernel) rfl rfl (Nat.le_of_ble_eq_true rfl) dX5_type_106 (fun H locs hP hD hS => ?_)
                            have hP : va_P g.1 vwCl [(h0, .inr (5, [.ref h1, .int 0, .ref h2, .int 3, .int 0, .ref h3, .ref h4, .ref h5, .ref h6, .int 0, .ref h7, .ref h8, .ref h9, .int 0, .ref h10, .ref h11, .ref h12, .ref h13, .ref h14, .ref h15, .ref h16, .ref h17, .ref h18, .ref h19, .ref h20, .ref h21, .ref h22])), (h2, .inl (zI g, 60, .inl (upd (upd (upd (fun _ => 0) 0 (((p1 >>> ((40 : Int32).toInt64 &&& 63)) &&& 255).toInt32)) 1 (((p1 >>> ((32 : Int32).toInt64 &&& 63)) &&& 255).toInt32)) 2 (((p1 >>> ((24 : Int32).toInt64 &&& 63)) &&& 255).toInt32))))] H := hP
                            have hD : va_D A [(h0, .inr (5, [.ref h1, .int 0, .ref h2, .int 3, .int 0, .ref h3, .ref h4, .ref h5, .ref h6, .int 0, .ref h7, .ref h8, .ref h9, .int 0, .ref h10, .ref h11, .ref h12, .ref h13, .ref h14, .ref h15, .ref h16, .ref h17, .ref h18, .ref h19, .ref h20, .ref h21, .ref h22])), (h2, .inl (zI g, 60, .inl (upd (upd (upd (fun _ => 0) 0 (((p1 >>> ((40 : Int32).toInt64 &&& 63)) &&& 255).toInt32)) 1 (((p1 >>> ((32 : Int32).toInt64 &&& 63)) &&& 255).toInt32)) 2 (((p1 >>> ((24 : Int32).toInt64 &&& 63)) &&& 255).toInt32))))] := hD
                            refine lv_iinc (v := 2) (lv' := [(4, .int 2), (0, .ref h0), (1, .long p1), (3, .int 6)]) hx hb dX5_type_109 hl (k := 0) rfl (by decide) (by decide) rfl (fun ls hl => ?_)
                            refine lv_goto (tgt := 73) hx hb dX5_type_112 (by decide) ?_
                            refine lv_iload hx hb dX5_type_73 (lv_at hl 0 rfl) ?_
                            refine lv_if_lt (tgt := 115) hx hb dX5_type_75 (by decide) (fun h => absurd h (by decide +kernel)) (fun _ => ?_)
                            refine lv_aload_n hx hb dX5_type_78 rfl (lv_at hl 1 rfl) ?_
                            refine va_get (D := g.1) (ci := 5) (v := .ref h2) (C := RX5) (T := TX5) (N := 27) hx hb hts zl_X5 hown hK hP 0 rfl rfl 2 (by decide) (hts _ m_f_RX5_13) (fun _ h => h) rfl dX5_type_79 ?_
                            refine lv_aload_n hx hb dX5_type_82 rfl (lv_at hl 1 rfl) ?_
                            refine va_get (D := g.1) (ci := 5) (v := .int 3) (C := RX5) (T := TX5) (N := 27) hx hb hts zl_X5 hown hK hP 0 rfl rfl 3 (by decide) (hts _ m_f_RX5_114) (fun _ h => h) rfl dX5_type_83 ?_
                            refine lv_lload_n hx hb dX5_type_86 rfl (lv_at hl 2 rfl) ?_
                            refine lv_bipush (v := 8) hx hb dX5_type_87 (by decide) ?_
                            refine lv_iload hx hb dX5_type_89 (lv_at hl 0 rfl) ?_
                            refine lv_imul hx hb dX5_type_91 ?_
                            refine lv_topi (nm_r (e' := 16) (by decide +kernel) ?_)
                            refine lv_lshr (v := (p1 >>> ((16 : Int32).toInt64 &&& 63))) hx hb dX5_type_92 rfl ?_
                            refine lv_ldc2 (v := 255) hx hb hown (hts _ m_k_RX5_108) dX5_type_93 ?_
                            refine lv_land hx hb dX5_type_96 ?_
                            refine lv_l2i (v := ((p1 >>> ((16 : Int32).toInt64 &&& 63)) &&& 255).toInt32) hx hb dX5_type_97 rfl ?_
                            refine va_iast (D := g.1) hx hb hK hP hD hS 1 0 rfl rfl (vp_in_iff.mpr (by decide +kernel)) dX5_type_98 (fun H locs hP hD hS => ?_)
                            have hP : va_P g.1 vwCl [(h0, .inr (5, [.ref h1, .int 0, .ref h2, .int 3, .int 0, .ref h3, .ref h4, .ref h5, .ref h6, .int 0, .ref h7, .ref h8, .ref h9, .int 0, .ref h10, .ref h11, .ref h12, .ref h13, .ref h14, .ref h15, .ref h16, .ref h17, .ref h18, .ref h19, .ref h20, .ref h21, .ref h22])), (h2, .inl (zI g, 60, .inl (upd (upd (upd (upd (fun _ => 0) 0 (((p1 >>> ((40 : Int32).toInt64 &&& 63)) &&& 255).toInt32)) 1 (((p1 >>> ((32 : Int32).toInt64 &&& 63)) &&& 255).toInt32)) 2 (((p1 >>> ((24 : Int32).toInt64 &&& 63)) &&& 255).toInt32)) 3 (((p1 >>> ((16 : Int32).toInt64 &&& 63)) &&& 255).toInt32))))] H := hP
                            have hD : va_D A [(h0, .inr (5, [.ref h1, .int 0, .ref h2, .int 3, .int 0, .ref h3, .ref h4, .ref h5, .ref h6, .int 0, .ref h7, .ref h8, .ref h9, .int 0, .ref h10, .ref h11, .ref h12, .ref h13, .ref h14, .ref h15, .ref h16, .ref h17, .ref h18, .ref h19, .ref h20, .ref h21, .ref h22])), (h2, .inl (zI g, 60, .inl (upd (upd (upd (upd (fun _ => 0) 0 (((p1 >>> ((40 : Int32).toInt64 &&& 63)) &&& 255).toInt32)) 1 (((p1 >>> ((32 : Int32).toInt64 &&& 63)) &&& 255).toInt32)) 2 (((p1 >>> ((24 : Int32).toInt64 &&& 63)) &&& 255).toInt32)) 3 (((p1 >>> ((16 : Int32).toInt64 &&& 63)) &&& 255).toInt32))))] := hD
                            refine lv_aload_n hx hb dX5_type_99 rfl (lv_at hl 1 rfl) ?_
                            refine lv_dup hx hb dX5_type_100 rfl ?_
                            refine va_get (D := g.1) (ci := 5) (v := .int 3) (C := RX5) (T := TX5) (N := 27) hx hb hts zl_X5 hown hK hP 0 rfl rfl 3 (by decide) (hts _ m_f_RX5_114) (fun _ h => h) rfl dX5_type_101 ?_
                            refine lv_iconst (v := 1) hx hb dX5_type_104 (by decide) ?_
                            refine lv_iadd hx hb dX5_type_105 ?_
                            refine lv_topi (nm_r (e' := 4) (by decide +kernel) ?_)
                            refine va_put (D := g.1) (ci := 5) (v := .int 4) (ty := .int) (C := RX5) (T := TX5) (N := 27) hx hb hts zl_X5 tyX5 tyX5_ok nmX5 hown hK hP hD hS 0 rfl rfl 3 (by decide) (hts _ m_f_RX5_114) (fun _ h => h) rfl (by decide +kernel) rfl rfl (Nat.le_of_ble_eq_true rfl) dX5_type_106 (fun H locs hP hD hS => ?_)
                            have hP : va_P g.1 vwCl [(h0, .inr (5, [.ref h1, .int 0, .ref h2, .int 4, .int 0, .ref h3, .ref h4, .ref h5, .ref h6, .int 0, .ref h7, .ref h8, .ref h9, .int 0, .ref h10, .ref h11, .ref h12, .ref h13, .ref h14, .ref h15, .ref h16, .ref h17, .ref h18, .ref h19, .ref h20, .ref h21, .ref h22])), (h2, .inl (zI g, 60, .inl (upd (upd (upd (upd (fun _ => 0) 0 (((p1 >>> ((40 : Int32).toInt64 &&& 63)) &&& 255).toInt32)) 1 (((p1 >>> ((32 : Int32).toInt64 &&& 63)) &&& 255).toInt32)) 2 (((p1 >>> ((24 : Int32).toInt64 &&& 63)) &&& 255).toInt32)) 3 (((p1 >>> ((16 : Int32).toInt64 &&& 63)) &&& 255).toInt32))))] H := hP
                            have hD : va_D A [(h0, .inr (5, [.ref h1, .int 0, .ref h2, .int 4, .int 0, .ref h3, .ref h4, .ref h5, .ref h6, .int 0, .ref h7, .ref h8, .ref h9, .int 0, .ref h10, .ref h11, .ref h12, .ref h13, .ref h14, .ref h15, .ref h16, .ref h17, .ref h18, .ref h19, .ref h20, .ref h21, .ref h22])), (h2, .inl (zI g, 60, .inl (upd (upd (upd (upd (fun _ => 0) 0 (((p1 >>> ((40 : Int32).toInt64 &&& 63)) &&& 255).toInt32)) 1 (((p1 >>> ((32 : Int32).toInt64 &&& 63)) &&& 255).toInt32)) 2 (((p1 >>> ((24 : Int32).toInt64 &&& 63)) &&& 255).toInt32)) 3 (((p1 >>> ((16 : Int32).toInt64 &&& 63)) &&& 255).toInt32))))] := hD
                            refine lv_iinc (v := 1) (lv' := [(4, .int 1), (0, .ref h0), (1, .long p1), (3, .int 6)]) hx hb dX5_type_109 hl (k := 0) rfl (by decide) (by decide) rfl (fun ls hl => ?_)
                            refine lv_goto (tgt := 73) hx hb dX5_type_112 (by decide) ?_
                            refine lv_iload hx hb dX5_type_73 (lv_at hl 0 rfl) ?_
                            refine lv_if_lt (tgt := 115) hx hb dX5_type_75 (by decide) (fun h => absurd h (by decide +kernel)) (fun _ => ?_)
                            refine lv_aload_n hx hb dX5_type_78 rfl (lv_at hl 1 rfl) ?_
                            refine va_get (D := g.1) (ci := 5) (v := .ref h2) (C := RX5) (T := TX5) (N := 27) hx hb hts zl_X5 hown hK hP 0 rfl rfl 2 (by decide) (hts _ m_f_RX5_13) (fun _ h => h) rfl dX5_type_79 ?_
                            refine lv_aload_n hx hb dX5_type_82 rfl (lv_at hl 1 rfl) ?_
                            refine va_get (D := g.1) (ci := 5) (v := .int 4) (C := RX5) (T := TX5) (N := 27) hx hb hts zl_X5 hown hK hP 0 rfl rfl 3 (by decide) (hts _ m_f_RX5_114) (fun _ h => h) rfl dX5_type_83 ?_
                            refine lv_lload_n hx hb dX5_type_86 rfl (lv_at hl 2 rfl) ?_
                            refine lv_bipush (v := 8) hx hb dX5_type_87 (by decide) ?_
                            refine lv_iload hx hb dX5_type_89 (lv_at hl 0 rfl) ?_
                            refine lv_imul hx hb dX5_type_91 ?_
                            refine lv_topi (nm_r (e' := 8) (by decide +kernel) ?_)
                            refine lv_lshr (v := (p1 >>> ((8 : Int32).toInt64 &&& 63))) hx hb dX5_type_92 rfl ?_
                            refine lv_ldc2 (v := 255) hx hb hown (hts _ m_k_RX5_108) dX5_type_93 ?_
                            refine lv_land hx hb dX5_type_96 ?_
                            refine lv_l2i (v := ((p1 >>> ((8 : Int32).toInt64 &&& 63)) &&& 255).toInt32) hx hb dX5_type_97 rfl ?_
                            refine va_iast (D := g.1) hx hb hK hP hD hS 1 0 rfl rfl (vp_in_iff.mpr (by decide +kernel)) dX5_type_98 (fun H locs hP hD hS => ?_)
                            have hP : va_P g.1 vwCl [(h0, .inr (5, [.ref h1, .int 0, .ref h2, .int 4, .int 0, .ref h3, .ref h4, .ref h5, .ref h6, .int 0, .ref h7, .ref h8, .ref h9, .int 0, .ref h10, .ref h11, .ref h12, .ref h13, .ref h14, .ref h15, .ref h16, .ref h17, .ref h18, .ref h19, .ref h20, .ref h21, .ref h22])), (h2, .inl (zI g, 60, .inl (upd (upd (upd (upd (upd (fun _ => 0) 0 (((p1 >>> ((40 : Int32).toInt64 &&& 63)) &&& 255).toInt32)) 1 (((p1 >>> ((32 : Int32).toInt64 &&& 63)) &&& 255).toInt32)) 2 (((p1 >>> ((24 : Int32).toInt64 &&& 63)) &&& 255).toInt32)) 3 (((p1 >>> ((16 : Int32).toInt64 &&& 63)) &&& 255).toInt32)) 4 (((p1 >>> ((8 : Int32).toInt64 &&& 63)) &&& 255).toInt32))))] H := hP
                            have hD : va_D A [(h0, .inr (5, [.ref h1, .int 0, .ref h2, .int 4, .int 0, .ref h3, .ref h4, .ref h5, .ref h6, .int 0, .ref h7, .ref h8, .ref h9, .int 0, .ref h10, .ref h11, .ref h12, .ref h13, .ref h14, .ref h15, .ref h16, .ref h17, .ref h18, .ref h19, .ref h20, .ref h21, .ref h22])), (h2, .inl (zI g, 60, .inl (upd (upd (upd (upd (upd (fun _ => 0) 0 (((p1 >>> ((40 : Int32).toInt64 &&& 63)) &&& 255).toInt32)) 1 (((p1 >>> ((32 : Int32).toInt64 &&& 63)) &&& 255).toInt32)) 2 (((p1 >>> ((24 : Int32).toInt64 &&& 63)) &&& 255).toInt32)) 3 (((p1 >>> ((16 : Int32).toInt64 &&& 63)) &&& 255).toInt32)) 4 (((p1 >>> ((8 : Int32).toInt64 &&& 63)) &&& 255).toInt32))))] := hD
                            refine lv_aload_n hx hb dX5_type_99 rfl (lv_at hl 1 rfl) ?_
                            refine lv_dup hx hb dX5_type_100 rfl ?_
                            refine va_get (D := g.1) (ci := 5) (v := .int 4) (C := RX5) (T := TX5) (N := 27) hx hb hts zl_X5 hown hK hP 0 rfl rfl 3 (by decide) (hts _ m_f_RX5_114) (fun _ h => h) rfl dX5_type_101 ?_
                            refine lv_iconst (v := 1) hx hb dX5_type_104 (by decide) ?_
                            refine lv_iadd hx hb dX5_type_105 ?_
                            refine lv_topi (nm_r (e' := 5) (by decide +kernel) ?_)
                            refine va_put (D := g.1) (ci := 5) (v := .int 5) (ty := .int) (C := RX5) (T := TX5) (N := 27) hx hb hts zl_X5 tyX5 tyX5_ok nmX5 hown hK hP hD hS 0 rfl rfl 3 (by decide) (hts _ m_f_RX5_114) (fun _ h => h) rfl (by decide +kernel) rfl rfl (Nat.le_of_ble_eq_true rfl) dX5_type_106 (fun H locs hP hD hS => ?_)
                            have hP : va_P g.1 vwCl [(h0, .inr (5, [.ref h1, .int 0, .ref h2, .int 5, .int 0, .ref h3, .ref h4, .ref h5, .ref h6, .int 0, .ref h7, .ref h8, .ref h9, .int 0, .ref h10, .ref h11, .ref h12, .ref h13, .ref h14, .ref h15, .ref h16, .ref h17, .ref h18, .ref h19, .ref h20, .ref h21, .ref h22])), (h2, .inl (zI g, 60, .inl (upd (upd (upd (upd (upd (fun _ => 0) 0 (((p1 >>> ((40 : Int32).toInt64 &&& 63)) &&& 255).toInt32)) 1 (((p1 >>> ((32 : Int32).toInt64 &&& 63)) &&& 255).toInt32)) 2 (((p1 >>> ((24 : Int32).toInt64 &&& 63)) &&& 255).toInt32)) 3 (((p1 >>> ((16 : Int32).toInt64 &&& 63)) &&& 255).toInt32)) 4 (((p1 >>> ((8 : Int32).toInt64 &&& 63)) &&& 255).toInt32))))] H := hP
                            have hD : va_D A [(h0, .inr (5, [.ref h1, .int 0, .ref h2, .int 5, .int 0, .ref h3, .ref h4, .ref h5, .ref h6, .int 0, .ref h7, .ref h8, .ref h9, .int 0, .ref h10, .ref h11, .ref h12, .ref h13, .ref h14, .ref h15, .ref h16, .ref h17, .ref h18, .ref h19, .ref h20, .ref h21, .ref h22])), (h2, .inl (zI g, 60, .inl (upd (upd (upd (upd (upd (fun _ => 0) 0 (((p1 >>> ((40 : Int32).toInt64 &&& 63)) &&& 255).toInt32)) 1 (((p1 >>> ((32 : Int32).toInt64 &&& 63)) &&& 255).toInt32)) 2 (((p1 >>> ((24 : Int32).toInt64 &&& 63)) &&& 255).toInt32)) 3 (((p1 >>> ((16 : Int32).toInt64 &&& 63)) &&& 255).toInt32)) 4 (((p1 >>> ((8 : Int32).toInt64 &&& 63)) &&& 255).toInt32))))] := hD
                            refine lv_iinc (v := 0) (lv' := [(4, .int 0), (0, .ref h0), (1, .long p1), (3, .int 6)]) hx hb dX5_type_109 hl (k := 0) rfl (by decide) (by decide) rfl (fun ls hl => ?_)
                            refine lv_goto (tgt := 73) hx hb dX5_type_112 (by decide) ?_
                            refine lv_iload hx hb dX5_type_73 (lv_at hl 0 rfl) ?_
                            refine lv_if_lt (tgt := 115) hx hb dX5_type_75 (by decide) (fun h => absurd h (by decide +kernel)) (fun _ => ?_)
                            refine lv_aload_n hx hb dX5_type_78 rfl (lv_at hl 1 rfl) ?_
                            refine va_get (D := g.1) (ci := 5) (v := .ref h2) (C := RX5) (T := TX5) (N := 27) hx hb hts zl_X5 hown hK hP 0 rfl rfl 2 (by decide) (hts _ m_f_RX5_13) (fun _ h => h) rfl dX5_type_79 ?_
                            refine lv_aload_n hx hb dX5_type_82 rfl (lv_at hl 1 rfl) ?_
                            refine va_get (D := g.1) (ci := 5) (v := .int 5) (C := RX5) (T := TX5) (N := 27) hx hb hts zl_X5 hown hK hP 0 rfl rfl 3 (by decide) (hts _ m_f_RX5_114) (fun _ h => h) rfl dX5_type_83 ?_
                            refine lv_lload_n hx hb dX5_type_86 rfl (lv_at hl 2 rfl) ?_
                            refine lv_bipush (v := 8) hx hb dX5_type_87 (by decide) ?_
                            refine lv_iload hx hb dX5_type_89 (lv_at hl 0 rfl) ?_
                            refine lv_imul hx hb dX5_type_91 ?_
                            refine lv_topi (nm_r (e' := 0) (by decide +kernel) ?_)
                            refine lv_lshr (v := (p1 >>> ((0 : Int32).toInt64 &&& 63))) hx hb dX5_type_92 rfl ?_
                            refine lv_ldc2 (v := 255) hx hb hown (hts _ m_k_RX5_108) dX5_type_93 ?_
                            refine lv_land hx hb dX5_type_96 ?_
                            refine lv_l2i (v := ((p1 >>> ((0 : Int32).toInt64 &&& 63)) &&& 255).toInt32) hx hb dX5_type_97 rfl ?_
                            refine va_iast (D := g.1) hx hb hK hP hD hS 1 0 rfl rfl (vp_in_iff.mpr (by decide +kernel)) dX5_type_98 (fun H locs hP hD hS => ?_)
                            have hP : va_P g.1 vwCl [(h0, .inr (5, [.ref h1, .int 0, .ref h2, .int 5, .int 0, .ref h3, .ref h4, .ref h5, .ref h6, .int 0, .ref h7, .ref h8, .ref h9, .int 0, .ref h10, .ref h11, .ref h12, .ref h13, .ref h14, .ref h15, .ref h16, .ref h17, .ref h18, .ref h19, .ref h20, .ref h21, .ref h22])), (h2, .inl (zI g, 60, .inl (upd (upd (upd (upd (upd (upd (fun _ => 0) 0 (((p1 >>> ((40 : Int32).toInt64 &&& 63)) &&& 255).toInt32)) 1 (((p1 >>> ((32 : Int32).toInt64 &&& 63)) &&& 255).toInt32)) 2 (((p1 >>> ((24 : Int32).toInt64 &&& 63)) &&& 255).toInt32)) 3 (((p1 >>> ((16 : Int32).toInt64 &&& 63)) &&& 255).toInt32)) 4 (((p1 >>> ((8 : Int32).toInt64 &&& 63)) &&& 255).toInt32)) 5 (((p1 >>> ((0 : Int32).toInt64 &&& 63)) &&& 255).toInt32))))] H := hP
                            have hD : va_D A [(h0, .inr (5, [.ref h1, .int 0, .ref h2, .int 5, .int 0, .ref h3, .ref h4, .ref h5, .ref h6, .int 0, .ref h7, .ref h8, .ref h9, .int 0, .ref h10, .ref h11, .ref h12, .ref h13, .ref h14, .ref h15, .ref h16, .ref h17, .ref h18, .ref h19, .ref h20, .ref h21, .ref h22])), (h2, .inl (zI g, 60, .inl (upd (upd (upd (upd (upd (upd (fun _ => 0) 0 (((p1 >>> ((40 : Int32).toInt64 &&& 63)) &&& 255).toInt32)) 1 (((p1 >>> ((32 : Int32).toInt64 &&& 63)) &&& 255).toInt32)) 2 (((p1 >>> ((24 : Int32).toInt64 &&& 63)) &&& 255).toInt32)) 3 (((p1 >>> ((16 : Int32).toInt64 &&& 63)) &&& 255).toInt32)) 4 (((p1 >>> ((8 : Int32).toInt64 &&& 63)) &&& 255).toInt32)) 5 (((p1 >>> ((0 : Int32).toInt64 &&& 63)) &&& 255).toInt32))))] := hD
                            refine lv_aload_n hx hb dX5_type_99 rfl (lv_at hl 1 rfl) ?_
                            refine lv_dup hx hb dX5_type_100 rfl ?_
                            refine va_get (D := g.1) (ci := 5) (v := .int 5) (C := RX5) (T := TX5) (N := 27) hx hb hts zl_X5 hown hK hP 0 rfl rfl 3 (by decide) (hts _ m_f_RX5_114) (fun _ h => h) rfl dX5_type_101 ?_
                            refine lv_iconst (v := 1) hx hb dX5_type_104 (by decide) ?_
                            refine lv_iadd hx hb dX5_type_105 ?_
                            refine lv_topi (nm_r (e' := 6) (by decide +kernel) ?_)
                            refine va_put (D := g.1) (ci := 5) (v := .int 6) (ty := .int) (C := RX5) (T := TX5) (N := 27) hx hb hts zl_X5 tyX5 tyX5_ok nmX5 hown hK hP hD hS 0 rfl rfl 3 (by decide) (hts _ m_f_RX5_114) (fun _ h => h) rfl (by decide +kernel) rfl rfl (Nat.le_of_ble_eq_true rfl) dX5_type_106 (fun H locs hP hD hS => ?_)
                            have hP : va_P g.1 vwCl [(h0, .inr (5, [.ref h1, .int 0, .ref h2, .int 6, .int 0, .ref h3, .ref h4, .ref h5, .ref h6, .int 0, .ref h7, .ref h8, .ref h9, .int 0, .ref h10, .ref h11, .ref h12, .ref h13, .ref h14, .ref h15, .ref h16, .ref h17, .ref h18, .ref h19, .ref h20, .ref h21, .ref h22])), (h2, .inl (zI g, 60, .inl (upd (upd (upd (upd (upd (upd (fun _ => 0) 0 (((p1 >>> ((40 : Int32).toInt64 &&& 63)) &&& 255).toInt32)) 1 (((p1 >>> ((32 : Int32).toInt64 &&& 63)) &&& 255).toInt32)) 2 (((p1 >>> ((24 : Int32).toInt64 &&& 63)) &&& 255).toInt32)) 3 (((p1 >>> ((16 : Int32).toInt64 &&& 63)) &&& 255).toInt32)) 4 (((p1 >>> ((8 : Int32).toInt64 &&& 63)) &&& 255).toInt32)) 5 (((p1 >>> ((0 : Int32).toInt64 &&& 63)) &&& 255).toInt32))))] H := hP
                            have hD : va_D A [(h0, .inr (5, [.ref h1, .int 0, .ref h2, .int 6, .int 0, .ref h3, .ref h4, .ref h5, .ref h6, .int 0, .ref h7, .ref h8, .ref h9, .int 0, .ref h10, .ref h11, .ref h12, .ref h13, .ref h14, .ref h15, .ref h16, .ref h17, .ref h18, .ref h19, .ref h20, .ref h21, .ref h22])), (h2, .inl (zI g, 60, .inl (upd (upd (upd (upd (upd (upd (fun _ => 0) 0 (((p1 >>> ((40 : Int32).toInt64 &&& 63)) &&& 255).toInt32)) 1 (((p1 >>> ((32 : Int32).toInt64 &&& 63)) &&& 255).toInt32)) 2 (((p1 >>> ((24 : Int32).toInt64 &&& 63)) &&& 255).toInt32)) 3 (((p1 >>> ((16 : Int32).toInt64 &&& 63)) &&& 255).toInt32)) 4 (((p1 >>> ((8 : Int32).toInt64 &&& 63)) &&& 255).toInt32)) 5 (((p1 >>> ((0 : Int32).toInt64 &&& 63)) &&& 255).toInt32))))] := hD
                            refine lv_iinc (v := (-1)) (lv' := [(4, .int (-1)), (0, .ref h0), (1, .long p1), (3, .int 6)]) hx hb dX5_type_109 hl (k := 0) rfl (by decide) (by decide) rfl (fun ls hl => ?_)
                            refine lv_goto (tgt := 73) hx hb dX5_type_112 (by decide) ?_
                            refine lv_iload hx hb dX5_type_73 (lv_at hl 0 rfl) ?_
                            refine lv_if_lt (tgt := 115) hx hb dX5_type_75 (by decide) (fun _ => ?_) (fun h => absurd h (by decide +kernel))
                            refine lv_aload_n hx hb dX5_type_115 rfl (lv_at hl 1 rfl) ?_
                            refine va_get (D := g.1) (ci := 5) (v := .int 6) (C := RX5) (T := TX5) (N := 27) hx hb hts zl_X5 hown hK hP 0 rfl rfl 3 (by decide) (hts _ m_f_RX5_114) (fun _ h => h) rfl dX5_type_116 ?_
                            have hP9 := hP.sub (ws' := []) [] rfl
                            have hD9 := hD.sub (ws' := []) [] (by decide) rfl
                            exact W.iret (v := 6) hx hb hr (fun t ht hW => ⟨⟨6, 0, rfl, Or.inr (Or.inr (Or.inr (Or.inr (Or.inr (Or.inr (Or.inr (Or.inr (Or.inr (Or.inr (Or.inr (Or.inr (Or.inr (Or.inr (Or.inr (Or.inr (Or.inr (Or.inr (Or.inr (Or.inl ⟨i_3, i_4, i_9, i_10, i_11, i_16, i_17, i_18, i_23, i_24, i_25, i_30, i_31, i_32, i_37, i_38, i_39, i_44, i_45, i_46, rfl⟩))))))))))))))))))), by rw [ht]; exact hP9, hD9⟩, hS.F ht⟩) hS.2.2 dX5_type_119
                          · have i_46 : 6 < p2.toInt := z_nle (rfl) (rfl) c_46
                            refine lv_lload_n hx hb dX5_type_23 rfl (lv_at hl 2 rfl) ?_
                            refine lv_bipush (v := 8) hx hb dX5_type_24 (by decide) ?_
                            refine lv_iload hx hb dX5_type_26 (lv_at hl 0 rfl) ?_
                            refine lv_imul hx hb dX5_type_28 ?_
                            refine lv_topi (nm_r (e' := 48) (by decide +kernel) ?_)
                            refine lv_lshr (v := (p1 >>> ((48 : Int32).toInt64 &&& 63))) hx hb dX5_type_29 rfl ?_
                            refine lv_ldc2 (v := 255) hx hb hown (hts _ m_k_RX5_108) dX5_type_30 ?_
                            refine lv_land hx hb dX5_type_33 ?_
                            refine lv_ldc2 (v := 32) hx hb hown (hts _ m_k_RX5_110) dX5_type_34 ?_
                            refine lv_ldc2 (v := 126) hx hb hown (hts _ m_k_RX5_112) dX5_type_37 ?_
                            refine z_calli (wr := [(h0, .inr (5, [.ref h1, .int 0, .ref h2, .int 0, .int 0, .ref h3, .ref h4, .ref h5, .ref h6, .int 0, .ref h7, .ref h8, .ref h9, .int 0, .ref h10, .ref h11, .ref h12, .ref h13, .ref h14, .ref h15, .ref h16, .ref h17, .ref h18, .ref h19, .ref h20, .ref h21, .ref h22])), (h2, .inl (zI g, 60, .inl (fun _ => 0)))]) hP hD hS hA [] [0, 1] (by decide) rfl rfl (by decide) (va_runS (As := [.long ((p1 >>> ((48 : Int32).toInt64 &&& 63)) &&& 255), .long 32, .long 126]) (rest := []) ⟨hx, hb, hml, hown, hts⟩ (kX5_in_18 l g  H.size ((p1 >>> ((48 : Int32).toInt64 &&& 63)) &&& 255)) ⟨callB_of 3 hts (zGood m_o_yX5_in) rfl rfl rfl (hts _ m_z_RX5) (hts _ m_m_RX5_77) ⟨by decide +kernel, by decide +kernel, by decide +kernel⟩ ⟨Nat.le_of_ble_eq_true rfl, Nat.le_of_ble_eq_true rfl⟩, hts _ m_s_yX5_in⟩ (zPreS hK hN hZ hP hD hS hA [] (by decide) rfl rfl) rfl rfl hl.1 rfl (lv_room (Nat.le_of_ble_eq_true rfl)) dX5_type_40 ⟨Nat.le_of_ble_eq_true rfl, Nat.le_of_ble_eq_true rfl⟩) (fun r u H locs hw hP hD hS => ?_)
                            rcases hw with ⟨i_48, rfl⟩ | ⟨i_49, i_50, rfl⟩ | ⟨i_51, i_52, rfl⟩
                            · skip
                              have i_48 : (((p1 >>> ((48 : Int32).toInt64 &&& 63)) &&& 255) : Int64).toInt < 32 := i_48
                              have hP : va_P g.1 vwCl [(h0, .inr (5, [.ref h1, .int 0, .ref h2, .int 0, .int 0, .ref h3, .ref h4, .ref h5, .ref h6, .int 0, .ref h7, .ref h8, .ref h9, .int 0, .ref h10, .ref h11, .ref h12, .ref h13, .ref h14, .ref h15, .ref h16, .ref h17, .ref h18, .ref h19, .ref h20, .ref h21, .ref h22])), (h2, .inl (zI g, 60, .inl (fun _ => 0)))] H := hP
                              have hD : va_D A [(h0, .inr (5, [.ref h1, .int 0, .ref h2, .int 0, .int 0, .ref h3, .ref h4, .ref h5, .ref h6, .int 0, .ref h7, .ref h8, .ref h9, .int 0, .ref h10, .ref h11, .ref h12, .ref h13, .ref h14, .ref h15, .ref h16, .ref h17, .ref h18, .ref h19, .ref h20, .ref h21, .ref h22])), (h2, .inl (zI g, 60, .inl (fun _ => 0)))] := hD
                              refine lv_if_ne (tgt := 48) hx hb dX5_type_43 (by decide) (fun h => absurd h (by decide +kernel)) (fun _ => ?_)
                              refine lv_iconst (v := (-1)) hx hb dX5_type_46 (by decide) ?_
                              have hP9 := hP.sub (ws' := []) [] rfl
                              have hD9 := hD.sub (ws' := []) [] (by decide) rfl
                              exact W.iret (v := (-1)) hx hb hr (fun t ht hW => ⟨⟨(-1), 0, rfl, Or.inr (Or.inr (Or.inr (Or.inr (Or.inr (Or.inr (Or.inr (Or.inr (Or.inr (Or.inr (Or.inr (Or.inr (Or.inr (Or.inr (Or.inr (Or.inr (Or.inr (Or.inr (Or.inr (Or.inr (Or.inl ⟨i_3, i_4, i_9, i_10, i_11, i_16, i_17, i_18, i_23, i_24, i_25, i_30, i_31, i_32, i_37, i_38, i_39, i_44, i_45, i_46, i_48, rfl⟩)))))))))))))))))))), by rw [ht]; exact hP9, hD9⟩, hS.F ht⟩) hS.2.2 dX5_type_47
                            · skip
                              have i_49 : 32 ≤ (((p1 >>> ((48 : Int32).toInt64 &&& 63)) &&& 255) : Int64).toInt := i_49
                              have i_50 : 126 < (((p1 >>> ((48 : Int32).toInt64 &&& 63)) &&& 255) : Int64).toInt := i_50
                              have hP : va_P g.1 vwCl [(h0, .inr (5, [.ref h1, .int 0, .ref h2, .int 0, .int 0, .ref h3, .ref h4, .ref h5, .ref h6, .int 0, .ref h7, .ref h8, .ref h9, .int 0, .ref h10, .ref h11, .ref h12, .ref h13, .ref h14, .ref h15, .ref h16, .ref h17, .ref h18, .ref h19, .ref h20, .ref h21, .ref h22])), (h2, .inl (zI g, 60, .inl (fun _ => 0)))] H := hP
                              have hD : va_D A [(h0, .inr (5, [.ref h1, .int 0, .ref h2, .int 0, .int 0, .ref h3, .ref h4, .ref h5, .ref h6, .int 0, .ref h7, .ref h8, .ref h9, .int 0, .ref h10, .ref h11, .ref h12, .ref h13, .ref h14, .ref h15, .ref h16, .ref h17, .ref h18, .ref h19, .ref h20, .ref h21, .ref h22])), (h2, .inl (zI g, 60, .inl (fun _ => 0)))] := hD
                              refine lv_if_ne (tgt := 48) hx hb dX5_type_43 (by decide) (fun h => absurd h (by decide +kernel)) (fun _ => ?_)
                              refine lv_iconst (v := (-1)) hx hb dX5_type_46 (by decide) ?_
                              have hP9 := hP.sub (ws' := []) [] rfl
                              have hD9 := hD.sub (ws' := []) [] (by decide) rfl
                              exact W.iret (v := (-1)) hx hb hr (fun t ht hW => ⟨⟨(-1), 0, rfl, Or.inr (Or.inr (Or.inr (Or.inr (Or.inr (Or.inr (Or.inr (Or.inr (Or.inr (Or.inr (Or.inr (Or.inr (Or.inr (Or.inr (Or.inr (Or.inr (Or.inr (Or.inr (Or.inr (Or.inr (Or.inr (Or.inl ⟨i_3, i_4, i_9, i_10, i_11, i_16, i_17, i_18, i_23, i_24, i_25, i_30, i_31, i_32, i_37, i_38, i_39, i_44, i_45, i_46, i_49, i_50, rfl⟩))))))))))))))))))))), by rw [ht]; exact hP9, hD9⟩, hS.F ht⟩) hS.2.2 dX5_type_47
                            · skip
                              have i_51 : 32 ≤ (((p1 >>> ((48 : Int32).toInt64 &&& 63)) &&& 255) : Int64).toInt := i_51
                              have i_52 : (((p1 >>> ((48 : Int32).toInt64 &&& 63)) &&& 255) : Int64).toInt ≤ 126 := i_52
                              have hP : va_P g.1 vwCl [(h0, .inr (5, [.ref h1, .int 0, .ref h2, .int 0, .int 0, .ref h3, .ref h4, .ref h5, .ref h6, .int 0, .ref h7, .ref h8, .ref h9, .int 0, .ref h10, .ref h11, .ref h12, .ref h13, .ref h14, .ref h15, .ref h16, .ref h17, .ref h18, .ref h19, .ref h20, .ref h21, .ref h22])), (h2, .inl (zI g, 60, .inl (fun _ => 0)))] H := hP
                              have hD : va_D A [(h0, .inr (5, [.ref h1, .int 0, .ref h2, .int 0, .int 0, .ref h3, .ref h4, .ref h5, .ref h6, .int 0, .ref h7, .ref h8, .ref h9, .int 0, .ref h10, .ref h11, .ref h12, .ref h13, .ref h14, .ref h15, .ref h16, .ref h17, .ref h18, .ref h19, .ref h20, .ref h21, .ref h22])), (h2, .inl (zI g, 60, .inl (fun _ => 0)))] := hD
                              refine lv_if_ne (tgt := 48) hx hb dX5_type_43 (by decide) (fun _ => ?_) (fun h => absurd h (by decide +kernel))
                              refine lv_iinc (v := 7) (lv' := [(4, .int 7), (0, .ref h0), (1, .long p1), (3, .int p2)]) hx hb dX5_type_48 hl (k := 0) rfl (by decide) (by decide) rfl (fun ls hl => ?_)
                              refine lv_goto (tgt := 17) hx hb dX5_type_51 (by decide) ?_
                              refine lv_iload hx hb dX5_type_17 (lv_at hl 0 rfl) ?_
                              refine lv_iload_n hx hb dX5_type_19 rfl (lv_at hl 3 rfl) ?_
                              refine lv_icmp_ge (tgt := 54) hx hb dX5_type_20 (by decide) (fun c_53 => ?_) (fun c_53 => ?_)
                              · have i_53 : p2.toInt ≤ 7 := z_le (rfl) (rfl) c_53
                                refine lv_aload_n hx hb dX5_type_54 rfl (lv_at hl 1 rfl) ?_
                                refine va_get (D := g.1) (ci := 5) (v := .int 0) (C := RX5) (T := TX5) (N := 27) hx hb hts zl_X5 hown hK hP 0 rfl rfl 3 (by decide) (hts _ m_f_RX5_114) (fun _ h => h) rfl dX5_type_55 ?_
                                refine lv_iload_n hx hb dX5_type_58 rfl (lv_at hl 3 rfl) ?_
                                obtain rfl : p2 = 7 := Int32.toInt_inj.mp (show p2.toInt = (7 : Int32).toInt from (show p2.toInt = 7 by omega).trans rfl)
                                refine lv_iadd hx hb dX5_type_59 ?_
                                refine lv_topi (nm_r (e' := 7) (by decide +kernel) ?_)
                                refine lv_bipush (v := 60) hx hb dX5_type_60 (by decide) ?_
                                refine lv_icmp_le (tgt := 68) hx hb dX5_type_62 (by decide) (fun _ => ?_) (fun h => absurd h (by decide +kernel))
                                refine lv_iload_n hx hb dX5_type_68 rfl (lv_at hl 3 rfl) ?_
                                refine lv_iconst (v := 1) hx hb dX5_type_69 (by decide) ?_
                                refine lv_isub hx hb dX5_type_70 ?_
                                refine lv_topi (nm_r (e' := 6) (by decide +kernel) ?_)
                                refine lv_istore (lv' := [(4, .int 6), (0, .ref h0), (1, .long p1), (3, .int 7)]) hx hb dX5_type_71 hl (by decide) rfl (fun ls hl => ?_)
                                refine lv_iload hx hb dX5_type_73 (lv_at hl 0 rfl) ?_
                                refine lv_if_lt (tgt := 115) hx hb dX5_type_75 (by decide) (fun h => absurd h (by decide +kernel)) (fun _ => ?_)
                                refine lv_aload_n hx hb dX5_type_78 rfl (lv_at hl 1 rfl) ?_
                                refine va_get (D := g.1) (ci := 5) (v := .ref h2) (C := RX5) (T := TX5) (N := 27) hx hb hts zl_X5 hown hK hP 0 rfl rfl 2 (by decide) (hts _ m_f_RX5_13) (fun _ h => h) rfl dX5_type_79 ?_
                                refine lv_aload_n hx hb dX5_type_82 rfl (lv_at hl 1 rfl) ?_
                                refine va_get (D := g.1) (ci := 5) (v := .int 0) (C := RX5) (T := TX5) (N := 27) hx hb hts zl_X5 hown hK hP 0 rfl rfl 3 (by decide) (hts _ m_f_RX5_114) (fun _ h => h) rfl dX5_type_83 ?_
                                refine lv_lload_n hx hb dX5_type_86 rfl (lv_at hl 2 rfl) ?_
                                refine lv_bipush (v := 8) hx hb dX5_type_87 (by decide) ?_
                                refine lv_iload hx hb dX5_type_89 (lv_at hl 0 rfl) ?_
                                refine lv_imul hx hb dX5_type_91 ?_
                                refine lv_topi (nm_r (e' := 48) (by decide +kernel) ?_)
                                refine lv_lshr (v := (p1 >>> ((48 : Int32).toInt64 &&& 63))) hx hb dX5_type_92 rfl ?_
                                refine lv_ldc2 (v := 255) hx hb hown (hts _ m_k_RX5_108) dX5_type_93 ?_
                                refine lv_land hx hb dX5_type_96 ?_
                                refine lv_l2i (v := ((p1 >>> ((48 : Int32).toInt64 &&& 63)) &&& 255).toInt32) hx hb dX5_type_97 rfl ?_
                                refine va_iast (D := g.1) hx hb hK hP hD hS 1 0 rfl rfl (vp_in_iff.mpr (by decide +kernel)) dX5_type_98 (fun H locs hP hD hS => ?_)
                                have hP : va_P g.1 vwCl [(h0, .inr (5, [.ref h1, .int 0, .ref h2, .int 0, .int 0, .ref h3, .ref h4, .ref h5, .ref h6, .int 0, .ref h7, .ref h8, .ref h9, .int 0, .ref h10, .ref h11, .ref h12, .ref h13, .ref h14, .ref h15, .ref h16, .ref h17, .ref h18, .ref h19, .ref h20, .ref h21, .ref h22])), (h2, .inl (zI g, 60, .inl (upd (fun _ => 0) 0 (((p1 >>> ((48 : Int32).toInt64 &&& 63)) &&& 255).toInt32))))] H := hP
                                have hD : va_D A [(h0, .inr (5, [.ref h1, .int 0, .ref h2, .int 0, .int 0, .ref h3, .ref h4, .ref h5, .ref h6, .int 0, .ref h7, .ref h8, .ref h9, .int 0, .ref h10, .ref h11, .ref h12, .ref h13, .ref h14, .ref h15, .ref h16, .ref h17, .ref h18, .ref h19, .ref h20, .ref h21, .ref h22])), (h2, .inl (zI g, 60, .inl (upd (fun _ => 0) 0 (((p1 >>> ((48 : Int32).toInt64 &&& 63)) &&& 255).toInt32))))] := hD
                                refine lv_aload_n hx hb dX5_type_99 rfl (lv_at hl 1 rfl) ?_
                                refine lv_dup hx hb dX5_type_100 rfl ?_
                                refine va_get (D := g.1) (ci := 5) (v := .int 0) (C := RX5) (T := TX5) (N := 27) hx hb hts zl_X5 hown hK hP 0 rfl rfl 3 (by decide) (hts _ m_f_RX5_114) (fun _ h => h) rfl dX5_type_101 ?_
                                refine lv_iconst (v := 1) hx hb dX5_type_104 (by decide) ?_
                                refine lv_iadd hx hb dX5_type_105 ?_
                                refine lv_topi (nm_r (e' := 1) (by decide +kernel) ?_)
                                refine va_put (D := g.1) (ci := 5) (v := .int 1) (ty := .int) (C := RX5) (T := TX5) (N := 27) hx hb hts zl_X5 tyX5 tyX5_ok nmX5 hown hK hP hD hS 0 rfl rfl 3 (by decide) (hts _ m_f_RX5_114) (fun _ h => h) rfl (by decide +kernel) rfl rfl (Nat.le_of_ble_eq_true rfl) dX5_type_106 (fun H locs hP hD hS => ?_)
                                have hP : va_P g.1 vwCl [(h0, .inr (5, [.ref h1, .int 0, .ref h2, .int 1, .int 0, .ref h3, .ref h4, .ref h5, .ref h6, .int 0, .ref h7, .ref h8, .ref h9, .int 0, .ref h10, .ref h11, .ref h12, .ref h13, .ref h14, .ref h15, .ref h16, .ref h17, .ref h18, .ref h19, .ref h20, .ref h21, .ref h22])), (h2, .inl (zI g, 60, .inl (upd (fun _ => 0) 0 (((p1 >>> ((48 : Int32).toInt64 &&& 63)) &&& 255).toInt32))))] H := hP
                                have hD : va_D A [(h0, .inr (5, [.ref h1, .int 0, .ref h2, .int 1, .int 0, .ref h3, .ref h4, .ref h5, .ref h6, .int 0, .ref h7, .ref h8, .ref h9, .int 0, .ref h10, .ref h11, .ref h12, .ref h13, .ref h14, .ref h15, .ref h16, .ref h17, .ref h18, .ref h19, .ref h20, .ref h21, .ref h22])), (h2, .inl (zI g, 60, .inl (upd (fun _ => 0) 0 (((p1 >>> ((48 : Int32).toInt64 &&& 63)) &&& 255).toInt32))))] := hD
                                refine lv_iinc (v := 5) (lv' := [(4, .int 5), (0, .ref h0), (1, .long p1), (3, .int 7)]) hx hb dX5_type_109 hl (k := 0) rfl (by decide) (by decide) rfl (fun ls hl => ?_)
                                refine lv_goto (tgt := 73) hx hb dX5_type_112 (by decide) ?_
                                refine lv_iload hx hb dX5_type_73 (lv_at hl 0 rfl) ?_
                                refine lv_if_lt (tgt := 115) hx hb dX5_type_75 (by decide) (fun h => absurd h (by decide +kernel)) (fun _ => ?_)
                                refine lv_aload_n hx hb dX5_type_78 rfl (lv_at hl 1 rfl) ?_
                                refine va_get (D := g.1) (ci := 5) (v := .ref h2) (C := RX5) (T := TX5) (N := 27) hx hb hts zl_X5 hown hK hP 0 rfl rfl 2 (by decide) (hts _ m_f_RX5_13) (fun _ h => h) rfl dX5_type_79 ?_
                                refine lv_aload_n hx hb dX5_type_82 rfl (lv_at hl 1 rfl) ?_
                                refine va_get (D := g.1) (ci := 5) (v := .int 1) (C := RX5) (T := TX5) (N := 27) hx hb hts zl_X5 hown hK hP 0 rfl rfl 3 (by decide) (hts _ m_f_RX5_114) (fun _ h => h) rfl dX5_type_83 ?_
                                refine lv_lload_n hx hb dX5_type_86 rfl (lv_at hl 2 rfl) ?_
                                refine lv_bipush (v := 8) hx hb dX5_type_87 (by decide) ?_
                                refine lv_iload hx hb dX5_type_89 (lv_at hl 0 rfl) ?_
                                refine lv_imul hx hb dX5_type_91 ?_
                                refine lv_topi (nm_r (e' := 40) (by decide +kernel) ?_)
                                refine lv_lshr (v := (p1 >>> ((40 : Int32).toInt64 &&& 63))) hx hb dX5_type_92 rfl ?_
                                refine lv_ldc2 (v := 255) hx hb hown (hts _ m_k_RX5_108) dX5_type_93 ?_
                                refine lv_land hx hb dX5_type_96 ?_
                                refine lv_l2i (v := ((p1 >>> ((40 : Int32).toInt64 &&& 63)) &&& 255).toInt32) hx hb dX5_type_97 rfl ?_
                                refine va_iast (D := g.1) hx hb hK hP hD hS 1 0 rfl rfl (vp_in_iff.mpr (by decide +kernel)) dX5_type_98 (fun H locs hP hD hS => ?_)
                                have hP : va_P g.1 vwCl [(h0, .inr (5, [.ref h1, .int 0, .ref h2, .int 1, .int 0, .ref h3, .ref h4, .ref h5, .ref h6, .int 0, .ref h7, .ref h8, .ref h9, .int 0, .ref h10, .ref h11, .ref h12, .ref h13, .ref h14, .ref h15, .ref h16, .ref h17, .ref h18, .ref h19, .ref h20, .ref h21, .ref h22])), (h2, .inl (zI g, 60, .inl (upd (upd (fun _ => 0) 0 (((p1 >>> ((48 : Int32).toInt64 &&& 63)) &&& 255).toInt32)) 1 (((p1 >>> ((40 : Int32).toInt64 &&& 63)) &&& 255).toInt32))))] H := hP
                                have hD : va_D A [(h0, .inr (5, [.ref h1, .int 0, .ref h2, .int 1, .int 0, .ref h3, .ref h4, .ref h5, .ref h6, .int 0, .ref h7, .ref h8, .ref h9, .int 0, .ref h10, .ref h11, .ref h12, .ref h13, .ref h14, .ref h15, .ref h16, .ref h17, .ref h18, .ref h19, .ref h20, .ref h21, .ref h22])), (h2, .inl (zI g, 60, .inl (upd (upd (fun _ => 0) 0 (((p1 >>> ((48 : Int32).toInt64 &&& 63)) &&& 255).toInt32)) 1 (((p1 >>> ((40 : Int32).toInt64 &&& 63)) &&& 255).toInt32))))] := hD
                                refine lv_aload_n hx hb dX5_type_99 rfl (lv_at hl 1 rfl) ?_
                                refine lv_dup hx hb dX5_type_100 rfl ?_
                                refine va_get (D := g.1) (ci := 5) (v := .int 1) (C := RX5) (T := TX5) (N := 27) hx hb hts zl_X5 hown hK hP 0 rfl rfl 3 (by decide) (hts _ m_f_RX5_114) (fun _ h => h) rfl dX5_type_101 ?_
                                refine lv_iconst (v := 1) hx hb dX5_type_104 (by decide) ?_
                                refine lv_iadd hx hb dX5_type_105 ?_
                                refine lv_topi (nm_r (e' := 2) (by decide +kernel) ?_)
                                refine va_put (D := g.1) (ci := 5) (v := .int 2) (ty := .int) (C := RX5) (T := TX5) (N := 27) hx hb hts zl_X5 tyX5 tyX5_ok nmX5 hown hK hP hD hS 0 rfl rfl 3 (by decide) (hts _ m_f_RX5_114) (fun _ h => h) rfl (by decide +kernel) rfl rfl (Nat.le_of_ble_eq_true rfl) dX5_type_106 (fun H locs hP hD hS => ?_)
                                have hP : va_P g.1 vwCl [(h0, .inr (5, [.ref h1, .int 0, .ref h2, .int 2, .int 0, .ref h3, .ref h4, .ref h5, .ref h6, .int 0, .ref h7, .ref h8, .ref h9, .int 0, .ref h10, .ref h11, .ref h12, .ref h13, .ref h14, .ref h15, .ref h16, .ref h17, .ref h18, .ref h19, .ref h20, .ref h21, .ref h22])), (h2, .inl (zI g, 60, .inl (upd (upd (fun _ => 0) 0 (((p1 >>> ((48 : Int32).toInt64 &&& 63)) &&& 255).toInt32)) 1 (((p1 >>> ((40 : Int32).toInt64 &&& 63)) &&& 255).toInt32))))] H := hP
                                have hD : va_D A [(h0, .inr (5, [.ref h1, .int 0, .ref h2, .int 2, .int 0, .ref h3, .ref h4, .ref h5, .ref h6, .int 0, .ref h7, .ref h8, .ref h9, .int 0, .ref h10, .ref h11, .ref h12, .ref h13, .ref h14, .ref h15, .ref h16, .ref h17, .ref h18, .ref h19, .ref h20, .ref h21, .ref h22])), (h2, .inl (zI g, 60, .inl (upd (upd (fun _ => 0) 0 (((p1 >>> ((48 : Int32).toInt64 &&& 63)) &&& 255).toInt32)) 1 (((p1 >>> ((40 : Int32).toInt64 &&& 63)) &&& 255).toInt32))))] := hD
                                refine lv_iinc (v := 4) (lv' := [(4, .int 4), (0, .ref h0), (1, .long p1), (3, .int 7)]) hx hb dX5_type_109 hl (k := 0) rfl (by decide) (by decide) rfl (fun ls hl => ?_)
                                refine lv_goto (tgt := 73) hx hb dX5_type_112 (by decide) ?_
                                refine lv_iload hx hb dX5_type_73 (lv_at hl 0 rfl) ?_
                                refine lv_if_lt (tgt := 115) hx hb dX5_type_75 (by decide) (fun h => absurd h (by decide +kernel)) (fun _ => ?_)
                                refine lv_aload_n hx hb dX5_type_78 rfl (lv_at hl 1 rfl) ?_
                                refine va_get (D := g.1) (ci := 5) (v := .ref h2) (C := RX5) (T := TX5) (N := 27) hx hb hts zl_X5 hown hK hP 0 rfl rfl 2 (by decide) (hts _ m_f_RX5_13) (fun _ h => h) rfl dX5_type_79 ?_
                                refine lv_aload_n hx hb dX5_type_82 rfl (lv_at hl 1 rfl) ?_
                                refine va_get (D := g.1) (ci := 5) (v := .int 2) (C := RX5) (T := TX5) (N := 27) hx hb hts zl_X5 hown hK hP 0 rfl rfl 3 (by decide) (hts _ m_f_RX5_114) (fun _ h => h) rfl dX5_type_83 ?_
                                refine lv_lload_n hx hb dX5_type_86 rfl (lv_at hl 2 rfl) ?_
                                refine lv_bipush (v := 8) hx hb dX5_type_87 (by decide) ?_
                                refine lv_iload hx hb dX5_type_89 (lv_at hl 0 rfl) ?_
                                refine lv_imul hx hb dX5_type_91 ?_
                                refine lv_topi (nm_r (e' := 32) (by decide +kernel) ?_)
                                refine lv_lshr (v := (p1 >>> ((32 : Int32).toInt64 &&& 63))) hx hb dX5_type_92 rfl ?_
                                refine lv_ldc2 (v := 255) hx hb hown (hts _ m_k_RX5_108) dX5_type_93 ?_
                                refine lv_land hx hb dX5_type_96 ?_
                                refine lv_l2i (v := ((p1 >>> ((32 : Int32).toInt64 &&& 63)) &&& 255).toInt32) hx hb dX5_type_97 rfl ?_
                                refine va_iast (D := g.1) hx hb hK hP hD hS 1 0 rfl rfl (vp_in_iff.mpr (by decide +kernel)) dX5_type_98 (fun H locs hP hD hS => ?_)
                                have hP : va_P g.1 vwCl [(h0, .inr (5, [.ref h1, .int 0, .ref h2, .int 2, .int 0, .ref h3, .ref h4, .ref h5, .ref h6, .int 0, .ref h7, .ref h8, .ref h9, .int 0, .ref h10, .ref h11, .ref h12, .ref h13, .ref h14, .ref h15, .ref h16, .ref h17, .ref h18, .ref h19, .ref h20, .ref h21, .ref h22])), (h2, .inl (zI g, 60, .inl (upd (upd (upd (fun _ => 0) 0 (((p1 >>> ((48 : Int32).toInt64 &&& 63)) &&& 255).toInt32)) 1 (((p1 >>> ((40 : Int32).toInt64 &&& 63)) &&& 255).toInt32)) 2 (((p1 >>> ((32 : Int32).toInt64 &&& 63)) &&& 255).toInt32))))] H := hP
                                have hD : va_D A [(h0, .inr (5, [.ref h1, .int 0, .ref h2, .int 2, .int 0, .ref h3, .ref h4, .ref h5, .ref h6, .int 0, .ref h7, .ref h8, .ref h9, .int 0, .ref h10, .ref h11, .ref h12, .ref h13, .ref h14, .ref h15, .ref h16, .ref h17, .ref h18, .ref h19, .ref h20, .ref h21, .ref h22])), (h2, .inl (zI g, 60, .inl (upd (upd (upd (fun _ => 0) 0 (((p1 >>> ((48 : Int32).toInt64 &&& 63)) &&& 255).toInt32)) 1 (((p1 >>> ((40 : Int32).toInt64 &&& 63)) &&& 255).toInt32)) 2 (((p1 >>> ((32 : Int32).toInt64 &&& 63)) &&& 255).toInt32))))] := hD
                                refine lv_aload_n hx hb dX5_type_99 rfl (lv_at hl 1 rfl) ?_
                                refine lv_dup hx hb dX5_type_100 rfl ?_
                                refine va_get (D := g.1) (ci := 5) (v := .int 2) (C := RX5) (T := TX5) (N := 27) hx hb hts zl_X5 hown hK hP 0 rfl rfl 3 (by decide) (hts _ m_f_RX5_114) (fun _ h => h) rfl dX5_type_101 ?_
                                refine lv_iconst (v := 1) hx hb dX5_type_104 (by decide) ?_
                                refine lv_iadd hx hb dX5_type_105 ?_
                                refine lv_topi (nm_r (e' := 3) (by decide +kernel) ?_)
                                refine va_put (D := g.1) (ci := 5) (v := .int 3) (ty := .int) (C := RX5) (T := TX5) (N := 27) hx hb hts zl_X5 tyX5 tyX5_ok nmX5 hown hK hP hD hS 0 rfl rfl 3 (by decide) (hts _ m_f_RX5_114) (fun _ h => h) rfl (by decide +kernel) rfl rfl (Nat.le_of_ble_eq_true rfl) dX5_type_106 (fun H locs hP hD hS => ?_)
                                have hP : va_P g.1 vwCl [(h0, .inr (5, [.ref h1, .int 0, .ref h2, .int 3, .int 0, .ref h3, .ref h4, .ref h5, .ref h6, .int 0, .ref h7, .ref h8, .ref h9, .int 0, .ref h10, .ref h11, .ref h12, .ref h13, .ref h14, .ref h15, .ref h16, .ref h17, .ref h18, .ref h19, .ref h20, .ref h21, .ref h22])), (h2, .inl (zI g, 60, .inl (upd (upd (upd (fun _ => 0) 0 (((p1 >>> ((48 : Int32).toInt64 &&& 63)) &&& 255).toInt32)) 1 (((p1 >>> ((40 : Int32).toInt64 &&& 63)) &&& 255).toInt32)) 2 (((p1 >>> ((32 : Int32).toInt64 &&& 63)) &&& 255).toInt32))))] H := hP
                                have hD : va_D A [(h0, .inr (5, [.ref h1, .int 0, .ref h2, .int 3, .int 0, .ref h3, .ref h4, .ref h5, .ref h6, .int 0, .ref h7, .ref h8, .ref h9, .int 0, .ref h10, .ref h11, .ref h12, .ref h13, .ref h14, .ref h15, .ref h16, .ref h17, .ref h18, .ref h19, .ref h20, .ref h21, .ref h22])), (h2, .inl (zI g, 60, .inl (upd (upd (upd (fun _ => 0) 0 (((p1 >>> ((48 : Int32).toInt64 &&& 63)) &&& 255).toInt32)) 1 (((p1 >>> ((40 : Int32).toInt64 &&& 63)) &&& 255).toInt32)) 2 (((p1 >>> ((32 : Int32).toInt64 &&& 63)) &&& 255).toInt32))))] := hD
                                refine lv_iinc (v := 3) (lv' := [(4, .int 3), (0, .ref h0), (1, .long p1), (3, .int 7)]) hx hb dX5_type_109 hl (k := 0) rfl (by decide) (by decide) rfl (fun ls hl => ?_)
                                refine lv_goto (tgt := 73) hx hb dX5_type_112 (by decide) ?_
                                refine lv_iload hx hb dX5_type_73 (lv_at hl 0 rfl) ?_
                                refine lv_if_lt (tgt := 115) hx hb dX5_type_75 (by decide) (fun h => absurd h (by decide +kernel)) (fun _ => ?_)
                                refine lv_aload_n hx hb dX5_type_78 rfl (lv_at hl 1 rfl) ?_
                                refine va_get (D := g.1) (ci := 5) (v := .ref h2) (C := RX5) (T := TX5) (N := 27) hx hb hts zl_X5 hown hK hP 0 rfl rfl 2 (by decide) (hts _ m_f_RX5_13) (fun _ h => h) rfl dX5_type_79 ?_
                                refine lv_aload_n hx hb dX5_type_82 rfl (lv_at hl 1 rfl) ?_
                                refine va_get (D := g.1) (ci := 5) (v := .int 3) (C := RX5) (T := TX5) (N := 27) hx hb hts zl_X5 hown hK hP 0 rfl rfl 3 (by decide) (hts _ m_f_RX5_114) (fun _ h => h) rfl dX5_type_83 ?_
                                refine lv_lload_n hx hb dX5_type_86 rfl (lv_at hl 2 rfl) ?_
                                refine lv_bipush (v := 8) hx hb dX5_type_87 (by decide) ?_
                                refine lv_iload hx hb dX5_type_89 (lv_at hl 0 rfl) ?_
                                refine lv_imul hx hb dX5_type_91 ?_
                                refine lv_topi (nm_r (e' := 24) (by decide +kernel) ?_)
                                refine lv_lshr (v := (p1 >>> ((24 : Int32).toInt64 &&& 63))) hx hb dX5_type_92 rfl ?_
                                refine lv_ldc2 (v := 255) hx hb hown (hts _ m_k_RX5_108) dX5_type_93 ?_
                                refine lv_land hx hb dX5_type_96 ?_
                                refine lv_l2i (v := ((p1 >>> ((24 : Int32).toInt64 &&& 63)) &&& 255).toInt32) hx hb dX5_type_97 rfl ?_
                                refine va_iast (D := g.1) hx hb hK hP hD hS 1 0 rfl rfl (vp_in_iff.mpr (by decide +kernel)) dX5_type_98 (fun H locs hP hD hS => ?_)
                                have hP : va_P g.1 vwCl [(h0, .inr (5, [.ref h1, .int 0, .ref h2, .int 3, .int 0, .ref h3, .ref h4, .ref h5, .ref h6, .int 0, .ref h7, .ref h8, .ref h9, .int 0, .ref h10, .ref h11, .ref h12, .ref h13, .ref h14, .ref h15, .ref h16, .ref h17, .ref h18, .ref h19, .ref h20, .ref h21, .ref h22])), (h2, .inl (zI g, 60, .inl (upd (upd (upd (upd (fun _ => 0) 0 (((p1 >>> ((48 : Int32).toInt64 &&& 63)) &&& 255).toInt32)) 1 (((p1 >>> ((40 : Int32).toInt64 &&& 63)) &&& 255).toInt32)) 2 (((p1 >>> ((32 : Int32).toInt64 &&& 63)) &&& 255).toInt32)) 3 (((p1 >>> ((24 : Int32).toInt64 &&& 63)) &&& 255).toInt32))))] H := hP
                                have hD : va_D A [(h0, .inr (5, [.ref h1, .int 0, .ref h2, .int 3, .int 0, .ref h3, .ref h4, .ref h5, .ref h6, .int 0, .ref h7, .ref h8, .ref h9, .int 0, .ref h10, .ref h11, .ref h12, .ref h13, .ref h14, .ref h15, .ref h16, .ref h17, .ref h18, .ref h19, .ref h20, .ref h21, .ref h22])), (h2, .inl (zI g, 60, .inl (upd (upd (upd (upd (fun _ => 0) 0 (((p1 >>> ((48 : Int32).toInt64 &&& 63)) &&& 255).toInt32)) 1 (((p1 >>> ((40 : Int32).toInt64 &&& 63)) &&& 255).toInt32)) 2 (((p1 >>> ((32 : Int32).toInt64 &&& 63)) &&& 255).toInt32)) 3 (((p1 >>> ((24 : Int32).toInt64 &&& 63)) &&& 255).toInt32))))] := hD
                                refine lv_aload_n hx hb dX5_type_99 rfl (lv_at hl 1 rfl) ?_
                                refine lv_dup hx hb dX5_type_100 rfl ?_
                                refine va_get (D := g.1) (ci := 5) (v := .int 3) (C := RX5) (T := TX5) (N := 27) hx hb hts zl_X5 hown hK hP 0 rfl rfl 3 (by decide) (hts _ m_f_RX5_114) (fun _ h => h) rfl dX5_type_101 ?_
                                refine lv_iconst (v := 1) hx hb dX5_type_104 (by decide) ?_
                                refine lv_iadd hx hb dX5_type_105 ?_
                                refine lv_topi (nm_r (e' := 4) (by decide +kernel) ?_)
                                refine va_put (D := g.1) (ci := 5) (v := .int 4) (ty := .int) (C := RX5) (T := TX5) (N := 27) hx hb hts zl_X5 tyX5 tyX5_ok nmX5 hown hK hP hD hS 0 rfl rfl 3 (by decide) (hts _ m_f_RX5_114) (fun _ h => h) rfl (by decide +kernel) rfl rfl (Nat.le_of_ble_eq_true rfl) dX5_type_106 (fun H locs hP hD hS => ?_)
                                have hP : va_P g.1 vwCl [(h0, .inr (5, [.ref h1, .int 0, .ref h2, .int 4, .int 0, .ref h3, .ref h4, .ref h5, .ref h6, .int 0, .ref h7, .ref h8, .ref h9, .int 0, .ref h10, .ref h11, .ref h12, .ref h13, .ref h14, .ref h15, .ref h16, .ref h17, .ref h18, .ref h19, .ref h20, .ref h21, .ref h22])), (h2, .inl (zI g, 60, .inl (upd (upd (upd (upd (fun _ => 0) 0 (((p1 >>> ((48 : Int32).toInt64 &&& 63)) &&& 255).toInt32)) 1 (((p1 >>> ((40 : Int32).toInt64 &&& 63)) &&& 255).toInt32)) 2 (((p1 >>> ((32 : Int32).toInt64 &&& 63)) &&& 255).toInt32)) 3 (((p1 >>> ((24 : Int32).toInt64 &&& 63)) &&& 255).toInt32))))] H := hP
                                have hD : va_D A [(h0, .inr (5, [.ref h1, .int 0, .ref h2, .int 4, .int 0, .ref h3, .ref h4, .ref h5, .ref h6, .int 0, .ref h7, .ref h8, .ref h9, .int 0, .ref h10, .ref h11, .ref h12, .ref h13, .ref h14, .ref h15, .ref h16, .ref h17, .ref h18, .ref h19, .ref h20, .ref h21, .ref h22])), (h2, .inl (zI g, 60, .inl (upd (upd (upd (upd (fun _ => 0) 0 (((p1 >>> ((48 : Int32).toInt64 &&& 63)) &&& 255).toInt32)) 1 (((p1 >>> ((40 : Int32).toInt64 &&& 63)) &&& 255).toInt32)) 2 (((p1 >>> ((32 : Int32).toInt64 &&& 63)) &&& 255).toInt32)) 3 (((p1 >>> ((24 : Int32).toInt64 &&& 63)) &&& 255).toInt32))))] := hD
                                refine lv_iinc (v := 2) (lv' := [(4, .int 2), (0, .ref h0), (1, .long p1), (3, .int 7)]) hx hb dX5_type_109 hl (k := 0) rfl (by decide) (by decide) rfl (fun ls hl => ?_)
                                refine lv_goto (tgt := 73) hx hb dX5_type_112 (by decide) ?_
                                refine lv_iload hx hb dX5_type_73 (lv_at hl 0 rfl) ?_
                                refine lv_if_lt (tgt := 115) hx hb dX5_type_75 (by decide) (fun h => absurd h (by decide +kernel)) (fun _ => ?_)
                                refine lv_aload_n hx hb dX5_type_78 rfl (lv_at hl 1 rfl) ?_
                                refine va_get (D := g.1) (ci := 5) (v := .ref h2) (C := RX5) (T := TX5) (N := 27) hx hb hts zl_X5 hown hK hP 0 rfl rfl 2 (by decide) (hts _ m_f_RX5_13) (fun _ h => h) rfl dX5_type_79 ?_
                                refine lv_aload_n hx hb dX5_type_82 rfl (lv_at hl 1 rfl) ?_
                                refine va_get (D := g.1) (ci := 5) (v := .int 4) (C := RX5) (T := TX5) (N := 27) hx hb hts zl_X5 hown hK hP 0 rfl rfl 3 (by decide) (hts _ m_f_RX5_114) (fun _ h => h) rfl dX5_type_83 ?_
                                refine lv_lload_n hx hb dX5_type_86 rfl (lv_at hl 2 rfl) ?_
                                refine lv_bipush (v := 8) hx hb dX5_type_87 (by decide) ?_
                                refine lv_iload hx hb dX5_type_89 (lv_at hl 0 rfl) ?_
                                refine lv_imul hx hb dX5_type_91 ?_
                                refine lv_topi (nm_r (e' := 16) (by decide +kernel) ?_)
                                refine lv_lshr (v := (p1 >>> ((16 : Int32).toInt64 &&& 63))) hx hb dX5_type_92 rfl ?_
                                refine lv_ldc2 (v := 255) hx hb hown (hts _ m_k_RX5_108) dX5_type_93 ?_
                                refine lv_land hx hb dX5_type_96 ?_
                                refine lv_l2i (v := ((p1 >>> ((16 : Int32).toInt64 &&& 63)) &&& 255).toInt32) hx hb dX5_type_97 rfl ?_
                                refine va_iast (D := g.1) hx hb hK hP hD hS 1 0 rfl rfl (vp_in_iff.mpr (by decide +kernel)) dX5_type_98 (fun H locs hP hD hS => ?_)
                                have hP : va_P g.1 vwCl [(h0, .inr (5, [.ref h1, .int 0, .ref h2, .int 4, .int 0, .ref h3, .ref h4, .ref h5, .ref h6, .int 0, .ref h7, .ref h8, .ref h9, .int 0, .ref h10, .ref h11, .ref h12, .ref h13, .ref h14, .ref h15, .ref h16, .ref h17, .ref h18, .ref h19, .ref h20, .ref h21, .ref h22])), (h2, .inl (zI g, 60, .inl (upd (upd (upd (upd (upd (fun _ => 0) 0 (((p1 >>> ((48 : Int32).toInt64 &&& 63)) &&& 255).toInt32)) 1 (((p1 >>> ((40 : Int32).toInt64 &&& 63)) &&& 255).toInt32)) 2 (((p1 >>> ((32 : Int32).toInt64 &&& 63)) &&& 255).toInt32)) 3 (((p1 >>> ((24 : Int32).toInt64 &&& 63)) &&& 255).toInt32)) 4 (((p1 >>> ((16 : Int32).toInt64 &&& 63)) &&& 255).toInt32))))] H := hP
                                have hD : va_D A [(h0, .inr (5, [.ref h1, .int 0, .ref h2, .int 4, .int 0, .ref h3, .ref h4, .ref h5, .ref h6, .int 0, .ref h7, .ref h8, .ref h9, .int 0, .ref h10, .ref h11, .ref h12, .ref h13, .ref h14, .ref h15, .ref h16, .ref h17, .ref h18, .ref h19, .ref h20, .ref h21, .ref h22])), (h2, .inl (zI g, 60, .inl (upd (upd (upd (upd (upd (fun _ => 0) 0 (((p1 >>> ((48 : Int32).toInt64 &&& 63)) &&& 255).toInt32)) 1 (((p1 >>> ((40 : Int32).toInt64 &&& 63)) &&& 255).toInt32)) 2 (((p1 >>> ((32 : Int32).toInt64 &&& 63)) &&& 255).toInt32)) 3 (((p1 >>> ((24 : Int32).toInt64 &&& 63)) &&& 255).toInt32)) 4 (((p1 >>> ((16 : Int32).toInt64 &&& 63)) &&& 255).toInt32))))] := hD
                                refine lv_aload_n hx hb dX5_type_99 rfl (lv_at hl 1 rfl) ?_
                                refine lv_dup hx hb dX5_type_100 rfl ?_
                                refine va_get (D := g.1) (ci := 5) (v := .int 4) (C := RX5) (T := TX5) (N := 27) hx hb hts zl_X5 hown hK hP 0 rfl rfl 3 (by decide) (hts _ m_f_RX5_114) (fun _ h => h) rfl dX5_type_101 ?_
                                refine lv_iconst (v := 1) hx hb dX5_type_104 (by decide) ?_
                                refine lv_iadd hx hb dX5_type_105 ?_
                                refine lv_topi (nm_r (e' := 5) (by decide +kernel) ?_)
                                refine va_put (D := g.1) (ci := 5) (v := .int 5) (ty := .int) (C := RX5) (T := TX5) (N := 27) hx hb hts zl_X5 tyX5 tyX5_ok nmX5 hown hK hP hD hS 0 rfl rfl 3 (by decide) (hts _ m_f_RX5_114) (fun _ h => h) rfl (by decide +kernel) rfl rfl (Nat.le_of_ble_eq_true rfl) dX5_type_106 (fun H locs hP hD hS => ?_)
                                have hP : va_P g.1 vwCl [(h0, .inr (5, [.ref h1, .int 0, .ref h2, .int 5, .int 0, .ref h3, .ref h4, .ref h5, .ref h6, .int 0, .ref h7, .ref h8, .ref h9, .int 0, .ref h10, .ref h11, .ref h12, .ref h13, .ref h14, .ref h15, .ref h16, .ref h17, .ref h18, .ref h19, .ref h20, .ref h21, .ref h22])), (h2, .inl (zI g, 60, .inl (upd (upd (upd (upd (upd (fun _ => 0) 0 (((p1 >>> ((48 : Int32).toInt64 &&& 63)) &&& 255).toInt32)) 1 (((p1 >>> ((40 : Int32).toInt64 &&& 63)) &&& 255).toInt32)) 2 (((p1 >>> ((32 : Int32).toInt64 &&& 63)) &&& 255).toInt32)) 3 (((p1 >>> ((24 : Int32).toInt64 &&& 63)) &&& 255).toInt32)) 4 (((p1 >>> ((16 : Int32).toInt64 &&& 63)) &&& 255).toInt32))))] H := hP
                                have hD : va_D A [(h0, .inr (5, [.ref h1, .int 0, .ref h2, .int 5, .int 0, .ref h3, .ref h4, .ref h5, .ref h6, .int 0, .ref h7, .ref h8, .ref h9, .int 0, .ref h10, .ref h11, .ref h12, .ref h13, .ref h14, .ref h15, .ref h16, .ref h17, .ref h18, .ref h19, .ref h20, .ref h21, .ref h22])), (h2, .inl (zI g, 60, .inl (upd (upd (upd (upd (upd (fun _ => 0) 0 (((p1 >>> ((48 : Int32).toInt64 &&& 63)) &&& 255).toInt32)) 1 (((p1 >>> ((40 : Int32).toInt64 &&& 63)) &&& 255).toInt32)) 2 (((p1 >>> ((32 : Int32).toInt64 &&& 63)) &&& 255).toInt32)) 3 (((p1 >>> ((24 : Int32).toInt64 &&& 63)) &&& 255).toInt32)) 4 (((p1 >>> ((16 : Int32).toInt64 &&& 63)) &&& 255).toInt32))))] := hD
                                refine lv_iinc (v := 1) (lv' := [(4, .int 1), (0, .ref h0), (1, .long p1), (3, .int 7)]) hx hb dX5_type_109 hl (k := 0) rfl (by decide) (by decide) rfl (fun ls hl => ?_)
                                refine lv_goto (tgt := 73) hx hb dX5_type_112 (by decide) ?_
                                refine lv_iload hx hb dX5_type_73 (lv_at hl 0 rfl) ?_
                                refine lv_if_lt (tgt := 115) hx hb dX5_type_75 (by decide) (fun h => absurd h (by decide +kernel)) (fun _ => ?_)
                                refine lv_aload_n hx hb dX5_type_78 rfl (lv_at hl 1 rfl) ?_
                                refine va_get (D := g.1) (ci := 5) (v := .ref h2) (C := RX5) (T := TX5) (N := 27) hx hb hts zl_X5 hown hK hP 0 rfl rfl 2 (by decide) (hts _ m_f_RX5_13) (fun _ h => h) rfl dX5_type_79 ?_
                                refine lv_aload_n hx hb dX5_type_82 rfl (lv_at hl 1 rfl) ?_
                                refine va_get (D := g.1) (ci := 5) (v := .int 5) (C := RX5) (T := TX5) (N := 27) hx hb hts zl_X5 hown hK hP 0 rfl rfl 3 (by decide) (hts _ m_f_RX5_114) (fun _ h => h) rfl dX5_type_83 ?_
                                refine lv_lload_n hx hb dX5_type_86 rfl (lv_at hl 2 rfl) ?_
                                refine lv_bipush (v := 8) hx hb dX5_type_87 (by decide) ?_
                                refine lv_iload hx hb dX5_type_89 (lv_at hl 0 rfl) ?_
                                refine lv_imul hx hb dX5_type_91 ?_
                                refine lv_topi (nm_r (e' := 8) (by decide +kernel) ?_)
                                refine lv_lshr (v := (p1 >>> ((8 : Int32).toInt64 &&& 63))) hx hb dX5_type_92 rfl ?_
                                refine lv_ldc2 (v := 255) hx hb hown (hts _ m_k_RX5_108) dX5_type_93 ?_
                                refine lv_land hx hb dX5_type_96 ?_
                                refine lv_l2i (v := ((p1 >>> ((8 : Int32).toInt64 &&& 63)) &&& 255).toInt32) hx hb dX5_type_97 rfl ?_
                                refine va_iast (D := g.1) hx hb hK hP hD hS 1 0 rfl rfl (vp_in_iff.mpr (by decide +kernel)) dX5_type_98 (fun H locs hP hD hS => ?_)
                                have hP : va_P g.1 vwCl [(h0, .inr (5, [.ref h1, .int 0, .ref h2, .int 5, .int 0, .ref h3, .ref h4, .ref h5, .ref h6, .int 0, .ref h7, .ref h8, .ref h9, .int 0, .ref h10, .ref h11, .ref h12, .ref h13, .ref h14, .ref h15, .ref h16, .ref h17, .ref h18, .ref h19, .ref h20, .ref h21, .ref h22])), (h2, .inl (zI g, 60, .inl (upd (upd (upd (upd (upd (upd (fun _ => 0) 0 (((p1 >>> ((48 : Int32).toInt64 &&& 63)) &&& 255).toInt32)) 1 (((p1 >>> ((40 : Int32).toInt64 &&& 63)) &&& 255).toInt32)) 2 (((p1 >>> ((32 : Int32).toInt64 &&& 63)) &&& 255).toInt32)) 3 (((p1 >>> ((24 : Int32).toInt64 &&& 63)) &&& 255).toInt32)) 4 (((p1 >>> ((16 : Int32).toInt64 &&& 63)) &&& 255).toInt32)) 5 (((p1 >>> ((8 : Int32).toInt64 &&& 63)) &&& 255).toInt32))))] H := hP
                                have hD : va_D A [(h0, .inr (5, [.ref h1, .int 0, .ref h2, .int 5, .int 0, .ref h3, .ref h4, .ref h5, .ref h6, .int 0, .ref h7, .ref h8, .ref h9, .int 0, .ref h10, .ref h11, .ref h12, .ref h13, .ref h14, .ref h15, .ref h16, .ref h17, .ref h18, .ref h19, .ref h20, .ref h21, .ref h22])), (h2, .inl (zI g, 60, .inl (upd (upd (upd (upd (upd (upd (fun _ => 0) 0 (((p1 >>> ((48 : Int32).toInt64 &&& 63)) &&& 255).toInt32)) 1 (((p1 >>> ((40 : Int32).toInt64 &&& 63)) &&& 255).toInt32)) 2 (((p1 >>> ((32 : Int32).toInt64 &&& 63)) &&& 255).toInt32)) 3 (((p1 >>> ((24 : Int32).toInt64 &&& 63)) &&& 255).toInt32)) 4 (((p1 >>> ((16 : Int32).toInt64 &&& 63)) &&& 255).toInt32)) 5 (((p1 >>> ((8 : Int32).toInt64 &&& 63)) &&& 255).toInt32))))] := hD
                                refine lv_aload_n hx hb dX5_type_99 rfl (lv_at hl 1 rfl) ?_
                                refine lv_dup hx hb dX5_type_100 rfl ?_
                                refine va_get (D := g.1) (ci := 5) (v := .int 5) (C := RX5) (T := TX5) (N := 27) hx hb hts zl_X5 hown hK hP 0 rfl rfl 3 (by decide) (hts _ m_f_RX5_114) (fun _ h => h) rfl dX5_type_101 ?_
                                refine lv_iconst (v := 1) hx hb dX5_type_104 (by decide) ?_
                                refine lv_iadd hx hb dX5_type_105 ?_
                                refine lv_topi (nm_r (e' := 6) (by decide +kernel) ?_)
                                refine va_put (D := g.1) (ci := 5) (v := .int 6) (ty := .int) (C := RX5) (T := TX5) (N := 27) hx hb hts zl_X5 tyX5 tyX5_ok nmX5 hown hK hP hD hS 0 rfl rfl 3 (by decide) (hts _ m_f_RX5_114) (fun _ h => h) rfl (by decide +kernel) rfl rfl (Nat.le_of_ble_eq_true rfl) dX5_type_106 (fun H locs hP hD hS => ?_)
                                have hP : va_P g.1 vwCl [(h0, .inr (5, [.ref h1, .int 0, .ref h2, .int 6, .int 0, .ref h3, .ref h4, .ref h5, .ref h6, .int 0, .ref h7, .ref h8, .ref h9, .int 0, .ref h10, .ref h11, .ref h12, .ref h13, .ref h14, .ref h15, .ref h16, .ref h17, .ref h18, .ref h19, .ref h20, .ref h21, .ref h22])), (h2, .inl (zI g, 60, .inl (upd (upd (upd (upd (upd (upd (fun _ => 0) 0 (((p1 >>> ((48 : Int32).toInt64 &&& 63)) &&& 255).toInt32)) 1 (((p1 >>> ((40 : Int32).toInt64 &&& 63)) &&& 255).toInt32)) 2 (((p1 >>> ((32 : Int32).toInt64 &&& 63)) &&& 255).toInt32)) 3 (((p1 >>> ((24 : Int32).toInt64 &&& 63)) &&& 255).toInt32)) 4 (((p1 >>> ((16 : Int32).toInt64 &&& 63)) &&& 255).toInt32)) 5 (((p1 >>> ((8 : Int32).toInt64 &&& 63)) &&& 255).toInt32))))] H := hP
                                have hD : va_D A [(h0, .inr (5, [.ref h1, .int 0, .ref h2, .int 6, .int 0, .ref h3, .ref h4, .ref h5, .ref h6, .int 0, .ref h7, .ref h8, .ref h9, .int 0, .ref h10, .ref h11, .ref h12, .ref h13, .ref h14, .ref h15, .ref h16, .ref h17, .ref h18, .ref h19, .ref h20, .ref h21, .ref h22])), (h2, .inl (zI g, 60, .inl (upd (upd (upd (upd (upd (upd (fun _ => 0) 0 (((p1 >>> ((48 : Int32).toInt64 &&& 63)) &&& 255).toInt32)) 1 (((p1 >>> ((40 : Int32).toInt64 &&& 63)) &&& 255).toInt32)) 2 (((p1 >>> ((32 : Int32).toInt64 &&& 63)) &&& 255).toInt32)) 3 (((p1 >>> ((24 : Int32).toInt64 &&& 63)) &&& 255).toInt32)) 4 (((p1 >>> ((16 : Int32).toInt64 &&& 63)) &&& 255).toInt32)) 5 (((p1 >>> ((8 : Int32).toInt64 &&& 63)) &&& 255).toInt32))))] := hD
                                refine lv_iinc (v := 0) (lv' := [(4, .int 0), (0, .ref h0), (1, .long p1), (3, .int 7)]) hx hb dX5_type_109 hl (k := 0) rfl (by decide) (by decide) rfl (fun ls hl => ?_)
                                refine lv_goto (tgt := 73) hx hb dX5_type_112 (by decide) ?_
                                refine lv_iload hx hb dX5_type_73 (lv_at hl 0 rfl) ?_
                                refine lv_if_lt (tgt := 115) hx hb dX5_type_75 (by decide) (fun h => absurd h (by decide +kernel)) (fun _ => ?_)
                                refine lv_aload_n hx hb dX5_type_78 rfl (lv_at hl 1 rfl) ?_
                                refine va_get (D := g.1) (ci := 5) (v := .ref h2) (C := RX5) (T := TX5) (N := 27) hx hb hts zl_X5 hown hK hP 0 rfl rfl 2 (by decide) (hts _ m_f_RX5_13) (fun _ h => h) rfl dX5_type_79 ?_
                                refine lv_aload_n hx hb dX5_type_82 rfl (lv_at hl 1 rfl) ?_
                                refine va_get (D := g.1) (ci := 5) (v := .int 6) (C := RX5) (T := TX5) (N := 27) hx hb hts zl_X5 hown hK hP 0 rfl rfl 3 (by decide) (hts _ m_f_RX5_114) (fun _ h => h) rfl dX5_type_83 ?_
                                refine lv_lload_n hx hb dX5_type_86 rfl (lv_at hl 2 rfl) ?_
                                refine lv_bipush (v := 8) hx hb dX5_type_87 (by decide) ?_
                                refine lv_iload hx hb dX5_type_89 (lv_at hl 0 rfl) ?_
                                refine lv_imul hx hb dX5_type_91 ?_
                                refine lv_topi (nm_r (e' := 0) (by decide +kernel) ?_)
                                refine lv_lshr (v := (p1 >>> ((0 : Int32).toInt64 &&& 63))) hx hb dX5_type_92 rfl ?_
                                refine lv_ldc2 (v := 255) hx hb hown (hts _ m_k_RX5_108) dX5_type_93 ?_
                                refine lv_land hx hb dX5_type_96 ?_
                                refine lv_l2i (v := ((p1 >>> ((0 : Int32).toInt64 &&& 63)) &&& 255).toInt32) hx hb dX5_type_97 rfl ?_
                                refine va_iast (D := g.1) hx hb hK hP hD hS 1 0 rfl rfl (vp_in_iff.mpr (by decide +kernel)) dX5_type_98 (fun H locs hP hD hS => ?_)
                                have hP : va_P g.1 vwCl [(h0, .inr (5, [.ref h1, .int 0, .ref h2, .int 6, .int 0, .ref h3, .ref h4, .ref h5, .ref h6, .int 0, .ref h7, .ref h8, .ref h9, .int 0, .ref h10, .ref h11, .ref h12, .ref h13, .ref h14, .ref h15, .ref h16, .ref h17, .ref h18, .ref h19, .ref h20, .ref h21, .ref h22])), (h2, .inl (zI g, 60, .inl (upd (upd (upd (upd (upd (upd (upd (fun _ => 0) 0 (((p1 >>> ((48 : Int32).toInt64 &&& 63)) &&& 255).toInt32)) 1 (((p1 >>> ((40 : Int32).toInt64 &&& 63)) &&& 255).toInt32)) 2 (((p1 >>> ((32 : Int32).toInt64 &&& 63)) &&& 255).toInt32)) 3 (((p1 >>> ((24 : Int32).toInt64 &&& 63)) &&& 255).toInt32)) 4 (((p1 >>> ((16 : Int32).toInt64 &&& 63)) &&& 255).toInt32)) 5 (((p1 >>> ((8 : Int32).toInt64 &&& 63)) &&& 255).toInt32)) 6 (((p1 >>> ((0 : Int32).toInt64 &&& 63)) &&& 255).toInt32))))] H := hP
                                have hD : va_D A [(h0, .inr (5, [.ref h1, .int 0, .ref h2, .int 6, .int 0, .ref h3, .ref h4, .ref h5, .ref h6, .int 0, .ref h7, .ref h8, .ref h9, .int 0, .ref h10, .ref h11, .ref h12, .ref h13, .ref h14, .ref h15, .ref h16, .ref h17, .ref h18, .ref h19, .ref h20, .ref h21, .ref h22])), (h2, .inl (zI g, 60, .inl (upd (upd (upd (upd (upd (upd (upd (fun _ => 0) 0 (((p1 >>> ((48 : Int32).toInt64 &&& 63)) &&& 255).toInt32)) 1 (((p1 >>> ((40 : Int32).toInt64 &&& 63)) &&& 255).toInt32)) 2 (((p1 >>> ((32 : Int32).toInt64 &&& 63)) &&& 255).toInt32)) 3 (((p1 >>> ((24 : Int32).toInt64 &&& 63)) &&& 255).toInt32)) 4 (((p1 >>> ((16 : Int32).toInt64 &&& 63)) &&& 255).toInt32)) 5 (((p1 >>> ((8 : Int32).toInt64 &&& 63)) &&& 255).toInt32)) 6 (((p1 >>> ((0 : Int32).toInt64 &&& 63)) &&& 255).toInt32))))] := hD
                                refine lv_aload_n hx hb dX5_type_99 rfl (lv_at hl 1 rfl) ?_
                                refine lv_dup hx hb dX5_type_100 rfl ?_
                                refine va_get (D := g.1) (ci := 5) (v := .int 6) (C := RX5) (T := TX5) (N := 27) hx hb hts zl_X5 hown hK hP 0 rfl rfl 3 (by decide) (hts _ m_f_RX5_114) (fun _ h => h) rfl dX5_type_101 ?_
                                refine lv_iconst (v := 1) hx hb dX5_type_104 (by decide) ?_
                                refine lv_iadd hx hb dX5_type_105 ?_
                                refine lv_topi (nm_r (e' := 7) (by decide +kernel) ?_)
                                refine va_put (D := g.1) (ci := 5) (v := .int 7) (ty := .int) (C := RX5) (T := TX5) (N := 27) hx hb hts zl_X5 tyX5 tyX5_ok nmX5 hown hK hP hD hS 0 rfl rfl 3 (by decide) (hts _ m_f_RX5_114) (fun _ h => h) rfl (by decide +kernel) rfl rfl (Nat.le_of_ble_eq_true rfl) dX5_type_106 (fun H locs hP hD hS => ?_)
                                have hP : va_P g.1 vwCl [(h0, .inr (5, [.ref h1, .int 0, .ref h2, .int 7, .int 0, .ref h3, .ref h4, .ref h5, .ref h6, .int 0, .ref h7, .ref h8, .ref h9, .int 0, .ref h10, .ref h11, .ref h12, .ref h13, .ref h14, .ref h15, .ref h16, .ref h17, .ref h18, .ref h19, .ref h20, .ref h21, .ref h22])), (h2, .inl (zI g, 60, .inl (upd (upd (upd (upd (upd (upd (upd (fun _ => 0) 0 (((p1 >>> ((48 : Int32).toInt64 &&& 63)) &&& 255).toInt32)) 1 (((p1 >>> ((40 : Int32).toInt64 &&& 63)) &&& 255).toInt32)) 2 (((p1 >>> ((32 : Int32).toInt64 &&& 63)) &&& 255).toInt32)) 3 (((p1 >>> ((24 : Int32).toInt64 &&& 63)) &&& 255).toInt32)) 4 (((p1 >>> ((16 : Int32).toInt64 &&& 63)) &&& 255).toInt32)) 5 (((p1 >>> ((8 : Int32).toInt64 &&& 63)) &&& 255).toInt32)) 6 (((p1 >>> ((0 : Int32).toInt64 &&& 63)) &&& 255).toInt32))))] H := hP
                                have hD : va_D A [(h0, .inr (5, [.ref h1, .int 0, .ref h2, .int 7, .int 0, .ref h3, .ref h4, .ref h5, .ref h6, .int 0, .ref h7, .ref h8, .ref h9, .int 0, .ref h10, .ref h11, .ref h12, .ref h13, .ref h14, .ref h15, .ref h16, .ref h17, .ref h18, .ref h19, .ref h20, .ref h21, .ref h22])), (h2, .inl (zI g, 60, .inl (upd (upd (upd (upd (upd (upd (upd (fun _ => 0) 0 (((p1 >>> ((48 : Int32).toInt64 &&& 63)) &&& 255).toInt32)) 1 (((p1 >>> ((40 : Int32).toInt64 &&& 63)) &&& 255).toInt32)) 2 (((p1 >>> ((32 : Int32).toInt64 &&& 63)) &&& 255).toInt32)) 3 (((p1 >>> ((24 : Int32).toInt64 &&& 63)) &&& 255).toInt32)) 4 (((p1 >>> ((16 : Int32).toInt64 &&& 63)) &&& 255).toInt32)) 5 (((p1 >>> ((8 : Int32).toInt64 &&& 63)) &&& 255).toInt32)) 6 (((p1 >>> ((0 : Int32).toInt64 &&& 63)) &&& 255).toInt32))))] := hD
                                refine lv_iinc (v := (-1)) (lv' := [(4, .int (-1)), (0, .ref h0), (1, .long p1), (3, .int 7)]) hx hb dX5_type_109 hl (k := 0) rfl (by decide) (by decide) rfl (fun ls hl => ?_)
                                refine lv_goto (tgt := 73) hx hb dX5_type_112 (by decide) ?_
                                refine lv_iload hx hb dX5_type_73 (lv_at hl 0 rfl) ?_
                                refine lv_if_lt (tgt := 115) hx hb dX5_type_75 (by decide) (fun _ => ?_) (fun h => absurd h (by decide +kernel))
                                refine lv_aload_n hx hb dX5_type_115 rfl (lv_at hl 1 rfl) ?_
                                refine va_get (D := g.1) (ci := 5) (v := .int 7) (C := RX5) (T := TX5) (N := 27) hx hb hts zl_X5 hown hK hP 0 rfl rfl 3 (by decide) (hts _ m_f_RX5_114) (fun _ h => h) rfl dX5_type_116 ?_
                                have hP9 := hP.sub (ws' := []) [] rfl
                                have hD9 := hD.sub (ws' := []) [] (by decide) rfl
                                exact W.iret (v := 7) hx hb hr (fun t ht hW => ⟨⟨7, 0, rfl, Or.inr (Or.inr (Or.inr (Or.inr (Or.inr (Or.inr (Or.inr (Or.inr (Or.inr (Or.inr (Or.inr (Or.inr (Or.inr (Or.inr (Or.inr (Or.inr (Or.inr (Or.inr (Or.inr (Or.inr (Or.inr (Or.inr (Or.inl ⟨i_3, i_4, i_9, i_10, i_11, i_16, i_17, i_18, i_23, i_24, i_25, i_30, i_31, i_32, i_37, i_38, i_39, i_44, i_45, i_46, i_51, i_52, i_53, rfl⟩)))))))))))))))))))))), by rw [ht]; exact hP9, hD9⟩, hS.F ht⟩) hS.2.2 dX5_type_119
                              · have i_53 : 7 < p2.toInt := z_nle (rfl) (rfl) c_53
                                refine lv_lload_n hx hb dX5_type_23 rfl (lv_at hl 2 rfl) ?_
                                refine lv_bipush (v := 8) hx hb dX5_type_24 (by decide) ?_
                                refine lv_iload hx hb dX5_type_26 (lv_at hl 0 rfl) ?_
                                refine lv_imul hx hb dX5_type_28 ?_
                                refine lv_topi (nm_r (e' := 56) (by decide +kernel) ?_)
                                refine lv_lshr (v := (p1 >>> ((56 : Int32).toInt64 &&& 63))) hx hb dX5_type_29 rfl ?_
                                refine lv_ldc2 (v := 255) hx hb hown (hts _ m_k_RX5_108) dX5_type_30 ?_
                                refine lv_land hx hb dX5_type_33 ?_
                                refine lv_ldc2 (v := 32) hx hb hown (hts _ m_k_RX5_110) dX5_type_34 ?_
                                refine lv_ldc2 (v := 126) hx hb hown (hts _ m_k_RX5_112) dX5_type_37 ?_
                                refine z_calli (wr := [(h0, .inr (5, [.ref h1, .int 0, .ref h2, .int 0, .int 0, .ref h3, .ref h4, .ref h5, .ref h6, .int 0, .ref h7, .ref h8, .ref h9, .int 0, .ref h10, .ref h11, .ref h12, .ref h13, .ref h14, .ref h15, .ref h16, .ref h17, .ref h18, .ref h19, .ref h20, .ref h21, .ref h22])), (h2, .inl (zI g, 60, .inl (fun _ => 0)))]) hP hD hS hA [] [0, 1] (by decide) rfl rfl (by decide) (va_runS (As := [.long ((p1 >>> ((56 : Int32).toInt64 &&& 63)) &&& 255), .long 32, .long 126]) (rest := []) ⟨hx, hb, hml, hown, hts⟩ (kX5_in_18 l g  H.size ((p1 >>> ((56 : Int32).toInt64 &&& 63)) &&& 255)) ⟨callB_of 3 hts (zGood m_o_yX5_in) rfl rfl rfl (hts _ m_z_RX5) (hts _ m_m_RX5_77) ⟨by decide +kernel, by decide +kernel, by decide +kernel⟩ ⟨Nat.le_of_ble_eq_true rfl, Nat.le_of_ble_eq_true rfl⟩, hts _ m_s_yX5_in⟩ (zPreS hK hN hZ hP hD hS hA [] (by decide) rfl rfl) rfl rfl hl.1 rfl (lv_room (Nat.le_of_ble_eq_true rfl)) dX5_type_40 ⟨Nat.le_of_ble_eq_true rfl, Nat.le_of_ble_eq_true rfl⟩) (fun r u H locs hw hP hD hS => ?_)
                                rcases hw with ⟨i_55, rfl⟩ | ⟨i_56, i_57, rfl⟩ | ⟨i_58, i_59, rfl⟩
                                · skip
                                  have i_55 : (((p1 >>> ((56 : Int32).toInt64 &&& 63)) &&& 255) : Int64).toInt < 32 := i_55
                                  have hP : va_P g.1 vwCl [(h0, .inr (5, [.ref h1, .int 0, .ref h2, .int 0, .int 0, .ref h3, .ref h4, .ref h5, .ref h6, .int 0, .ref h7, .ref h8, .ref h9, .int 0, .ref h10, .ref h11, .ref h12, .ref h13, .ref h14, .ref h15, .ref h16, .ref h17, .ref h18, .ref h19, .ref h20, .ref h21, .ref h22])), (h2, .inl (zI g, 60, .inl (fun _ => 0)))] H := hP
                                  have hD : va_D A [(h0, .inr (5, [.ref h1, .int 0, .ref h2, .int 0, .int 0, .ref h3, .ref h4, .ref h5, .ref h6, .int 0, .ref h7, .ref h8, .ref h9, .int 0, .ref h10, .ref h11, .ref h12, .ref h13, .ref h14, .ref h15, .ref h16, .ref h17, .ref h18, .ref h19, .ref h20, .ref h21, .ref h22])), (h2, .inl (zI g, 60, .inl (fun _ => 0)))] := hD
                                  refine lv_if_ne (tgt := 48) hx hb dX5_type_43 (by decide) (fun h => absurd h (by decide +kernel)) (fun _ => ?_)
                                  refine lv_iconst (v := (-1)) hx hb dX5_type_46 (by decide) ?_
                                  have hP9 := hP.sub (ws' := []) [] rfl
                                  have hD9 := hD.sub (ws' := []) [] (by decide) rfl
                                  exact W.iret (v := (-1)) hx hb hr (fun t ht hW => ⟨⟨(-1), 0, rfl, Or.inr (Or.inr (Or.inr (Or.inr (Or.inr (Or.inr (Or.inr (Or.inr (Or.inr (Or.inr (Or.inr (Or.inr (Or.inr (Or.inr (Or.inr (Or.inr (Or.inr (Or.inr (Or.inr (Or.inr (Or.inr (Or.inr (Or.inr (Or.inl ⟨i_3, i_4, i_9, i_10, i_11, i_16, i_17, i_18, i_23, i_24, i_25, i_30, i_31, i_32, i_37, i_38, i_39, i_44, i_45, i_46, i_51, i_52, i_53, i_55, rfl⟩))))))))))))))))))))))), by rw [ht]; exact hP9, hD9⟩, hS.F ht⟩) hS.2.2 dX5_type_47
                                · skip
                                  have i_56 : 32 ≤ (((p1 >>> ((56 : Int32).toInt64 &&& 63)) &&& 255) : Int64).toInt := i_56
                                  have i_57 : 126 < (((p1 >>> ((56 : Int32).toInt64 &&& 63)) &&& 255) : Int64).toInt := i_57
                                  have hP : va_P g.1 vwCl [(h0, .inr (5, [.ref h1, .int 0, .ref h2, .int 0, .int 0, .ref h3, .ref h4, .ref h5, .ref h6, .int 0, .ref h7, .ref h8, .ref h9, .int 0, .ref h10, .ref h11, .ref h12, .ref h13, .ref h14, .ref h15, .ref h16, .ref h17, .ref h18, .ref h19, .ref h20, .ref h21, .ref h22])), (h2, .inl (zI g, 60, .inl (fun _ => 0)))] H := hP
                                  have hD : va_D A [(h0, .inr (5, [.ref h1, .int 0, .ref h2, .int 0, .int 0, .ref h3, .ref h4, .ref h5, .ref h6, .int 0, .ref h7, .ref h8, .ref h9, .int 0, .ref h10, .ref h11, .ref h12, .ref h13, .ref h14, .ref h15, .ref h16, .ref h17, .ref h18, .ref h19, .ref h20, .ref h21, .ref h22])), (h2, .inl (zI g, 60, .inl (fun _ => 0)))] := hD
                                  refine lv_if_ne (tgt := 48) hx hb dX5_type_43 (by decide) (fun h => absurd h (by decide +kernel)) (fun _ => ?_)
                                  refine lv_iconst (v := (-1)) hx hb dX5_type_46 (by decide) ?_
                                  have hP9 := hP.sub (ws' := []) [] rfl
                                  have hD9 := hD.sub (ws' := []) [] (by decide) rfl
                                  exact W.iret (v := (-1)) hx hb hr (fun t ht hW => ⟨⟨(-1), 0, rfl, Or.inr (Or.inr (Or.inr (Or.inr (Or.inr (Or.inr (Or.inr (Or.inr (Or.inr (Or.inr (Or.inr (Or.inr (Or.inr (Or.inr (Or.inr (Or.inr (Or.inr (Or.inr (Or.inr (Or.inr (Or.inr (Or.inr (Or.inr (Or.inr (Or.inl ⟨i_3, i_4, i_9, i_10, i_11, i_16, i_17, i_18, i_23, i_24, i_25, i_30, i_31, i_32, i_37, i_38, i_39, i_44, i_45, i_46, i_51, i_52, i_53, i_56, i_57, rfl⟩)))))))))))))))))))))))), by rw [ht]; exact hP9, hD9⟩, hS.F ht⟩) hS.2.2 dX5_type_47
                                · skip
                                  have i_58 : 32 ≤ (((p1 >>> ((56 : Int32).toInt64 &&& 63)) &&& 255) : Int64).toInt := i_58
                                  have i_59 : (((p1 >>> ((56 : Int32).toInt64 &&& 63)) &&& 255) : Int64).toInt ≤ 126 := i_59
                                  have hP : va_P g.1 vwCl [(h0, .inr (5, [.ref h1, .int 0, .ref h2, .int 0, .int 0, .ref h3, .ref h4, .ref h5, .ref h6, .int 0, .ref h7, .ref h8, .ref h9, .int 0, .ref h10, .ref h11, .ref h12, .ref h13, .ref h14, .ref h15, .ref h16, .ref h17, .ref h18, .ref h19, .ref h20, .ref h21, .ref h22])), (h2, .inl (zI g, 60, .inl (fun _ => 0)))] H := hP
                                  have hD : va_D A [(h0, .inr (5, [.ref h1, .int 0, .ref h2, .int 0, .int 0, .ref h3, .ref h4, .ref h5, .ref h6, .int 0, .ref h7, .ref h8, .ref h9, .int 0, .ref h10, .ref h11, .ref h12, .ref h13, .ref h14, .ref h15, .ref h16, .ref h17, .ref h18, .ref h19, .ref h20, .ref h21, .ref h22])), (h2, .inl (zI g, 60, .inl (fun _ => 0)))] := hD
                                  refine lv_if_ne (tgt := 48) hx hb dX5_type_43 (by decide) (fun _ => ?_) (fun h => absurd h (by decide +kernel))
                                  refine lv_iinc (v := 8) (lv' := [(4, .int 8), (0, .ref h0), (1, .long p1), (3, .int p2)]) hx hb dX5_type_48 hl (k := 0) rfl (by decide) (by decide) rfl (fun ls hl => ?_)
                                  refine lv_goto (tgt := 17) hx hb dX5_type_51 (by decide) ?_
                                  refine lv_iload hx hb dX5_type_17 (lv_at hl 0 rfl) ?_
                                  refine lv_iload_n hx hb dX5_type_19 rfl (lv_at hl 3 rfl) ?_
                                  refine lv_icmp_ge (tgt := 54) hx hb dX5_type_20 (by decide) (fun c_60 => ?_) (fun c_60 => absurd (show 8 < p2.toInt from z_nle (rfl) (rfl) c_60) (by omega))
                                  have i_60 : p2.toInt ≤ 8 := z_le (rfl) (rfl) c_60
                                  refine lv_aload_n hx hb dX5_type_54 rfl (lv_at hl 1 rfl) ?_
                                  refine va_get (D := g.1) (ci := 5) (v := .int 0) (C := RX5) (T := TX5) (N := 27) hx hb hts zl_X5 hown hK hP 0 rfl rfl 3 (by decide) (hts _ m_f_RX5_114) (fun _ h => h) rfl dX5_type_55 ?_
                                  refine lv_iload_n hx hb dX5_type_58 rfl (lv_at hl 3 rfl) ?_
                                  obtain rfl : p2 = 8 := Int32.toInt_inj.mp (show p2.toInt = (8 : Int32).toInt from (show p2.toInt = 8 by omega).trans rfl)
                                  refine lv_iadd hx hb dX5_type_59 ?_
                                  refine lv_topi (nm_r (e' := 8) (by decide +kernel) ?_)
                                  refine lv_bipush (v := 60) hx hb dX5_type_60 (by decide) ?_
                                  refine lv_icmp_le (tgt := 68) hx hb dX5_type_62 (by decide) (fun _ => ?_) (fun h => absurd h (by decide +kernel))
                                  refine lv_iload_n hx hb dX5_type_68 rfl (lv_at hl 3 rfl) ?_
                                  refine lv_iconst (v := 1) hx hb dX5_type_69 (by decide) ?_
                                  refine lv_isub hx hb dX5_type_70 ?_
                                  refine lv_topi (nm_r (e' := 7) (by decide +kernel) ?_)
                                  refine lv_istore (lv' := [(4, .int 7), (0, .ref h0), (1, .long p1), (3, .int 8)]) hx hb dX5_type_71 hl (by decide) rfl (fun ls hl => ?_)
                                  refine lv_iload hx hb dX5_type_73 (lv_at hl 0 rfl) ?_
                                  refine lv_if_lt (tgt := 115) hx hb dX5_type_75 (by decide) (fun h => absurd h (by decide +kernel)) (fun _ => ?_)
                                  refine lv_aload_n hx hb dX5_type_78 rfl (lv_at hl 1 rfl) ?_
                                  refine va_get (D := g.1) (ci := 5) (v := .ref h2) (C := RX5) (T := TX5) (N := 27) hx hb hts zl_X5 hown hK hP 0 rfl rfl 2 (by decide) (hts _ m_f_RX5_13) (fun _ h => h) rfl dX5_type_79 ?_
                                  refine lv_aload_n hx hb dX5_type_82 rfl (lv_at hl 1 rfl) ?_
                                  refine va_get (D := g.1) (ci := 5) (v := .int 0) (C := RX5) (T := TX5) (N := 27) hx hb hts zl_X5 hown hK hP 0 rfl rfl 3 (by decide) (hts _ m_f_RX5_114) (fun _ h => h) rfl dX5_type_83 ?_
                                  refine lv_lload_n hx hb dX5_type_86 rfl (lv_at hl 2 rfl) ?_
                                  refine lv_bipush (v := 8) hx hb dX5_type_87 (by decide) ?_
                                  refine lv_iload hx hb dX5_type_89 (lv_at hl 0 rfl) ?_
                                  refine lv_imul hx hb dX5_type_91 ?_
                                  refine lv_topi (nm_r (e' := 56) (by decide +kernel) ?_)
                                  refine lv_lshr (v := (p1 >>> ((56 : Int32).toInt64 &&& 63))) hx hb dX5_type_92 rfl ?_
                                  refine lv_ldc2 (v := 255) hx hb hown (hts _ m_k_RX5_108) dX5_type_93 ?_
                                  refine lv_land hx hb dX5_type_96 ?_
                                  refine lv_l2i (v := ((p1 >>> ((56 : Int32).toInt64 &&& 63)) &&& 255).toInt32) hx hb dX5_type_97 rfl ?_
                                  refine va_iast (D := g.1) hx hb hK hP hD hS 1 0 rfl rfl (vp_in_iff.mpr (by decide +kernel)) dX5_type_98 (fun H locs hP hD hS => ?_)
                                  have hP : va_P g.1 vwCl [(h0, .inr (5, [.ref h1, .int 0, .ref h2, .int 0, .int 0, .ref h3, .ref h4, .ref h5, .ref h6, .int 0, .ref h7, .ref h8, .ref h9, .int 0, .ref h10, .ref h11, .ref h12, .ref h13, .ref h14, .ref h15, .ref h16, .ref h17, .ref h18, .ref h19, .ref h20, .ref h21, .ref h22])), (h2, .inl (zI g, 60, .inl (upd (fun _ => 0) 0 (((p1 >>> ((56 : Int32).toInt64 &&& 63)) &&& 255).toInt32))))] H := hP
                                  have hD : va_D A [(h0, .inr (5, [.ref h1, .int 0, .ref h2, .int 0, .int 0, .ref h3, .ref h4, .ref h5, .ref h6, .int 0, .ref h7, .ref h8, .ref h9, .int 0, .ref h10, .ref h11, .ref h12, .ref h13, .ref h14, .ref h15, .ref h16, .ref h17, .ref h18, .ref h19, .ref h20, .ref h21, .ref h22])), (h2, .inl (zI g, 60, .inl (upd (fun _ => 0) 0 (((p1 >>> ((56 : Int32).toInt64 &&& 63)) &&& 255).toInt32))))] := hD
                                  refine lv_aload_n hx hb dX5_type_99 rfl (lv_at hl 1 rfl) ?_
                                  refine lv_dup hx hb dX5_type_100 rfl ?_
                                  refine va_get (D := g.1) (ci := 5) (v := .int 0) (C := RX5) (T := TX5) (N := 27) hx hb hts zl_X5 hown hK hP 0 rfl rfl 3 (by decide) (hts _ m_f_RX5_114) (fun _ h => h) rfl dX5_type_101 ?_
                                  refine lv_iconst (v := 1) hx hb dX5_type_104 (by decide) ?_
                                  refine lv_iadd hx hb dX5_type_105 ?_
                                  refine lv_topi (nm_r (e' := 1) (by decide +kernel) ?_)
                                  refine va_put (D := g.1) (ci := 5) (v := .int 1) (ty := .int) (C := RX5) (T := TX5) (N := 27) hx hb hts zl_X5 tyX5 tyX5_ok nmX5 hown hK hP hD hS 0 rfl rfl 3 (by decide) (hts _ m_f_RX5_114) (fun _ h => h) rfl (by decide +kernel) rfl rfl (Nat.le_of_ble_eq_true rfl) dX5_type_106 (fun H locs hP hD hS => ?_)
                                  have hP : va_P g.1 vwCl [(h0, .inr (5, [.ref h1, .int 0, .ref h2, .int 1, .int 0, .ref h3, .ref h4, .ref h5, .ref h6, .int 0, .ref h7, .ref h8, .ref h9, .int 0, .ref h10, .ref h11, .ref h12, .ref h13, .ref h14, .ref h15, .ref h16, .ref h17, .ref h18, .ref h19, .ref h20, .ref h21, .ref h22])), (h2, .inl (zI g, 60, .inl (upd (fun _ => 0) 0 (((p1 >>> ((56 : Int32).toInt64 &&& 63)) &&& 255).toInt32))))] H := hP
                                  have hD : va_D A [(h0, .inr (5, [.ref h1, .int 0, .ref h2, .int 1, .int 0, .ref h3, .ref h4, .ref h5, .ref h6, .int 0, .ref h7, .ref h8, .ref h9, .int 0, .ref h10, .ref h11, .ref h12, .ref h13, .ref h14, .ref h15, .ref h16, .ref h17, .ref h18, .ref h19, .ref h20, .ref h21, .ref h22])), (h2, .inl (zI g, 60, .inl (upd (fun _ => 0) 0 (((p1 >>> ((56 : Int32).toInt64 &&& 63)) &&& 255).toInt32))))] := hD
                                  refine lv_iinc (v := 6) (lv' := [(4, .int 6), (0, .ref h0), (1, .long p1), (3, .int 8)]) hx hb dX5_type_109 hl (k := 0) rfl (by decide) (by decide) rfl (fun ls hl => ?_)
                                  refine lv_goto (tgt := 73) hx hb dX5_type_112 (by decide) ?_
                                  refine lv_iload hx hb dX5_type_73 (lv_at hl 0 rfl) ?_
                                  refine lv_if_lt (tgt := 115) hx hb dX5_type_75 (by decide) (fun h => absurd h (by decide +kernel)) (fun _ => ?_)
                                  refine lv_aload_n hx hb dX5_type_78 rfl (lv_at hl 1 rfl) ?_
                                  refine va_get (D := g.1) (ci := 5) (v := .ref h2) (C := RX5) (T := TX5) (N := 27) hx hb hts zl_X5 hown hK hP 0 rfl rfl 2 (by decide) (hts _ m_f_RX5_13) (fun _ h => h) rfl dX5_type_79 ?_
                                  refine lv_aload_n hx hb dX5_type_82 rfl (lv_at hl 1 rfl) ?_
                                  refine va_get (D := g.1) (ci := 5) (v := .int 1) (C := RX5) (T := TX5) (N := 27) hx hb hts zl_X5 hown hK hP 0 rfl rfl 3 (by decide) (hts _ m_f_RX5_114) (fun _ h => h) rfl dX5_type_83 ?_
                                  refine lv_lload_n hx hb dX5_type_86 rfl (lv_at hl 2 rfl) ?_
                                  refine lv_bipush (v := 8) hx hb dX5_type_87 (by decide) ?_
                                  refine lv_iload hx hb dX5_type_89 (lv_at hl 0 rfl) ?_
                                  refine lv_imul hx hb dX5_type_91 ?_
                                  refine lv_topi (nm_r (e' := 48) (by decide +kernel) ?_)
                                  refine lv_lshr (v := (p1 >>> ((48 : Int32).toInt64 &&& 63))) hx hb dX5_type_92 rfl ?_
                                  refine lv_ldc2 (v := 255) hx hb hown (hts _ m_k_RX5_108) dX5_type_93 ?_
                                  refine lv_land hx hb dX5_type_96 ?_
                                  refine lv_l2i (v := ((p1 >>> ((48 : Int32).toInt64 &&& 63)) &&& 255).toInt32) hx hb dX5_type_97 rfl ?_
                                  refine va_iast (D := g.1) hx hb hK hP hD hS 1 0 rfl rfl (vp_in_iff.mpr (by decide +kernel)) dX5_type_98 (fun H locs hP hD hS => ?_)
                                  have hP : va_P g.1 vwCl [(h0, .inr (5, [.ref h1, .int 0, .ref h2, .int 1, .int 0, .ref h3, .ref h4, .ref h5, .ref h6, .int 0, .ref h7, .ref h8, .ref h9, .int 0, .ref h10, .ref h11, .ref h12, .ref h13, .ref h14, .ref h15, .ref h16, .ref h17, .ref h18, .ref h19, .ref h20, .ref h21, .ref h22])), (h2, .inl (zI g, 60, .inl (upd (upd (fun _ => 0) 0 (((p1 >>> ((56 : Int32).toInt64 &&& 63)) &&& 255).toInt32)) 1 (((p1 >>> ((48 : Int32).toInt64 &&& 63)) &&& 255).toInt32))))] H := hP
                                  have hD : va_D A [(h0, .inr (5, [.ref h1, .int 0, .ref h2, .int 1, .int 0, .ref h3, .ref h4, .ref h5, .ref h6, .int 0, .ref h7, .ref h8, .ref h9, .int 0, .ref h10, .ref h11, .ref h12, .ref h13, .ref h14, .ref h15, .ref h16, .ref h17, .ref h18, .ref h19, .ref h20, .ref h21, .ref h22])), (h2, .inl (zI g, 60, .inl (upd (upd (fun _ => 0) 0 (((p1 >>> ((56 : Int32).toInt64 &&& 63)) &&& 255).toInt32)) 1 (((p1 >>> ((48 : Int32).toInt64 &&& 63)) &&& 255).toInt32))))] := hD
                                  refine lv_aload_n hx hb dX5_type_99 rfl (lv_at hl 1 rfl) ?_
                                  refine lv_dup hx hb dX5_type_100 rfl ?_
                                  refine va_get (D := g.1) (ci := 5) (v := .int 1) (C := RX5) (T := TX5) (N := 27) hx hb hts zl_X5 hown hK hP 0 rfl rfl 3 (by decide) (hts _ m_f_RX5_114) (fun _ h => h) rfl dX5_type_101 ?_
                                  refine lv_iconst (v := 1) hx hb dX5_type_104 (by decide) ?_
                                  refine lv_iadd hx hb dX5_type_105 ?_
                                  refine lv_topi (nm_r (e' := 2) (by decide +kernel) ?_)
                                  refine va_put (D := g.1) (ci := 5) (v := .int 2) (ty := .int) (C := RX5) (T := TX5) (N := 27) hx hb hts zl_X5 tyX5 tyX5_ok nmX5 hown hK hP hD hS 0 rfl rfl 3 (by decide) (hts _ m_f_RX5_114) (fun _ h => h) rfl (by decide +kernel) rfl rfl (Nat.le_of_ble_eq_true rfl) dX5_type_106 (fun H locs hP hD hS => ?_)
                                  have hP : va_P g.1 vwCl [(h0, .inr (5, [.ref h1, .int 0, .ref h2, .int 2, .int 0, .ref h3, .ref h4, .ref h5, .ref h6, .int 0, .ref h7, .ref h8, .ref h9, .int 0, .ref h10, .ref h11, .ref h12, .ref h13, .ref h14, .ref h15, .ref h16, .ref h17, .ref h18, .ref h19, .ref h20, .ref h21, .ref h22])), (h2, .inl (zI g, 60, .inl (upd (upd (fun _ => 0) 0 (((p1 >>> ((56 : Int32).toInt64 &&& 63)) &&& 255).toInt32)) 1 (((p1 >>> ((48 : Int32).toInt64 &&& 63)) &&& 255).toInt32))))] H := hP
                                  have hD : va_D A [(h0, .inr (5, [.ref h1, .int 0, .ref h2, .int 2, .int 0, .ref h3, .ref h4, .ref h5, .ref h6, .int 0, .ref h7, .ref h8, .ref h9, .int 0, .ref h10, .ref h11, .ref h12, .ref h13, .ref h14, .ref h15, .ref h16, .ref h17, .ref h18, .ref h19, .ref h20, .ref h21, .ref h22])), (h2, .inl (zI g, 60, .inl (upd (upd (fun _ => 0) 0 (((p1 >>> ((56 : Int32).toInt64 &&& 63)) &&& 255).toInt32)) 1 (((p1 >>> ((48 : Int32).toInt64 &&& 63)) &&& 255).toInt32))))] := hD
                                  refine lv_iinc (v := 5) (lv' := [(4, .int 5), (0, .ref h0), (1, .long p1), (3, .int 8)]) hx hb dX5_type_109 hl (k := 0) rfl (by decide) (by decide) rfl (fun ls hl => ?_)
                                  refine lv_goto (tgt := 73) hx hb dX5_type_112 (by decide) ?_
                                  refine lv_iload hx hb dX5_type_73 (lv_at hl 0 rfl) ?_
                                  refine lv_if_lt (tgt := 115) hx hb dX5_type_75 (by decide) (fun h => absurd h (by decide +kernel)) (fun _ => ?_)
                                  refine lv_aload_n hx hb dX5_type_78 rfl (lv_at hl 1 rfl) ?_
                                  refine va_get (D := g.1) (ci := 5) (v := .ref h2) (C := RX5) (T := TX5) (N := 27) hx hb hts zl_X5 hown hK hP 0 rfl rfl 2 (by decide) (hts _ m_f_RX5_13) (fun _ h => h) rfl dX5_type_79 ?_
                                  refine lv_aload_n hx hb dX5_type_82 rfl (lv_at hl 1 rfl) ?_
                                  refine va_get (D := g.1) (ci := 5) (v := .int 2) (C := RX5) (T := TX5) (N := 27) hx hb hts zl_X5 hown hK hP 0 rfl rfl 3 (by decide) (hts _ m_f_RX5_114) (fun _ h => h) rfl dX5_type_83 ?_
                                  refine lv_lload_n hx hb dX5_type_86 rfl (lv_at hl 2 rfl) ?_
                                  refine lv_bipush (v := 8) hx hb dX5_type_87 (by decide) ?_
                                  refine lv_iload hx hb dX5_type_89 (lv_at hl 0 rfl) ?_
                                  refine lv_imul hx hb dX5_type_91 ?_
                                  refine lv_topi (nm_r (e' := 40) (by decide +kernel) ?_)
                                  refine lv_lshr (v := (p1 >>> ((40 : Int32).toInt64 &&& 63))) hx hb dX5_type_92 rfl ?_
                                  refine lv_ldc2 (v := 255) hx hb hown (hts _ m_k_RX5_108) dX5_type_93 ?_
                                  refine lv_land hx hb dX5_type_96 ?_
                                  refine lv_l2i (v := ((p1 >>> ((40 : Int32).toInt64 &&& 63)) &&& 255).toInt32) hx hb dX5_type_97 rfl ?_
                                  refine va_iast (D := g.1) hx hb hK hP hD hS 1 0 rfl rfl (vp_in_iff.mpr (by decide +kernel)) dX5_type_98 (fun H locs hP hD hS => ?_)
                                  have hP : va_P g.1 vwCl [(h0, .inr (5, [.ref h1, .int 0, .ref h2, .int 2, .int 0, .ref h3, .ref h4, .ref h5, .ref h6, .int 0, .ref h7, .ref h8, .ref h9, .int 0, .ref h10, .ref h11, .ref h12, .ref h13, .ref h14, .ref h15, .ref h16, .ref h17, .ref h18, .ref h19, .ref h20, .ref h21, .ref h22])), (h2, .inl (zI g, 60, .inl (upd (upd (upd (fun _ => 0) 0 (((p1 >>> ((56 : Int32).toInt64 &&& 63)) &&& 255).toInt32)) 1 (((p1 >>> ((48 : Int32).toInt64 &&& 63)) &&& 255).toInt32)) 2 (((p1 >>> ((40 : Int32).toInt64 &&& 63)) &&& 255).toInt32))))] H := hP
                                  have hD : va_D A [(h0, .inr (5, [.ref h1, .int 0, .ref h2, .int 2, .int 0, .ref h3, .ref h4, .ref h5, .ref h6, .int 0, .ref h7, .ref h8, .ref h9, .int 0, .ref h10, .ref h11, .ref h12, .ref h13, .ref h14, .ref h15, .ref h16, .ref h17, .ref h18, .ref h19, .ref h20, .ref h21, .ref h22])), (h2, .inl (zI g, 60, .inl (upd (upd (upd (fun _ => 0) 0 (((p1 >>> ((56 : Int32).toInt64 &&& 63)) &&& 255).toInt32)) 1 (((p1 >>> ((48 : Int32).toInt64 &&& 63)) &&& 255).toInt32)) 2 (((p1 >>> ((40 : Int32).toInt64 &&& 63)) &&& 255).toInt32))))] := hD
                                  refine lv_aload_n hx hb dX5_type_99 rfl (lv_at hl 1 rfl) ?_
                                  refine lv_dup hx hb dX5_type_100 rfl ?_
                                  refine va_get (D := g.1) (ci := 5) (v := .int 2) (C := RX5) (T := TX5) (N := 27) hx hb hts zl_X5 hown hK hP 0 rfl rfl 3 (by decide) (hts _ m_f_RX5_114) (fun _ h => h) rfl dX5_type_101 ?_
                                  refine lv_iconst (v := 1) hx hb dX5_type_104 (by decide) ?_
                                  refine lv_iadd hx hb dX5_type_105 ?_
                                  refine lv_topi (nm_r (e' := 3) (by decide +kernel) ?_)
                                  refine va_put (D := g.1) (ci := 5) (v := .int 3) (ty := .int) (C := RX5) (T := TX5) (N := 27) hx hb hts zl_X5 tyX5 tyX5_ok nmX5 hown hK hP hD hS 0 rfl rfl 3 (by decide) (hts _ m_f_RX5_114) (fun _ h => h) rfl (by decide +kernel) rfl rfl (Nat.le_of_ble_eq_true rfl) dX5_type_106 (fun H locs hP hD hS => ?_)
                                  have hP : va_P g.1 vwCl [(h0, .inr (5, [.ref h1, .int 0, .ref h2, .int 3, .int 0, .ref h3, .ref h4, .ref h5, .ref h6, .int 0, .ref h7, .ref h8, .ref h9, .int 0, .ref h10, .ref h11, .ref h12, .ref h13, .ref h14, .ref h15, .ref h16, .ref h17, .ref h18, .ref h19, .ref h20, .ref h21, .ref h22])), (h2, .inl (zI g, 60, .inl (upd (upd (upd (fun _ => 0) 0 (((p1 >>> ((56 : Int32).toInt64 &&& 63)) &&& 255).toInt32)) 1 (((p1 >>> ((48 : Int32).toInt64 &&& 63)) &&& 255).toInt32)) 2 (((p1 >>> ((40 : Int32).toInt64 &&& 63)) &&& 255).toInt32))))] H := hP
                                  have hD : va_D A [(h0, .inr (5, [.ref h1, .int 0, .ref h2, .int 3, .int 0, .ref h3, .ref h4, .ref h5, .ref h6, .int 0, .ref h7, .ref h8, .ref h9, .int 0, .ref h10, .ref h11, .ref h12, .ref h13, .ref h14, .ref h15, .ref h16, .ref h17, .ref h18, .ref h19, .ref h20, .ref h21, .ref h22])), (h2, .inl (zI g, 60, .inl (upd (upd (upd (fun _ => 0) 0 (((p1 >>> ((56 : Int32).toInt64 &&& 63)) &&& 255).toInt32)) 1 (((p1 >>> ((48 : Int32).toInt64 &&& 63)) &&& 255).toInt32)) 2 (((p1 >>> ((40 : Int32).toInt64 &&& 63)) &&& 255).toInt32))))] := hD
                                  refine lv_iinc (v := 4) (lv' := [(4, .int 4), (0, .ref h0), (1, .long p1), (3, .int 8)]) hx hb dX5_type_109 hl (k := 0) rfl (by decide) (by decide) rfl (fun ls hl => ?_)
                                  refine lv_goto (tgt := 73) hx hb dX5_type_112 (by decide) ?_
                                  refine lv_iload hx hb dX5_type_73 (lv_at hl 0 rfl) ?_
                                  refine lv_if_lt (tgt := 115) hx hb dX5_type_75 (by decide) (fun h => absurd h (by decide +kernel)) (fun _ => ?_)
                                  refine lv_aload_n hx hb dX5_type_78 rfl (lv_at hl 1 rfl) ?_
                                  refine va_get (D := g.1) (ci := 5) (v := .ref h2) (C := RX5) (T := TX5) (N := 27) hx hb hts zl_X5 hown hK hP 0 rfl rfl 2 (by decide) (hts _ m_f_RX5_13) (fun _ h => h) rfl dX5_type_79 ?_
                                  refine lv_aload_n hx hb dX5_type_82 rfl (lv_at hl 1 rfl) ?_
                                  refine va_get (D := g.1) (ci := 5) (v := .int 3) (C := RX5) (T := TX5) (N := 27) hx hb hts zl_X5 hown hK hP 0 rfl rfl 3 (by decide) (hts _ m_f_RX5_114) (fun _ h => h) rfl dX5_type_83 ?_
                                  refine lv_lload_n hx hb dX5_type_86 rfl (lv_at hl 2 rfl) ?_
                                  refine lv_bipush (v := 8) hx hb dX5_type_87 (by decide) ?_
                                  refine lv_iload hx hb dX5_type_89 (lv_at hl 0 rfl) ?_
                                  refine lv_imul hx hb dX5_type_91 ?_
                                  refine lv_topi (nm_r (e' := 32) (by decide +kernel) ?_)
                                  refine lv_lshr (v := (p1 >>> ((32 : Int32).toInt64 &&& 63))) hx hb dX5_type_92 rfl ?_
                                  refine lv_ldc2 (v := 255) hx hb hown (hts _ m_k_RX5_108) dX5_type_93 ?_
                                  refine lv_land hx hb dX5_type_96 ?_
                                  refine lv_l2i (v := ((p1 >>> ((32 : Int32).toInt64 &&& 63)) &&& 255).toInt32) hx hb dX5_type_97 rfl ?_
                                  refine va_iast (D := g.1) hx hb hK hP hD hS 1 0 rfl rfl (vp_in_iff.mpr (by decide +kernel)) dX5_type_98 (fun H locs hP hD hS => ?_)
                                  have hP : va_P g.1 vwCl [(h0, .inr (5, [.ref h1, .int 0, .ref h2, .int 3, .int 0, .ref h3, .ref h4, .ref h5, .ref h6, .int 0, .ref h7, .ref h8, .ref h9, .int 0, .ref h10, .ref h11, .ref h12, .ref h13, .ref h14, .ref h15, .ref h16, .ref h17, .ref h18, .ref h19, .ref h20, .ref h21, .ref h22])), (h2, .inl (zI g, 60, .inl (upd (upd (upd (upd (fun _ => 0) 0 (((p1 >>> ((56 : Int32).toInt64 &&& 63)) &&& 255).toInt32)) 1 (((p1 >>> ((48 : Int32).toInt64 &&& 63)) &&& 255).toInt32)) 2 (((p1 >>> ((40 : Int32).toInt64 &&& 63)) &&& 255).toInt32)) 3 (((p1 >>> ((32 : Int32).toInt64 &&& 63)) &&& 255).toInt32))))] H := hP
                                  have hD : va_D A [(h0, .inr (5, [.ref h1, .int 0, .ref h2, .int 3, .int 0, .ref h3, .ref h4, .ref h5, .ref h6, .int 0, .ref h7, .ref h8, .ref h9, .int 0, .ref h10, .ref h11, .ref h12, .ref h13, .ref h14, .ref h15, .ref h16, .ref h17, .ref h18, .ref h19, .ref h20, .ref h21, .ref h22])), (h2, .inl (zI g, 60, .inl (upd (upd (upd (upd (fun _ => 0) 0 (((p1 >>> ((56 : Int32).toInt64 &&& 63)) &&& 255).toInt32)) 1 (((p1 >>> ((48 : Int32).toInt64 &&& 63)) &&& 255).toInt32)) 2 (((p1 >>> ((40 : Int32).toInt64 &&& 63)) &&& 255).toInt32)) 3 (((p1 >>> ((32 : Int32).toInt64 &&& 63)) &&& 255).toInt32))))] := hD
                                  refine lv_aload_n hx hb dX5_type_99 rfl (lv_at hl 1 rfl) ?_
                                  refine lv_dup hx hb dX5_type_100 rfl ?_
                                  refine va_get (D := g.1) (ci := 5) (v := .int 3) (C := RX5) (T := TX5) (N := 27) hx hb hts zl_X5 hown hK hP 0 rfl rfl 3 (by decide) (hts _ m_f_RX5_114) (fun _ h => h) rfl dX5_type_101 ?_
                                  refine lv_iconst (v := 1) hx hb dX5_type_104 (by decide) ?_
                                  refine lv_iadd hx hb dX5_type_105 ?_
                                  refine lv_topi (nm_r (e' := 4) (by decide +kernel) ?_)
                                  refine va_put (D := g.1) (ci := 5) (v := .int 4) (ty := .int) (C := RX5) (T := TX5) (N := 27) hx hb hts zl_X5 tyX5 tyX5_ok nmX5 hown hK hP hD hS 0 rfl rfl 3 (by decide) (hts _ m_f_RX5_114) (fun _ h => h) rfl (by decide +kernel) rfl rfl (Nat.le_of_ble_eq_true rfl) dX5_type_106 (fun H locs hP hD hS => ?_)
                                  have hP : va_P g.1 vwCl [(h0, .inr (5, [.ref h1, .int 0, .ref h2, .int 4, .int 0, .ref h3, .ref h4, .ref h5, .ref h6, .int 0, .ref h7, .ref h8, .ref h9, .int 0, .ref h10, .ref h11, .ref h12, .ref h13, .ref h14, .ref h15, .ref h16, .ref h17, .ref h18, .ref h19, .ref h20, .ref h21, .ref h22])), (h2, .inl (zI g, 60, .inl (upd (upd (upd (upd (fun _ => 0) 0 (((p1 >>> ((56 : Int32).toInt64 &&& 63)) &&& 255).toInt32)) 1 (((p1 >>> ((48 : Int32).toInt64 &&& 63)) &&& 255).toInt32)) 2 (((p1 >>> ((40 : Int32).toInt64 &&& 63)) &&& 255).toInt32)) 3 (((p1 >>> ((32 : Int32).toInt64 &&& 63)) &&& 255).toInt32))))] H := hP
                                  have hD : va_D A [(h0, .inr (5, [.ref h1, .int 0, .ref h2, .int 4, .int 0, .ref h3, .ref h4, .ref h5, .ref h6, .int 0, .ref h7, .ref h8, .ref h9, .int 0, .ref h10, .ref h11, .ref h12, .ref h13, .ref h14, .ref h15, .ref h16, .ref h17, .ref h18, .ref h19, .ref h20, .ref h21, .ref h22])), (h2, .inl (zI g, 60, .inl (upd (upd (upd (upd (fun _ => 0) 0 (((p1 >>> ((56 : Int32).toInt64 &&& 63)) &&& 255).toInt32)) 1 (((p1 >>> ((48 : Int32).toInt64 &&& 63)) &&& 255).toInt32)) 2 (((p1 >>> ((40 : Int32).toInt64 &&& 63)) &&& 255).toInt32)) 3 (((p1 >>> ((32 : Int32).toInt64 &&& 63)) &&& 255).toInt32))))] := hD
                                  refine lv_iinc (v := 3) (lv' := [(4, .int 3), (0, .ref h0), (1, .long p1), (3, .int 8)]) hx hb dX5_type_109 hl (k := 0) rfl (by decide) (by decide) rfl (fun ls hl => ?_)
                                  refine lv_goto (tgt := 73) hx hb dX5_type_112 (by decide) ?_
                                  refine lv_iload hx hb dX5_type_73 (lv_at hl 0 rfl) ?_
                                  refine lv_if_lt (tgt := 115) hx hb dX5_type_75 (by decide) (fun h => absurd h (by decide +kernel)) (fun _ => ?_)
                                  refine lv_aload_n hx hb dX5_type_78 rfl (lv_at hl 1 rfl) ?_
                                  refine va_get (D := g.1) (ci := 5) (v := .ref h2) (C := RX5) (T := TX5) (N := 27) hx hb hts zl_X5 hown hK hP 0 rfl rfl 2 (by decide) (hts _ m_f_RX5_13) (fun _ h => h) rfl dX5_type_79 ?_
                                  refine lv_aload_n hx hb dX5_type_82 rfl (lv_at hl 1 rfl) ?_
                                  refine va_get (D := g.1) (ci := 5) (v := .int 4) (C := RX5) (T := TX5) (N := 27) hx hb hts zl_X5 hown hK hP 0 rfl rfl 3 (by decide) (hts _ m_f_RX5_114) (fun _ h => h) rfl dX5_type_83 ?_
                                  refine lv_lload_n hx hb dX5_type_86 rfl (lv_at hl 2 rfl) ?_
                                  refine lv_bipush (v := 8) hx hb dX5_type_87 (by decide) ?_
                                  refine lv_iload hx hb dX5_type_89 (lv_at hl 0 rfl) ?_
                                  refine lv_imul hx hb dX5_type_91 ?_
                                  refine lv_topi (nm_r (e' := 24) (by decide +kernel) ?_)
                                  refine lv_lshr (v := (p1 >>> ((24 : Int32).toInt64 &&& 63))) hx hb dX5_type_92 rfl ?_
                                  refine lv_ldc2 (v := 255) hx hb hown (hts _ m_k_RX5_108) dX5_type_93 ?_
                                  refine lv_land hx hb dX5_type_96 ?_
                                  refine lv_l2i (v := ((p1 >>> ((24 : Int32).toInt64 &&& 63)) &&& 255).toInt32) hx hb dX5_type_97 rfl ?_
                                  refine va_iast (D := g.1) hx hb hK hP hD hS 1 0 rfl rfl (vp_in_iff.mpr (by decide +kernel)) dX5_type_98 (fun H locs hP hD hS => ?_)
                                  have hP : va_P g.1 vwCl [(h0, .inr (5, [.ref h1, .int 0, .ref h2, .int 4, .int 0, .ref h3, .ref h4, .ref h5, .ref h6, .int 0, .ref h7, .ref h8, .ref h9, .int 0, .ref h10, .ref h11, .ref h12, .ref h13, .ref h14, .ref h15, .ref h16, .ref h17, .ref h18, .ref h19, .ref h20, .ref h21, .ref h22])), (h2, .inl (zI g, 60, .inl (upd (upd (upd (upd (upd (fun _ => 0) 0 (((p1 >>> ((56 : Int32).toInt64 &&& 63)) &&& 255).toInt32)) 1 (((p1 >>> ((48 : Int32).toInt64 &&& 63)) &&& 255).toInt32)) 2 (((p1 >>> ((40 : Int32).toInt64 &&& 63)) &&& 255).toInt32)) 3 (((p1 >>> ((32 : Int32).toInt64 &&& 63)) &&& 255).toInt32)) 4 (((p1 >>> ((24 : Int32).toInt64 &&& 63)) &&& 255).toInt32))))] H := hP
                                  have hD : va_D A [(h0, .inr (5, [.ref h1, .int 0, .ref h2, .int 4, .int 0, .ref h3, .ref h4, .ref h5, .ref h6, .int 0, .ref h7, .ref h8, .ref h9, .int 0, .ref h10, .ref h11, .ref h12, .ref h13, .ref h14, .ref h15, .ref h16, .ref h17, .ref h18, .ref h19, .ref h20, .ref h21, .ref h22])), (h2, .inl (zI g, 60, .inl (upd (upd (upd (upd (upd (fun _ => 0) 0 (((p1 >>> ((56 : Int32).toInt64 &&& 63)) &&& 255).toInt32)) 1 (((p1 >>> ((48 : Int32).toInt64 &&& 63)) &&& 255).toInt32)) 2 (((p1 >>> ((40 : Int32).toInt64 &&& 63)) &&& 255).toInt32)) 3 (((p1 >>> ((32 : Int32).toInt64 &&& 63)) &&& 255).toInt32)) 4 (((p1 >>> ((24 : Int32).toInt64 &&& 63)) &&& 255).toInt32))))] := hD
                                  refine lv_aload_n hx hb dX5_type_99 rfl (lv_at hl 1 rfl) ?_
                                  refine lv_dup hx hb dX5_type_100 rfl ?_
                                  refine va_get (D := g.1) (ci := 5) (v := .int 4) (C := RX5) (T := TX5) (N := 27) hx hb hts zl_X5 hown hK hP 0 rfl rfl 3 (by decide) (hts _ m_f_RX5_114) (fun _ h => h) rfl dX5_type_101 ?_
                                  refine lv_iconst (v := 1) hx hb dX5_type_104 (by decide) ?_
                                  refine lv_iadd hx hb dX5_type_105 ?_
                                  refine lv_topi (nm_r (e' := 5) (by decide +kernel) ?_)
                                  refine va_put (D := g.1) (ci := 5) (v := .int 5) (ty := .int) (C := RX5) (T := TX5) (N := 27) hx hb hts zl_X5 tyX5 tyX5_ok nmX5 hown hK hP hD hS 0 rfl rfl 3 (by decide) (hts _ m_f_RX5_114) (fun _ h => h) rfl (by decide +kernel) rfl rfl (Nat.le_of_ble_eq_true rfl) dX5_type_106 (fun H locs hP hD hS => ?_)
                                  have hP : va_P g.1 vwCl [(h0, .inr (5, [.ref h1, .int 0, .ref h2, .int 5, .int 0, .ref h3, .ref h4, .ref h5, .ref h6, .int 0, .ref h7, .ref h8, .ref h9, .int 0, .ref h10, .ref h11, .ref h12, .ref h13, .ref h14, .ref h15, .ref h16, .ref h17, .ref h18, .ref h19, .ref h20, .ref h21, .ref h22])), (h2, .inl (zI g, 60, .inl (upd (upd (upd (upd (upd (fun _ => 0) 0 (((p1 >>> ((56 : Int32).toInt64 &&& 63)) &&& 255).toInt32)) 1 (((p1 >>> ((48 : Int32).toInt64 &&& 63)) &&& 255).toInt32)) 2 (((p1 >>> ((40 : Int32).toInt64 &&& 63)) &&& 255).toInt32)) 3 (((p1 >>> ((32 : Int32).toInt64 &&& 63)) &&& 255).toInt32)) 4 (((p1 >>> ((24 : Int32).toInt64 &&& 63)) &&& 255).toInt32))))] H := hP
                                  have hD : va_D A [(h0, .inr (5, [.ref h1, .int 0, .ref h2, .int 5, .int 0, .ref h3, .ref h4, .ref h5, .ref h6, .int 0, .ref h7, .ref h8, .ref h9, .int 0, .ref h10, .ref h11, .ref h12, .ref h13, .ref h14, .ref h15, .ref h16, .ref h17, .ref h18, .ref h19, .ref h20, .ref h21, .ref h22])), (h2, .inl (zI g, 60, .inl (upd (upd (upd (upd (upd (fun _ => 0) 0 (((p1 >>> ((56 : Int32).toInt64 &&& 63)) &&& 255).toInt32)) 1 (((p1 >>> ((48 : Int32).toInt64 &&& 63)) &&& 255).toInt32)) 2 (((p1 >>> ((40 : Int32).toInt64 &&& 63)) &&& 255).toInt32)) 3 (((p1 >>> ((32 : Int32).toInt64 &&& 63)) &&& 255).toInt32)) 4 (((p1 >>> ((24 : Int32).toInt64 &&& 63)) &&& 255).toInt32))))] := hD
                                  refine lv_iinc (v := 2) (lv' := [(4, .int 2), (0, .ref h0), (1, .long p1), (3, .int 8)]) hx hb dX5_type_109 hl (k := 0) rfl (by decide) (by decide) rfl (fun ls hl => ?_)
                                  refine lv_goto (tgt := 73) hx hb dX5_type_112 (by decide) ?_
                                  refine lv_iload hx hb dX5_type_73 (lv_at hl 0 rfl) ?_
                                  refine lv_if_lt (tgt := 115) hx hb dX5_type_75 (by decide) (fun h => absurd h (by decide +kernel)) (fun _ => ?_)
                                  refine lv_aload_n hx hb dX5_type_78 rfl (lv_at hl 1 rfl) ?_
                                  refine va_get (D := g.1) (ci := 5) (v := .ref h2) (C := RX5) (T := TX5) (N := 27) hx hb hts zl_X5 hown hK hP 0 rfl rfl 2 (by decide) (hts _ m_f_RX5_13) (fun _ h => h) rfl dX5_type_79 ?_
                                  refine lv_aload_n hx hb dX5_type_82 rfl (lv_at hl 1 rfl) ?_
                                  refine va_get (D := g.1) (ci := 5) (v := .int 5) (C := RX5) (T := TX5) (N := 27) hx hb hts zl_X5 hown hK hP 0 rfl rfl 3 (by decide) (hts _ m_f_RX5_114) (fun _ h => h) rfl dX5_type_83 ?_
                                  refine lv_lload_n hx hb dX5_type_86 rfl (lv_at hl 2 rfl) ?_
                                  refine lv_bipush (v := 8) hx hb dX5_type_87 (by decide) ?_
                                  refine lv_iload hx hb dX5_type_89 (lv_at hl 0 rfl) ?_
                                  refine lv_imul hx hb dX5_type_91 ?_
                                  refine lv_topi (nm_r (e' := 16) (by decide +kernel) ?_)
                                  refine lv_lshr (v := (p1 >>> ((16 : Int32).toInt64 &&& 63))) hx hb dX5_type_92 rfl ?_
                                  refine lv_ldc2 (v := 255) hx hb hown (hts _ m_k_RX5_108) dX5_type_93 ?_
                                  refine lv_land hx hb dX5_type_96 ?_
                                  refine lv_l2i (v := ((p1 >>> ((16 : Int32).toInt64 &&& 63)) &&& 255).toInt32) hx hb dX5_type_97 rfl ?_
                                  refine va_iast (D := g.1) hx hb hK hP hD hS 1 0 rfl rfl (vp_in_iff.mpr (by decide +kernel)) dX5_type_98 (fun H locs hP hD hS => ?_)
                                  have hP : va_P g.1 vwCl [(h0, .inr (5, [.ref h1, .int 0, .ref h2, .int 5, .int 0, .ref h3, .ref h4, .ref h5, .ref h6, .int 0, .ref h7, .ref h8, .ref h9, .int 0, .ref h10, .ref h11, .ref h12, .ref h13, .ref h14, .ref h15, .ref h16, .ref h17, .ref h18, .ref h19, .ref h20, .ref h21, .ref h22])), (h2, .inl (zI g, 60, .inl (upd (upd (upd (upd (upd (upd (fun _ => 0) 0 (((p1 >>> ((56 : Int32).toInt64 &&& 63)) &&& 255).toInt32)) 1 (((p1 >>> ((48 : Int32).toInt64 &&& 63)) &&& 255).toInt32)) 2 (((p1 >>> ((40 : Int32).toInt64 &&& 63)) &&& 255).toInt32)) 3 (((p1 >>> ((32 : Int32).toInt64 &&& 63)) &&& 255).toInt32)) 4 (((p1 >>> ((24 : Int32).toInt64 &&& 63)) &&& 255).toInt32)) 5 (((p1 >>> ((16 : Int32).toInt64 &&& 63)) &&& 255).toInt32))))] H := hP
                                  have hD : va_D A [(h0, .inr (5, [.ref h1, .int 0, .ref h2, .int 5, .int 0, .ref h3, .ref h4, .ref h5, .ref h6, .int 0, .ref h7, .ref h8, .ref h9, .int 0, .ref h10, .ref h11, .ref h12, .ref h13, .ref h14, .ref h15, .ref h16, .ref h17, .ref h18, .ref h19, .ref h20, .ref h21, .ref h22])), (h2, .inl (zI g, 60, .inl (upd (upd (upd (upd (upd (upd (fun _ => 0) 0 (((p1 >>> ((56 : Int32).toInt64 &&& 63)) &&& 255).toInt32)) 1 (((p1 >>> ((48 : Int32).toInt64 &&& 63)) &&& 255).toInt32)) 2 (((p1 >>> ((40 : Int32).toInt64 &&& 63)) &&& 255).toInt32)) 3 (((p1 >>> ((32 : Int32).toInt64 &&& 63)) &&& 255).toInt32)) 4 (((p1 >>> ((24 : Int32).toInt64 &&& 63)) &&& 255).toInt32)) 5 (((p1 >>> ((16 : Int32).toInt64 &&& 63)) &&& 255).toInt32))))] := hD
                                  refine lv_aload_n hx hb dX5_type_99 rfl (lv_at hl 1 rfl) ?_
                                  refine lv_dup hx hb dX5_type_100 rfl ?_
                                  refine va_get (D := g.1) (ci := 5) (v := .int 5) (C := RX5) (T := TX5) (N := 27) hx hb hts zl_X5 hown hK hP 0 rfl rfl 3 (by decide) (hts _ m_f_RX5_114) (fun _ h => h) rfl dX5_type_101 ?_
                                  refine lv_iconst (v := 1) hx hb dX5_type_104 (by decide) ?_
                                  refine lv_iadd hx hb dX5_type_105 ?_
                                  refine lv_topi (nm_r (e' := 6) (by decide +kernel) ?_)
                                  refine va_put (D := g.1) (ci := 5) (v := .int 6) (ty := .int) (C := RX5) (T := TX5) (N := 27) hx hb hts zl_X5 tyX5 tyX5_ok nmX5 hown hK hP hD hS 0 rfl rfl 3 (by decide) (hts _ m_f_RX5_114) (fun _ h => h) rfl (by decide +kernel) rfl rfl (Nat.le_of_ble_eq_true rfl) dX5_type_106 (fun H locs hP hD hS => ?_)
                                  have hP : va_P g.1 vwCl [(h0, .inr (5, [.ref h1, .int 0, .ref h2, .int 6, .int 0, .ref h3, .ref h4, .ref h5, .ref h6, .int 0, .ref h7, .ref h8, .ref h9, .int 0, .ref h10, .ref h11, .ref h12, .ref h13, .ref h14, .ref h15, .ref h16, .ref h17, .ref h18, .ref h19, .ref h20, .ref h21, .ref h22])), (h2, .inl (zI g, 60, .inl (upd (upd (upd (upd (upd (upd (fun _ => 0) 0 (((p1 >>> ((56 : Int32).toInt64 &&& 63)) &&& 255).toInt32)) 1 (((p1 >>> ((48 : Int32).toInt64 &&& 63)) &&& 255).toInt32)) 2 (((p1 >>> ((40 : Int32).toInt64 &&& 63)) &&& 255).toInt32)) 3 (((p1 >>> ((32 : Int32).toInt64 &&& 63)) &&& 255).toInt32)) 4 (((p1 >>> ((24 : Int32).toInt64 &&& 63)) &&& 255).toInt32)) 5 (((p1 >>> ((16 : Int32).toInt64 &&& 63)) &&& 255).toInt32))))] H := hP
                                  have hD : va_D A [(h0, .inr (5, [.ref h1, .int 0, .ref h2, .int 6, .int 0, .ref h3, .ref h4, .ref h5, .ref h6, .int 0, .ref h7, .ref h8, .ref h9, .int 0, .ref h10, .ref h11, .ref h12, .ref h13, .ref h14, .ref h15, .ref h16, .ref h17, .ref h18, .ref h19, .ref h20, .ref h21, .ref h22])), (h2, .inl (zI g, 60, .inl (upd (upd (upd (upd (upd (upd (fun _ => 0) 0 (((p1 >>> ((56 : Int32).toInt64 &&& 63)) &&& 255).toInt32)) 1 (((p1 >>> ((48 : Int32).toInt64 &&& 63)) &&& 255).toInt32)) 2 (((p1 >>> ((40 : Int32).toInt64 &&& 63)) &&& 255).toInt32)) 3 (((p1 >>> ((32 : Int32).toInt64 &&& 63)) &&& 255).toInt32)) 4 (((p1 >>> ((24 : Int32).toInt64 &&& 63)) &&& 255).toInt32)) 5 (((p1 >>> ((16 : Int32).toInt64 &&& 63)) &&& 255).toInt32))))] := hD
                                  refine lv_iinc (v := 1) (lv' := [(4, .int 1), (0, .ref h0), (1, .long p1), (3, .int 8)]) hx hb dX5_type_109 hl (k := 0) rfl (by decide) (by decide) rfl (fun ls hl => ?_)
                                  refine lv_goto (tgt := 73) hx hb dX5_type_112 (by decide) ?_
                                  refine lv_iload hx hb dX5_type_73 (lv_at hl 0 rfl) ?_
                                  refine lv_if_lt (tgt := 115) hx hb dX5_type_75 (by decide) (fun h => absurd h (by decide +kernel)) (fun _ => ?_)
                                  refine lv_aload_n hx hb dX5_type_78 rfl (lv_at hl 1 rfl) ?_
                                  refine va_get (D := g.1) (ci := 5) (v := .ref h2) (C := RX5) (T := TX5) (N := 27) hx hb hts zl_X5 hown hK hP 0 rfl rfl 2 (by decide) (hts _ m_f_RX5_13) (fun _ h => h) rfl dX5_type_79 ?_
                                  refine lv_aload_n hx hb dX5_type_82 rfl (lv_at hl 1 rfl) ?_
                                  refine va_get (D := g.1) (ci := 5) (v := .int 6) (C := RX5) (T := TX5) (N := 27) hx hb hts zl_X5 hown hK hP 0 rfl rfl 3 (by decide) (hts _ m_f_RX5_114) (fun _ h => h) rfl dX5_type_83 ?_
                                  refine lv_lload_n hx hb dX5_type_86 rfl (lv_at hl 2 rfl) ?_
                                  refine lv_bipush (v := 8) hx hb dX5_type_87 (by decide) ?_
                                  refine lv_iload hx hb dX5_type_89 (lv_at hl 0 rfl) ?_
                                  refine lv_imul hx hb dX5_type_91 ?_
                                  refine lv_topi (nm_r (e' := 8) (by decide +kernel) ?_)
                                  refine lv_lshr (v := (p1 >>> ((8 : Int32).toInt64 &&& 63))) hx hb dX5_type_92 rfl ?_
                                  refine lv_ldc2 (v := 255) hx hb hown (hts _ m_k_RX5_108) dX5_type_93 ?_
                                  refine lv_land hx hb dX5_type_96 ?_
                                  refine lv_l2i (v := ((p1 >>> ((8 : Int32).toInt64 &&& 63)) &&& 255).toInt32) hx hb dX5_type_97 rfl ?_
                                  refine va_iast (D := g.1) hx hb hK hP hD hS 1 0 rfl rfl (vp_in_iff.mpr (by decide +kernel)) dX5_type_98 (fun H locs hP hD hS => ?_)
                                  have hP : va_P g.1 vwCl [(h0, .inr (5, [.ref h1, .int 0, .ref h2, .int 6, .int 0, .ref h3, .ref h4, .ref h5, .ref h6, .int 0, .ref h7, .ref h8, .ref h9, .int 0, .ref h10, .ref h11, .ref h12, .ref h13, .ref h14, .ref h15, .ref h16, .ref h17, .ref h18, .ref h19, .ref h20, .ref h21, .ref h22])), (h2, .inl (zI g, 60, .inl (upd (upd (upd (upd (upd (upd (upd (fun _ => 0) 0 (((p1 >>> ((56 : Int32).toInt64 &&& 63)) &&& 255).toInt32)) 1 (((p1 >>> ((48 : Int32).toInt64 &&& 63)) &&& 255).toInt32)) 2 (((p1 >>> ((40 : Int32).toInt64 &&& 63)) &&& 255).toInt32)) 3 (((p1 >>> ((32 : Int32).toInt64 &&& 63)) &&& 255).toInt32)) 4 (((p1 >>> ((24 : Int32).toInt64 &&& 63)) &&& 255).toInt32)) 5 (((p1 >>> ((16 : Int32).toInt64 &&& 63)) &&& 255).toInt32)) 6 (((p1 >>> ((8 : Int32).toInt64 &&& 63)) &&& 255).toInt32))))] H := hP
                                  have hD : va_D A [(h0, .inr (5, [.ref h1, .int 0, .ref h2, .int 6, .int 0, .ref h3, .ref h4, .ref h5, .ref h6, .int 0, .ref h7, .ref h8, .ref h9, .int 0, .ref h10, .ref h11, .ref h12, .ref h13, .ref h14, .ref h15, .ref h16, .ref h17, .ref h18, .ref h19, .ref h20, .ref h21, .ref h22])), (h2, .inl (zI g, 60, .inl (upd (upd (upd (upd (upd (upd (upd (fun _ => 0) 0 (((p1 >>> ((56 : Int32).toInt64 &&& 63)) &&& 255).toInt32)) 1 (((p1 >>> ((48 : Int32).toInt64 &&& 63)) &&& 255).toInt32)) 2 (((p1 >>> ((40 : Int32).toInt64 &&& 63)) &&& 255).toInt32)) 3 (((p1 >>> ((32 : Int32).toInt64 &&& 63)) &&& 255).toInt32)) 4 (((p1 >>> ((24 : Int32).toInt64 &&& 63)) &&& 255).toInt32)) 5 (((p1 >>> ((16 : Int32).toInt64 &&& 63)) &&& 255).toInt32)) 6 (((p1 >>> ((8 : Int32).toInt64 &&& 63)) &&& 255).toInt32))))] := hD
                                  refine lv_aload_n hx hb dX5_type_99 rfl (lv_at hl 1 rfl) ?_
                                  refine lv_dup hx hb dX5_type_100 rfl ?_
                                  refine va_get (D := g.1) (ci := 5) (v := .int 6) (C := RX5) (T := TX5) (N := 27) hx hb hts zl_X5 hown hK hP 0 rfl rfl 3 (by decide) (hts _ m_f_RX5_114) (fun _ h => h) rfl dX5_type_101 ?_
                                  refine lv_iconst (v := 1) hx hb dX5_type_104 (by decide) ?_
                                  refine lv_iadd hx hb dX5_type_105 ?_
                                  refine lv_topi (nm_r (e' := 7) (by decide +kernel) ?_)
                                  refine va_put (D := g.1) (ci := 5) (v := .int 7) (ty := .int) (C := RX5) (T := TX5) (N := 27) hx hb hts zl_X5 tyX5 tyX5_ok nmX5 hown hK hP hD hS 0 rfl rfl 3 (by decide) (hts _ m_f_RX5_114) (fun _ h => h) rfl (by decide +kernel) rfl rfl (Nat.le_of_ble_eq_true rfl) dX5_type_106 (fun H locs hP hD hS => ?_)
                                  have hP : va_P g.1 vwCl [(h0, .inr (5, [.ref h1, .int 0, .ref h2, .int 7, .int 0, .ref h3, .ref h4, .ref h5, .ref h6, .int 0, .ref h7, .ref h8, .ref h9, .int 0, .ref h10, .ref h11, .ref h12, .ref h13, .ref h14, .ref h15, .ref h16, .ref h17, .ref h18, .ref h19, .ref h20, .ref h21, .ref h22])), (h2, .inl (zI g, 60, .inl (upd (upd (upd (upd (upd (upd (upd (fun _ => 0) 0 (((p1 >>> ((56 : Int32).toInt64 &&& 63)) &&& 255).toInt32)) 1 (((p1 >>> ((48 : Int32).toInt64 &&& 63)) &&& 255).toInt32)) 2 (((p1 >>> ((40 : Int32).toInt64 &&& 63)) &&& 255).toInt32)) 3 (((p1 >>> ((32 : Int32).toInt64 &&& 63)) &&& 255).toInt32)) 4 (((p1 >>> ((24 : Int32).toInt64 &&& 63)) &&& 255).toInt32)) 5 (((p1 >>> ((16 : Int32).toInt64 &&& 63)) &&& 255).toInt32)) 6 (((p1 >>> ((8 : Int32).toInt64 &&& 63)) &&& 255).toInt32))))] H := hP
                                  have hD : va_D A [(h0, .inr (5, [.ref h1, .int 0, .ref h2, .int 7, .int 0, .ref h3, .ref h4, .ref h5, .ref h6, .int 0, .ref h7, .ref h8, .ref h9, .int 0, .ref h10, .ref h11, .ref h12, .ref h13, .ref h14, .ref h15, .ref h16, .ref h17, .ref h18, .ref h19, .ref h20, .ref h21, .ref h22])), (h2, .inl (zI g, 60, .inl (upd (upd (upd (upd (upd (upd (upd (fun _ => 0) 0 (((p1 >>> ((56 : Int32).toInt64 &&& 63)) &&& 255).toInt32)) 1 (((p1 >>> ((48 : Int32).toInt64 &&& 63)) &&& 255).toInt32)) 2 (((p1 >>> ((40 : Int32).toInt64 &&& 63)) &&& 255).toInt32)) 3 (((p1 >>> ((32 : Int32).toInt64 &&& 63)) &&& 255).toInt32)) 4 (((p1 >>> ((24 : Int32).toInt64 &&& 63)) &&& 255).toInt32)) 5 (((p1 >>> ((16 : Int32).toInt64 &&& 63)) &&& 255).toInt32)) 6 (((p1 >>> ((8 : Int32).toInt64 &&& 63)) &&& 255).toInt32))))] := hD
                                  refine lv_iinc (v := 0) (lv' := [(4, .int 0), (0, .ref h0), (1, .long p1), (3, .int 8)]) hx hb dX5_type_109 hl (k := 0) rfl (by decide) (by decide) rfl (fun ls hl => ?_)
                                  refine lv_goto (tgt := 73) hx hb dX5_type_112 (by decide) ?_
                                  refine lv_iload hx hb dX5_type_73 (lv_at hl 0 rfl) ?_
                                  refine lv_if_lt (tgt := 115) hx hb dX5_type_75 (by decide) (fun h => absurd h (by decide +kernel)) (fun _ => ?_)
                                  refine lv_aload_n hx hb dX5_type_78 rfl (lv_at hl 1 rfl) ?_
                                  refine va_get (D := g.1) (ci := 5) (v := .ref h2) (C := RX5) (T := TX5) (N := 27) hx hb hts zl_X5 hown hK hP 0 rfl rfl 2 (by decide) (hts _ m_f_RX5_13) (fun _ h => h) rfl dX5_type_79 ?_
                                  refine lv_aload_n hx hb dX5_type_82 rfl (lv_at hl 1 rfl) ?_
                                  refine va_get (D := g.1) (ci := 5) (v := .int 7) (C := RX5) (T := TX5) (N := 27) hx hb hts zl_X5 hown hK hP 0 rfl rfl 3 (by decide) (hts _ m_f_RX5_114) (fun _ h => h) rfl dX5_type_83 ?_
                                  refine lv_lload_n hx hb dX5_type_86 rfl (lv_at hl 2 rfl) ?_
                                  refine lv_bipush (v := 8) hx hb dX5_type_87 (by decide) ?_
                                  refine lv_iload hx hb dX5_type_89 (lv_at hl 0 rfl) ?_
                                  refine lv_imul hx hb dX5_type_91 ?_
                                  refine lv_topi (nm_r (e' := 0) (by decide +kernel) ?_)
                                  refine lv_lshr (v := (p1 >>> ((0 : Int32).toInt64 &&& 63))) hx hb dX5_type_92 rfl ?_
                                  refine lv_ldc2 (v := 255) hx hb hown (hts _ m_k_RX5_108) dX5_type_93 ?_
                                  refine lv_land hx hb dX5_type_96 ?_
                                  refine lv_l2i (v := ((p1 >>> ((0 : Int32).toInt64 &&& 63)) &&& 255).toInt32) hx hb dX5_type_97 rfl ?_
                                  refine va_iast (D := g.1) hx hb hK hP hD hS 1 0 rfl rfl (vp_in_iff.mpr (by decide +kernel)) dX5_type_98 (fun H locs hP hD hS => ?_)
                                  have hP : va_P g.1 vwCl [(h0, .inr (5, [.ref h1, .int 0, .ref h2, .int 7, .int 0, .ref h3, .ref h4, .ref h5, .ref h6, .int 0, .ref h7, .ref h8, .ref h9, .int 0, .ref h10, .ref h11, .ref h12, .ref h13, .ref h14, .ref h15, .ref h16, .ref h17, .ref h18, .ref h19, .ref h20, .ref h21, .ref h22])), (h2, .inl (zI g, 60, .inl (upd (upd (upd (upd (upd (upd (upd (upd (fun _ => 0) 0 (((p1 >>> ((56 : Int32).toInt64 &&& 63)) &&& 255).toInt32)) 1 (((p1 >>> ((48 : Int32).toInt64 &&& 63)) &&& 255).toInt32)) 2 (((p1 >>> ((40 : Int32).toInt64 &&& 63)) &&& 255).toInt32)) 3 (((p1 >>> ((32 : Int32).toInt64 &&& 63)) &&& 255).toInt32)) 4 (((p1 >>> ((24 : Int32).toInt64 &&& 63)) &&& 255).toInt32)) 5 (((p1 >>> ((16 : Int32).toInt64 &&& 63)) &&& 255).toInt32)) 6 (((p1 >>> ((8 : Int32).toInt64 &&& 63)) &&& 255).toInt32)) 7 (((p1 >>> ((0 : Int32).toInt64 &&& 63)) &&& 255).toInt32))))] H := hP
                                  have hD : va_D A [(h0, .inr (5, [.ref h1, .int 0, .ref h2, .int 7, .int 0, .ref h3, .ref h4, .ref h5, .ref h6, .int 0, .ref h7, .ref h8, .ref h9, .int 0, .ref h10, .ref h11, .ref h12, .ref h13, .ref h14, .ref h15, .ref h16, .ref h17, .ref h18, .ref h19, .ref h20, .ref h21, .ref h22])), (h2, .inl (zI g, 60, .inl (upd (upd (upd (upd (upd (upd (upd (upd (fun _ => 0) 0 (((p1 >>> ((56 : Int32).toInt64 &&& 63)) &&& 255).toInt32)) 1 (((p1 >>> ((48 : Int32).toInt64 &&& 63)) &&& 255).toInt32)) 2 (((p1 >>> ((40 : Int32).toInt64 &&& 63)) &&& 255).toInt32)) 3 (((p1 >>> ((32 : Int32).toInt64 &&& 63)) &&& 255).toInt32)) 4 (((p1 >>> ((24 : Int32).toInt64 &&& 63)) &&& 255).toInt32)) 5 (((p1 >>> ((16 : Int32).toInt64 &&& 63)) &&& 255).toInt32)) 6 (((p1 >>> ((8 : Int32).toInt64 &&& 63)) &&& 255).toInt32)) 7 (((p1 >>> ((0 : Int32).toInt64 &&& 63)) &&& 255).toInt32))))] := hD
                                  refine lv_aload_n hx hb dX5_type_99 rfl (lv_at hl 1 rfl) ?_
                                  refine lv_dup hx hb dX5_type_100 rfl ?_
                                  refine va_get (D := g.1) (ci := 5) (v := .int 7) (C := RX5) (T := TX5) (N := 27) hx hb hts zl_X5 hown hK hP 0 rfl rfl 3 (by decide) (hts _ m_f_RX5_114) (fun _ h => h) rfl dX5_type_101 ?_
                                  refine lv_iconst (v := 1) hx hb dX5_type_104 (by decide) ?_
                                  refine lv_iadd hx hb dX5_type_105 ?_
                                  refine lv_topi (nm_r (e' := 8) (by decide +kernel) ?_)
                                  refine va_put (D := g.1) (ci := 5) (v := .int 8) (ty := .int) (C := RX5) (T := TX5) (N := 27) hx hb hts zl_X5 tyX5 tyX5_ok nmX5 hown hK hP hD hS 0 rfl rfl 3 (by decide) (hts _ m_f_RX5_114) (fun _ h => h) rfl (by decide +kernel) rfl rfl (Nat.le_of_ble_eq_true rfl) dX5_type_106 (fun H locs hP hD hS => ?_)
                                  have hP : va_P g.1 vwCl [(h0, .inr (5, [.ref h1, .int 0, .ref h2, .int 8, .int 0, .ref h3, .ref h4, .ref h5, .ref h6, .int 0, .ref h7, .ref h8, .ref h9, .int 0, .ref h10, .ref h11, .ref h12, .ref h13, .ref h14, .ref h15, .ref h16, .ref h17, .ref h18, .ref h19, .ref h20, .ref h21, .ref h22])), (h2, .inl (zI g, 60, .inl (upd (upd (upd (upd (upd (upd (upd (upd (fun _ => 0) 0 (((p1 >>> ((56 : Int32).toInt64 &&& 63)) &&& 255).toInt32)) 1 (((p1 >>> ((48 : Int32).toInt64 &&& 63)) &&& 255).toInt32)) 2 (((p1 >>> ((40 : Int32).toInt64 &&& 63)) &&& 255).toInt32)) 3 (((p1 >>> ((32 : Int32).toInt64 &&& 63)) &&& 255).toInt32)) 4 (((p1 >>> ((24 : Int32).toInt64 &&& 63)) &&& 255).toInt32)) 5 (((p1 >>> ((16 : Int32).toInt64 &&& 63)) &&& 255).toInt32)) 6 (((p1 >>> ((8 : Int32).toInt64 &&& 63)) &&& 255).toInt32)) 7 (((p1 >>> ((0 : Int32).toInt64 &&& 63)) &&& 255).toInt32))))] H := hP
                                  have hD : va_D A [(h0, .inr (5, [.ref h1, .int 0, .ref h2, .int 8, .int 0, .ref h3, .ref h4, .ref h5, .ref h6, .int 0, .ref h7, .ref h8, .ref h9, .int 0, .ref h10, .ref h11, .ref h12, .ref h13, .ref h14, .ref h15, .ref h16, .ref h17, .ref h18, .ref h19, .ref h20, .ref h21, .ref h22])), (h2, .inl (zI g, 60, .inl (upd (upd (upd (upd (upd (upd (upd (upd (fun _ => 0) 0 (((p1 >>> ((56 : Int32).toInt64 &&& 63)) &&& 255).toInt32)) 1 (((p1 >>> ((48 : Int32).toInt64 &&& 63)) &&& 255).toInt32)) 2 (((p1 >>> ((40 : Int32).toInt64 &&& 63)) &&& 255).toInt32)) 3 (((p1 >>> ((32 : Int32).toInt64 &&& 63)) &&& 255).toInt32)) 4 (((p1 >>> ((24 : Int32).toInt64 &&& 63)) &&& 255).toInt32)) 5 (((p1 >>> ((16 : Int32).toInt64 &&& 63)) &&& 255).toInt32)) 6 (((p1 >>> ((8 : Int32).toInt64 &&& 63)) &&& 255).toInt32)) 7 (((p1 >>> ((0 : Int32).toInt64 &&& 63)) &&& 255).toInt32))))] := hD
                                  refine lv_iinc (v := (-1)) (lv' := [(4, .int (-1)), (0, .ref h0), (1, .long p1), (3, .int 8)]) hx hb dX5_type_109 hl (k := 0) rfl (by decide) (by decide) rfl (fun ls hl => ?_)
                                  refine lv_goto (tgt := 73) hx hb dX5_type_112 (by decide) ?_
                                  refine lv_iload hx hb dX5_type_73 (lv_at hl 0 rfl) ?_
                                  refine lv_if_lt (tgt := 115) hx hb dX5_type_75 (by decide) (fun _ => ?_) (fun h => absurd h (by decide +kernel))
                                  refine lv_aload_n hx hb dX5_type_115 rfl (lv_at hl 1 rfl) ?_
                                  refine va_get (D := g.1) (ci := 5) (v := .int 8) (C := RX5) (T := TX5) (N := 27) hx hb hts zl_X5 hown hK hP 0 rfl rfl 3 (by decide) (hts _ m_f_RX5_114) (fun _ h => h) rfl dX5_type_116 ?_
                                  have hP9 := hP.sub (ws' := []) [] rfl
                                  have hD9 := hD.sub (ws' := []) [] (by decide) rfl
                                  exact W.iret (v := 8) hx hb hr (fun t ht hW => ⟨⟨8, 0, rfl, Or.inr (Or.inr (Or.inr (Or.inr (Or.inr (Or.inr (Or.inr (Or.inr (Or.inr (Or.inr (Or.inr (Or.inr (Or.inr (Or.inr (Or.inr (Or.inr (Or.inr (Or.inr (Or.inr (Or.inr (Or.inr (Or.inr (Or.inr (Or.inr (Or.inr (⟨i_3, i_4, i_9, i_10, i_11, i_16, i_17, i_18, i_23, i_24, i_25, i_30, i_31, i_32, i_37, i_38, i_39, i_44, i_45, i_46, i_51, i_52, i_53, i_58, i_59, rfl⟩))))))))))))))))))))))))), by rw [ht]; exact hP9, hD9⟩, hS.F ht⟩) hS.2.2 dX5_type_119
set_option maxHeartbeats 4000000 in
set_option maxRecDepth 100000 in
theorem kX5_ahead (l : Launch) (g : zG) (h0 h1 h2 h3 h4 h5 h6 h7 h8 h9 h10 h11 h12 h13 h14 h15 h16 h17 h18 h19 h20 h21 h22 : Nat) (sz : Nat) : Met l yX5_ahead (.code yX5_ahead cX5_ahead 1 (some .int) :: zBig) ({ frames := 0, cells := 0, slots := 0, locals := 0 }) (va_Pc [.ref h0] (zPre g [(h0, .inr (5, [.ref h1, .int 0, .ref h2, .int 0, .int 0, .ref h3, .ref h4, .ref h5, .ref h6, .int 0, .ref h7, .ref h8, .ref h9, .int 0, .ref h10, .ref h11, .ref h12, .ref h13, .ref h14, .ref h15, .ref h16, .ref h17, .ref h18, .ref h19, .ref h20, .ref h21, .ref h22]))] sz)) (va_Qi (fun (r : Int32) (_ : Nat) => r = (-1)) (zPost g (fun _ : Nat => [(h0, .inr (5, [.ref h1, .int 0, .ref h2, .int 0, .int 0, .ref h3, .ref h4, .ref h5, .ref h6, .int 0, .ref h7, .ref h8, .ref h9, .int 0, .ref h10, .ref h11, .ref h12, .ref h13, .ref h14, .ref h15, .ref h16, .ref h17, .ref h18, .ref h19, .ref h20, .ref h21, .ref h22]))]) (va_A [(h0, .inr (5, [.ref h1, .int 0, .ref h2, .int 0, .int 0, .ref h3, .ref h4, .ref h5, .ref h6, .int 0, .ref h7, .ref h8, .ref h9, .int 0, .ref h10, .ref h11, .ref h12, .ref h13, .ref h14, .ref h15, .ref h16, .ref h17, .ref h18, .ref h19, .ref h20, .ref h21, .ref h22]))] sz)) (va_A [(h0, .inr (5, [.ref h1, .int 0, .ref h2, .int 0, .int 0, .ref h3, .ref h4, .ref h5, .ref h6, .int 0, .ref h7, .ref h8, .ref h9, .int 0, .ref h10, .ref h11, .ref h12, .ref h13, .ref h14, .ref h15, .ref h16, .ref h17, .ref h18, .ref h19, .ref h20, .ref h21, .ref h22]))] sz)) 0 0 (va_A [(h0, .inr (5, [.ref h1, .int 0, .ref h2, .int 0, .int 0, .ref h3, .ref h4, .ref h5, .ref h6, .int 0, .ref h7, .ref h8, .ref h9, .int 0, .ref h10, .ref h11, .ref h12, .ref h13, .ref h14, .ref h15, .ref h16, .ref h17, .ref h18, .ref h19, .ref h20, .ref h21, .ref h22]))] sz) := by
  refine zMetI rfl (Nat.le_of_ble_eq_true rfl) ?_
  intro p e s m args below meth c A ls hx hb hml hr hlocks hin hown hts hK hN hZ hP hD hA hS hAe hl
  have hown : s.vm.findClass RX5 = some m.cls := hown
  have hl : lv_has ls 1 [(0, .ref h0)] := hl
  refine lv_aload_n hx hb dX5_ahead_0 rfl (lv_at hl 0 rfl) ?_
  refine va_get (D := g.1) (ci := 5) (v := .int 0) (C := RX5) (T := TX5) (N := 27) hx hb hts zl_X5 hown hK hP 0 rfl rfl 4 (by decide) (hts _ m_f_RX5_118) (fun _ h => h) rfl dX5_ahead_1 ?_
  refine lv_aload_n hx hb dX5_ahead_4 rfl (lv_at hl 0 rfl) ?_
  refine va_get (D := g.1) (ci := 5) (v := .int 0) (C := RX5) (T := TX5) (N := 27) hx hb hts zl_X5 hown hK hP 0 rfl rfl 3 (by decide) (hts _ m_f_RX5_114) (fun _ h => h) rfl dX5_ahead_5 ?_
  refine lv_icmp_ge (tgt := 38) hx hb dX5_ahead_8 (by decide) (fun _ => ?_) (fun h => absurd h (by decide +kernel))
  refine lv_aload_n hx hb dX5_ahead_38 rfl (lv_at hl 0 rfl) ?_
  refine va_get (D := g.1) (ci := 5) (v := .int 0) (C := RX5) (T := TX5) (N := 27) hx hb hts zl_X5 hown hK hP 0 rfl rfl 4 (by decide) (hts _ m_f_RX5_118) (fun _ h => h) rfl dX5_ahead_39 ?_
  refine lv_aload_n hx hb dX5_ahead_42 rfl (lv_at hl 0 rfl) ?_
  refine va_get (D := g.1) (ci := 5) (v := .int 0) (C := RX5) (T := TX5) (N := 27) hx hb hts zl_X5 hown hK hP 0 rfl rfl 3 (by decide) (hts _ m_f_RX5_114) (fun _ h => h) rfl dX5_ahead_43 ?_
  refine lv_icmp_ge (tgt := 61) hx hb dX5_ahead_46 (by decide) (fun _ => ?_) (fun h => absurd h (by decide +kernel))
  refine lv_iconst (v := (-1)) hx hb dX5_ahead_61 (by decide) ?_
  have hP9 := hP.sub (ws' := [(h0, .inr (5, [.ref h1, .int 0, .ref h2, .int 0, .int 0, .ref h3, .ref h4, .ref h5, .ref h6, .int 0, .ref h7, .ref h8, .ref h9, .int 0, .ref h10, .ref h11, .ref h12, .ref h13, .ref h14, .ref h15, .ref h16, .ref h17, .ref h18, .ref h19, .ref h20, .ref h21, .ref h22]))]) [0] rfl
  have hD9 := hD.sub (ws' := [(h0, .inr (5, [.ref h1, .int 0, .ref h2, .int 0, .int 0, .ref h3, .ref h4, .ref h5, .ref h6, .int 0, .ref h7, .ref h8, .ref h9, .int 0, .ref h10, .ref h11, .ref h12, .ref h13, .ref h14, .ref h15, .ref h16, .ref h17, .ref h18, .ref h19, .ref h20, .ref h21, .ref h22]))]) [0] (by decide) rfl
  exact W.iret (v := (-1)) hx hb hr (fun t ht hW => ⟨⟨(-1), 0, rfl, rfl, by rw [ht]; exact hP9, hD9⟩, hS.F ht⟩) hS.2.2 dX5_ahead_62
set_option maxHeartbeats 4000000 in
set_option maxRecDepth 100000 in
theorem kX5_ruleOf (l : Launch) (g : zG) (sz : Nat) : Met l yX5_ruleOf (.code yX5_ruleOf cX5_ruleOf 1 (some .int) :: zBig) ({ frames := 0, cells := 0, slots := 0, locals := 0 }) (va_Pc [.int (-1)] (zPre g [] sz)) (va_Qi (fun (r : Int32) (_ : Nat) => r = (-1)) (zPost g (fun _ : Nat => []) (va_A [] sz)) (va_A [] sz)) 0 0 (va_A [] sz) := by
  refine zMetI rfl (Nat.le_of_ble_eq_true rfl) ?_
  intro p e s m args below meth c A ls hx hb hml hr hlocks hin hown hts hK hN hZ hP hD hA hS hAe hl
  have hown : s.vm.findClass RX5 = some m.cls := hown
  have hl : lv_has ls 1 [(0, .int (-1))] := hl
  refine lv_iload_n hx hb dX5_ruleOf_0 rfl (lv_at hl 0 rfl) ?_
  refine lv_bipush (v := 115) hx hb dX5_ruleOf_1 (by decide) ?_
  refine lv_icmp_ne (tgt := 10) hx hb dX5_ruleOf_3 (by decide) (fun _ => ?_) (fun h => absurd h (by decide +kernel))
  refine lv_iload_n hx hb dX5_ruleOf_10 rfl (lv_at hl 0 rfl) ?_
  refine lv_bipush (v := 100) hx hb dX5_ruleOf_11 (by decide) ?_
  refine lv_icmp_ne (tgt := 20) hx hb dX5_ruleOf_13 (by decide) (fun _ => ?_) (fun h => absurd h (by decide +kernel))
  refine lv_iload_n hx hb dX5_ruleOf_20 rfl (lv_at hl 0 rfl) ?_
  refine lv_bipush (v := 102) hx hb dX5_ruleOf_21 (by decide) ?_
  refine lv_icmp_ne (tgt := 30) hx hb dX5_ruleOf_23 (by decide) (fun _ => ?_) (fun h => absurd h (by decide +kernel))
  refine lv_iload_n hx hb dX5_ruleOf_30 rfl (lv_at hl 0 rfl) ?_
  refine lv_bipush (v := 98) hx hb dX5_ruleOf_31 (by decide) ?_
  refine lv_icmp_ne (tgt := 40) hx hb dX5_ruleOf_33 (by decide) (fun _ => ?_) (fun h => absurd h (by decide +kernel))
  refine lv_iload_n hx hb dX5_ruleOf_40 rfl (lv_at hl 0 rfl) ?_
  refine lv_bipush (v := 99) hx hb dX5_ruleOf_41 (by decide) ?_
  refine lv_icmp_ne (tgt := 50) hx hb dX5_ruleOf_43 (by decide) (fun _ => ?_) (fun h => absurd h (by decide +kernel))
  refine lv_iconst (v := (-1)) hx hb dX5_ruleOf_50 (by decide) ?_
  have hP9 := hP.sub (ws' := []) [] rfl
  have hD9 := hD.sub (ws' := []) [] (by decide) rfl
  exact W.iret (v := (-1)) hx hb hr (fun t ht hW => ⟨⟨(-1), 0, rfl, rfl, by rw [ht]; exact hP9, hD9⟩, hS.F ht⟩) hS.2.2 dX5_ruleOf_51
set_option maxHeartbeats 4000000 in
set_option maxRecDepth 100000 in
theorem kX5_ahead_2 (l : Launch) (g : zG) (h0 h1 h2 h3 h4 h5 h6 h7 h8 h9 h10 h11 h12 h13 h14 h15 h16 h17 h18 h19 h20 h21 h22 : Nat) (sz : Nat) : Met l yX5_ahead (.code yX5_ahead cX5_ahead 1 (some .int) :: zBig) ({ frames := 0, cells := 0, slots := 0, locals := 0 }) (va_Pc [.ref h0] (zPre g [(h0, .inr (5, [.ref h1, .int 0, .ref h2, .int 0, .int 0, .ref h3, .ref h4, .ref h5, .ref h6, .int 0, .ref h7, .ref h8, .ref h9, .int 0, .ref h10, .ref h11, .ref h12, .ref h13, .ref h14, .ref h15, .ref h16, .ref h17, .ref h18, .ref h19, .ref h20, .ref h21, .ref h22]))] sz)) (va_Qi (fun (r : Int32) (_ : Nat) => r = (-1)) (zPost g (fun _ : Nat => [(h0, .inr (5, [.ref h1, .int 0, .ref h2, .int 0, .int 0, .ref h3, .ref h4, .ref h5, .ref h6, .int 0, .ref h7, .ref h8, .ref h9, .int 0, .ref h10, .ref h11, .ref h12, .ref h13, .ref h14, .ref h15, .ref h16, .ref h17, .ref h18, .ref h19, .ref h20, .ref h21, .ref h22]))]) (va_A [(h0, .inr (5, [.ref h1, .int 0, .ref h2, .int 0, .int 0, .ref h3, .ref h4, .ref h5, .ref h6, .int 0, .ref h7, .ref h8, .ref h9, .int 0, .ref h10, .ref h11, .ref h12, .ref h13, .ref h14, .ref h15, .ref h16, .ref h17, .ref h18, .ref h19, .ref h20, .ref h21, .ref h22]))] sz)) (va_A [(h0, .inr (5, [.ref h1, .int 0, .ref h2, .int 0, .int 0, .ref h3, .ref h4, .ref h5, .ref h6, .int 0, .ref h7, .ref h8, .ref h9, .int 0, .ref h10, .ref h11, .ref h12, .ref h13, .ref h14, .ref h15, .ref h16, .ref h17, .ref h18, .ref h19, .ref h20, .ref h21, .ref h22]))] sz)) 0 0 (va_A [(h0, .inr (5, [.ref h1, .int 0, .ref h2, .int 0, .int 0, .ref h3, .ref h4, .ref h5, .ref h6, .int 0, .ref h7, .ref h8, .ref h9, .int 0, .ref h10, .ref h11, .ref h12, .ref h13, .ref h14, .ref h15, .ref h16, .ref h17, .ref h18, .ref h19, .ref h20, .ref h21, .ref h22]))] sz) := by
  refine zMetI rfl (Nat.le_of_ble_eq_true rfl) ?_
  intro p e s m args below meth c A ls hx hb hml hr hlocks hin hown hts hK hN hZ hP hD hA hS hAe hl
  have hown : s.vm.findClass RX5 = some m.cls := hown
  have hl : lv_has ls 1 [(0, .ref h0)] := hl
  refine lv_aload_n hx hb dX5_ahead_0 rfl (lv_at hl 0 rfl) ?_
  refine va_get (D := g.1) (ci := 5) (v := .int 0) (C := RX5) (T := TX5) (N := 27) hx hb hts zl_X5 hown hK hP 0 rfl rfl 4 (by decide) (hts _ m_f_RX5_118) (fun _ h => h) rfl dX5_ahead_1 ?_
  refine lv_aload_n hx hb dX5_ahead_4 rfl (lv_at hl 0 rfl) ?_
  refine va_get (D := g.1) (ci := 5) (v := .int 0) (C := RX5) (T := TX5) (N := 27) hx hb hts zl_X5 hown hK hP 0 rfl rfl 3 (by decide) (hts _ m_f_RX5_114) (fun _ h => h) rfl dX5_ahead_5 ?_
  refine lv_icmp_ge (tgt := 38) hx hb dX5_ahead_8 (by decide) (fun _ => ?_) (fun h => absurd h (by decide +kernel))
  refine lv_aload_n hx hb dX5_ahead_38 rfl (lv_at hl 0 rfl) ?_
  refine va_get (D := g.1) (ci := 5) (v := .int 0) (C := RX5) (T := TX5) (N := 27) hx hb hts zl_X5 hown hK hP 0 rfl rfl 4 (by decide) (hts _ m_f_RX5_118) (fun _ h => h) rfl dX5_ahead_39 ?_
  refine lv_aload_n hx hb dX5_ahead_42 rfl (lv_at hl 0 rfl) ?_
  refine va_get (D := g.1) (ci := 5) (v := .int 0) (C := RX5) (T := TX5) (N := 27) hx hb hts zl_X5 hown hK hP 0 rfl rfl 3 (by decide) (hts _ m_f_RX5_114) (fun _ h => h) rfl dX5_ahead_43 ?_
  refine lv_icmp_ge (tgt := 61) hx hb dX5_ahead_46 (by decide) (fun _ => ?_) (fun h => absurd h (by decide +kernel))
  refine lv_iconst (v := (-1)) hx hb dX5_ahead_61 (by decide) ?_
  have hP9 := hP.sub (ws' := [(h0, .inr (5, [.ref h1, .int 0, .ref h2, .int 0, .int 0, .ref h3, .ref h4, .ref h5, .ref h6, .int 0, .ref h7, .ref h8, .ref h9, .int 0, .ref h10, .ref h11, .ref h12, .ref h13, .ref h14, .ref h15, .ref h16, .ref h17, .ref h18, .ref h19, .ref h20, .ref h21, .ref h22]))]) [0] rfl
  have hD9 := hD.sub (ws' := [(h0, .inr (5, [.ref h1, .int 0, .ref h2, .int 0, .int 0, .ref h3, .ref h4, .ref h5, .ref h6, .int 0, .ref h7, .ref h8, .ref h9, .int 0, .ref h10, .ref h11, .ref h12, .ref h13, .ref h14, .ref h15, .ref h16, .ref h17, .ref h18, .ref h19, .ref h20, .ref h21, .ref h22]))]) [0] (by decide) rfl
  exact W.iret (v := (-1)) hx hb hr (fun t ht hW => ⟨⟨(-1), 0, rfl, rfl, by rw [ht]; exact hP9, hD9⟩, hS.F ht⟩) hS.2.2 dX5_ahead_62
