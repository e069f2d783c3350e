set_option maxHeartbeats 4000000 in
set_option maxRecDepth 100000 in
theorem kX5_ruleOf_2 (l : Launch) (g : zG) (sz : Nat) : Met l yX5_ruleOf (.code yX5_ruleOf cX5_ruleOf 1 (some .int) :: zBig) ({ frames := 0, cells := 0, slots := 0, locals := 0 }) (va_Pc [.int (-1)] (zPre g [] sz)) (va_Qi (fun (r : Int32) (_ : Nat) => r = (-1)) (zPost g (fun _ : Nat => []) (va_A [] sz)) (va_A [] sz)) 0 0 (va_A [] sz) := by
  refine zMetI rfl (Nat.le_of_ble_eq_true rfl) ?_
  intro p e s m args below meth c A ls hx hb hml hr hlocks hin hown hts hK hN hZ hP hD hA hS hAe hl
  have hown : s.vm.findClass RX5 = some m.cls := hown
  have hl : lv_has ls 1 [(0, .int (-1))] := hl
  refine lv_iload_n hx hb dX5_ruleOf_0 rfl (lv_at hl 0 rfl) ?_
  refine lv_bipush (v := 115) hx hb dX5_ruleOf_1 (by decide) ?_
  refine lv_icmp_ne (tgt := 10) hx hb dX5_ruleOf_3 (by decide) (fun _ => ?_) (fun h => absurd h (by decide +kernel))
  refine lv_iload_n hx hb dX5_ruleOf_10 rfl (lv_at hl 0 rfl) ?_
  refine lv_bipush (v := 100) hx hb dX5_ruleOf_11 (by decide) ?_
  refine lv_icmp_ne (tgt := 20) hx hb dX5_ruleOf_13 (by decide) (fun _ => ?_) (fun h => absurd h (by decide +kernel))
  refine lv_iload_n hx hb dX5_ruleOf_20 rfl (lv_at hl 0 rfl) ?_
  refine lv_bipush (v := 102) hx hb dX5_ruleOf_21 (by decide) ?_
  refine lv_icmp_ne (tgt := 30) hx hb dX5_ruleOf_23 (by decide) (fun _ => ?_) (fun h => absurd h (by decide +kernel))
  refine lv_iload_n hx hb dX5_ruleOf_30 rfl (lv_at hl 0 rfl) ?_
  refine lv_bipush (v := 98) hx hb dX5_ruleOf_31 (by decide) ?_
  refine lv_icmp_ne (tgt := 40) hx hb dX5_ruleOf_33 (by decide) (fun _ => ?_) (fun h => absurd h (by decide +kernel))
  refine lv_iload_n hx hb dX5_ruleOf_40 rfl (lv_at hl 0 rfl) ?_
  refine lv_bipush (v := 99) hx hb dX5_ruleOf_41 (by decide) ?_
  refine lv_icmp_ne (tgt := 50) hx hb dX5_ruleOf_43 (by decide) (fun _ => ?_) (fun h => absurd h (by decide +kernel))
  refine lv_iconst (v := (-1)) hx hb dX5_ruleOf_50 (by decide) ?_
  have hP9 := hP.sub (ws' := []) [] rfl
  have hD9 := hD.sub (ws' := []) [] (by decide) rfl
  exact W.iret (v := (-1)) hx hb hr (fun t ht hW => ⟨⟨(-1), 0, rfl, rfl, by rw [ht]; exact hP9, hD9⟩, hS.F ht⟩) hS.2.2 dX5_ruleOf_51
set_option maxHeartbeats 4000000 in
set_option maxRecDepth 100000 in
theorem kX5_lawFault (l : Launch) (g : zG) (h0 h1 h2 h3 h4 h5 h6 h7 h8 h9 h10 h11 h12 h13 h14 h15 h16 h17 h18 h19 h20 h21 h22 : Nat) (sz : Nat) : Met l yX5_lawFault (.code yX5_lawFault cX5_lawFault 5 (some .int) :: zBig) ({ frames := 1, cells := 0, slots := 0, locals := 20 }) (va_Pc [.ref h0] (zPre g [(h0, .inr (5, [.ref h1, .int 0, .ref h2, .int 0, .int 0, .ref h3, .ref h4, .ref h5, .ref h6, .int 0, .ref h7, .ref h8, .ref h9, .int 0, .ref h10, .ref h11, .ref h12, .ref h13, .ref h14, .ref h15, .ref h16, .ref h17, .ref h18, .ref h19, .ref h20, .ref h21, .ref h22])), (h3, .inl (zI g, 5, .inl (fun _ => 0)))] sz)) (va_Qi (fun (r : Int32) (_ : Nat) => r = 0) (zPost g (fun _ : Nat => [(h3, .inl (zI g, 5, .inl (upd (upd (upd (upd (upd (fun _ => 0) 0 (-1)) 1 (-1)) 2 (-1)) 3 (-1)) 4 (-1)))), (h0, .inr (5, [.ref h1, .int 0, .ref h2, .int 0, .int 0, .ref h3, .ref h4, .ref h5, .ref h6, .int 0, .ref h7, .ref h8, .ref h9, .int 0, .ref h10, .ref h11, .ref h12, .ref h13, .ref h14, .ref h15, .ref h16, .ref h17, .ref h18, .ref h19, .ref h20, .ref h21, .ref h22]))]) (va_A [(h0, .inr (5, [.ref h1, .int 0, .ref h2, .int 0, .int 0, .ref h3, .ref h4, .ref h5, .ref h6, .int 0, .ref h7, .ref h8, .ref h9, .int 0, .ref h10, .ref h11, .ref h12, .ref h13, .ref h14, .ref h15, .ref h16, .ref h17, .ref h18, .ref h19, .ref h20, .ref h21, .ref h22])), (h3, .inl (zI g, 5, .inl (fun _ => 0)))] sz)) (va_A [(h0, .inr (5, [.ref h1, .int 0, .ref h2, .int 0, .int 0, .ref h3, .ref h4, .ref h5, .ref h6, .int 0, .ref h7, .ref h8, .ref h9, .int 0, .ref h10, .ref h11, .ref h12, .ref h13, .ref h14, .ref h15, .ref h16, .ref h17, .ref h18, .ref h19, .ref h20, .ref h21, .ref h22])), (h3, .inl (zI g, 5, .inl (fun _ => 0)))] sz)) 0 0 (va_A [(h0, .inr (5, [.ref h1, .int 0, .ref h2, .int 0, .int 0, .ref h3, .ref h4, .ref h5, .ref h6, .int 0, .ref h7, .ref h8, .ref h9, .int 0, .ref h10, .ref h11, .ref h12, .ref h13, .ref h14, .ref h15, .ref h16, .ref h17, .ref h18, .ref h19, .ref h20, .ref h21, .ref h22])), (h3, .inl (zI g, 5, .inl (fun _ => 0)))] sz) := by
  refine zMetI rfl (Nat.le_of_ble_eq_true rfl) ?_
  intro p e s m args below meth c A ls hx hb hml hr hlocks hin hown hts hK hN hZ hP hD hA hS hAe hl
  have hown : s.vm.findClass RX5 = some m.cls := hown
  have hl : lv_has ls 5 [(0, .ref h0)] := hl
  refine lv_iconst (v := 0) hx hb dX5_lawFault_0 (by decide) ?_
  refine lv_istore_n (lv' := [(1, .int 0), (0, .ref h0)]) hx hb dX5_lawFault_1 rfl hl (by decide) rfl (fun ls hl => ?_)
  refine lv_iload_n hx hb dX5_lawFault_2 rfl (lv_at hl 0 rfl) ?_
  refine lv_iconst (v := 5) hx hb dX5_lawFault_3 (by decide) ?_
  refine lv_icmp_ge (tgt := 20) hx hb dX5_lawFault_4 (by decide) (fun h => absurd h (by decide +kernel)) (fun _ => ?_)
  refine lv_aload_n hx hb dX5_lawFault_7 rfl (lv_at hl 1 rfl) ?_
  refine va_get (D := g.1) (ci := 5) (v := .ref h3) (C := RX5) (T := TX5) (N := 27) hx hb hts zl_X5 hown hK hP 0 rfl rfl 5 (by decide) (hts _ m_f_RX5_16) (fun _ h => h) rfl dX5_lawFault_8 ?_
  refine lv_iload_n hx hb dX5_lawFault_11 rfl (lv_at hl 0 rfl) ?_
  refine lv_iconst (v := (-1)) hx hb dX5_lawFault_12 (by decide) ?_
  refine va_iast (D := g.1) hx hb hK hP hD hS 1 0 rfl rfl (vp_in_iff.mpr (by decide +kernel)) dX5_lawFault_13 (fun H locs hP hD hS => ?_)
  have hP : va_P g.1 vwCl [(h0, .inr (5, [.ref h1, .int 0, .ref h2, .int 0, .int 0, .ref h3, .ref h4, .ref h5, .ref h6, .int 0, .ref h7, .ref h8, .ref h9, .int 0, .ref h10, .ref h11, .ref h12, .ref h13, .ref h14, .ref h15, .ref h16, .ref h17, .ref h18, .ref h19, .ref h20, .ref h21, .ref h22])), (h3, .inl (zI g, 5, .inl (upd (fun _ => 0) 0 (-1))))] H := hP
  have hD : va_D A [(h0, .inr (5, [.ref h1, .int 0, .ref h2, .int 0, .int 0, .ref h3, .ref h4, .ref h5, .ref h6, .int 0, .ref h7, .ref h8, .ref h9, .int 0, .ref h10, .ref h11, .ref h12, .ref h13, .ref h14, .ref h15, .ref h16, .ref h17, .ref h18, .ref h19, .ref h20, .ref h21, .ref h22])), (h3, .inl (zI g, 5, .inl (upd (fun _ => 0) 0 (-1))))] := hD
  refine lv_iinc (v := 1) (lv' := [(1, .int 1), (0, .ref h0)]) hx hb dX5_lawFault_14 hl (k := 0) rfl (by decide) (by decide) rfl (fun ls hl => ?_)
  refine lv_goto (tgt := 2) hx hb dX5_lawFault_17 (by decide) ?_
  refine lv_iload_n hx hb dX5_lawFault_2 rfl (lv_at hl 0 rfl) ?_
  refine lv_iconst (v := 5) hx hb dX5_lawFault_3 (by decide) ?_
  refine lv_icmp_ge (tgt := 20) hx hb dX5_lawFault_4 (by decide) (fun h => absurd h (by decide +kernel)) (fun _ => ?_)
  refine lv_aload_n hx hb dX5_lawFault_7 rfl (lv_at hl 1 rfl) ?_
  refine va_get (D := g.1) (ci := 5) (v := .ref h3) (C := RX5) (T := TX5) (N := 27) hx hb hts zl_X5 hown hK hP 0 rfl rfl 5 (by decide) (hts _ m_f_RX5_16) (fun _ h => h) rfl dX5_lawFault_8 ?_
  refine lv_iload_n hx hb dX5_lawFault_11 rfl (lv_at hl 0 rfl) ?_
  refine lv_iconst (v := (-1)) hx hb dX5_lawFault_12 (by decide) ?_
  refine va_iast (D := g.1) hx hb hK hP hD hS 1 0 rfl rfl (vp_in_iff.mpr (by decide +kernel)) dX5_lawFault_13 (fun H locs hP hD hS => ?_)
  have hP : va_P g.1 vwCl [(h0, .inr (5, [.ref h1, .int 0, .ref h2, .int 0, .int 0, .ref h3, .ref h4, .ref h5, .ref h6, .int 0, .ref h7, .ref h8, .ref h9, .int 0, .ref h10, .ref h11, .ref h12, .ref h13, .ref h14, .ref h15, .ref h16, .ref h17, .ref h18, .ref h19, .ref h20, .ref h21, .ref h22])), (h3, .inl (zI g, 5, .inl (upd (upd (fun _ => 0) 0 (-1)) 1 (-1))))] H := hP
  have hD : va_D A [(h0, .inr (5, [.ref h1, .int 0, .ref h2, .int 0, .int 0, .ref h3, .ref h4, .ref h5, .ref h6, .int 0, .ref h7, .ref h8, .ref h9, .int 0, .ref h10, .ref h11, .ref h12, .ref h13, .ref h14, .ref h15, .ref h16, .ref h17, .ref h18, .ref h19, .ref h20, .ref h21, .ref h22])), (h3, .inl (zI g, 5, .inl (upd (upd (fun _ => 0) 0 (-1)) 1 (-1))))] := hD
  refine lv_iinc (v := 2) (lv' := [(1, .int 2), (0, .ref h0)]) hx hb dX5_lawFault_14 hl (k := 0) rfl (by decide) (by decide) rfl (fun ls hl => ?_)
  refine lv_goto (tgt := 2) hx hb dX5_lawFault_17 (by decide) ?_
  refine lv_iload_n hx hb dX5_lawFault_2 rfl (lv_at hl 0 rfl) ?_
  refine lv_iconst (v := 5) hx hb dX5_lawFault_3 (by decide) ?_
  refine lv_icmp_ge (tgt := 20) hx hb dX5_lawFault_4 (by decide) (fun h => absurd h (by decide +kernel)) (fun _ => ?_)
  refine lv_aload_n hx hb dX5_lawFault_7 rfl (lv_at hl 1 rfl) ?_
  refine va_get (D := g.1) (ci := 5) (v := .ref h3) (C := RX5) (T := TX5) (N := 27) hx hb hts zl_X5 hown hK hP 0 rfl rfl 5 (by decide) (hts _ m_f_RX5_16) (fun _ h => h) rfl dX5_lawFault_8 ?_
  refine lv_iload_n hx hb dX5_lawFault_11 rfl (lv_at hl 0 rfl) ?_
  refine lv_iconst (v := (-1)) hx hb dX5_lawFault_12 (by decide) ?_
  refine va_iast (D := g.1) hx hb hK hP hD hS 1 0 rfl rfl (vp_in_iff.mpr (by decide +kernel)) dX5_lawFault_13 (fun H locs hP hD hS => ?_)
  have hP : va_P g.1 vwCl [(h0, .inr (5, [.ref h1, .int 0, .ref h2, .int 0, .int 0, .ref h3, .ref h4, .ref h5, .ref h6, .int 0, .ref h7, .ref h8, .ref h9, .int 0, .ref h10, .ref h11, .ref h12, .ref h13, .ref h14, .ref h15, .ref h16, .ref h17, .ref h18, .ref h19, .ref h20, .ref h21, .ref h22])), (h3, .inl (zI g, 5, .inl (upd (upd (upd (fun _ => 0) 0 (-1)) 1 (-1)) 2 (-1))))] H := hP
  have hD : va_D A [(h0, .inr (5, [.ref h1, .int 0, .ref h2, .int 0, .int 0, .ref h3, .ref h4, .ref h5, .ref h6, .int 0, .ref h7, .ref h8, .ref h9, .int 0, .ref h10, .ref h11, .ref h12, .ref h13, .ref h14, .ref h15, .ref h16, .ref h17, .ref h18, .ref h19, .ref h20, .ref h21, .ref h22])), (h3, .inl (zI g, 5, .inl (upd (upd (upd (fun _ => 0) 0 (-1)) 1 (-1)) 2 (-1))))] := hD
  refine lv_iinc (v := 3) (lv' := [(1, .int 3), (0, .ref h0)]) hx hb dX5_lawFault_14 hl (k := 0) rfl (by decide) (by decide) rfl (fun ls hl => ?_)
  refine lv_goto (tgt := 2) hx hb dX5_lawFault_17 (by decide) ?_
  refine lv_iload_n hx hb dX5_lawFault_2 rfl (lv_at hl 0 rfl) ?_
  refine lv_iconst (v := 5) hx hb dX5_lawFault_3 (by decide) ?_
  refine lv_icmp_ge (tgt := 20) hx hb dX5_lawFault_4 (by decide) (fun h => absurd h (by decide +kernel)) (fun _ => ?_)
  refine lv_aload_n hx hb dX5_lawFault_7 rfl (lv_at hl 1 rfl) ?_
  refine va_get (D := g.1) (ci := 5) (v := .ref h3) (C := RX5) (T := TX5) (N := 27) hx hb hts zl_X5 hown hK hP 0 rfl rfl 5 (by decide) (hts _ m_f_RX5_16) (fun _ h => h) rfl dX5_lawFault_8 ?_
  refine lv_iload_n hx hb dX5_lawFault_11 rfl (lv_at hl 0 rfl) ?_
  refine lv_iconst (v := (-1)) hx hb dX5_lawFault_12 (by decide) ?_
  refine va_iast (D := g.1) hx hb hK hP hD hS 1 0 rfl rfl (vp_in_iff.mpr (by decide +kernel)) dX5_lawFault_13 (fun H locs hP hD hS => ?_)
  have hP : va_P g.1 vwCl [(h0, .inr (5, [.ref h1, .int 0, .ref h2, .int 0, .int 0, .ref h3, .ref h4, .ref h5, .ref h6, .int 0, .ref h7, .ref h8, .ref h9, .int 0, .ref h10, .ref h11, .ref h12, .ref h13, .ref h14, .ref h15, .ref h16, .ref h17, .ref h18, .ref h19, .ref h20, .ref h21, .ref h22])), (h3, .inl (zI g, 5, .inl (upd (upd (upd (upd (fun _ => 0) 0 (-1)) 1 (-1)) 2 (-1)) 3 (-1))))] H := hP
  have hD : va_D A [(h0, .inr (5, [.ref h1, .int 0, .ref h2, .int 0, .int 0, .ref h3, .ref h4, .ref h5, .ref h6, .int 0, .ref h7, .ref h8, .ref h9, .int 0, .ref h10, .ref h11, .ref h12, .ref h13, .ref h14, .ref h15, .ref h16, .ref h17, .ref h18, .ref h19, .ref h20, .ref h21, .ref h22])), (h3, .inl (zI g, 5, .inl (upd (upd (upd (upd (fun _ => 0) 0 (-1)) 1 (-1)) 2 (-1)) 3 (-1))))] := hD
  refine lv_iinc (v := 4) (lv' := [(1, .int 4), (0, .ref h0)]) hx hb dX5_lawFault_14 hl (k := 0) rfl (by decide) (by decide) rfl (fun ls hl => ?_)
  refine lv_goto (tgt := 2) hx hb dX5_lawFault_17 (by decide) ?_
  refine lv_iload_n hx hb dX5_lawFault_2 rfl (lv_at hl 0 rfl) ?_
  refine lv_iconst (v := 5) hx hb dX5_lawFault_3 (by decide) ?_
  refine lv_icmp_ge (tgt := 20) hx hb dX5_lawFault_4 (by decide) (fun h => absurd h (by decide +kernel)) (fun _ => ?_)
  refine lv_aload_n hx hb dX5_lawFault_7 rfl (lv_at hl 1 rfl) ?_
  refine va_get (D := g.1) (ci := 5) (v := .ref h3) (C := RX5) (T := TX5) (N := 27) hx hb hts zl_X5 hown hK hP 0 rfl rfl 5 (by decide) (hts _ m_f_RX5_16) (fun _ h => h) rfl dX5_lawFault_8 ?_
  refine lv_iload_n hx hb dX5_lawFault_11 rfl (lv_at hl 0 rfl) ?_
  refine lv_iconst (v := (-1)) hx hb dX5_lawFault_12 (by decide) ?_
  refine va_iast (D := g.1) hx hb hK hP hD hS 1 0 rfl rfl (vp_in_iff.mpr (by decide +kernel)) dX5_lawFault_13 (fun H locs hP hD hS => ?_)
  have hP : va_P g.1 vwCl [(h0, .inr (5, [.ref h1, .int 0, .ref h2, .int 0, .int 0, .ref h3, .ref h4, .ref h5, .ref h6, .int 0, .ref h7, .ref h8, .ref h9, .int 0, .ref h10, .ref h11, .ref h12, .ref h13, .ref h14, .ref h15, .ref h16, .ref h17, .ref h18, .ref h19, .ref h20, .ref h21, .ref h22])), (h3, .inl (zI g, 5, .inl (upd (upd (upd (upd (upd (fun _ => 0) 0 (-1)) 1 (-1)) 2 (-1)) 3 (-1)) 4 (-1))))] H := hP
  have hD : va_D A [(h0, .inr (5, [.ref h1, .int 0, .ref h2, .int 0, .int 0, .ref h3, .ref h4, .ref h5, .ref h6, .int 0, .ref h7, .ref h8, .ref h9, .int 0, .ref h10, .ref h11, .ref h12, .ref h13, .ref h14, .ref h15, .ref h16, .ref h17, .ref h18, .ref h19, .ref h20, .ref h21, .ref h22])), (h3, .inl (zI g, 5, .inl (upd (upd (upd (upd (upd (fun _ => 0) 0 (-1)) 1 (-1)) 2 (-1)) 3 (-1)) 4 (-1))))] := hD
  refine lv_iinc (v := 5) (lv' := [(1, .int 5), (0, .ref h0)]) hx hb dX5_lawFault_14 hl (k := 0) rfl (by decide) (by decide) rfl (fun ls hl => ?_)
  refine lv_goto (tgt := 2) hx hb dX5_lawFault_17 (by decide) ?_
  refine lv_iload_n hx hb dX5_lawFault_2 rfl (lv_at hl 0 rfl) ?_
  refine lv_iconst (v := 5) hx hb dX5_lawFault_3 (by decide) ?_
  refine lv_icmp_ge (tgt := 20) hx hb dX5_lawFault_4 (by decide) (fun _ => ?_) (fun h => absurd h (by decide +kernel))
  refine lv_aload_n hx hb dX5_lawFault_20 rfl (lv_at hl 1 rfl) ?_
  refine lv_iconst (v := 0) hx hb dX5_lawFault_21 (by decide) ?_
  refine va_put (D := g.1) (ci := 5) (v := .int 0) (ty := .int) (C := RX5) (T := TX5) (N := 27) hx hb hts zl_X5 tyX5 tyX5_ok nmX5 hown hK hP hD hS 0 rfl rfl 4 (by decide) (hts _ m_f_RX5_118) (fun _ h => h) rfl (by decide +kernel) rfl rfl (Nat.le_of_ble_eq_true rfl) dX5_lawFault_22 (fun H locs hP hD hS => ?_)
  have hP : va_P g.1 vwCl [(h0, .inr (5, [.ref h1, .int 0, .ref h2, .int 0, .int 0, .ref h3, .ref h4, .ref h5, .ref h6, .int 0, .ref h7, .ref h8, .ref h9, .int 0, .ref h10, .ref h11, .ref h12, .ref h13, .ref h14, .ref h15, .ref h16, .ref h17, .ref h18, .ref h19, .ref h20, .ref h21, .ref h22])), (h3, .inl (zI g, 5, .inl (upd (upd (upd (upd (upd (fun _ => 0) 0 (-1)) 1 (-1)) 2 (-1)) 3 (-1)) 4 (-1))))] H := hP
  have hD : va_D A [(h0, .inr (5, [.ref h1, .int 0, .ref h2, .int 0, .int 0, .ref h3, .ref h4, .ref h5, .ref h6, .int 0, .ref h7, .ref h8, .ref h9, .int 0, .ref h10, .ref h11, .ref h12, .ref h13, .ref h14, .ref h15, .ref h16, .ref h17, .ref h18, .ref h19, .ref h20, .ref h21, .ref h22])), (h3, .inl (zI g, 5, .inl (upd (upd (upd (upd (upd (fun _ => 0) 0 (-1)) 1 (-1)) 2 (-1)) 3 (-1)) 4 (-1))))] := hD
  refine lv_iconst (v := 0) hx hb dX5_lawFault_25 (by decide) ?_
  refine lv_istore_n (lv' := [(1, .int 0), (0, .ref h0)]) hx hb dX5_lawFault_26 rfl hl (by decide) rfl (fun ls hl => ?_)
  refine lv_iload_n hx hb dX5_lawFault_27 rfl (lv_at hl 0 rfl) ?_
  refine lv_if_eq (tgt := 38) hx hb dX5_lawFault_28 (by decide) (fun _ => ?_) (fun h => absurd h (by decide +kernel))
  refine lv_aload_n hx hb dX5_lawFault_38 rfl (lv_at hl 1 rfl) ?_
  refine z_calli (wr := [(h3, .inl (zI g, 5, .inl (upd (upd (upd (upd (upd (fun _ => 0) 0 (-1)) 1 (-1)) 2 (-1)) 3 (-1)) 4 (-1))))]) hP hD hS hA [0] [1] (by decide) rfl rfl (by decide) (va_runV (As := []) (rest := []) ⟨hx, hb, hml, hown, hts⟩ (kX5_ahead_2 l g h0 h1 h2 h3 h4 h5 h6 h7 h8 h9 h10 h11 h12 h13 h14 h15 h16 h17 h18 h19 h20 h21 h22 H.size) ⟨callB_of 0 hts (zGood m_o_yX5_ahead) rfl rfl rfl (hts _ m_z_RX5) (hts _ m_m_RX5_121) ⟨by decide +kernel, by decide +kernel, by decide +kernel⟩ ⟨Nat.le_of_ble_eq_true rfl, Nat.le_of_ble_eq_true rfl⟩, hts _ m_i_yX5_ahead, hts _ m_e_yX5_ahead⟩ (zPreV hK hN hZ hP hD hS hA [0] (by decide) rfl rfl 5 0 rfl rfl) rfl rfl hl.1 rfl (lv_room (Nat.le_of_ble_eq_true rfl)) dX5_lawFault_39 ⟨Nat.le_of_ble_eq_true rfl, Nat.le_of_ble_eq_true rfl⟩) (fun r u H locs hw hP hD hS => ?_)
  obtain rfl := hw
  have hP : va_P g.1 vwCl [(h3, .inl (zI g, 5, .inl (upd (upd (upd (upd (upd (fun _ => 0) 0 (-1)) 1 (-1)) 2 (-1)) 3 (-1)) 4 (-1)))), (h0, .inr (5, [.ref h1, .int 0, .ref h2, .int 0, .int 0, .ref h3, .ref h4, .ref h5, .ref h6, .int 0, .ref h7, .ref h8, .ref h9, .int 0, .ref h10, .ref h11, .ref h12, .ref h13, .ref h14, .ref h15, .ref h16, .ref h17, .ref h18, .ref h19, .ref h20, .ref h21, .ref h22]))] H := hP
  have hD : va_D A [(h3, .inl (zI g, 5, .inl (upd (upd (upd (upd (upd (fun _ => 0) 0 (-1)) 1 (-1)) 2 (-1)) 3 (-1)) 4 (-1)))), (h0, .inr (5, [.ref h1, .int 0, .ref h2, .int 0, .int 0, .ref h3, .ref h4, .ref h5, .ref h6, .int 0, .ref h7, .ref h8, .ref h9, .int 0, .ref h10, .ref h11, .ref h12, .ref h13, .ref h14, .ref h15, .ref h16, .ref h17, .ref h18, .ref h19, .ref h20, .ref h21, .ref h22]))] := hD
  refine z_calli (wr := [(h3, .inl (zI g, 5, .inl (upd (upd (upd (upd (upd (fun _ => 0) 0 (-1)) 1 (-1)) 2 (-1)) 3 (-1)) 4 (-1)))), (h0, .inr (5, [.ref h1, .int 0, .ref h2, .int 0, .int 0, .ref h3, .ref h4, .ref h5, .ref h6, .int 0, .ref h7, .ref h8, .ref h9, .int 0, .ref h10, .ref h11, .ref h12, .ref h13, .ref h14, .ref h15, .ref h16, .ref h17, .ref h18, .ref h19, .ref h20, .ref h21, .ref h22]))]) hP hD hS hA [] [0, 1] (by decide) rfl rfl (by decide) (va_runS (As := [.int (-1)]) (rest := []) ⟨hx, hb, hml, hown, hts⟩ (kX5_ruleOf_2 l g  H.size) ⟨callB_of 1 hts (zGood m_o_yX5_ruleOf) rfl rfl rfl (hts _ m_z_RX5) (hts _ m_m_RX5_125) ⟨by decide +kernel, by decide +kernel, by decide +kernel⟩ ⟨Nat.le_of_ble_eq_true rfl, Nat.le_of_ble_eq_true rfl⟩, hts _ m_s_yX5_ruleOf⟩ (zPreS hK hN hZ hP hD hS hA [] (by decide) rfl rfl) rfl rfl hl.1 rfl (lv_room (Nat.le_of_ble_eq_true rfl)) dX5_lawFault_42 ⟨Nat.le_of_ble_eq_true rfl, Nat.le_of_ble_eq_true rfl⟩) (fun r u H locs hw hP hD hS => ?_)
  obtain rfl := hw
  have hP : va_P g.1 vwCl [(h3, .inl (zI g, 5, .inl (upd (upd (upd (upd (upd (fun _ => 0) 0 (-1)) 1 (-1)) 2 (-1)) 3 (-1)) 4 (-1)))), (h0, .inr (5, [.ref h1, .int 0, .ref h2, .int 0, .int 0, .ref h3, .ref h4, .ref h5, .ref h6, .int 0, .ref h7, .ref h8, .ref h9, .int 0, .ref h10, .ref h11, .ref h12, .ref h13, .ref h14, .ref h15, .ref h16, .ref h17, .ref h18, .ref h19, .ref h20, .ref h21, .ref h22]))] H := hP
  have hD : va_D A [(h3, .inl (zI g, 5, .inl (upd (upd (upd (upd (upd (fun _ => 0) 0 (-1)) 1 (-1)) 2 (-1)) 3 (-1)) 4 (-1)))), (h0, .inr (5, [.ref h1, .int 0, .ref h2, .int 0, .int 0, .ref h3, .ref h4, .ref h5, .ref h6, .int 0, .ref h7, .ref h8, .ref h9, .int 0, .ref h10, .ref h11, .ref h12, .ref h13, .ref h14, .ref h15, .ref h16, .ref h17, .ref h18, .ref h19, .ref h20, .ref h21, .ref h22]))] := hD
  refine lv_istore_n (lv' := [(2, .int (-1)), (1, .int 0), (0, .ref h0)]) hx hb dX5_lawFault_45 rfl hl (by decide) rfl (fun ls hl => ?_)
  refine lv_iload_n hx hb dX5_lawFault_46 rfl (lv_at hl 0 rfl) ?_
  refine lv_if_lt (tgt := 59) hx hb dX5_lawFault_47 (by decide) (fun _ => ?_) (fun h => absurd h (by decide +kernel))
  refine lv_aload_n hx hb dX5_lawFault_59 rfl (lv_at hl 2 rfl) ?_
  refine va_get (D := g.1) (ci := 5) (v := .int 0) (C := RX5) (T := TX5) (N := 27) hx hb hts zl_X5 hown hK hP 1 rfl rfl 4 (by decide) (hts _ m_f_RX5_118) (fun _ h => h) rfl dX5_lawFault_60 ?_
  have hP9 := hP.sub (ws' := [(h3, .inl (zI g, 5, .inl (upd (upd (upd (upd (upd (fun _ => 0) 0 (-1)) 1 (-1)) 2 (-1)) 3 (-1)) 4 (-1)))), (h0, .inr (5, [.ref h1, .int 0, .ref h2, .int 0, .int 0, .ref h3, .ref h4, .ref h5, .ref h6, .int 0, .ref h7, .ref h8, .ref h9, .int 0, .ref h10, .ref h11, .ref h12, .ref h13, .ref h14, .ref h15, .ref h16, .ref h17, .ref h18, .ref h19, .ref h20, .ref h21, .ref h22]))]) [0, 1] rfl
  have hD9 := hD.sub (ws' := [(h3, .inl (zI g, 5, .inl (upd (upd (upd (upd (upd (fun _ => 0) 0 (-1)) 1 (-1)) 2 (-1)) 3 (-1)) 4 (-1)))), (h0, .inr (5, [.ref h1, .int 0, .ref h2, .int 0, .int 0, .ref h3, .ref h4, .ref h5, .ref h6, .int 0, .ref h7, .ref h8, .ref h9, .int 0, .ref h10, .ref h11, .ref h12, .ref h13, .ref h14, .ref h15, .ref h16, .ref h17, .ref h18, .ref h19, .ref h20, .ref h21, .ref h22]))]) [0, 1] (by decide) rfl
  exact W.iret (v := 0) hx hb hr (fun t ht hW => ⟨⟨0, 0, rfl, rfl, by rw [ht]; exact hP9, hD9⟩, hS.F ht⟩) hS.2.2 dX5_lawFault_63
set_option maxHeartbeats 4000000 in
set_option maxRecDepth 100000 in
theorem kX5_lawFault_2 (l : Launch) (g : zG) (h0 h1 h2 h3 h4 h5 h6 h7 h8 h9 h10 h11 h12 h13 h14 h15 h16 h17 h18 h19 h20 h21 h22 : Nat) (sz : Nat) : Met l yX5_lawFault (.code yX5_lawFault cX5_lawFault 5 (some .int) :: zBig) ({ frames := 1, cells := 0, slots := 0, locals := 20 }) (va_Pc [.ref h0] (zPre g [(h0, .inr (5, [.ref h1, .int 0, .ref h2, .int 0, .int 0, .ref h3, .ref h4, .ref h5, .ref h6, .int 0, .ref h7, .ref h8, .ref h9, .int 0, .ref h10, .ref h11, .ref h12, .ref h13, .ref h14, .ref h15, .ref h16, .ref h17, .ref h18, .ref h19, .ref h20, .ref h21, .ref h22])), (h3, .inl (zI g, 5, .inl (fun _ => 0)))] sz)) (va_Qi (fun (r : Int32) (_ : Nat) => r = 0) (zPost g (fun _ : Nat => [(h3, .inl (zI g, 5, .inl (upd (upd (upd (upd (upd (fun _ => 0) 0 (-1)) 1 (-1)) 2 (-1)) 3 (-1)) 4 (-1)))), (h0, .inr (5, [.ref h1, .int 0, .ref h2, .int 0, .int 0, .ref h3, .ref h4, .ref h5, .ref h6, .int 0, .ref h7, .ref h8, .ref h9, .int 0, .ref h10, .ref h11, .ref h12, .ref h13, .ref h14, .ref h15, .ref h16, .ref h17, .ref h18, .ref h19, .ref h20, .ref h21, .ref h22]))]) (va_A [(h0, .inr (5, [.ref h1, .int 0, .ref h2, .int 0, .int 0, .ref h3, .ref h4, .ref h5, .ref h6, .int 0, .ref h7, .ref h8, .ref h9, .int 0, .ref h10, .ref h11, .ref h12, .ref h13, .ref h14, .ref h15, .ref h16, .ref h17, .ref h18, .ref h19, .ref h20, .ref h21, .ref h22])), (h3, .inl (zI g, 5, .inl (fun _ => 0)))] sz)) (va_A [(h0, .inr (5, [.ref h1, .int 0, .ref h2, .int 0, .int 0, .ref h3, .ref h4, .ref h5, .ref h6, .int 0, .ref h7, .ref h8, .ref h9, .int 0, .ref h10, .ref h11, .ref h12, .ref h13, .ref h14, .ref h15, .ref h16, .ref h17, .ref h18, .ref h19, .ref h20, .ref h21, .ref h22])), (h3, .inl (zI g, 5, .inl (fun _ => 0)))] sz)) 0 0 (va_A [(h0, .inr (5, [.ref h1, .int 0, .ref h2, .int 0, .int 0, .ref h3, .ref h4, .ref h5, .ref h6, .int 0, .ref h7, .ref h8, .ref h9, .int 0, .ref h10, .ref h11, .ref h12, .ref h13, .ref h14, .ref h15, .ref h16, .ref h17, .ref h18, .ref h19, .ref h20, .ref h21, .ref h22])), (h3, .inl (zI g, 5, .inl (fun _ => 0)))] sz) := by
  refine zMetI rfl (Nat.le_of_ble_eq_true rfl) ?_
  intro p e s m args below meth c A ls hx hb hml hr hlocks hin hown hts hK hN hZ hP hD hA hS hAe hl
  have hown : s.vm.findClass RX5 = some m.cls := hown
  have hl : lv_has ls 5 [(0, .ref h0)] := hl
  refine lv_iconst (v := 0) hx hb dX5_lawFault_0 (by decide) ?_
  refine lv_istore_n (lv' := [(1, .int 0), (0, .ref h0)]) hx hb dX5_lawFault_1 rfl hl (by decide) rfl (fun ls hl => ?_)
  refine lv_iload_n hx hb dX5_lawFault_2 rfl (lv_at hl 0 rfl) ?_
  refine lv_iconst (v := 5) hx hb dX5_lawFault_3 (by decide) ?_
  refine lv_icmp_ge (tgt := 20) hx hb dX5_lawFault_4 (by decide) (fun h => absurd h (by decide +kernel)) (fun _ => ?_)
  refine lv_aload_n hx hb dX5_lawFault_7 rfl (lv_at hl 1 rfl) ?_
  refine va_get (D := g.1) (ci := 5) (v := .ref h3) (C := RX5) (T := TX5) (N := 27) hx hb hts zl_X5 hown hK hP 0 rfl rfl 5 (by decide) (hts _ m_f_RX5_16) (fun _ h => h) rfl dX5_lawFault_8 ?_
  refine lv_iload_n hx hb dX5_lawFault_11 rfl (lv_at hl 0 rfl) ?_
  refine lv_iconst (v := (-1)) hx hb dX5_lawFault_12 (by decide) ?_
  refine va_iast (D := g.1) hx hb hK hP hD hS 1 0 rfl rfl (vp_in_iff.mpr (by decide +kernel)) dX5_lawFault_13 (fun H locs hP hD hS => ?_)
  have hP : va_P g.1 vwCl [(h0, .inr (5, [.ref h1, .int 0, .ref h2, .int 0, .int 0, .ref h3, .ref h4, .ref h5, .ref h6, .int 0, .ref h7, .ref h8, .ref h9, .int 0, .ref h10, .ref h11, .ref h12, .ref h13, .ref h14, .ref h15, .ref h16, .ref h17, .ref h18, .ref h19, .ref h20, .ref h21, .ref h22])), (h3, .inl (zI g, 5, .inl (upd (fun _ => 0) 0 (-1))))] H := hP
  have hD : va_D A [(h0, .inr (5, [.ref h1, .int 0, .ref h2, .int 0, .int 0, .ref h3, .ref h4, .ref h5, .ref h6, .int 0, .ref h7, .ref h8, .ref h9, .int 0, .ref h10, .ref h11, .ref h12, .ref h13, .ref h14, .ref h15, .ref h16, .ref h17, .ref h18, .ref h19, .ref h20, .ref h21, .ref h22])), (h3, .inl (zI g, 5, .inl (upd (fun _ => 0) 0 (-1))))] := hD
  refine lv_iinc (v := 1) (lv' := [(1, .int 1), (0, .ref h0)]) hx hb dX5_lawFault_14 hl (k := 0) rfl (by decide) (by decide) rfl (fun ls hl => ?_)
  refine lv_goto (tgt := 2) hx hb dX5_lawFault_17 (by decide) ?_
  refine lv_iload_n hx hb dX5_lawFault_2 rfl (lv_at hl 0 rfl) ?_
  refine lv_iconst (v := 5) hx hb dX5_lawFault_3 (by decide) ?_
  refine lv_icmp_ge (tgt := 20) hx hb dX5_lawFault_4 (by decide) (fun h => absurd h (by decide +kernel)) (fun _ => ?_)
  refine lv_aload_n hx hb dX5_lawFault_7 rfl (lv_at hl 1 rfl) ?_
  refine va_get (D := g.1) (ci := 5) (v := .ref h3) (C := RX5) (T := TX5) (N := 27) hx hb hts zl_X5 hown hK hP 0 rfl rfl 5 (by decide) (hts _ m_f_RX5_16) (fun _ h => h) rfl dX5_lawFault_8 ?_
  refine lv_iload_n hx hb dX5_lawFault_11 rfl (lv_at hl 0 rfl) ?_
  refine lv_iconst (v := (-1)) hx hb dX5_lawFault_12 (by decide) ?_
  refine va_iast (D := g.1) hx hb hK hP hD hS 1 0 rfl rfl (vp_in_iff.mpr (by decide +kernel)) dX5_lawFault_13 (fun H locs hP hD hS => ?_)
  have hP : va_P g.1 vwCl [(h0, .inr (5, [.ref h1, .int 0, .ref h2, .int 0, .int 0, .ref h3, .ref h4, .ref h5, .ref h6, .int 0, .ref h7, .ref h8, .ref h9, .int 0, .ref h10, .ref h11, .ref h12, .ref h13, .ref h14, .ref h15, .ref h16, .ref h17, .ref h18, .ref h19, .ref h20, .ref h21, .ref h22])), (h3, .inl (zI g, 5, .inl (upd (upd (fun _ => 0) 0 (-1)) 1 (-1))))] H := hP
  have hD : va_D A [(h0, .inr (5, [.ref h1, .int 0, .ref h2, .int 0, .int 0, .ref h3, .ref h4, .ref h5, .ref h6, .int 0, .ref h7, .ref h8, .ref h9, .int 0, .ref h10, .ref h11, .ref h12, .ref h13, .ref h14, .ref h15, .ref h16, .ref h17, .ref h18, .ref h19, .ref h20, .ref h21, .ref h22])), (h3, .inl (zI g, 5, .inl (upd (upd (fun _ => 0) 0 (-1)) 1 (-1))))] := hD
  refine lv_iinc (v := 2) (lv' := [(1, .int 2), (0, .ref h0)]) hx hb dX5_lawFault_14 hl (k := 0) rfl (by decide) (by decide) rfl (fun ls hl => ?_)
  refine lv_goto (tgt := 2) hx hb dX5_lawFault_17 (by decide) ?_
  refine lv_iload_n hx hb dX5_lawFault_2 rfl (lv_at hl 0 rfl) ?_
  refine lv_iconst (v := 5) hx hb dX5_lawFault_3 (by decide) ?_
  refine lv_icmp_ge (tgt := 20) hx hb dX5_lawFault_4 (by decide) (fun h => absurd h (by decide +kernel)) (fun _ => ?_)
  refine lv_aload_n hx hb dX5_lawFault_7 rfl (lv_at hl 1 rfl) ?_
  refine va_get (D := g.1) (ci := 5) (v := .ref h3) (C := RX5) (T := TX5) (N := 27) hx hb hts zl_X5 hown hK hP 0 rfl rfl 5 (by decide) (hts _ m_f_RX5_16) (fun _ h => h) rfl dX5_lawFault_8 ?_
  refine lv_iload_n hx hb dX5_lawFault_11 rfl (lv_at hl 0 rfl) ?_
  refine lv_iconst (v := (-1)) hx hb dX5_lawFault_12 (by decide) ?_
  refine va_iast (D := g.1) hx hb hK hP hD hS 1 0 rfl rfl (vp_in_iff.mpr (by decide +kernel)) dX5_lawFault_13 (fun H locs hP hD hS => ?_)
  have hP : va_P g.1 vwCl [(h0, .inr (5, [.ref h1, .int 0, .ref h2, .int 0, .int 0, .ref h3, .ref h4, .ref h5, .ref h6, .int 0, .ref h7, .ref h8, .ref h9, .int 0, .ref h10, .ref h11, .ref h12, .ref h13, .ref h14, .ref h15, .ref h16, .ref h17, .ref h18, .ref h19, .ref h20, .ref h21, .ref h22])), (h3, .inl (zI g, 5, .inl (upd (upd (upd (fun _ => 0) 0 (-1)) 1 (-1)) 2 (-1))))] H := hP
  have hD : va_D A [(h0, .inr (5, [.ref h1, .int 0, .ref h2, .int 0, .int 0, .ref h3, .ref h4, .ref h5, .ref h6, .int 0, .ref h7, .ref h8, .ref h9, .int 0, .ref h10, .ref h11, .ref h12, .ref h13, .ref h14, .ref h15, .ref h16, .ref h17, .ref h18, .ref h19, .ref h20, .ref h21, .ref h22])), (h3, .inl (zI g, 5, .inl (upd (upd (upd (fun _ => 0) 0 (-1)) 1 (-1)) 2 (-1))))] := hD
  refine lv_iinc (v := 3) (lv' := [(1, .int 3), (0, .ref h0)]) hx hb dX5_lawFault_14 hl (k := 0) rfl (by decide) (by decide) rfl (fun ls hl => ?_)
  refine lv_goto (tgt := 2) hx hb dX5_lawFault_17 (by decide) ?_
  refine lv_iload_n hx hb dX5_lawFault_2 rfl (lv_at hl 0 rfl) ?_
  refine lv_iconst (v := 5) hx hb dX5_lawFault_3 (by decide) ?_
  refine lv_icmp_ge (tgt := 20) hx hb dX5_lawFault_4 (by decide) (fun h => absurd h (by decide +kernel)) (fun _ => ?_)
  refine lv_aload_n hx hb dX5_lawFault_7 rfl (lv_at hl 1 rfl) ?_
  refine va_get (D := g.1) (ci := 5) (v := .ref h3) (C := RX5) (T := TX5) (N := 27) hx hb hts zl_X5 hown hK hP 0 rfl rfl 5 (by decide) (hts _ m_f_RX5_16) (fun _ h => h) rfl dX5_lawFault_8 ?_
  refine lv_iload_n hx hb dX5_lawFault_11 rfl (lv_at hl 0 rfl) ?_
  refine lv_iconst (v := (-1)) hx hb dX5_lawFault_12 (by decide) ?_
  refine va_iast (D := g.1) hx hb hK hP hD hS 1 0 rfl rfl (vp_in_iff.mpr (by decide +kernel)) dX5_lawFault_13 (fun H locs hP hD hS => ?_)
  have hP : va_P g.1 vwCl [(h0, .inr (5, [.ref h1, .int 0, .ref h2, .int 0, .int 0, .ref h3, .ref h4, .ref h5, .ref h6, .int 0, .ref h7, .ref h8, .ref h9, .int 0, .ref h10, .ref h11, .ref h12, .ref h13, .ref h14, .ref h15, .ref h16, .ref h17, .ref h18, .ref h19, .ref h20, .ref h21, .ref h22])), (h3, .inl (zI g, 5, .inl (upd (upd (upd (upd (fun _ => 0) 0 (-1)) 1 (-1)) 2 (-1)) 3 (-1))))] H := hP
  have hD : va_D A [(h0, .inr (5, [.ref h1, .int 0, .ref h2, .int 0, .int 0, .ref h3, .ref h4, .ref h5, .ref h6, .int 0, .ref h7, .ref h8, .ref h9, .int 0, .ref h10, .ref h11, .ref h12, .ref h13, .ref h14, .ref h15, .ref h16, .ref h17, .ref h18, .ref h19, .ref h20, .ref h21, .ref h22])), (h3, .inl (zI g, 5, .inl (upd (upd (upd (upd (fun _ => 0) 0 (-1)) 1 (-1)) 2 (-1)) 3 (-1))))] := hD
  refine lv_iinc (v := 4) (lv' := [(1, .int 4), (0, .ref h0)]) hx hb dX5_lawFault_14 hl (k := 0) rfl (by decide) (by decide) rfl (fun ls hl => ?_)
  refine lv_goto (tgt := 2) hx hb dX5_lawFault_17 (by decide) ?_
  refine lv_iload_n hx hb dX5_lawFault_2 rfl (lv_at hl 0 rfl) ?_
  refine lv_iconst (v := 5) hx hb dX5_lawFault_3 (by decide) ?_
  refine lv_icmp_ge (tgt := 20) hx hb dX5_lawFault_4 (by decide) (fun h => absurd h (by decide +kernel)) (fun _ => ?_)
  refine lv_aload_n hx hb dX5_lawFault_7 rfl (lv_at hl 1 rfl) ?_
  refine va_get (D := g.1) (ci := 5) (v := .ref h3) (C := RX5) (T := TX5) (N := 27) hx hb hts zl_X5 hown hK hP 0 rfl rfl 5 (by decide) (hts _ m_f_RX5_16) (fun _ h => h) rfl dX5_lawFault_8 ?_
  refine lv_iload_n hx hb dX5_lawFault_11 rfl (lv_at hl 0 rfl) ?_
  refine lv_iconst (v := (-1)) hx hb dX5_lawFault_12 (by decide) ?_
  refine va_iast (D := g.1) hx hb hK hP hD hS 1 0 rfl rfl (vp_in_iff.mpr (by decide +kernel)) dX5_lawFault_13 (fun H locs hP hD hS => ?_)
  have hP : va_P g.1 vwCl [(h0, .inr (5, [.ref h1, .int 0, .ref h2, .int 0, .int 0, .ref h3, .ref h4, .ref h5, .ref h6, .int 0, .ref h7, .ref h8, .ref h9, .int 0, .ref h10, .ref h11, .ref h12, .ref h13, .ref h14, .ref h15, .ref h16, .ref h17, .ref h18, .ref h19, .ref h20, .ref h21, .ref h22])), (h3, .inl (zI g, 5, .inl (upd (upd (upd (upd (upd (fun _ => 0) 0 (-1)) 1 (-1)) 2 (-1)) 3 (-1)) 4 (-1))))] H := hP
  have hD : va_D A [(h0, .inr (5, [.ref h1, .int 0, .ref h2, .int 0, .int 0, .ref h3, .ref h4, .ref h5, .ref h6, .int 0, .ref h7, .ref h8, .ref h9, .int 0, .ref h10, .ref h11, .ref h12, .ref h13, .ref h14, .ref h15, .ref h16, .ref h17, .ref h18, .ref h19, .ref h20, .ref h21, .ref h22])), (h3, .inl (zI g, 5, .inl (upd (upd (upd (upd (upd (fun _ => 0) 0 (-1)) 1 (-1)) 2 (-1)) 3 (-1)) 4 (-1))))] := hD
  refine lv_iinc (v := 5) (lv' := [(1, .int 5), (0, .ref h0)]) hx hb dX5_lawFault_14 hl (k := 0) rfl (by decide) (by decide) rfl (fun ls hl => ?_)
  refine lv_goto (tgt := 2) hx hb dX5_lawFault_17 (by decide) ?_
  refine lv_iload_n hx hb dX5_lawFault_2 rfl (lv_at hl 0 rfl) ?_
  refine lv_iconst (v := 5) hx hb dX5_lawFault_3 (by decide) ?_
  refine lv_icmp_ge (tgt := 20) hx hb dX5_lawFault_4 (by decide) (fun _ => ?_) (fun h => absurd h (by decide +kernel))
  refine lv_aload_n hx hb dX5_lawFault_20 rfl (lv_at hl 1 rfl) ?_
  refine lv_iconst (v := 0) hx hb dX5_lawFault_21 (by decide) ?_
  refine va_put (D := g.1) (ci := 5) (v := .int 0) (ty := .int) (C := RX5) (T := TX5) (N := 27) hx hb hts zl_X5 tyX5 tyX5_ok nmX5 hown hK hP hD hS 0 rfl rfl 4 (by decide) (hts _ m_f_RX5_118) (fun _ h => h) rfl (by decide +kernel) rfl rfl (Nat.le_of_ble_eq_true rfl) dX5_lawFault_22 (fun H locs hP hD hS => ?_)
  have hP : va_P g.1 vwCl [(h0, .inr (5, [.ref h1, .int 0, .ref h2, .int 0, .int 0, .ref h3, .ref h4, .ref h5, .ref h6, .int 0, .ref h7, .ref h8, .ref h9, .int 0, .ref h10, .ref h11, .ref h12, .ref h13, .ref h14, .ref h15, .ref h16, .ref h17, .ref h18, .ref h19, .ref h20, .ref h21, .ref h22])), (h3, .inl (zI g, 5, .inl (upd (upd (upd (upd (upd (fun _ => 0) 0 (-1)) 1 (-1)) 2 (-1)) 3 (-1)) 4 (-1))))] H := hP
  have hD : va_D A [(h0, .inr (5, [.ref h1, .int 0, .ref h2, .int 0, .int 0, .ref h3, .ref h4, .ref h5, .ref h6, .int 0, .ref h7, .ref h8, .ref h9, .int 0, .ref h10, .ref h11, .ref h12, .ref h13, .ref h14, .ref h15, .ref h16, .ref h17, .ref h18, .ref h19, .ref h20, .ref h21, .ref h22])), (h3, .inl (zI g, 5, .inl (upd (upd (upd (upd (upd (fun _ => 0) 0 (-1)) 1 (-1)) 2 (-1)) 3 (-1)) 4 (-1))))] := hD
  refine lv_iconst (v := 0) hx hb dX5_lawFault_25 (by decide) ?_
  refine lv_istore_n (lv' := [(1, .int 0), (0, .ref h0)]) hx hb dX5_lawFault_26 rfl hl (by decide) rfl (fun ls hl => ?_)
  refine lv_iload_n hx hb dX5_lawFault_27 rfl (lv_at hl 0 rfl) ?_
  refine lv_if_eq (tgt := 38) hx hb dX5_lawFault_28 (by decide) (fun _ => ?_) (fun h => absurd h (by decide +kernel))
  refine lv_aload_n hx hb dX5_lawFault_38 rfl (lv_at hl 1 rfl) ?_
  refine z_calli (wr := [(h3, .inl (zI g, 5, .inl (upd (upd (upd (upd (upd (fun _ => 0) 0 (-1)) 1 (-1)) 2 (-1)) 3 (-1)) 4 (-1))))]) hP hD hS hA [0] [1] (by decide) rfl rfl (by decide) (va_runV (As := []) (rest := []) ⟨hx, hb, hml, hown, hts⟩ (kX5_ahead_2 l g h0 h1 h2 h3 h4 h5 h6 h7 h8 h9 h10 h11 h12 h13 h14 h15 h16 h17 h18 h19 h20 h21 h22 H.size) ⟨callB_of 0 hts (zGood m_o_yX5_ahead) rfl rfl rfl (hts _ m_z_RX5) (hts _ m_m_RX5_121) ⟨by decide +kernel, by decide +kernel, by decide +kernel⟩ ⟨Nat.le_of_ble_eq_true rfl, Nat.le_of_ble_eq_true rfl⟩, hts _ m_i_yX5_ahead, hts _ m_e_yX5_ahead⟩ (zPreV hK hN hZ hP hD hS hA [0] (by decide) rfl rfl 5 0 rfl rfl) rfl rfl hl.1 rfl (lv_room (Nat.le_of_ble_eq_true rfl)) dX5_lawFault_39 ⟨Nat.le_of_ble_eq_true rfl, Nat.le_of_ble_eq_true rfl⟩) (fun r u H locs hw hP hD hS => ?_)
  obtain rfl := hw
  have hP : va_P g.1 vwCl [(h3, .inl (zI g, 5, .inl (upd (upd (upd (upd (upd (fun _ => 0) 0 (-1)) 1 (-1)) 2 (-1)) 3 (-1)) 4 (-1)))), (h0, .inr (5, [.ref h1, .int 0, .ref h2, .int 0, .int 0, .ref h3, .ref h4, .ref h5, .ref h6, .int 0, .ref h7, .ref h8, .ref h9, .int 0, .ref h10, .ref h11, .ref h12, .ref h13, .ref h14, .ref h15, .ref h16, .ref h17, .ref h18, .ref h19, .ref h20, .ref h21, .ref h22]))] H := hP
  have hD : va_D A [(h3, .inl (zI g, 5, .inl (upd (upd (upd (upd (upd (fun _ => 0) 0 (-1)) 1 (-1)) 2 (-1)) 3 (-1)) 4 (-1)))), (h0, .inr (5, [.ref h1, .int 0, .ref h2, .int 0, .int 0, .ref h3, .ref h4, .ref h5, .ref h6, .int 0, .ref h7, .ref h8, .ref h9, .int 0, .ref h10, .ref h11, .ref h12, .ref h13, .ref h14, .ref h15, .ref h16, .ref h17, .ref h18, .ref h19, .ref h20, .ref h21, .ref h22]))] := hD
  refine z_calli (wr := [(h3, .inl (zI g, 5, .inl (upd (upd (upd (upd (upd (fun _ => 0) 0 (-1)) 1 (-1)) 2 (-1)) 3 (-1)) 4 (-1)))), (h0, .inr (5, [.ref h1, .int 0, .ref h2, .int 0, .int 0, .ref h3, .ref h4, .ref h5, .ref h6, .int 0, .ref h7, .ref h8, .ref h9, .int 0, .ref h10, .ref h11, .ref h12, .ref h13, .ref h14, .ref h15, .ref h16, .ref h17, .ref h18, .ref h19, .ref h20, .ref h21, .ref h22]))]) hP hD hS hA [] [0, 1] (by decide) rfl rfl (by decide) (va_runS (As := [.int (-1)]) (rest := []) ⟨hx, hb, hml, hown, hts⟩ (kX5_ruleOf_2 l g  H.size) ⟨callB_of 1 hts (zGood m_o_yX5_ruleOf) rfl rfl rfl (hts _ m_z_RX5) (hts _ m_m_RX5_125) ⟨by decide +kernel, by decide +kernel, by decide +kernel⟩ ⟨Nat.le_of_ble_eq_true rfl, Nat.le_of_ble_eq_true rfl⟩, hts _ m_s_yX5_ruleOf⟩ (zPreS hK hN hZ hP hD hS hA [] (by decide) rfl rfl) rfl rfl hl.1 rfl (lv_room (Nat.le_of_ble_eq_true rfl)) dX5_lawFault_42 ⟨Nat.le_of_ble_eq_true rfl, Nat.le_of_ble_eq_true rfl⟩) (fun r u H locs hw hP hD hS => ?_)
  obtain rfl := hw
  have hP : va_P g.1 vwCl [(h3, .inl (zI g, 5, .inl (upd (upd (upd (upd (upd (fun _ => 0) 0 (-1)) 1 (-1)) 2 (-1)) 3 (-1)) 4 (-1)))), (h0, .inr (5, [.ref h1, .int 0, .ref h2, .int 0, .int 0, .ref h3, .ref h4, .ref h5, .ref h6, .int 0, .ref h7, .ref h8, .ref h9, .int 0, .ref h10, .ref h11, .ref h12, .ref h13, .ref h14, .ref h15, .ref h16, .ref h17, .ref h18, .ref h19, .ref h20, .ref h21, .ref h22]))] H := hP
  have hD : va_D A [(h3, .inl (zI g, 5, .inl (upd (upd (upd (upd (upd (fun _ => 0) 0 (-1)) 1 (-1)) 2 (-1)) 3 (-1)) 4 (-1)))), (h0, .inr (5, [.ref h1, .int 0, .ref h2, .int 0, .int 0, .ref h3, .ref h4, .ref h5, .ref h6, .int 0, .ref h7, .ref h8, .ref h9, .int 0, .ref h10, .ref h11, .ref h12, .ref h13, .ref h14, .ref h15, .ref h16, .ref h17, .ref h18, .ref h19, .ref h20, .ref h21, .ref h22]))] := hD
  refine lv_istore_n (lv' := [(2, .int (-1)), (1, .int 0), (0, .ref h0)]) hx hb dX5_lawFault_45 rfl hl (by decide) rfl (fun ls hl => ?_)
  refine lv_iload_n hx hb dX5_lawFault_46 rfl (lv_at hl 0 rfl) ?_
  refine lv_if_lt (tgt := 59) hx hb dX5_lawFault_47 (by decide) (fun _ => ?_) (fun h => absurd h (by decide +kernel))
  refine lv_aload_n hx hb dX5_lawFault_59 rfl (lv_at hl 2 rfl) ?_
  refine va_get (D := g.1) (ci := 5) (v := .int 0) (C := RX5) (T := TX5) (N := 27) hx hb hts zl_X5 hown hK hP 1 rfl rfl 4 (by decide) (hts _ m_f_RX5_118) (fun _ h => h) rfl dX5_lawFault_60 ?_
  have hP9 := hP.sub (ws' := [(h3, .inl (zI g, 5, .inl (upd (upd (upd (upd (upd (fun _ => 0) 0 (-1)) 1 (-1)) 2 (-1)) 3 (-1)) 4 (-1)))), (h0, .inr (5, [.ref h1, .int 0, .ref h2, .int 0, .int 0, .ref h3, .ref h4, .ref h5, .ref h6, .int 0, .ref h7, .ref h8, .ref h9, .int 0, .ref h10, .ref h11, .ref h12, .ref h13, .ref h14, .ref h15, .ref h16, .ref h17, .ref h18, .ref h19, .ref h20, .ref h21, .ref h22]))]) [0, 1] rfl
  have hD9 := hD.sub (ws' := [(h3, .inl (zI g, 5, .inl (upd (upd (upd (upd (upd (fun _ => 0) 0 (-1)) 1 (-1)) 2 (-1)) 3 (-1)) 4 (-1)))), (h0, .inr (5, [.ref h1, .int 0, .ref h2, .int 0, .int 0, .ref h3, .ref h4, .ref h5, .ref h6, .int 0, .ref h7, .ref h8, .ref h9, .int 0, .ref h10, .ref h11, .ref h12, .ref h13, .ref h14, .ref h15, .ref h16, .ref h17, .ref h18, .ref h19, .ref h20, .ref h21, .ref h22]))]) [0, 1] (by decide) rfl
  exact W.iret (v := 0) hx hb hr (fun t ht hW => ⟨⟨0, 0, rfl, rfl, by rw [ht]; exact hP9, hD9⟩, hS.F ht⟩) hS.2.2 dX5_lawFault_63
set_option maxHeartbeats 4000000 in
set_option maxRecDepth 100000 in
theorem kX5_rules (l : Launch) (g : zG) (h0 h1 h2 h3 h4 h5 h6 h7 h8 h9 h10 h11 h12 h13 h14 h15 h16 h17 h18 h19 h20 h21 h22 : Nat) (sz : Nat) : Met l yX5_rules (.code yX5_rules cX5_rules 4 (some .int) :: zBig) ({ frames := 2, cells := 0, slots := 0, locals := 44 }) (va_Pc [.ref h0] (zPre g [(h0, .inr (5, [.ref h1, .int 0, .ref h2, .int 0, .int 0, .ref h3, .ref h4, .ref h5, .ref h6, .int 0, .ref h7, .ref h8, .ref h9, .int 0, .ref h10, .ref h11, .ref h12, .ref h13, .ref h14, .ref h15, .ref h16, .ref h17, .ref h18, .ref h19, .ref h20, .ref h21, .ref h22])), (h3, .inl (zI g, 5, .inl (fun _ => 0)))] sz)) (va_Qi (fun (r : Int32) (_ : Nat) => r = (-20)) (zPost g (fun _ : Nat => []) (va_A [(h0, .inr (5, [.ref h1, .int 0, .ref h2, .int 0, .int 0, .ref h3, .ref h4, .ref h5, .ref h6, .int 0, .ref h7, .ref h8, .ref h9, .int 0, .ref h10, .ref h11, .ref h12, .ref h13, .ref h14, .ref h15, .ref h16, .ref h17, .ref h18, .ref h19, .ref h20, .ref h21, .ref h22])), (h3, .inl (zI g, 5, .inl (fun _ => 0)))] sz)) (va_A [(h0, .inr (5, [.ref h1, .int 0, .ref h2, .int 0, .int 0, .ref h3, .ref h4, .ref h5, .ref h6, .int 0, .ref h7, .ref h8, .ref h9, .int 0, .ref h10, .ref h11, .ref h12, .ref h13, .ref h14, .ref h15, .ref h16, .ref h17, .ref h18, .ref h19, .ref h20, .ref h21, .ref h22])), (h3, .inl (zI g, 5, .inl (fun _ => 0)))] sz)) 0 0 (va_A [(h0, .inr (5, [.ref h1, .int 0, .ref h2, .int 0, .int 0, .ref h3, .ref h4, .ref h5, .ref h6, .int 0, .ref h7, .ref h8, .ref h9, .int 0, .ref h10, .ref h11, .ref h12, .ref h13, .ref h14, .ref h15, .ref h16, .ref h17, .ref h18, .ref h19, .ref h20, .ref h21, .ref h22])), (h3, .inl (zI g, 5, .inl (fun _ => 0)))] sz) := by
  refine zMetI rfl (Nat.le_of_ble_eq_true rfl) ?_
  intro p e s m args below meth c A ls hx hb hml hr hlocks hin hown hts hK hN hZ hP hD hA hS hAe hl
  have hown : s.vm.findClass RX5 = some m.cls := hown
  have hl : lv_has ls 4 [(0, .ref h0)] := hl
  refine lv_aload_n hx hb dX5_rules_0 rfl (lv_at hl 0 rfl) ?_
  refine z_calli (wr := []) hP hD hS hA [0, 1] [] (by decide) rfl rfl (by decide) (va_runV (As := []) (rest := []) ⟨hx, hb, hml, hown, hts⟩ (kX5_lawFault_2 l g h0 h1 h2 h3 h4 h5 h6 h7 h8 h9 h10 h11 h12 h13 h14 h15 h16 h17 h18 h19 h20 h21 h22 s.heap.size) ⟨callB_of 0 hts (zGood m_o_yX5_lawFault) rfl rfl rfl (hts _ m_z_RX5) (hts _ m_m_RX5_136) ⟨by decide +kernel, by decide +kernel, by decide +kernel⟩ ⟨Nat.le_of_ble_eq_true rfl, Nat.le_of_ble_eq_true rfl⟩, hts _ m_i_yX5_lawFault, hts _ m_e_yX5_lawFault⟩ (zPreV hK hN hZ hP hD hS hA [0, 1] (by decide) rfl rfl 5 0 rfl rfl) rfl rfl hl.1 rfl (lv_room (Nat.le_of_ble_eq_true rfl)) dX5_rules_1 ⟨Nat.le_of_ble_eq_true rfl, Nat.le_of_ble_eq_true rfl⟩) (fun r u H locs hw hP hD hS => ?_)
  obtain rfl := hw
  have hP : va_P g.1 vwCl [(h3, .inl (zI g, 5, .inl (upd (upd (upd (upd (upd (fun _ => 0) 0 (-1)) 1 (-1)) 2 (-1)) 3 (-1)) 4 (-1)))), (h0, .inr (5, [.ref h1, .int 0, .ref h2, .int 0, .int 0, .ref h3, .ref h4, .ref h5, .ref h6, .int 0, .ref h7, .ref h8, .ref h9, .int 0, .ref h10, .ref h11, .ref h12, .ref h13, .ref h14, .ref h15, .ref h16, .ref h17, .ref h18, .ref h19, .ref h20, .ref h21, .ref h22]))] H := hP
  have hD : va_D A [(h3, .inl (zI g, 5, .inl (upd (upd (upd (upd (upd (fun _ => 0) 0 (-1)) 1 (-1)) 2 (-1)) 3 (-1)) 4 (-1)))), (h0, .inr (5, [.ref h1, .int 0, .ref h2, .int 0, .int 0, .ref h3, .ref h4, .ref h5, .ref h6, .int 0, .ref h7, .ref h8, .ref h9, .int 0, .ref h10, .ref h11, .ref h12, .ref h13, .ref h14, .ref h15, .ref h16, .ref h17, .ref h18, .ref h19, .ref h20, .ref h21, .ref h22]))] := hD
  refine lv_istore_n (lv' := [(1, .int 0), (0, .ref h0)]) hx hb dX5_rules_4 rfl hl (by decide) rfl (fun ls hl => ?_)
  refine lv_aload_n hx hb dX5_rules_5 rfl (lv_at hl 1 rfl) ?_
  refine lv_iconst (v := 0) hx hb dX5_rules_6 (by decide) ?_
  refine va_put (D := g.1) (ci := 5) (v := .int 0) (ty := .int) (C := RX5) (T := TX5) (N := 27) hx hb hts zl_X5 tyX5 tyX5_ok nmX5 hown hK hP hD hS 1 rfl rfl 3 (by decide) (hts _ m_f_RX5_114) (fun _ h => h) rfl (by decide +kernel) rfl rfl (Nat.le_of_ble_eq_true rfl) dX5_rules_7 (fun H locs hP hD hS => ?_)
  have hP : va_P g.1 vwCl [(h3, .inl (zI g, 5, .inl (upd (upd (upd (upd (upd (fun _ => 0) 0 (-1)) 1 (-1)) 2 (-1)) 3 (-1)) 4 (-1)))), (h0, .inr (5, [.ref h1, .int 0, .ref h2, .int 0, .int 0, .ref h3, .ref h4, .ref h5, .ref h6, .int 0, .ref h7, .ref h8, .ref h9, .int 0, .ref h10, .ref h11, .ref h12, .ref h13, .ref h14, .ref h15, .ref h16, .ref h17, .ref h18, .ref h19, .ref h20, .ref h21, .ref h22]))] H := hP
  have hD : va_D A [(h3, .inl (zI g, 5, .inl (upd (upd (upd (upd (upd (fun _ => 0) 0 (-1)) 1 (-1)) 2 (-1)) 3 (-1)) 4 (-1)))), (h0, .inr (5, [.ref h1, .int 0, .ref h2, .int 0, .int 0, .ref h3, .ref h4, .ref h5, .ref h6, .int 0, .ref h7, .ref h8, .ref h9, .int 0, .ref h10, .ref h11, .ref h12, .ref h13, .ref h14, .ref h15, .ref h16, .ref h17, .ref h18, .ref h19, .ref h20, .ref h21, .ref h22]))] := hD
  refine lv_iload_n hx hb dX5_rules_10 rfl (lv_at hl 0 rfl) ?_
  refine lv_if_lt (tgt := 19) hx hb dX5_rules_11 (by decide) (fun h => absurd h (by decide +kernel)) (fun _ => ?_)
  refine lv_bipush (v := (-20)) hx hb dX5_rules_14 (by decide) ?_
  refine lv_iload_n hx hb dX5_rules_16 rfl (lv_at hl 0 rfl) ?_
  refine lv_isub hx hb dX5_rules_17 ?_
  refine lv_topi (nm_r (e' := (-20)) (by decide +kernel) ?_)
  have hP9 := hP.sub (ws' := []) [] rfl
  have hD9 := hD.sub (ws' := []) [] (by decide) rfl
  exact W.iret (v := (-20)) hx hb hr (fun t ht hW => ⟨⟨(-20), 0, rfl, rfl, by rw [ht]; exact hP9, hD9⟩, hS.F ht⟩) hS.2.2 dX5_rules_18
set_option maxHeartbeats 4000000 in
set_option maxRecDepth 100000 in
theorem kX5_ahead_3 (l : Launch) (g : zG) (h0 h1 h2 h3 h4 h5 h6 h7 h8 h9 h10 h11 h12 h13 h14 h15 h16 h17 h18 h19 h20 h21 h22 : Nat) (sz : Nat) : Met l yX5_ahead (.code yX5_ahead cX5_ahead 1 (some .int) :: zBig) ({ frames := 0, cells := 0, slots := 0, locals := 0 }) (va_Pc [.ref h0] (zPre g [(h0, .inr (5, [.ref h1, .int 0, .ref h2, .int 0, .int 0, .ref h3, .ref h4, .ref h5, .ref h6, .int 0, .ref h7, .ref h8, .ref h9, .int 0, .ref h10, .ref h11, .ref h12, .ref h13, .ref h14, .ref h15, .ref h16, .ref h17, .ref h18, .ref h19, .ref h20, .ref h21, .ref h22]))] sz)) (va_Qi (fun (r : Int32) (_ : Nat) => r = (-1)) (zPost g (fun _ : Nat => [(h0, .inr (5, [.ref h1, .int 0, .ref h2, .int 0, .int 0, .ref h3, .ref h4, .ref h5, .ref h6, .int 0, .ref h7, .ref h8, .ref h9, .int 0, .ref h10, .ref h11, .ref h12, .ref h13, .ref h14, .ref h15, .ref h16, .ref h17, .ref h18, .ref h19, .ref h20, .ref h21, .ref h22]))]) (va_A [(h0, .inr (5, [.ref h1, .int 0, .ref h2, .int 0, .int 0, .ref h3, .ref h4, .ref h5, .ref h6, .int 0, .ref h7, .ref h8, .ref h9, .int 0, .ref h10, .ref h11, .ref h12, .ref h13, .ref h14, .ref h15, .ref h16, .ref h17, .ref h18, .ref h19, .ref h20, .ref h21, .ref h22]))] sz)) (va_A [(h0, .inr (5, [.ref h1, .int 0, .ref h2, .int 0, .int 0, .ref h3, .ref h4, .ref h5, .ref h6, .int 0, .ref h7, .ref h8, .ref h9, .int 0, .ref h10, .ref h11, .ref h12, .ref h13, .ref h14, .ref h15, .ref h16, .ref h17, .ref h18, .ref h19, .ref h20, .ref h21, .ref h22]))] sz)) 0 0 (va_A [(h0, .inr (5, [.ref h1, .int 0, .ref h2, .int 0, .int 0, .ref h3, .ref h4, .ref h5, .ref h6, .int 0, .ref h7, .ref h8, .ref h9, .int 0, .ref h10, .ref h11, .ref h12, .ref h13, .ref h14, .ref h15, .ref h16, .ref h17, .ref h18, .ref h19, .ref h20, .ref h21, .ref h22]))] sz) := by
  refine zMetI rfl (Nat.le_of_ble_eq_true rfl) ?_
  intro p e s m args below meth c A ls hx hb hml hr hlocks hin hown hts hK hN hZ hP hD hA hS hAe hl
  have hown : s.vm.findClass RX5 = some m.cls := hown
  have hl : lv_has ls 1 [(0, .ref h0)] := hl
  refine lv_aload_n hx hb dX5_ahead_0 rfl (lv_at hl 0 rfl) ?_
  refine va_get (D := g.1) (ci := 5) (v := .int 0) (C := RX5) (T := TX5) (N := 27) hx hb hts zl_X5 hown hK hP 0 rfl rfl 4 (by decide) (hts _ m_f_RX5_118) (fun _ h => h) rfl dX5_ahead_1 ?_
  refine lv_aload_n hx hb dX5_ahead_4 rfl (lv_at hl 0 rfl) ?_
  refine va_get (D := g.1) (ci := 5) (v := .int 0) (C := RX5) (T := TX5) (N := 27) hx hb hts zl_X5 hown hK hP 0 rfl rfl 3 (by decide) (hts _ m_f_RX5_114) (fun _ h => h) rfl dX5_ahead_5 ?_
  refine lv_icmp_ge (tgt := 38) hx hb dX5_ahead_8 (by decide) (fun _ => ?_) (fun h => absurd h (by decide +kernel))
  refine lv_aload_n hx hb dX5_ahead_38 rfl (lv_at hl 0 rfl) ?_
  refine va_get (D := g.1) (ci := 5) (v := .int 0) (C := RX5) (T := TX5) (N := 27) hx hb hts zl_X5 hown hK hP 0 rfl rfl 4 (by decide) (hts _ m_f_RX5_118) (fun _ h => h) rfl dX5_ahead_39 ?_
  refine lv_aload_n hx hb dX5_ahead_42 rfl (lv_at hl 0 rfl) ?_
  refine va_get (D := g.1) (ci := 5) (v := .int 0) (C := RX5) (T := TX5) (N := 27) hx hb hts zl_X5 hown hK hP 0 rfl rfl 3 (by decide) (hts _ m_f_RX5_114) (fun _ h => h) rfl dX5_ahead_43 ?_
  refine lv_icmp_ge (tgt := 61) hx hb dX5_ahead_46 (by decide) (fun _ => ?_) (fun h => absurd h (by decide +kernel))
  refine lv_iconst (v := (-1)) hx hb dX5_ahead_61 (by decide) ?_
  have hP9 := hP.sub (ws' := [(h0, .inr (5, [.ref h1, .int 0, .ref h2, .int 0, .int 0, .ref h3, .ref h4, .ref h5, .ref h6, .int 0, .ref h7, .ref h8, .ref h9, .int 0, .ref h10, .ref h11, .ref h12, .ref h13, .ref h14, .ref h15, .ref h16, .ref h17, .ref h18, .ref h19, .ref h20, .ref h21, .ref h22]))]) [0] rfl
  have hD9 := hD.sub (ws' := [(h0, .inr (5, [.ref h1, .int 0, .ref h2, .int 0, .int 0, .ref h3, .ref h4, .ref h5, .ref h6, .int 0, .ref h7, .ref h8, .ref h9, .int 0, .ref h10, .ref h11, .ref h12, .ref h13, .ref h14, .ref h15, .ref h16, .ref h17, .ref h18, .ref h19, .ref h20, .ref h21, .ref h22]))]) [0] (by decide) rfl
  exact W.iret (v := (-1)) hx hb hr (fun t ht hW => ⟨⟨(-1), 0, rfl, rfl, by rw [ht]; exact hP9, hD9⟩, hS.F ht⟩) hS.2.2 dX5_ahead_62
set_option maxHeartbeats 4000000 in
set_option maxRecDepth 100000 in
theorem kX5_in_19 (l : Launch) (g : zG) (sz : Nat) : Met l yX5_in (.code yX5_in cX5_in 6 (some .boolean) :: zBig) ({ frames := 0, cells := 0, slots := 0, locals := 0 }) (va_Pc [.long (-1), .long 48, .long 51] (zPre g [] sz)) (va_Qi (fun (r : Int32) (_ : Nat) => r = 0) (zPost g (fun _ : Nat => []) (va_A [] sz)) (va_A [] sz)) 0 0 (va_A [] sz) := by
  refine zMetI rfl (Nat.le_of_ble_eq_true rfl) ?_
  intro p e s m args below meth c A ls hx hb hml hr hlocks hin hown hts hK hN hZ hP hD hA hS hAe hl
  have hown : s.vm.findClass RX5 = some m.cls := hown
  have hl : lv_has ls 6 [(0, .long (-1)), (2, .long 48), (4, .long 51)] := hl
  refine lv_lload_n hx hb dX5_in_0 rfl (lv_at hl 0 rfl) ?_
  refine lv_lload_n hx hb dX5_in_1 rfl (lv_at hl 1 rfl) ?_
  refine W.lcmp hx hb dX5_in_2 ?_
  refine lv_topi (nm_r (e' := (-1)) (by decide +kernel) ?_)
  refine lv_if_lt (tgt := 17) hx hb dX5_in_3 (by decide) (fun _ => ?_) (fun h => absurd h (by decide +kernel))
  refine lv_iconst (v := 0) hx hb dX5_in_17 (by decide) ?_
  have hP9 := hP.sub (ws' := []) [] rfl
  have hD9 := hD.sub (ws' := []) [] (by decide) rfl
  exact W.zret (v := 0) hx hb hr (by decide) (fun t ht hW => ⟨⟨0, 0, rfl, rfl, by rw [ht]; exact hP9, hD9⟩, hS.F ht⟩) hS.2.2 dX5_in_18
set_option maxHeartbeats 4000000 in
set_option maxRecDepth 100000 in
theorem kX5_ahead_4 (l : Launch) (g : zG) (h0 h1 h2 h3 h4 h5 h6 h7 h8 h9 h10 h11 h12 h13 h14 h15 h16 h17 h18 h19 h20 h21 h22 : Nat) (sz : Nat) : Met l yX5_ahead (.code yX5_ahead cX5_ahead 1 (some .int) :: zBig) ({ frames := 0, cells := 0, slots := 0, locals := 0 }) (va_Pc [.ref h0] (zPre g [(h0, .inr (5, [.ref h1, .int 0, .ref h2, .int 0, .int 0, .ref h3, .ref h4, .ref h5, .ref h6, .int 0, .ref h7, .ref h8, .ref h9, .int 0, .ref h10, .ref h11, .ref h12, .ref h13, .ref h14, .ref h15, .ref h16, .ref h17, .ref h18, .ref h19, .ref h20, .ref h21, .ref h22]))] sz)) (va_Qi (fun (r : Int32) (_ : Nat) => r = (-1)) (zPost g (fun _ : Nat => [(h0, .inr (5, [.ref h1, .int 0, .ref h2, .int 0, .int 0, .ref h3, .ref h4, .ref h5, .ref h6, .int 0, .ref h7, .ref h8, .ref h9, .int 0, .ref h10, .ref h11, .ref h12, .ref h13, .ref h14, .ref h15, .ref h16, .ref h17, .ref h18, .ref h19, .ref h20, .ref h21, .ref h22]))]) (va_A [(h0, .inr (5, [.ref h1, .int 0, .ref h2, .int 0, .int 0, .ref h3, .ref h4, .ref h5, .ref h6, .int 0, .ref h7, .ref h8, .ref h9, .int 0, .ref h10, .ref h11, .ref h12, .ref h13, .ref h14, .ref h15, .ref h16, .ref h17, .ref h18, .ref h19, .ref h20, .ref h21, .ref h22]))] sz)) (va_A [(h0, .inr (5, [.ref h1, .int 0, .ref h2, .int 0, .int 0, .ref h3, .ref h4, .ref h5, .ref h6, .int 0, .ref h7, .ref h8, .ref h9, .int 0, .ref h10, .ref h11, .ref h12, .ref h13, .ref h14, .ref h15, .ref h16, .ref h17, .ref h18, .ref h19, .ref h20, .ref h21, .ref h22]))] sz)) 0 0 (va_A [(h0, .inr (5, [.ref h1, .int 0, .ref h2, .int 0, .int 0, .ref h3, .ref h4, .ref h5, .ref h6, .int 0, .ref h7, .ref h8, .ref h9, .int 0, .ref h10, .ref h11, .ref h12, .ref h13, .ref h14, .ref h15, .ref h16, .ref h17, .ref h18, .ref h19, .ref h20, .ref h21, .ref h22]))] sz) := by
  refine zMetI rfl (Nat.le_of_ble_eq_true rfl) ?_
  intro p e s m args below meth c A ls hx hb hml hr hlocks hin hown hts hK hN hZ hP hD hA hS hAe hl
  have hown : s.vm.findClass RX5 = some m.cls := hown
  have hl : lv_has ls 1 [(0, .ref h0)] := hl
  refine lv_aload_n hx hb dX5_ahead_0 rfl (lv_at hl 0 rfl) ?_
  refine va_get (D := g.1) (ci := 5) (v := .int 0) (C := RX5) (T := TX5) (N := 27) hx hb hts zl_X5 hown hK hP 0 rfl rfl 4 (by decide) (hts _ m_f_RX5_118) (fun _ h => h) rfl dX5_ahead_1 ?_
  refine lv_aload_n hx hb dX5_ahead_4 rfl (lv_at hl 0 rfl) ?_
  refine va_get (D := g.1) (ci := 5) (v := .int 0) (C := RX5) (T := TX5) (N := 27) hx hb hts zl_X5 hown hK hP 0 rfl rfl 3 (by decide) (hts _ m_f_RX5_114) (fun _ h => h) rfl dX5_ahead_5 ?_
  refine lv_icmp_ge (tgt := 38) hx hb dX5_ahead_8 (by decide) (fun _ => ?_) (fun h => absurd h (by decide +kernel))
  refine lv_aload_n hx hb dX5_ahead_38 rfl (lv_at hl 0 rfl) ?_
  refine va_get (D := g.1) (ci := 5) (v := .int 0) (C := RX5) (T := TX5) (N := 27) hx hb hts zl_X5 hown hK hP 0 rfl rfl 4 (by decide) (hts _ m_f_RX5_118) (fun _ h => h) rfl dX5_ahead_39 ?_
  refine lv_aload_n hx hb dX5_ahead_42 rfl (lv_at hl 0 rfl) ?_
  refine va_get (D := g.1) (ci := 5) (v := .int 0) (C := RX5) (T := TX5) (N := 27) hx hb hts zl_X5 hown hK hP 0 rfl rfl 3 (by decide) (hts _ m_f_RX5_114) (fun _ h => h) rfl dX5_ahead_43 ?_
  refine lv_icmp_ge (tgt := 61) hx hb dX5_ahead_46 (by decide) (fun _ => ?_) (fun h => absurd h (by decide +kernel))
  refine lv_iconst (v := (-1)) hx hb dX5_ahead_61 (by decide) ?_
  have hP9 := hP.sub (ws' := [(h0, .inr (5, [.ref h1, .int 0, .ref h2, .int 0, .int 0, .ref h3, .ref h4, .ref h5, .ref h6, .int 0, .ref h7, .ref h8, .ref h9, .int 0, .ref h10, .ref h11, .ref h12, .ref h13, .ref h14, .ref h15, .ref h16, .ref h17, .ref h18, .ref h19, .ref h20, .ref h21, .ref h22]))]) [0] rfl
  have hD9 := hD.sub (ws' := [(h0, .inr (5, [.ref h1, .int 0, .ref h2, .int 0, .int 0, .ref h3, .ref h4, .ref h5, .ref h6, .int 0, .ref h7, .ref h8, .ref h9, .int 0, .ref h10, .ref h11, .ref h12, .ref h13, .ref h14, .ref h15, .ref h16, .ref h17, .ref h18, .ref h19, .ref h20, .ref h21, .ref h22]))]) [0] (by decide) rfl
  exact W.iret (v := (-1)) hx hb hr (fun t ht hW => ⟨⟨(-1), 0, rfl, rfl, by rw [ht]; exact hP9, hD9⟩, hS.F ht⟩) hS.2.2 dX5_ahead_62
set_option maxHeartbeats 4000000 in
set_option maxRecDepth 100000 in
theorem kX5_in_20 (l : Launch) (g : zG) (sz : Nat) : Met l yX5_in (.code yX5_in cX5_in 6 (some .boolean) :: zBig) ({ frames := 0, cells := 0, slots := 0, locals := 0 }) (va_Pc [.long (-1), .long 48, .long 51] (zPre g [] sz)) (va_Qi (fun (r : Int32) (_ : Nat) => r = 0) (zPost g (fun _ : Nat => []) (va_A [] sz)) (va_A [] sz)) 0 0 (va_A [] sz) := by
  refine zMetI rfl (Nat.le_of_ble_eq_true rfl) ?_
  intro p e s m args below meth c A ls hx hb hml hr hlocks hin hown hts hK hN hZ hP hD hA hS hAe hl
  have hown : s.vm.findClass RX5 = some m.cls := hown
  have hl : lv_has ls 6 [(0, .long (-1)), (2, .long 48), (4, .long 51)] := hl
  refine lv_lload_n hx hb dX5_in_0 rfl (lv_at hl 0 rfl) ?_
  refine lv_lload_n hx hb dX5_in_1 rfl (lv_at hl 1 rfl) ?_
  refine W.lcmp hx hb dX5_in_2 ?_
  refine lv_topi (nm_r (e' := (-1)) (by decide +kernel) ?_)
  refine lv_if_lt (tgt := 17) hx hb dX5_in_3 (by decide) (fun _ => ?_) (fun h => absurd h (by decide +kernel))
  refine lv_iconst (v := 0) hx hb dX5_in_17 (by decide) ?_
  have hP9 := hP.sub (ws' := []) [] rfl
  have hD9 := hD.sub (ws' := []) [] (by decide) rfl
  exact W.zret (v := 0) hx hb hr (by decide) (fun t ht hW => ⟨⟨0, 0, rfl, rfl, by rw [ht]; exact hP9, hD9⟩, hS.F ht⟩) hS.2.2 dX5_in_18
set_option maxHeartbeats 4000000 in
set_option maxRecDepth 100000 in
theorem kX5_lots (l : Launch) (g : zG) (h0 h1 h2 h3 h4 h5 h6 h7 h8 h9 h10 h11 h12 h13 h14 h15 h16 h17 h18 h19 h20 h21 h22 : Nat) (sz : Nat) : Met l yX5_lots (.code yX5_lots cX5_lots 4 (some .int) :: zBig) ({ frames := 1, cells := 0, slots := 0, locals := 25 }) (va_Pc [.ref h0] (zPre g [(h0, .inr (5, [.ref h1, .int 0, .ref h2, .int 0, .int 0, .ref h3, .ref h4, .ref h5, .ref h6, .int 0, .ref h7, .ref h8, .ref h9, .int 0, .ref h10, .ref h11, .ref h12, .ref h13, .ref h14, .ref h15, .ref h16, .ref h17, .ref h18, .ref h19, .ref h20, .ref h21, .ref h22]))] sz)) (va_Qi (fun (r : Int32) (_ : Nat) => r = (-20)) (zPost g (fun _ : Nat => []) (va_A [(h0, .inr (5, [.ref h1, .int 0, .ref h2, .int 0, .int 0, .ref h3, .ref h4, .ref h5, .ref h6, .int 0, .ref h7, .ref h8, .ref h9, .int 0, .ref h10, .ref h11, .ref h12, .ref h13, .ref h14, .ref h15, .ref h16, .ref h17, .ref h18, .ref h19, .ref h20, .ref h21, .ref h22]))] sz)) (va_A [(h0, .inr (5, [.ref h1, .int 0, .ref h2, .int 0, .int 0, .ref h3, .ref h4, .ref h5, .ref h6, .int 0, .ref h7, .ref h8, .ref h9, .int 0, .ref h10, .ref h11, .ref h12, .ref h13, .ref h14, .ref h15, .ref h16, .ref h17, .ref h18, .ref h19, .ref h20, .ref h21, .ref h22]))] sz)) 0 0 (va_A [(h0, .inr (5, [.ref h1, .int 0, .ref h2, .int 0, .int 0, .ref h3, .ref h4, .ref h5, .ref h6, .int 0, .ref h7, .ref h8, .ref h9, .int 0, .ref h10, .ref h11, .ref h12, .ref h13, .ref h14, .ref h15, .ref h16, .ref h17, .ref h18, .ref h19, .ref h20, .ref h21, .ref h22]))] sz) := by
  refine zMetI rfl (Nat.le_of_ble_eq_true rfl) ?_
  intro p e s m args below meth c A ls hx hb hml hr hlocks hin hown hts hK hN hZ hP hD hA hS hAe hl
  have hown : s.vm.findClass RX5 = some m.cls := hown
  have hl : lv_has ls 4 [(0, .ref h0)] := hl
  refine lv_aload_n hx hb dX5_lots_0 rfl (lv_at hl 0 rfl) ?_
  refine lv_iconst (v := 0) hx hb dX5_lots_1 (by decide) ?_
  refine va_put (D := g.1) (ci := 5) (v := .int 0) (ty := .int) (C := RX5) (T := TX5) (N := 27) hx hb hts zl_X5 tyX5 tyX5_ok nmX5 hown hK hP hD hS 0 rfl rfl 4 (by decide) (hts _ m_f_RX5_118) (fun _ h => h) rfl (by decide +kernel) rfl rfl (Nat.le_of_ble_eq_true rfl) dX5_lots_2 (fun H locs hP hD hS => ?_)
  have hP : va_P g.1 vwCl [(h0, .inr (5, [.ref h1, .int 0, .ref h2, .int 0, .int 0, .ref h3, .ref h4, .ref h5, .ref h6, .int 0, .ref h7, .ref h8, .ref h9, .int 0, .ref h10, .ref h11, .ref h12, .ref h13, .ref h14, .ref h15, .ref h16, .ref h17, .ref h18, .ref h19, .ref h20, .ref h21, .ref h22]))] H := hP
  have hD : va_D A [(h0, .inr (5, [.ref h1, .int 0, .ref h2, .int 0, .int 0, .ref h3, .ref h4, .ref h5, .ref h6, .int 0, .ref h7, .ref h8, .ref h9, .int 0, .ref h10, .ref h11, .ref h12, .ref h13, .ref h14, .ref h15, .ref h16, .ref h17, .ref h18, .ref h19, .ref h20, .ref h21, .ref h22]))] := hD
  refine lv_iconst (v := 0) hx hb dX5_lots_5 (by decide) ?_
  refine lv_istore_n (lv' := [(1, .int 0), (0, .ref h0)]) hx hb dX5_lots_6 rfl hl (by decide) rfl (fun ls hl => ?_)
  refine lv_iconst (v := 1) hx hb dX5_lots_7 (by decide) ?_
  refine lv_istore_n (lv' := [(2, .int 1), (1, .int 0), (0, .ref h0)]) hx hb dX5_lots_8 rfl hl (by decide) rfl (fun ls hl => ?_)
  refine lv_iload_n hx hb dX5_lots_9 rfl (lv_at hl 0 rfl) ?_
  refine lv_if_eq (tgt := 85) hx hb dX5_lots_10 (by decide) (fun h => absurd h (by decide +kernel)) (fun _ => ?_)
  refine lv_iload_n hx hb dX5_lots_13 rfl (lv_at hl 1 rfl) ?_
  refine lv_if_eq (tgt := 24) hx hb dX5_lots_14 (by decide) (fun _ => ?_) (fun h => absurd h (by decide +kernel))
  refine lv_aload_n hx hb dX5_lots_24 rfl (lv_at hl 2 rfl) ?_
  refine z_calli (wr := []) hP hD hS hA [0] [] (by decide) rfl rfl (by decide) (va_runV (As := []) (rest := []) ⟨hx, hb, hml, hown, hts⟩ (kX5_ahead_4 l g h0 h1 h2 h3 h4 h5 h6 h7 h8 h9 h10 h11 h12 h13 h14 h15 h16 h17 h18 h19 h20 h21 h22 H.size) ⟨callB_of 0 hts (zGood m_o_yX5_ahead) rfl rfl rfl (hts _ m_z_RX5) (hts _ m_m_RX5_121) ⟨by decide +kernel, by decide +kernel, by decide +kernel⟩ ⟨Nat.le_of_ble_eq_true rfl, Nat.le_of_ble_eq_true rfl⟩, hts _ m_i_yX5_ahead, hts _ m_e_yX5_ahead⟩ (zPreV hK hN hZ hP hD hS hA [0] (by decide) rfl rfl 5 0 rfl rfl) rfl rfl hl.1 rfl (lv_room (Nat.le_of_ble_eq_true rfl)) dX5_lots_25 ⟨Nat.le_of_ble_eq_true rfl, Nat.le_of_ble_eq_true rfl⟩) (fun r u H locs hw hP hD hS => ?_)
  obtain rfl := hw
  have hP : va_P g.1 vwCl [(h0, .inr (5, [.ref h1, .int 0, .ref h2, .int 0, .int 0, .ref h3, .ref h4, .ref h5, .ref h6, .int 0, .ref h7, .ref h8, .ref h9, .int 0, .ref h10, .ref h11, .ref h12, .ref h13, .ref h14, .ref h15, .ref h16, .ref h17, .ref h18, .ref h19, .ref h20, .ref h21, .ref h22]))] H := hP
  have hD : va_D A [(h0, .inr (5, [.ref h1, .int 0, .ref h2, .int 0, .int 0, .ref h3, .ref h4, .ref h5, .ref h6, .int 0, .ref h7, .ref h8, .ref h9, .int 0, .ref h10, .ref h11, .ref h12, .ref h13, .ref h14, .ref h15, .ref h16, .ref h17, .ref h18, .ref h19, .ref h20, .ref h21, .ref h22]))] := hD
  refine lv_istore_n (lv' := [(3, .int (-1)), (2, .int 1), (1, .int 0), (0, .ref h0)]) hx hb dX5_lots_28 rfl hl (by decide) rfl (fun ls hl => ?_)
  refine lv_iload_n hx hb dX5_lots_29 rfl (lv_at hl 2 rfl) ?_
  refine lv_bipush (v := 6) hx hb dX5_lots_30 (by decide) ?_
  refine lv_icmp_ge (tgt := 53) hx hb dX5_lots_32 (by decide) (fun h => absurd h (by decide +kernel)) (fun _ => ?_)
  refine lv_iload_n hx hb dX5_lots_35 rfl (lv_at hl 0 rfl) ?_
  refine lv_i2l (v := (-1)) hx hb dX5_lots_36 (by decide) ?_
  refine lv_ldc2 (v := 48) hx hb hown (hts _ m_k_RX5_128) dX5_lots_37 ?_
  refine lv_ldc2 (v := 51) hx hb hown (hts _ m_k_RX5_139) dX5_lots_40 ?_
  refine z_calli (wr := [(h0, .inr (5, [.ref h1, .int 0, .ref h2, .int 0, .int 0, .ref h3, .ref h4, .ref h5, .ref h6, .int 0, .ref h7, .ref h8, .ref h9, .int 0, .ref h10, .ref h11, .ref h12, .ref h13, .ref h14, .ref h15, .ref h16, .ref h17, .ref h18, .ref h19, .ref h20, .ref h21, .ref h22]))]) hP hD hS hA [] [0] (by decide) rfl rfl (by decide) (va_runS (As := [.long (-1), .long 48, .long 51]) (rest := []) ⟨hx, hb, hml, hown, hts⟩ (kX5_in_20 l g  H.size) ⟨callB_of 3 hts (zGood m_o_yX5_in) rfl rfl rfl (hts _ m_z_RX5) (hts _ m_m_RX5_77) ⟨by decide +kernel, by decide +kernel, by decide +kernel⟩ ⟨Nat.le_of_ble_eq_true rfl, Nat.le_of_ble_eq_true rfl⟩, hts _ m_s_yX5_in⟩ (zPreS hK hN hZ hP hD hS hA [] (by decide) rfl rfl) rfl rfl hl.1 rfl (lv_room (Nat.le_of_ble_eq_true rfl)) dX5_lots_43 ⟨Nat.le_of_ble_eq_true rfl, Nat.le_of_ble_eq_true rfl⟩) (fun r u H locs hw hP hD hS => ?_)
  obtain rfl := hw
  have hP : va_P g.1 vwCl [(h0, .inr (5, [.ref h1, .int 0, .ref h2, .int 0, .int 0, .ref h3, .ref h4, .ref h5, .ref h6, .int 0, .ref h7, .ref h8, .ref h9, .int 0, .ref h10, .ref h11, .ref h12, .ref h13, .ref h14, .ref h15, .ref h16, .ref h17, .ref h18, .ref h19, .ref h20, .ref h21, .ref h22]))] H := hP
  have hD : va_D A [(h0, .inr (5, [.ref h1, .int 0, .ref h2, .int 0, .int 0, .ref h3, .ref h4, .ref h5, .ref h6, .int 0, .ref h7, .ref h8, .ref h9, .int 0, .ref h10, .ref h11, .ref h12, .ref h13, .ref h14, .ref h15, .ref h16, .ref h17, .ref h18, .ref h19, .ref h20, .ref h21, .ref h22]))] := hD
  refine lv_if_eq (tgt := 53) hx hb dX5_lots_46 (by decide) (fun _ => ?_) (fun h => absurd h (by decide +kernel))
  refine lv_iconst (v := 0) hx hb dX5_lots_53 (by decide) ?_
  refine lv_istore_n (lv' := [(2, .int 0), (3, .int (-1)), (1, .int 0), (0, .ref h0)]) hx hb dX5_lots_54 rfl hl (by decide) rfl (fun ls hl => ?_)
  refine lv_iload_n hx hb dX5_lots_55 rfl (lv_at hl 0 rfl) ?_
  refine lv_if_eq (tgt := 82) hx hb dX5_lots_56 (by decide) (fun _ => ?_) (fun h => absurd h (by decide +kernel))
  refine lv_goto (tgt := 9) hx hb dX5_lots_82 (by decide) ?_
  refine lv_iload_n hx hb dX5_lots_9 rfl (lv_at hl 0 rfl) ?_
  refine lv_if_eq (tgt := 85) hx hb dX5_lots_10 (by decide) (fun _ => ?_) (fun h => absurd h (by decide +kernel))
  refine lv_aload_n hx hb dX5_lots_85 rfl (lv_at hl 3 rfl) ?_
  refine lv_iconst (v := 0) hx hb dX5_lots_86 (by decide) ?_
  refine va_put (D := g.1) (ci := 5) (v := .int 0) (ty := .int) (C := RX5) (T := TX5) (N := 27) hx hb hts zl_X5 tyX5 tyX5_ok nmX5 hown hK hP hD hS 0 rfl rfl 3 (by decide) (hts _ m_f_RX5_114) (fun _ h => h) rfl (by decide +kernel) rfl rfl (Nat.le_of_ble_eq_true rfl) dX5_lots_87 (fun H locs hP hD hS => ?_)
  have hP : va_P g.1 vwCl [(h0, .inr (5, [.ref h1, .int 0, .ref h2, .int 0, .int 0, .ref h3, .ref h4, .ref h5, .ref h6, .int 0, .ref h7, .ref h8, .ref h9, .int 0, .ref h10, .ref h11, .ref h12, .ref h13, .ref h14, .ref h15, .ref h16, .ref h17, .ref h18, .ref h19, .ref h20, .ref h21, .ref h22]))] H := hP
  have hD : va_D A [(h0, .inr (5, [.ref h1, .int 0, .ref h2, .int 0, .int 0, .ref h3, .ref h4, .ref h5, .ref h6, .int 0, .ref h7, .ref h8, .ref h9, .int 0, .ref h10, .ref h11, .ref h12, .ref h13, .ref h14, .ref h15, .ref h16, .ref h17, .ref h18, .ref h19, .ref h20, .ref h21, .ref h22]))] := hD
  refine lv_iload_n hx hb dX5_lots_90 rfl (lv_at hl 0 rfl) ?_
  refine lv_if_ne (tgt := 102) hx hb dX5_lots_91 (by decide) (fun h => absurd h (by decide +kernel)) (fun _ => ?_)
  refine lv_bipush (v := (-20)) hx hb dX5_lots_94 (by decide) ?_
  refine lv_aload_n hx hb dX5_lots_96 rfl (lv_at hl 3 rfl) ?_
  refine va_get (D := g.1) (ci := 5) (v := .int 0) (C := RX5) (T := TX5) (N := 27) hx hb hts zl_X5 hown hK hP 0 rfl rfl 4 (by decide) (hts _ m_f_RX5_118) (fun _ h => h) rfl dX5_lots_97 ?_
  refine lv_isub hx hb dX5_lots_100 ?_
  refine lv_topi (nm_r (e' := (-20)) (by decide +kernel) ?_)
  have hP9 := hP.sub (ws' := []) [] rfl
  have hD9 := hD.sub (ws' := []) [] (by decide) rfl
  exact W.iret (v := (-20)) hx hb hr (fun t ht hW => ⟨⟨(-20), 0, rfl, rfl, by rw [ht]; exact hP9, hD9⟩, hS.F ht⟩) hS.2.2 dX5_lots_101
set_option maxHeartbeats 4000000 in
set_option maxRecDepth 100000 in
theorem kX5_owing (l : Launch) (g : zG) (h0 h1 h2 h3 h4 h5 h6 h7 h8 h9 h10 h11 h12 h13 h14 h15 h16 h17 h18 h19 h20 h21 h22 : Nat) (sz : Nat) : Met l yX5_owing (.code yX5_owing cX5_owing 3 (some .int) :: zBig) ({ frames := 0, cells := 0, slots := 0, locals := 0 }) (va_Pc [.ref h0] (zPre g [(h0, .inr (5, [.ref h1, .int 0, .ref h2, .int 0, .int 0, .ref h3, .ref h4, .ref h5, .ref h6, .int 0, .ref h7, .ref h8, .ref h9, .int 0, .ref h10, .ref h11, .ref h12, .ref h13, .ref h14, .ref h15, .ref h16, .ref h17, .ref h18, .ref h19, .ref h20, .ref h21, .ref h22])), (h1, .inl (zI g, 180, .inl (upd (upd (upd (fun _ => 0) 0 60) 1 1) 2 1)))] sz)) (va_Qi (fun (r : Int32) (_ : Nat) => r = 0) (zPost g (fun _ : Nat => [(h0, .inr (5, [.ref h1, .int 0, .ref h2, .int 0, .int 0, .ref h3, .ref h4, .ref h5, .ref h6, .int 0, .ref h7, .ref h8, .ref h9, .int 0, .ref h10, .ref h11, .ref h12, .ref h13, .ref h14, .ref h15, .ref h16, .ref h17, .ref h18, .ref h19, .ref h20, .ref h21, .ref h22])), (h1, .inl (zI g, 180, .inl (upd (upd (upd (fun _ => 0) 0 60) 1 1) 2 1)))]) (va_A [(h0, .inr (5, [.ref h1, .int 0, .ref h2, .int 0, .int 0, .ref h3, .ref h4, .ref h5, .ref h6, .int 0, .ref h7, .ref h8, .ref h9, .int 0, .ref h10, .ref h11, .ref h12, .ref h13, .ref h14, .ref h15, .ref h16, .ref h17, .ref h18, .ref h19, .ref h20, .ref h21, .ref h22])), (h1, .inl (zI g, 180, .inl (upd (upd (upd (fun _ => 0) 0 60) 1 1) 2 1)))] sz)) (va_A [(h0, .inr (5, [.ref h1, .int 0, .ref h2, .int 0, .int 0, .ref h3, .ref h4, .ref h5, .ref h6, .int 0, .ref h7, .ref h8, .ref h9, .int 0, .ref h10, .ref h11, .ref h12, .ref h13, .ref h14, .ref h15, .ref h16, .ref h17, .ref h18, .ref h19, .ref h20, .ref h21, .ref h22])), (h1, .inl (zI g, 180, .inl (upd (upd (upd (fun _ => 0) 0 60) 1 1) 2 1)))] sz)) 0 0 (va_A [(h0, .inr (5, [.ref h1, .int 0, .ref h2, .int 0, .int 0, .ref h3, .ref h4, .ref h5, .ref h6, .int 0, .ref h7, .ref h8, .ref h9, .int 0, .ref h10, .ref h11, .ref h12, .ref h13, .ref h14, .ref h15, .ref h16, .ref h17, .ref h18, .ref h19, .ref h20, .ref h21, .ref h22])), (h1, .inl (zI g, 180, .inl (upd (upd (upd (fun _ => 0) 0 60) 1 1) 2 1)))] sz) := by
  refine zMetI rfl (Nat.le_of_ble_eq_true rfl) ?_
  intro p e s m args below meth c A ls hx hb hml hr hlocks hin hown hts hK hN hZ hP hD hA hS hAe hl
  have hown : s.vm.findClass RX5 = some m.cls := hown
  have hl : lv_has ls 3 [(0, .ref h0)] := hl
  refine lv_iconst (v := 0) hx hb dX5_owing_0 (by decide) ?_
  refine lv_istore_n (lv' := [(1, .int 0), (0, .ref h0)]) hx hb dX5_owing_1 rfl hl (by decide) rfl (fun ls hl => ?_)
  refine lv_iconst (v := 0) hx hb dX5_owing_2 (by decide) ?_
  refine lv_istore_n (lv' := [(2, .int 0), (1, .int 0), (0, .ref h0)]) hx hb dX5_owing_3 rfl hl (by decide) rfl (fun ls hl => ?_)
  refine lv_iload_n hx hb dX5_owing_4 rfl (lv_at hl 0 rfl) ?_
  refine lv_aload_n hx hb dX5_owing_5 rfl (lv_at hl 2 rfl) ?_
  refine va_get (D := g.1) (ci := 5) (v := .ref h1) (C := RX5) (T := TX5) (N := 27) hx hb hts zl_X5 hown hK hP 0 rfl rfl 0 (by decide) (hts _ m_f_RX5_7) (fun _ h => h) rfl dX5_owing_6 ?_
  refine lv_bipush (v := 12) hx hb dX5_owing_9 (by decide) ?_
  refine va_iald (D := g.1) hx hb hK hP 1 0 rfl rfl (vp_in_iff.mpr (by decide +kernel)) dX5_owing_11 ?_
  refine lv_topi (nm_r (e' := 0) (by rfl) ?_)
  refine lv_icmp_ge (tgt := 41) hx hb dX5_owing_12 (by decide) (fun _ => ?_) (fun h => absurd h (by decide +kernel))
  refine lv_iload_n hx hb dX5_owing_41 rfl (lv_at hl 1 rfl) ?_
  have hP9 := hP.sub (ws' := [(h0, .inr (5, [.ref h1, .int 0, .ref h2, .int 0, .int 0, .ref h3, .ref h4, .ref h5, .ref h6, .int 0, .ref h7, .ref h8, .ref h9, .int 0, .ref h10, .ref h11, .ref h12, .ref h13, .ref h14, .ref h15, .ref h16, .ref h17, .ref h18, .ref h19, .ref h20, .ref h21, .ref h22])), (h1, .inl (zI g, 180, .inl (upd (upd (upd (fun _ => 0) 0 60) 1 1) 2 1)))]) [0, 1] rfl
  have hD9 := hD.sub (ws' := [(h0, .inr (5, [.ref h1, .int 0, .ref h2, .int 0, .int 0, .ref h3, .ref h4, .ref h5, .ref h6, .int 0, .ref h7, .ref h8, .ref h9, .int 0, .ref h10, .ref h11, .ref h12, .ref h13, .ref h14, .ref h15, .ref h16, .ref h17, .ref h18, .ref h19, .ref h20, .ref h21, .ref h22])), (h1, .inl (zI g, 180, .inl (upd (upd (upd (fun _ => 0) 0 60) 1 1) 2 1)))]) [0, 1] (by decide) rfl
  exact W.iret (v := 0) hx hb hr (fun t ht hW => ⟨⟨0, 0, rfl, rfl, by rw [ht]; exact hP9, hD9⟩, hS.F ht⟩) hS.2.2 dX5_owing_42
set_option maxHeartbeats 4000000 in
set_option maxRecDepth 100000 in
theorem kX5_kindsToldOf (l : Launch) (g : zG) (h0 h1 h2 h3 h4 h5 h6 h7 h8 h9 h10 h11 h12 h13 h14 h15 h16 h17 h18 h19 h20 h21 h22 : Nat) (sz : Nat) : Met l yX5_kindsToldOf (.code yX5_kindsToldOf cX5_kindsToldOf 3 (some .int) :: zBig) ({ frames := 0, cells := 0, slots := 0, locals := 0 }) (va_Pc [.ref h0] (zPre g [(h0, .inr (5, [.ref h1, .int 0, .ref h2, .int 0, .int 0, .ref h3, .ref h4, .ref h5, .ref h6, .int 0, .ref h7, .ref h8, .ref h9, .int 0, .ref h10, .ref h11, .ref h12, .ref h13, .ref h14, .ref h15, .ref h16, .ref h17, .ref h18, .ref h19, .ref h20, .ref h21, .ref h22])), (h1, .inl (zI g, 180, .inl (upd (upd (upd (fun _ => 0) 0 60) 1 1) 2 1)))] sz)) (va_Qi (fun (r : Int32) (_ : Nat) => r = 0) (zPost g (fun _ : Nat => [(h0, .inr (5, [.ref h1, .int 0, .ref h2, .int 0, .int 0, .ref h3, .ref h4, .ref h5, .ref h6, .int 0, .ref h7, .ref h8, .ref h9, .int 0, .ref h10, .ref h11, .ref h12, .ref h13, .ref h14, .ref h15, .ref h16, .ref h17, .ref h18, .ref h19, .ref h20, .ref h21, .ref h22])), (h1, .inl (zI g, 180, .inl (upd (upd (upd (fun _ => 0) 0 60) 1 1) 2 1)))]) (va_A [(h0, .inr (5, [.ref h1, .int 0, .ref h2, .int 0, .int 0, .ref h3, .ref h4, .ref h5, .ref h6, .int 0, .ref h7, .ref h8, .ref h9, .int 0, .ref h10, .ref h11, .ref h12, .ref h13, .ref h14, .ref h15, .ref h16, .ref h17, .ref h18, .ref h19, .ref h20, .ref h21, .ref h22])), (h1, .inl (zI g, 180, .inl (upd (upd (upd (fun _ => 0) 0 60) 1 1) 2 1)))] sz)) (va_A [(h0, .inr (5, [.ref h1, .int 0, .ref h2, .int 0, .int 0, .ref h3, .ref h4, .ref h5, .ref h6, .int 0, .ref h7, .ref h8, .ref h9, .int 0, .ref h10, .ref h11, .ref h12, .ref h13, .ref h14, .ref h15, .ref h16, .ref h17, .ref h18, .ref h19, .ref h20, .ref h21, .ref h22])), (h1, .inl (zI g, 180, .inl (upd (upd (upd (fun _ => 0) 0 60) 1 1) 2 1)))] sz)) 0 0 (va_A [(h0, .inr (5, [.ref h1, .int 0, .ref h2, .int 0, .int 0, .ref h3, .ref h4, .ref h5, .ref h6, .int 0, .ref h7, .ref h8, .ref h9, .int 0, .ref h10, .ref h11, .ref h12, .ref h13, .ref h14, .ref h15, .ref h16, .ref h17, .ref h18, .ref h19, .ref h20, .ref h21, .ref h22])), (h1, .inl (zI g, 180, .inl (upd (upd (upd (fun _ => 0) 0 60) 1 1) 2 1)))] sz) := by
  refine zMetI rfl (Nat.le_of_ble_eq_true rfl) ?_
  intro p e s m args below meth c A ls hx hb hml hr hlocks hin hown hts hK hN hZ hP hD hA hS hAe hl
  have hown : s.vm.findClass RX5 = some m.cls := hown
  have hl : lv_has ls 3 [(0, .ref h0)] := hl
  refine lv_iconst (v := 0) hx hb dX5_kindsToldOf_0 (by decide) ?_
  refine lv_istore_n (lv' := [(1, .int 0), (0, .ref h0)]) hx hb dX5_kindsToldOf_1 rfl hl (by decide) rfl (fun ls hl => ?_)
  refine lv_iconst (v := 0) hx hb dX5_kindsToldOf_2 (by decide) ?_
  refine lv_istore_n (lv' := [(2, .int 0), (1, .int 0), (0, .ref h0)]) hx hb dX5_kindsToldOf_3 rfl hl (by decide) rfl (fun ls hl => ?_)
  refine lv_iload_n hx hb dX5_kindsToldOf_4 rfl (lv_at hl 0 rfl) ?_
  refine lv_aload_n hx hb dX5_kindsToldOf_5 rfl (lv_at hl 2 rfl) ?_
  refine va_get (D := g.1) (ci := 5) (v := .ref h1) (C := RX5) (T := TX5) (N := 27) hx hb hts zl_X5 hown hK hP 0 rfl rfl 0 (by decide) (hts _ m_f_RX5_7) (fun _ h => h) rfl dX5_kindsToldOf_6 ?_
  refine lv_iconst (v := 5) hx hb dX5_kindsToldOf_9 (by decide) ?_
  refine va_iald (D := g.1) hx hb hK hP 1 0 rfl rfl (vp_in_iff.mpr (by decide +kernel)) dX5_kindsToldOf_10 ?_
  refine lv_topi (nm_r (e' := 0) (by rfl) ?_)
  refine lv_icmp_ge (tgt := 34) hx hb dX5_kindsToldOf_11 (by decide) (fun _ => ?_) (fun h => absurd h (by decide +kernel))
  refine lv_iload_n hx hb dX5_kindsToldOf_34 rfl (lv_at hl 1 rfl) ?_
  refine lv_iconst (v := 1) hx hb dX5_kindsToldOf_35 (by decide) ?_
  refine lv_iand hx hb dX5_kindsToldOf_36 ?_
  refine lv_topi (nm_r (e' := 0) (by decide +kernel) ?_)
  refine lv_iload_n hx hb dX5_kindsToldOf_37 rfl (lv_at hl 1 rfl) ?_
  refine lv_iconst (v := 1) hx hb dX5_kindsToldOf_38 (by decide) ?_
  refine lv_ishr hx hb dX5_kindsToldOf_39 ?_
  refine lv_topi (nm_r (e' := 0) (by decide +kernel) ?_)
  refine lv_iconst (v := 1) hx hb dX5_kindsToldOf_40 (by decide) ?_
  refine lv_iand hx hb dX5_kindsToldOf_41 ?_
  refine lv_topi (nm_r (e' := 0) (by decide +kernel) ?_)
  refine lv_iadd hx hb dX5_kindsToldOf_42 ?_
  refine lv_topi (nm_r (e' := 0) (by decide +kernel) ?_)
  refine lv_iload_n hx hb dX5_kindsToldOf_43 rfl (lv_at hl 1 rfl) ?_
  refine lv_iconst (v := 2) hx hb dX5_kindsToldOf_44 (by decide) ?_
  refine lv_ishr hx hb dX5_kindsToldOf_45 ?_
  refine lv_topi (nm_r (e' := 0) (by decide +kernel) ?_)
  refine lv_iconst (v := 1) hx hb dX5_kindsToldOf_46 (by decide) ?_
  refine lv_iand hx hb dX5_kindsToldOf_47 ?_
  refine lv_topi (nm_r (e' := 0) (by decide +kernel) ?_)
  refine lv_iadd hx hb dX5_kindsToldOf_48 ?_
  refine lv_topi (nm_r (e' := 0) (by decide +kernel) ?_)
  refine lv_iload_n hx hb dX5_kindsToldOf_49 rfl (lv_at hl 1 rfl) ?_
  refine lv_iconst (v := 3) hx hb dX5_kindsToldOf_50 (by decide) ?_
  refine lv_ishr hx hb dX5_kindsToldOf_51 ?_
  refine lv_topi (nm_r (e' := 0) (by decide +kernel) ?_)
  refine lv_iconst (v := 1) hx hb dX5_kindsToldOf_52 (by decide) ?_
  refine lv_iand hx hb dX5_kindsToldOf_53 ?_
  refine lv_topi (nm_r (e' := 0) (by decide +kernel) ?_)
  refine lv_iadd hx hb dX5_kindsToldOf_54 ?_
  refine lv_topi (nm_r (e' := 0) (by decide +kernel) ?_)
  have hP9 := hP.sub (ws' := [(h0, .inr (5, [.ref h1, .int 0, .ref h2, .int 0, .int 0, .ref h3, .ref h4, .ref h5, .ref h6, .int 0, .ref h7, .ref h8, .ref h9, .int 0, .ref h10, .ref h11, .ref h12, .ref h13, .ref h14, .ref h15, .ref h16, .ref h17, .ref h18, .ref h19, .ref h20, .ref h21, .ref h22])), (h1, .inl (zI g, 180, .inl (upd (upd (upd (fun _ => 0) 0 60) 1 1) 2 1)))]) [0, 1] rfl
  have hD9 := hD.sub (ws' := [(h0, .inr (5, [.ref h1, .int 0, .ref h2, .int 0, .int 0, .ref h3, .ref h4, .ref h5, .ref h6, .int 0, .ref h7, .ref h8, .ref h9, .int 0, .ref h10, .ref h11, .ref h12, .ref h13, .ref h14, .ref h15, .ref h16, .ref h17, .ref h18, .ref h19, .ref h20, .ref h21, .ref h22])), (h1, .inl (zI g, 180, .inl (upd (upd (upd (fun _ => 0) 0 60) 1 1) 2 1)))]) [0, 1] (by decide) rfl
  exact W.iret (v := 0) hx hb hr (fun t ht hW => ⟨⟨0, 0, rfl, rfl, by rw [ht]; exact hP9, hD9⟩, hS.F ht⟩) hS.2.2 dX5_kindsToldOf_55
set_option maxHeartbeats 4000000 in
set_option maxRecDepth 100000 in
theorem kX5_owing_2 (l : Launch) (g : zG) (h0 h1 h2 h3 h4 h5 h6 h7 h8 h9 h10 h11 h12 h13 h14 h15 h16 h17 h18 h19 h20 h21 h22 : Nat) (sz : Nat) : Met l yX5_owing (.code yX5_owing cX5_owing 3 (some .int) :: zBig) ({ frames := 0, cells := 0, slots := 0, locals := 0 }) (va_Pc [.ref h0] (zPre g [(h0, .inr (5, [.ref h1, .int 0, .ref h2, .int 0, .int 0, .ref h3, .ref h4, .ref h5, .ref h6, .int 0, .ref h7, .ref h8, .ref h9, .int 0, .ref h10, .ref h11, .ref h12, .ref h13, .ref h14, .ref h15, .ref h16, .ref h17, .ref h18, .ref h19, .ref h20, .ref h21, .ref h22])), (h1, .inl (zI g, 180, .inl (upd (upd (upd (fun _ => 0) 0 60) 1 1) 2 1)))] sz)) (va_Qi (fun (r : Int32) (_ : Nat) => r = 0) (zPost g (fun _ : Nat => [(h0, .inr (5, [.ref h1, .int 0, .ref h2, .int 0, .int 0, .ref h3, .ref h4, .ref h5, .ref h6, .int 0, .ref h7, .ref h8, .ref h9, .int 0, .ref h10, .ref h11, .ref h12, .ref h13, .ref h14, .ref h15, .ref h16, .ref h17, .ref h18, .ref h19, .ref h20, .ref h21, .ref h22])), (h1, .inl (zI g, 180, .inl (upd (upd (upd (fun _ => 0) 0 60) 1 1) 2 1)))]) (va_A [(h0, .inr (5, [.ref h1, .int 0, .ref h2, .int 0, .int 0, .ref h3, .ref h4, .ref h5, .ref h6, .int 0, .ref h7, .ref h8, .ref h9, .int 0, .ref h10, .ref h11, .ref h12, .ref h13, .ref h14, .ref h15, .ref h16, .ref h17, .ref h18, .ref h19, .ref h20, .ref h21, .ref h22])), (h1, .inl (zI g, 180, .inl (upd (upd (upd (fun _ => 0) 0 60) 1 1) 2 1)))] sz)) (va_A [(h0, .inr (5, [.ref h1, .int 0, .ref h2, .int 0, .int 0, .ref h3, .ref h4, .ref h5, .ref h6, .int 0, .ref h7, .ref h8, .ref h9, .int 0, .ref h10, .ref h11, .ref h12, .ref h13, .ref h14, .ref h15, .ref h16, .ref h17, .ref h18, .ref h19, .ref h20, .ref h21, .ref h22])), (h1, .inl (zI g, 180, .inl (upd (upd (upd (fun _ => 0) 0 60) 1 1) 2 1)))] sz)) 0 0 (va_A [(h0, .inr (5, [.ref h1, .int 0, .ref h2, .int 0, .int 0, .ref h3, .ref h4, .ref h5, .ref h6, .int 0, .ref h7, .ref h8, .ref h9, .int 0, .ref h10, .ref h11, .ref h12, .ref h13, .ref h14, .ref h15, .ref h16, .ref h17, .ref h18, .ref h19, .ref h20, .ref h21, .ref h22])), (h1, .inl (zI g, 180, .inl (upd (upd (upd (fun _ => 0) 0 60) 1 1) 2 1)))] sz) := by
  refine zMetI rfl (Nat.le_of_ble_eq_true rfl) ?_
  intro p e s m args below meth c A ls hx hb hml hr hlocks hin hown hts hK hN hZ hP hD hA hS hAe hl
  have hown : s.vm.findClass RX5 = some m.cls := hown
  have hl : lv_has ls 3 [(0, .ref h0)] := hl
  refine lv_iconst (v := 0) hx hb dX5_owing_0 (by decide) ?_
  refine lv_istore_n (lv' := [(1, .int 0), (0, .ref h0)]) hx hb dX5_owing_1 rfl hl (by decide) rfl (fun ls hl => ?_)
  refine lv_iconst (v := 0) hx hb dX5_owing_2 (by decide) ?_
  refine lv_istore_n (lv' := [(2, .int 0), (1, .int 0), (0, .ref h0)]) hx hb dX5_owing_3 rfl hl (by decide) rfl (fun ls hl => ?_)
  refine lv_iload_n hx hb dX5_owing_4 rfl (lv_at hl 0 rfl) ?_
  refine lv_aload_n hx hb dX5_owing_5 rfl (lv_at hl 2 rfl) ?_
  refine va_get (D := g.1) (ci := 5) (v := .ref h1) (C := RX5) (T := TX5) (N := 27) hx hb hts zl_X5 hown hK hP 0 rfl rfl 0 (by decide) (hts _ m_f_RX5_7) (fun _ h => h) rfl dX5_owing_6 ?_
  refine lv_bipush (v := 12) hx hb dX5_owing_9 (by decide) ?_
  refine va_iald (D := g.1) hx hb hK hP 1 0 rfl rfl (vp_in_iff.mpr (by decide +kernel)) dX5_owing_11 ?_
  refine lv_topi (nm_r (e' := 0) (by rfl) ?_)
  refine lv_icmp_ge (tgt := 41) hx hb dX5_owing_12 (by decide) (fun _ => ?_) (fun h => absurd h (by decide +kernel))
  refine lv_iload_n hx hb dX5_owing_41 rfl (lv_at hl 1 rfl) ?_
  have hP9 := hP.sub (ws' := [(h0, .inr (5, [.ref h1, .int 0, .ref h2, .int 0, .int 0, .ref h3, .ref h4, .ref h5, .ref h6, .int 0, .ref h7, .ref h8, .ref h9, .int 0, .ref h10, .ref h11, .ref h12, .ref h13, .ref h14, .ref h15, .ref h16, .ref h17, .ref h18, .ref h19, .ref h20, .ref h21, .ref h22])), (h1, .inl (zI g, 180, .inl (upd (upd (upd (fun _ => 0) 0 60) 1 1) 2 1)))]) [0, 1] rfl
  have hD9 := hD.sub (ws' := [(h0, .inr (5, [.ref h1, .int 0, .ref h2, .int 0, .int 0, .ref h3, .ref h4, .ref h5, .ref h6, .int 0, .ref h7, .ref h8, .ref h9, .int 0, .ref h10, .ref h11, .ref h12, .ref h13, .ref h14, .ref h15, .ref h16, .ref h17, .ref h18, .ref h19, .ref h20, .ref h21, .ref h22])), (h1, .inl (zI g, 180, .inl (upd (upd (upd (fun _ => 0) 0 60) 1 1) 2 1)))]) [0, 1] (by decide) rfl
  exact W.iret (v := 0) hx hb hr (fun t ht hW => ⟨⟨0, 0, rfl, rfl, by rw [ht]; exact hP9, hD9⟩, hS.F ht⟩) hS.2.2 dX5_owing_42
set_option maxHeartbeats 4000000 in
set_option maxRecDepth 100000 in
theorem kX5_kindsToldOf_2 (l : Launch) (g : zG) (h0 h1 h2 h3 h4 h5 h6 h7 h8 h9 h10 h11 h12 h13 h14 h15 h16 h17 h18 h19 h20 h21 h22 : Nat) (sz : Nat) : Met l yX5_kindsToldOf (.code yX5_kindsToldOf cX5_kindsToldOf 3 (some .int) :: zBig) ({ frames := 0, cells := 0, slots := 0, locals := 0 }) (va_Pc [.ref h0] (zPre g [(h0, .inr (5, [.ref h1, .int 0, .ref h2, .int 0, .int 0, .ref h3, .ref h4, .ref h5, .ref h6, .int 0, .ref h7, .ref h8, .ref h9, .int 0, .ref h10, .ref h11, .ref h12, .ref h13, .ref h14, .ref h15, .ref h16, .ref h17, .ref h18, .ref h19, .ref h20, .ref h21, .ref h22])), (h1, .inl (zI g, 180, .inl (upd (upd (upd (fun _ => 0) 0 60) 1 1) 2 1)))] sz)) (va_Qi (fun (r : Int32) (_ : Nat) => r = 0) (zPost g (fun _ : Nat => [(h0, .inr (5, [.ref h1, .int 0, .ref h2, .int 0, .int 0, .ref h3, .ref h4, .ref h5, .ref h6, .int 0, .ref h7, .ref h8, .ref h9, .int 0, .ref h10, .ref h11, .ref h12, .ref h13, .ref h14, .ref h15, .ref h16, .ref h17, .ref h18, .ref h19, .ref h20, .ref h21, .ref h22])), (h1, .inl (zI g, 180, .inl (upd (upd (upd (fun _ => 0) 0 60) 1 1) 2 1)))]) (va_A [(h0, .inr (5, [.ref h1, .int 0, .ref h2, .int 0, .int 0, .ref h3, .ref h4, .ref h5, .ref h6, .int 0, .ref h7, .ref h8, .ref h9, .int 0, .ref h10, .ref h11, .ref h12, .ref h13, .ref h14, .ref h15, .ref h16, .ref h17, .ref h18, .ref h19, .ref h20, .ref h21, .ref h22])), (h1, .inl (zI g, 180, .inl (upd (upd (upd (fun _ => 0) 0 60) 1 1) 2 1)))] sz)) (va_A [(h0, .inr (5, [.ref h1, .int 0, .ref h2, .int 0, .int 0, .ref h3, .ref h4, .ref h5, .ref h6, .int 0, .ref h7, .ref h8, .ref h9, .int 0, .ref h10, .ref h11, .ref h12, .ref h13, .ref h14, .ref h15, .ref h16, .ref h17, .ref h18, .ref h19, .ref h20, .ref h21, .ref h22])), (h1, .inl (zI g, 180, .inl (upd (upd (upd (fun _ => 0) 0 60) 1 1) 2 1)))] sz)) 0 0 (va_A [(h0, .inr (5, [.ref h1, .int 0, .ref h2, .int 0, .int 0, .ref h3, .ref h4, .ref h5, .ref h6, .int 0, .ref h7, .ref h8, .ref h9, .int 0, .ref h10, .ref h11, .ref h12, .ref h13, .ref h14, .ref h15, .ref h16, .ref h17, .ref h18, .ref h19, .ref h20, .ref h21, .ref h22])), (h1, .inl (zI g, 180, .inl (upd (upd (upd (fun _ => 0) 0 60) 1 1) 2 1)))] sz) := by
  refine zMetI rfl (Nat.le_of_ble_eq_true rfl) ?_
  intro p e s m args below meth c A ls hx hb hml hr hlocks hin hown hts hK hN hZ hP hD hA hS hAe hl
  have hown : s.vm.findClass RX5 = some m.cls := hown
  have hl : lv_has ls 3 [(0, .ref h0)] := hl
  refine lv_iconst (v := 0) hx hb dX5_kindsToldOf_0 (by decide) ?_
  refine lv_istore_n (lv' := [(1, .int 0), (0, .ref h0)]) hx hb dX5_kindsToldOf_1 rfl hl (by decide) rfl (fun ls hl => ?_)
  refine lv_iconst (v := 0) hx hb dX5_kindsToldOf_2 (by decide) ?_
  refine lv_istore_n (lv' := [(2, .int 0), (1, .int 0), (0, .ref h0)]) hx hb dX5_kindsToldOf_3 rfl hl (by decide) rfl (fun ls hl => ?_)
  refine lv_iload_n hx hb dX5_kindsToldOf_4 rfl (lv_at hl 0 rfl) ?_
  refine lv_aload_n hx hb dX5_kindsToldOf_5 rfl (lv_at hl 2 rfl) ?_
  refine va_get (D := g.1) (ci := 5) (v := .ref h1) (C := RX5) (T := TX5) (N := 27) hx hb hts zl_X5 hown hK hP 0 rfl rfl 0 (by decide) (hts _ m_f_RX5_7) (fun _ h => h) rfl dX5_kindsToldOf_6 ?_
  refine lv_iconst (v := 5) hx hb dX5_kindsToldOf_9 (by decide) ?_
  refine va_iald (D := g.1) hx hb hK hP 1 0 rfl rfl (vp_in_iff.mpr (by decide +kernel)) dX5_kindsToldOf_10 ?_
  refine lv_topi (nm_r (e' := 0) (by rfl) ?_)
  refine lv_icmp_ge (tgt := 34) hx hb dX5_kindsToldOf_11 (by decide) (fun _ => ?_) (fun h => absurd h (by decide +kernel))
  refine lv_iload_n hx hb dX5_kindsToldOf_34 rfl (lv_at hl 1 rfl) ?_
  refine lv_iconst (v := 1) hx hb dX5_kindsToldOf_35 (by decide) ?_
  refine lv_iand hx hb dX5_kindsToldOf_36 ?_
  refine lv_topi (nm_r (e' := 0) (by decide +kernel) ?_)
  refine lv_iload_n hx hb dX5_kindsToldOf_37 rfl (lv_at hl 1 rfl) ?_
  refine lv_iconst (v := 1) hx hb dX5_kindsToldOf_38 (by decide) ?_
  refine lv_ishr hx hb dX5_kindsToldOf_39 ?_
  refine lv_topi (nm_r (e' := 0) (by decide +kernel) ?_)
  refine lv_iconst (v := 1) hx hb dX5_kindsToldOf_40 (by decide) ?_
  refine lv_iand hx hb dX5_kindsToldOf_41 ?_
  refine lv_topi (nm_r (e' := 0) (by decide +kernel) ?_)
  refine lv_iadd hx hb dX5_kindsToldOf_42 ?_
  refine lv_topi (nm_r (e' := 0) (by decide +kernel) ?_)
  refine lv_iload_n hx hb dX5_kindsToldOf_43 rfl (lv_at hl 1 rfl) ?_
  refine lv_iconst (v := 2) hx hb dX5_kindsToldOf_44 (by decide) ?_
  refine lv_ishr hx hb dX5_kindsToldOf_45 ?_
  refine lv_topi (nm_r (e' := 0) (by decide +kernel) ?_)
  refine lv_iconst (v := 1) hx hb dX5_kindsToldOf_46 (by decide) ?_
  refine lv_iand hx hb dX5_kindsToldOf_47 ?_
  refine lv_topi (nm_r (e' := 0) (by decide +kernel) ?_)
  refine lv_iadd hx hb dX5_kindsToldOf_48 ?_
  refine lv_topi (nm_r (e' := 0) (by decide +kernel) ?_)
  refine lv_iload_n hx hb dX5_kindsToldOf_49 rfl (lv_at hl 1 rfl) ?_
  refine lv_iconst (v := 3) hx hb dX5_kindsToldOf_50 (by decide) ?_
  refine lv_ishr hx hb dX5_kindsToldOf_51 ?_
  refine lv_topi (nm_r (e' := 0) (by decide +kernel) ?_)
  refine lv_iconst (v := 1) hx hb dX5_kindsToldOf_52 (by decide) ?_
  refine lv_iand hx hb dX5_kindsToldOf_53 ?_
  refine lv_topi (nm_r (e' := 0) (by decide +kernel) ?_)
  refine lv_iadd hx hb dX5_kindsToldOf_54 ?_
  refine lv_topi (nm_r (e' := 0) (by decide +kernel) ?_)
  have hP9 := hP.sub (ws' := [(h0, .inr (5, [.ref h1, .int 0, .ref h2, .int 0, .int 0, .ref h3, .ref h4, .ref h5, .ref h6, .int 0, .ref h7, .ref h8, .ref h9, .int 0, .ref h10, .ref h11, .ref h12, .ref h13, .ref h14, .ref h15, .ref h16, .ref h17, .ref h18, .ref h19, .ref h20, .ref h21, .ref h22])), (h1, .inl (zI g, 180, .inl (upd (upd (upd (fun _ => 0) 0 60) 1 1) 2 1)))]) [0, 1] rfl
  have hD9 := hD.sub (ws' := [(h0, .inr (5, [.ref h1, .int 0, .ref h2, .int 0, .int 0, .ref h3, .ref h4, .ref h5, .ref h6, .int 0, .ref h7, .ref h8, .ref h9, .int 0, .ref h10, .ref h11, .ref h12, .ref h13, .ref h14, .ref h15, .ref h16, .ref h17, .ref h18, .ref h19, .ref h20, .ref h21, .ref h22])), (h1, .inl (zI g, 180, .inl (upd (upd (upd (fun _ => 0) 0 60) 1 1) 2 1)))]) [0, 1] (by decide) rfl
  exact W.iret (v := 0) hx hb hr (fun t ht hW => ⟨⟨0, 0, rfl, rfl, by rw [ht]; exact hP9, hD9⟩, hS.F ht⟩) hS.2.2 dX5_kindsToldOf_55
set_option maxHeartbeats 4000000 in
set_option maxRecDepth 100000 in
theorem kX5_count (l : Launch) (g : zG) (h0 h1 h2 h3 h4 h5 h6 h7 h8 h9 h10 h11 h12 h13 h14 h15 h16 h17 h18 h19 h20 h21 h22 : Nat) (sz : Nat) (p1 : Int32) : Met l yX5_count (.code yX5_count cX5_count 2 (some .int) :: zBig) ({ frames := 1, cells := 0, slots := 0, locals := 22 }) (va_Pc [.ref h0, .int p1] (zPre g [(h0, .inr (5, [.ref h1, .int 0, .ref h2, .int 0, .int 0, .ref h3, .ref h4, .ref h5, .ref h6, .int 0, .ref h7, .ref h8, .ref h9, .int 0, .ref h10, .ref h11, .ref h12, .ref h13, .ref h14, .ref h15, .ref h16, .ref h17, .ref h18, .ref h19, .ref h20, .ref h21, .ref h22])), (h1, .inl (zI g, 180, .inl (upd (upd (upd (fun _ => 0) 0 60) 1 1) 2 1)))] sz)) (va_Qi (fun (r : Int32) (_ : Nat) => (p1.toInt = 0 ∧ r = 0) ∨ (p1.toInt ≠ 0 ∧ p1.toInt = 1 ∧ r = 0) ∨ (p1.toInt ≠ 0 ∧ p1.toInt ≠ 1 ∧ p1.toInt = 2 ∧ r = 0) ∨ (p1.toInt ≠ 0 ∧ p1.toInt ≠ 1 ∧ p1.toInt ≠ 2 ∧ p1.toInt = 3 ∧ r = 0) ∨ (p1.toInt ≠ 0 ∧ p1.toInt ≠ 1 ∧ p1.toInt ≠ 2 ∧ p1.toInt ≠ 3 ∧ p1.toInt = 4 ∧ r = 0) ∨ (p1.toInt ≠ 0 ∧ p1.toInt ≠ 1 ∧ p1.toInt ≠ 2 ∧ p1.toInt ≠ 3 ∧ p1.toInt ≠ 4 ∧ r = (-1))) (zPost g (fun _ : Nat => []) (va_A [(h0, .inr (5, [.ref h1, .int 0, .ref h2, .int 0, .int 0, .ref h3, .ref h4, .ref h5, .ref h6, .int 0, .ref h7, .ref h8, .ref h9, .int 0, .ref h10, .ref h11, .ref h12, .ref h13, .ref h14, .ref h15, .ref h16, .ref h17, .ref h18, .ref h19, .ref h20, .ref h21, .ref h22])), (h1, .inl (zI g, 180, .inl (upd (upd (upd (fun _ => 0) 0 60) 1 1) 2 1)))] sz)) (va_A [(h0, .inr (5, [.ref h1, .int 0, .ref h2, .int 0, .int 0, .ref h3, .ref h4, .ref h5, .ref h6, .int 0, .ref h7, .ref h8, .ref h9, .int 0, .ref h10, .ref h11, .ref h12, .ref h13, .ref h14, .ref h15, .ref h16, .ref h17, .ref h18, .ref h19, .ref h20, .ref h21, .ref h22])), (h1, .inl (zI g, 180, .inl (upd (upd (upd (fun _ => 0) 0 60) 1 1) 2 1)))] sz)) 0 0 (va_A [(h0, .inr (5, [.ref h1, .int 0, .ref h2, .int 0, .int 0, .ref h3, .ref h4, .ref h5, .ref h6, .int 0, .ref h7, .ref h8, .ref h9, .int 0, .ref h10, .ref h11, .ref h12, .ref h13, .ref h14, .ref h15, .ref h16, .ref h17, .ref h18, .ref h19, .ref h20, .ref h21, .ref h22])), (h1, .inl (zI g, 180, .inl (upd (upd (upd (fun _ => 0) 0 60) 1 1) 2 1)))] sz) := by
  refine zMetI rfl (Nat.le_of_ble_eq_true rfl) ?_
  intro p e s m args below meth c A ls hx hb hml hr hlocks hin hown hts hK hN hZ hP hD hA hS hAe hl
  have hown : s.vm.findClass RX5 = some m.cls := hown
  have hl : lv_has ls 2 [(0, .ref h0), (1, .int p1)] := hl
  refine lv_iload_n hx hb dX5_count_0 rfl (lv_at hl 1 rfl) ?_
  by_cases j_0 : p1 = 0
  · have i_0 : p1.toInt = 0 := by rw [j_0]; rfl
    subst j_0
    refine lv_tableIn (x := 0) (off := 35) (tgt := 36) hx hb dX5_count_1 (by decide) (by decide) rfl (by decide) ?_
    refine lv_aload_n hx hb dX5_count_36 rfl (lv_at hl 0 rfl) ?_
    refine va_get (D := g.1) (ci := 5) (v := .ref h1) (C := RX5) (T := TX5) (N := 27) hx hb hts zl_X5 hown hK hP 0 rfl rfl 0 (by decide) (hts _ m_f_RX5_7) (fun _ h => h) rfl dX5_count_37 ?_
    refine lv_iconst (v := 5) hx hb dX5_count_40 (by decide) ?_
    refine va_iald (D := g.1) hx hb hK hP 1 0 rfl rfl (vp_in_iff.mpr (by decide +kernel)) dX5_count_41 ?_
    refine lv_topi (nm_r (e' := 0) (by rfl) ?_)
    have hP9 := hP.sub (ws' := []) [] rfl
    have hD9 := hD.sub (ws' := []) [] (by decide) rfl
    exact W.iret (v := 0) hx hb hr (fun t ht hW => ⟨⟨0, 0, rfl, Or.inl ⟨i_0, rfl⟩, by rw [ht]; exact hP9, hD9⟩, hS.F ht⟩) hS.2.2 dX5_count_42
  have i_0 : p1.toInt ≠ 0 := fun h => j_0 (Int32.toInt_inj.mp (h.trans rfl))
  by_cases j_1 : p1 = 1
  · have i_1 : p1.toInt = 1 := by rw [j_1]; rfl
    subst j_1
    refine lv_tableIn (x := 1) (off := 42) (tgt := 43) hx hb dX5_count_1 (by decide) (by decide) rfl (by decide) ?_
    refine lv_aload_n hx hb dX5_count_43 rfl (lv_at hl 0 rfl) ?_
    refine va_get (D := g.1) (ci := 5) (v := .ref h1) (C := RX5) (T := TX5) (N := 27) hx hb hts zl_X5 hown hK hP 0 rfl rfl 0 (by decide) (hts _ m_f_RX5_7) (fun _ h => h) rfl dX5_count_44 ?_
    refine lv_bipush (v := 12) hx hb dX5_count_47 (by decide) ?_
    refine va_iald (D := g.1) hx hb hK hP 1 0 rfl rfl (vp_in_iff.mpr (by decide +kernel)) dX5_count_49 ?_
    refine lv_topi (nm_r (e' := 0) (by rfl) ?_)
    have hP9 := hP.sub (ws' := []) [] rfl
    have hD9 := hD.sub (ws' := []) [] (by decide) rfl
    exact W.iret (v := 0) hx hb hr (fun t ht hW => ⟨⟨0, 0, rfl, Or.inr (Or.inl ⟨i_0, i_1, rfl⟩), by rw [ht]; exact hP9, hD9⟩, hS.F ht⟩) hS.2.2 dX5_count_50
  have i_1 : p1.toInt ≠ 1 := fun h => j_1 (Int32.toInt_inj.mp (h.trans rfl))
  by_cases j_2 : p1 = 2
  · have i_2 : p1.toInt = 2 := by rw [j_2]; rfl
    subst j_2
    refine lv_tableIn (x := 2) (off := 50) (tgt := 51) hx hb dX5_count_1 (by decide) (by decide) rfl (by decide) ?_
    refine lv_aload_n hx hb dX5_count_51 rfl (lv_at hl 0 rfl) ?_
    refine va_get (D := g.1) (ci := 5) (v := .ref h1) (C := RX5) (T := TX5) (N := 27) hx hb hts zl_X5 hown hK hP 0 rfl rfl 0 (by decide) (hts _ m_f_RX5_7) (fun _ h => h) rfl dX5_count_52 ?_
    refine lv_bipush (v := 88) hx hb dX5_count_55 (by decide) ?_
    refine va_iald (D := g.1) hx hb hK hP 1 0 rfl rfl (vp_in_iff.mpr (by decide +kernel)) dX5_count_57 ?_
    refine lv_topi (nm_r (e' := 0) (by rfl) ?_)
    have hP9 := hP.sub (ws' := []) [] rfl
    have hD9 := hD.sub (ws' := []) [] (by decide) rfl
    exact W.iret (v := 0) hx hb hr (fun t ht hW => ⟨⟨0, 0, rfl, Or.inr (Or.inr (Or.inl ⟨i_0, i_1, i_2, rfl⟩)), by rw [ht]; exact hP9, hD9⟩, hS.F ht⟩) hS.2.2 dX5_count_58
  have i_2 : p1.toInt ≠ 2 := fun h => j_2 (Int32.toInt_inj.mp (h.trans rfl))
  by_cases j_3 : p1 = 3
  · have i_3 : p1.toInt = 3 := by rw [j_3]; rfl
    subst j_3
    refine lv_tableIn (x := 3) (off := 58) (tgt := 59) hx hb dX5_count_1 (by decide) (by decide) rfl (by decide) ?_
    refine lv_aload_n hx hb dX5_count_59 rfl (lv_at hl 0 rfl) ?_
    refine z_calli (wr := []) hP hD hS hA [0, 1] [] (by decide) rfl rfl (by decide) (va_runV (As := []) (rest := []) ⟨hx, hb, hml, hown, hts⟩ (kX5_owing_2 l g h0 h1 h2 h3 h4 h5 h6 h7 h8 h9 h10 h11 h12 h13 h14 h15 h16 h17 h18 h19 h20 h21 h22 s.heap.size) ⟨callB_of 0 hts (zGood m_o_yX5_owing) rfl rfl rfl (hts _ m_z_RX5) (hts _ m_m_RX5_141) ⟨by decide +kernel, by decide +kernel, by decide +kernel⟩ ⟨Nat.le_of_ble_eq_true rfl, Nat.le_of_ble_eq_true rfl⟩, hts _ m_i_yX5_owing, hts _ m_e_yX5_owing⟩ (zPreV hK hN hZ hP hD hS hA [0, 1] (by decide) rfl rfl 5 0 rfl rfl) rfl rfl hl.1 rfl (lv_room (Nat.le_of_ble_eq_true rfl)) dX5_count_60 ⟨Nat.le_of_ble_eq_true rfl, Nat.le_of_ble_eq_true rfl⟩) (fun r u H locs hw hP hD hS => ?_)
    obtain rfl := hw
    have hP : va_P g.1 vwCl [(h0, .inr (5, [.ref h1, .int 0, .ref h2, .int 0, .int 0, .ref h3, .ref h4, .ref h5, .ref h6, .int 0, .ref h7, .ref h8, .ref h9, .int 0, .ref h10, .ref h11, .ref h12, .ref h13, .ref h14, .ref h15, .ref h16, .ref h17, .ref h18, .ref h19, .ref h20, .ref h21, .ref h22])), (h1, .inl (zI g, 180, .inl (upd (upd (upd (fun _ => 0) 0 60) 1 1) 2 1)))] H := hP
    have hD : va_D A [(h0, .inr (5, [.ref h1, .int 0, .ref h2, .int 0, .int 0, .ref h3, .ref h4, .ref h5, .ref h6, .int 0, .ref h7, .ref h8, .ref h9, .int 0, .ref h10, .ref h11, .ref h12, .ref h13, .ref h14, .ref h15, .ref h16, .ref h17, .ref h18, .ref h19, .ref h20, .ref h21, .ref h22])), (h1, .inl (zI g, 180, .inl (upd (upd (upd (fun _ => 0) 0 60) 1 1) 2 1)))] := hD
    have hP9 := hP.sub (ws' := []) [] rfl
    have hD9 := hD.sub (ws' := []) [] (by decide) rfl
    exact W.iret (v := 0) hx hb hr (fun t ht hW => ⟨⟨0, 0, rfl, Or.inr (Or.inr (Or.inr (Or.inl ⟨i_0, i_1, i_2, i_3, rfl⟩))), by rw [ht]; exact hP9, hD9⟩, hS.F ht⟩) hS.2.2 dX5_count_63
  have i_3 : p1.toInt ≠ 3 := fun h => j_3 (Int32.toInt_inj.mp (h.trans rfl))
  by_cases j_4 : p1 = 4
  · have i_4 : p1.toInt = 4 := by rw [j_4]; rfl
    subst j_4
    refine lv_tableIn (x := 4) (off := 63) (tgt := 64) hx hb dX5_count_1 (by decide) (by decide) rfl (by decide) ?_
    refine lv_aload_n hx hb dX5_count_64 rfl (lv_at hl 0 rfl) ?_
    refine z_calli (wr := []) hP hD hS hA [0, 1] [] (by decide) rfl rfl (by decide) (va_runV (As := []) (rest := []) ⟨hx, hb, hml, hown, hts⟩ (kX5_kindsToldOf_2 l g h0 h1 h2 h3 h4 h5 h6 h7 h8 h9 h10 h11 h12 h13 h14 h15 h16 h17 h18 h19 h20 h21 h22 s.heap.size) ⟨callB_of 0 hts (zGood m_o_yX5_kindsToldOf) rfl rfl rfl (hts _ m_z_RX5) (hts _ m_m_RX5_144) ⟨by decide +kernel, by decide +kernel, by decide +kernel⟩ ⟨Nat.le_of_ble_eq_true rfl, Nat.le_of_ble_eq_true rfl⟩, hts _ m_i_yX5_kindsToldOf, hts _ m_e_yX5_kindsToldOf⟩ (zPreV hK hN hZ hP hD hS hA [0, 1] (by decide) rfl rfl 5 0 rfl rfl) rfl rfl hl.1 rfl (lv_room (Nat.le_of_ble_eq_true rfl)) dX5_count_65 ⟨Nat.le_of_ble_eq_true rfl, Nat.le_of_ble_eq_true rfl⟩) (fun r u H locs hw hP hD hS => ?_)
    obtain rfl := hw
    have hP : va_P g.1 vwCl [(h0, .inr (5, [.ref h1, .int 0, .ref h2, .int 0, .int 0, .ref h3, .ref h4, .ref h5, .ref h6, .int 0, .ref h7, .ref h8, .ref h9, .int 0, .ref h10, .ref h11, .ref h12, .ref h13, .ref h14, .ref h15, .ref h16, .ref h17, .ref h18, .ref h19, .ref h20, .ref h21, .ref h22])), (h1, .inl (zI g, 180, .inl (upd (upd (upd (fun _ => 0) 0 60) 1 1) 2 1)))] H := hP
    have hD : va_D A [(h0, .inr (5, [.ref h1, .int 0, .ref h2, .int 0, .int 0, .ref h3, .ref h4, .ref h5, .ref h6, .int 0, .ref h7, .ref h8, .ref h9, .int 0, .ref h10, .ref h11, .ref h12, .ref h13, .ref h14, .ref h15, .ref h16, .ref h17, .ref h18, .ref h19, .ref h20, .ref h21, .ref h22])), (h1, .inl (zI g, 180, .inl (upd (upd (upd (fun _ => 0) 0 60) 1 1) 2 1)))] := hD
    have hP9 := hP.sub (ws' := []) [] rfl
    have hD9 := hD.sub (ws' := []) [] (by decide) rfl
    exact W.iret (v := 0) hx hb hr (fun t ht hW => ⟨⟨0, 0, rfl, Or.inr (Or.inr (Or.inr (Or.inr (Or.inl ⟨i_0, i_1, i_2, i_3, i_4, rfl⟩)))), by rw [ht]; exact hP9, hD9⟩, hS.F ht⟩) hS.2.2 dX5_count_68
  have i_4 : p1.toInt ≠ 4 := fun h => j_4 (Int32.toInt_inj.mp (h.trans rfl))
  refine lv_tableOut (x := p1) (tgt := 69) hx hb dX5_count_1 (by omega) (by decide) ?_
  refine lv_iconst (v := (-1)) hx hb dX5_count_69 (by decide) ?_
  have hP9 := hP.sub (ws' := []) [] rfl
  have hD9 := hD.sub (ws' := []) [] (by decide) rfl
  exact W.iret (v := (-1)) hx hb hr (fun t ht hW => ⟨⟨(-1), 0, rfl, Or.inr (Or.inr (Or.inr (Or.inr (Or.inr (⟨i_0, i_1, i_2, i_3, i_4, rfl⟩))))), by rw [ht]; exact hP9, hD9⟩, hS.F ht⟩) hS.2.2 dX5_count_70
set_option maxHeartbeats 4000000 in
set_option maxRecDepth 100000 in
theorem kX5_lot (l : Launch) (g : zG) (h0 h1 h2 h3 h4 h5 h6 h7 h8 h9 h10 h11 h12 h13 h14 h15 h16 h17 h18 h19 h20 h21 h22 : Nat) (sz : Nat) (p1 : Int32) (p2 : Int32) : Met l yX5_lot (.code yX5_lot cX5_lot 3 (some .int) :: zBig) ({ frames := 1, cells := 0, slots := 0, locals := 25 }) (va_Pc [.ref h0, .int p1, .int p2] (zPre g [(h0, .inr (5, [.ref h1, .int 0, .ref h2, .int 0, .int 0, .ref h3, .ref h4, .ref h5, .ref h6, .int 0, .ref h7, .ref h8, .ref h9, .int 0, .ref h10, .ref h11, .ref h12, .ref h13, .ref h14, .ref h15, .ref h16, .ref h17, .ref h18, .ref h19, .ref h20, .ref h21, .ref h22])), (h1, .inl (zI g, 180, .inl (upd (upd (upd (fun _ => 0) 0 60) 1 1) 2 1)))] sz)) (va_Qi (fun (r : Int32) (_ : Nat) => (p1.toInt < 0 ∧ r = (-1)) ∨ (0 ≤ p1.toInt ∧ r = (-1))) (zPost g (fun _ : Nat => []) (va_A [(h0, .inr (5, [.ref h1, .int 0, .ref h2, .int 0, .int 0, .ref h3, .ref h4, .ref h5, .ref h6, .int 0, .ref h7, .ref h8, .ref h9, .int 0, .ref h10, .ref h11, .ref h12, .ref h13, .ref h14, .ref h15, .ref h16, .ref h17, .ref h18, .ref h19, .ref h20, .ref h21, .ref h22])), (h1, .inl (zI g, 180, .inl (upd (upd (upd (fun _ => 0) 0 60) 1 1) 2 1)))] sz)) (va_A [(h0, .inr (5, [.ref h1, .int 0, .ref h2, .int 0, .int 0, .ref h3, .ref h4, .ref h5, .ref h6, .int 0, .ref h7, .ref h8, .ref h9, .int 0, .ref h10, .ref h11, .ref h12, .ref h13, .ref h14, .ref h15, .ref h16, .ref h17, .ref h18, .ref h19, .ref h20, .ref h21, .ref h22])), (h1, .inl (zI g, 180, .inl (upd (upd (upd (fun _ => 0) 0 60) 1 1) 2 1)))] sz)) 0 0 (va_A [(h0, .inr (5, [.ref h1, .int 0, .ref h2, .int 0, .int 0, .ref h3, .ref h4, .ref h5, .ref h6, .int 0, .ref h7, .ref h8, .ref h9, .int 0, .ref h10, .ref h11, .ref h12, .ref h13, .ref h14, .ref h15, .ref h16, .ref h17, .ref h18, .ref h19, .ref h20, .ref h21, .ref h22])), (h1, .inl (zI g, 180, .inl (upd (upd (upd (fun _ => 0) 0 60) 1 1) 2 1)))] sz) := by
  refine zMetI rfl (Nat.le_of_ble_eq_true rfl) ?_
  intro p e s m args below meth c A ls hx hb hml hr hlocks hin hown hts hK hN hZ hP hD hA hS hAe hl
  have hown : s.vm.findClass RX5 = some m.cls := hown
  have hl : lv_has ls 3 [(0, .ref h0), (1, .int p1), (2, .int p2)] := hl
  refine lv_iload_n hx hb dX5_lot_0 rfl (lv_at hl 1 rfl) ?_
  refine lv_i2l (v := p1.toInt64) hx hb dX5_lot_1 rfl ?_
  refine lv_lconst (v := 0) hx hb dX5_lot_2 (by decide) ?_
  refine lv_aload_n hx hb dX5_lot_3 rfl (lv_at hl 0 rfl) ?_
  refine va_get (D := g.1) (ci := 5) (v := .ref h1) (C := RX5) (T := TX5) (N := 27) hx hb hts zl_X5 hown hK hP 0 rfl rfl 0 (by decide) (hts _ m_f_RX5_7) (fun _ h => h) rfl dX5_lot_4 ?_
  refine lv_iconst (v := 5) hx hb dX5_lot_7 (by decide) ?_
  refine va_iald (D := g.1) hx hb hK hP 1 0 rfl rfl (vp_in_iff.mpr (by decide +kernel)) dX5_lot_8 ?_
  refine lv_topi (nm_r (e' := 0) (by rfl) ?_)
  refine lv_iconst (v := 1) hx hb dX5_lot_9 (by decide) ?_
  refine lv_isub hx hb dX5_lot_10 ?_
  refine lv_topi (nm_r (e' := (-1)) (by decide +kernel) ?_)
  refine lv_i2l (v := (-1)) hx hb dX5_lot_11 (by decide) ?_
  refine z_calli (wr := [(h0, .inr (5, [.ref h1, .int 0, .ref h2, .int 0, .int 0, .ref h3, .ref h4, .ref h5, .ref h6, .int 0, .ref h7, .ref h8, .ref h9, .int 0, .ref h10, .ref h11, .ref h12, .ref h13, .ref h14, .ref h15, .ref h16, .ref h17, .ref h18, .ref h19, .ref h20, .ref h21, .ref h22])), (h1, .inl (zI g, 180, .inl (upd (upd (upd (fun _ => 0) 0 60) 1 1) 2 1)))]) hP hD hS hA [] [0, 1] (by decide) rfl rfl (by decide) (va_runS (As := [.long p1.toInt64, .long 0, .long (-1)]) (rest := []) ⟨hx, hb, hml, hown, hts⟩ (kX5_in_14 l g  s.heap.size p1.toInt64) ⟨callB_of 3 hts (zGood m_o_yX5_in) rfl rfl rfl (hts _ m_z_RX5) (hts _ m_m_RX5_77) ⟨by decide +kernel, by decide +kernel, by decide +kernel⟩ ⟨Nat.le_of_ble_eq_true rfl, Nat.le_of_ble_eq_true rfl⟩, hts _ m_s_yX5_in⟩ (zPreS hK hN hZ hP hD hS hA [] (by decide) rfl rfl) rfl rfl hl.1 rfl (lv_room (Nat.le_of_ble_eq_true rfl)) dX5_lot_12 ⟨Nat.le_of_ble_eq_true rfl, Nat.le_of_ble_eq_true rfl⟩) (fun r u H locs hw hP hD hS => ?_)
  rcases hw with ⟨i_0, rfl⟩ | ⟨i_1, rfl⟩
  · skip
    have i_0 : p1.toInt < 0 := by simpa only [Int32.toInt_toInt64] using i_0
    have hP : va_P g.1 vwCl [(h0, .inr (5, [.ref h1, .int 0, .ref h2, .int 0, .int 0, .ref h3, .ref h4, .ref h5, .ref h6, .int 0, .ref h7, .ref h8, .ref h9, .int 0, .ref h10, .ref h11, .ref h12, .ref h13, .ref h14, .ref h15, .ref h16, .ref h17, .ref h18, .ref h19, .ref h20, .ref h21, .ref h22])), (h1, .inl (zI g, 180, .inl (upd (upd (upd (fun _ => 0) 0 60) 1 1) 2 1)))] H := hP
    have hD : va_D A [(h0, .inr (5, [.ref h1, .int 0, .ref h2, .int 0, .int 0, .ref h3, .ref h4, .ref h5, .ref h6, .int 0, .ref h7, .ref h8, .ref h9, .int 0, .ref h10, .ref h11, .ref h12, .ref h13, .ref h14, .ref h15, .ref h16, .ref h17, .ref h18, .ref h19, .ref h20, .ref h21, .ref h22])), (h1, .inl (zI g, 180, .inl (upd (upd (upd (fun _ => 0) 0 60) 1 1) 2 1)))] := hD
    refine lv_if_eq (tgt := 30) hx hb dX5_lot_15 (by decide) (fun _ => ?_) (fun h => absurd h (by decide +kernel))
    refine lv_iconst (v := (-1)) hx hb dX5_lot_30 (by decide) ?_
    have hP9 := hP.sub (ws' := []) [] rfl
    have hD9 := hD.sub (ws' := []) [] (by decide) rfl
    exact W.iret (v := (-1)) hx hb hr (fun t ht hW => ⟨⟨(-1), 0, rfl, Or.inl ⟨i_0, rfl⟩, by rw [ht]; exact hP9, hD9⟩, hS.F ht⟩) hS.2.2 dX5_lot_31
  · skip
    have i_1 : 0 ≤ p1.toInt := by simpa only [Int32.toInt_toInt64] using i_1
    have hP : va_P g.1 vwCl [(h0, .inr (5, [.ref h1, .int 0, .ref h2, .int 0, .int 0, .ref h3, .ref h4, .ref h5, .ref h6, .int 0, .ref h7, .ref h8, .ref h9, .int 0, .ref h10, .ref h11, .ref h12, .ref h13, .ref h14, .ref h15, .ref h16, .ref h17, .ref h18, .ref h19, .ref h20, .ref h21, .ref h22])), (h1, .inl (zI g, 180, .inl (upd (upd (upd (fun _ => 0) 0 60) 1 1) 2 1)))] H := hP
    have hD : va_D A [(h0, .inr (5, [.ref h1, .int 0, .ref h2, .int 0, .int 0, .ref h3, .ref h4, .ref h5, .ref h6, .int 0, .ref h7, .ref h8, .ref h9, .int 0, .ref h10, .ref h11, .ref h12, .ref h13, .ref h14, .ref h15, .ref h16, .ref h17, .ref h18, .ref h19, .ref h20, .ref h21, .ref h22])), (h1, .inl (zI g, 180, .inl (upd (upd (upd (fun _ => 0) 0 60) 1 1) 2 1)))] := hD
    refine lv_if_eq (tgt := 30) hx hb dX5_lot_15 (by decide) (fun _ => ?_) (fun h => absurd h (by decide +kernel))
    refine lv_iconst (v := (-1)) hx hb dX5_lot_30 (by decide) ?_
    have hP9 := hP.sub (ws' := []) [] rfl
    have hD9 := hD.sub (ws' := []) [] (by decide) rfl
    exact W.iret (v := (-1)) hx hb hr (fun t ht hW => ⟨⟨(-1), 0, rfl, Or.inr (⟨i_1, rfl⟩), by rw [ht]; exact hP9, hD9⟩, hS.F ht⟩) hS.2.2 dX5_lot_31
set_option maxHeartbeats 4000000 in
set_option maxRecDepth 100000 in
theorem kX5_gain (l : Launch) (g : zG) (h0 h1 h2 h3 h4 h5 h6 h7 h8 h9 h10 h11 h12 h13 h14 h15 h16 h17 h18 h19 h20 h21 h22 : Nat) (sz : Nat) (p1 : Int32) : Met l yX5_gain (.code yX5_gain cX5_gain 2 (some .int) :: zBig) ({ frames := 2, cells := 0, slots := 0, locals := 46 }) (va_Pc [.ref h0, .int p1] (zPre g [(h0, .inr (5, [.ref h1, .int 0, .ref h2, .int 0, .int 0, .ref h3, .ref h4, .ref h5, .ref h6, .int 0, .ref h7, .ref h8, .ref h9, .int 0, .ref h10, .ref h11, .ref h12, .ref h13, .ref h14, .ref h15, .ref h16, .ref h17, .ref h18, .ref h19, .ref h20, .ref h21, .ref h22])), (h1, .inl (zI g, 180, .inl (upd (upd (upd (fun _ => 0) 0 60) 1 1) 2 1)))] sz)) (va_Qi (fun (r : Int32) (_ : Nat) => (p1.toInt < 0 ∧ r = (-100001)) ∨ (0 ≤ p1.toInt ∧ r = (-100001))) (zPost g (fun _ : Nat => []) (va_A [(h0, .inr (5, [.ref h1, .int 0, .ref h2, .int 0, .int 0, .ref h3, .ref h4, .ref h5, .ref h6, .int 0, .ref h7, .ref h8, .ref h9, .int 0, .ref h10, .ref h11, .ref h12, .ref h13, .ref h14, .ref h15, .ref h16, .ref h17, .ref h18, .ref h19, .ref h20, .ref h21, .ref h22])), (h1, .inl (zI g, 180, .inl (upd (upd (upd (fun _ => 0) 0 60) 1 1) 2 1)))] sz)) (va_A [(h0, .inr (5, [.ref h1, .int 0, .ref h2, .int 0, .int 0, .ref h3, .ref h4, .ref h5, .ref h6, .int 0, .ref h7, .ref h8, .ref h9, .int 0, .ref h10, .ref h11, .ref h12, .ref h13, .ref h14, .ref h15, .ref h16, .ref h17, .ref h18, .ref h19, .ref h20, .ref h21, .ref h22])), (h1, .inl (zI g, 180, .inl (upd (upd (upd (fun _ => 0) 0 60) 1 1) 2 1)))] sz)) 0 0 (va_A [(h0, .inr (5, [.ref h1, .int 0, .ref h2, .int 0, .int 0, .ref h3, .ref h4, .ref h5, .ref h6, .int 0, .ref h7, .ref h8, .ref h9, .int 0, .ref h10, .ref h11, .ref h12, .ref h13, .ref h14, .ref h15, .ref h16, .ref h17, .ref h18, .ref h19, .ref h20, .ref h21, .ref h22])), (h1, .inl (zI g, 180, .inl (upd (upd (upd (fun _ => 0) 0 60) 1 1) 2 1)))] sz) := by
  refine zMetI rfl (Nat.le_of_ble_eq_true rfl) ?_
  intro p e s m args below meth c A ls hx hb hml hr hlocks hin hown hts hK hN hZ hP hD hA hS hAe hl
  have hown : s.vm.findClass RX5 = some m.cls := hown
  have hl : lv_has ls 2 [(0, .ref h0), (1, .int p1)] := hl
  refine lv_aload_n hx hb dX5_gain_0 rfl (lv_at hl 0 rfl) ?_
  refine lv_iload_n hx hb dX5_gain_1 rfl (lv_at hl 1 rfl) ?_
  refine z_calli (wr := []) hP hD hS hA [0, 1] [] (by decide) rfl rfl (by decide) (va_runV (As := [.int p1]) (rest := []) ⟨hx, hb, hml, hown, hts⟩ (kX5_isBuyer_2 l g h0 h1 h2 h3 h4 h5 h6 h7 h8 h9 h10 h11 h12 h13 h14 h15 h16 h17 h18 h19 h20 h21 h22 s.heap.size p1) ⟨callB_of 1 hts (zGood m_o_yX5_isBuyer) rfl rfl rfl (hts _ m_z_RX5) (hts _ m_m_RX5_92) ⟨by decide +kernel, by decide +kernel, by decide +kernel⟩ ⟨Nat.le_of_ble_eq_true rfl, Nat.le_of_ble_eq_true rfl⟩, hts _ m_i_yX5_isBuyer, hts _ m_e_yX5_isBuyer⟩ (zPreV hK hN hZ hP hD hS hA [0, 1] (by decide) rfl rfl 5 0 rfl rfl) rfl rfl hl.1 rfl (lv_room (Nat.le_of_ble_eq_true rfl)) dX5_gain_2 ⟨Nat.le_of_ble_eq_true rfl, Nat.le_of_ble_eq_true rfl⟩) (fun r u H locs hw hP hD hS => ?_)
  rcases hw with ⟨i_0, rfl⟩ | ⟨i_1, rfl⟩
  · skip
    have i_0 : p1.toInt < 0 := i_0
    have hP : va_P g.1 vwCl [(h0, .inr (5, [.ref h1, .int 0, .ref h2, .int 0, .int 0, .ref h3, .ref h4, .ref h5, .ref h6, .int 0, .ref h7, .ref h8, .ref h9, .int 0, .ref h10, .ref h11, .ref h12, .ref h13, .ref h14, .ref h15, .ref h16, .ref h17, .ref h18, .ref h19, .ref h20, .ref h21, .ref h22])), (h1, .inl (zI g, 180, .inl (upd (upd (upd (fun _ => 0) 0 60) 1 1) 2 1)))] H := hP
    have hD : va_D A [(h0, .inr (5, [.ref h1, .int 0, .ref h2, .int 0, .int 0, .ref h3, .ref h4, .ref h5, .ref h6, .int 0, .ref h7, .ref h8, .ref h9, .int 0, .ref h10, .ref h11, .ref h12, .ref h13, .ref h14, .ref h15, .ref h16, .ref h17, .ref h18, .ref h19, .ref h20, .ref h21, .ref h22])), (h1, .inl (zI g, 180, .inl (upd (upd (upd (fun _ => 0) 0 60) 1 1) 2 1)))] := hD
    refine lv_if_ne (tgt := 11) hx hb dX5_gain_5 (by decide) (fun h => absurd h (by decide +kernel)) (fun _ => ?_)
    refine lv_ldc (v := (-100001)) hx hb hown (hts _ m_k_RX5_104) dX5_gain_8 ?_
    have hP9 := hP.sub (ws' := []) [] rfl
    have hD9 := hD.sub (ws' := []) [] (by decide) rfl
    exact W.iret (v := (-100001)) hx hb hr (fun t ht hW => ⟨⟨(-100001), 0, rfl, Or.inl ⟨i_0, rfl⟩, by rw [ht]; exact hP9, hD9⟩, hS.F ht⟩) hS.2.2 dX5_gain_10
  · skip
    have i_1 : 0 ≤ p1.toInt := i_1
    have hP : va_P g.1 vwCl [(h0, .inr (5, [.ref h1, .int 0, .ref h2, .int 0, .int 0, .ref h3, .ref h4, .ref h5, .ref h6, .int 0, .ref h7, .ref h8, .ref h9, .int 0, .ref h10, .ref h11, .ref h12, .ref h13, .ref h14, .ref h15, .ref h16, .ref h17, .ref h18, .ref h19, .ref h20, .ref h21, .ref h22])), (h1, .inl (zI g, 180, .inl (upd (upd (upd (fun _ => 0) 0 60) 1 1) 2 1)))] H := hP
    have hD : va_D A [(h0, .inr (5, [.ref h1, .int 0, .ref h2, .int 0, .int 0, .ref h3, .ref h4, .ref h5, .ref h6, .int 0, .ref h7, .ref h8, .ref h9, .int 0, .ref h10, .ref h11, .ref h12, .ref h13, .ref h14, .ref h15, .ref h16, .ref h17, .ref h18, .ref h19, .ref h20, .ref h21, .ref h22])), (h1, .inl (zI g, 180, .inl (upd (upd (upd (fun _ => 0) 0 60) 1 1) 2 1)))] := hD
    refine lv_if_ne (tgt := 11) hx hb dX5_gain_5 (by decide) (fun h => absurd h (by decide +kernel)) (fun _ => ?_)
    refine lv_ldc (v := (-100001)) hx hb hown (hts _ m_k_RX5_104) dX5_gain_8 ?_
    have hP9 := hP.sub (ws' := []) [] rfl
    have hD9 := hD.sub (ws' := []) [] (by decide) rfl
    exact W.iret (v := (-100001)) hx hb hr (fun t ht hW => ⟨⟨(-100001), 0, rfl, Or.inr (⟨i_1, rfl⟩), by rw [ht]; exact hP9, hD9⟩, hS.F ht⟩) hS.2.2 dX5_gain_10
set_option maxHeartbeats 4000000 in
set_option maxRecDepth 100000 in
theorem kX5_in_21 (l : Launch) (g : zG) (sz : Nat) (p0 : Int64) : Met l yX5_in (.code yX5_in cX5_in 6 (some .boolean) :: zBig) ({ frames := 0, cells := 0, slots := 0, locals := 0 }) (va_Pc [.long p0, .long 0, .long 2] (zPre g [] sz)) (va_Qi (fun (r : Int32) (_ : Nat) => ((p0 : Int64).toInt < 0 ∧ r = 0) ∨ (0 ≤ (p0 : Int64).toInt ∧ 2 < (p0 : Int64).toInt ∧ r = 0) ∨ (0 ≤ (p0 : Int64).toInt ∧ (p0 : Int64).toInt ≤ 2 ∧ r = 1)) (zPost g (fun _ : Nat => []) (va_A [] sz)) (va_A [] sz)) 0 0 (va_A [] sz) := by
  refine zMetI rfl (Nat.le_of_ble_eq_true rfl) ?_
  intro p e s m args below meth c A ls hx hb hml hr hlocks hin hown hts hK hN hZ hP hD hA hS hAe hl
  have hown : s.vm.findClass RX5 = some m.cls := hown
  have hl : lv_has ls 6 [(0, .long p0), (2, .long 0), (4, .long 2)] := hl
  refine lv_lload_n hx hb dX5_in_0 rfl (lv_at hl 0 rfl) ?_
  refine lv_lload_n hx hb dX5_in_1 rfl (lv_at hl 1 rfl) ?_
  refine W.lcmp hx hb dX5_in_2 ?_
  refine lv_if_lt (tgt := 17) hx hb dX5_in_3 (by decide) (fun c_0 => ?_) (fun c_0 => ?_)
  · have i_0 : (p0 : Int64).toInt < 0 := zl_lt (rfl) (rfl) ((lg_cmp_lt _ _).mp c_0)
    refine lv_iconst (v := 0) hx hb dX5_in_17 (by decide) ?_
    have hP9 := hP.sub (ws' := []) [] rfl
    have hD9 := hD.sub (ws' := []) [] (by decide) rfl
    exact W.zret (v := 0) hx hb hr (by decide) (fun t ht hW => ⟨⟨0, 0, rfl, Or.inl ⟨i_0, rfl⟩, by rw [ht]; exact hP9, hD9⟩, hS.F ht⟩) hS.2.2 dX5_in_18
  · have i_0 : 0 ≤ (p0 : Int64).toInt := zl_nlt (rfl) (rfl) (fun h => c_0 ((lg_cmp_lt _ _).mpr h))
    refine lv_lload_n hx hb dX5_in_6 rfl (lv_at hl 0 rfl) ?_
    refine lv_lload hx hb dX5_in_7 (lv_at hl 2 rfl) ?_
    refine W.lcmp hx hb dX5_in_9 ?_
    refine lv_if_gt (tgt := 17) hx hb dX5_in_10 (by decide) (fun c_1 => ?_) (fun c_1 => ?_)
    · have i_1 : 2 < (p0 : Int64).toInt := zl_lt (rfl) (rfl) ((lg_cmp_gt _ _).mp c_1)
      refine lv_iconst (v := 0) hx hb dX5_in_17 (by decide) ?_
      have hP9 := hP.sub (ws' := []) [] rfl
      have hD9 := hD.sub (ws' := []) [] (by decide) rfl
      exact W.zret (v := 0) hx hb hr (by decide) (fun t ht hW => ⟨⟨0, 0, rfl, Or.inr (Or.inl ⟨i_0, i_1, rfl⟩), by rw [ht]; exact hP9, hD9⟩, hS.F ht⟩) hS.2.2 dX5_in_18
    · have i_1 : (p0 : Int64).toInt ≤ 2 := zl_nlt (rfl) (rfl) (fun h => c_1 ((lg_cmp_gt _ _).mpr h))
      refine lv_iconst (v := 1) hx hb dX5_in_13 (by decide) ?_
      refine lv_goto (tgt := 18) hx hb dX5_in_14 (by decide) ?_
      have hP9 := hP.sub (ws' := []) [] rfl
      have hD9 := hD.sub (ws' := []) [] (by decide) rfl
      exact W.zret (v := 1) hx hb hr (by decide) (fun t ht hW => ⟨⟨1, 0, rfl, Or.inr (Or.inr (⟨i_0, i_1, rfl⟩)), by rw [ht]; exact hP9, hD9⟩, hS.F ht⟩) hS.2.2 dX5_in_18
set_option maxHeartbeats 4000000 in
set_option maxRecDepth 100000 in
theorem kX5_openMorning (l : Launch) (g : zG) (h0 h1 h2 h3 h4 h5 h6 h7 h8 h9 h10 h11 h12 h13 h14 h15 h16 h17 h18 h19 h20 h21 h22 : Nat) (sz : Nat) : Met l yX5_openMorning (.code yX5_openMorning cX5_openMorning 2 none :: zBig) ({ frames := 0, cells := 0, slots := 0, locals := 0 }) (va_Pc [.ref h0] (zPre g [(h0, .inr (5, [.ref h1, .int 0, .ref h2, .int 0, .int 0, .ref h3, .ref h4, .ref h5, .ref h6, .int 0, .ref h7, .ref h8, .ref h9, .int 0, .ref h10, .ref h11, .ref h12, .ref h13, .ref h14, .ref h15, .ref h16, .ref h17, .ref h18, .ref h19, .ref h20, .ref h21, .ref h22])), (h1, .inl (zI g, 180, .inl (upd (upd (upd (fun _ => 0) 0 60) 1 1) 2 1)))] sz)) (va_Qv (fun _ : Nat => True) (zPost g (fun _ : Nat => [(h0, .inr (5, [.ref h1, .int 0, .ref h2, .int 0, .int 0, .ref h3, .ref h4, .ref h5, .ref h6, .int 0, .ref h7, .ref h8, .ref h9, .int 0, .ref h10, .ref h11, .ref h12, .ref h13, .ref h14, .ref h15, .ref h16, .ref h17, .ref h18, .ref h19, .ref h20, .ref h21, .ref h22])), (h1, .inl (zI g, 180, .inl (upd (upd (upd (fun _ => 0) 0 60) 1 1) 2 1)))]) (va_A [(h0, .inr (5, [.ref h1, .int 0, .ref h2, .int 0, .int 0, .ref h3, .ref h4, .ref h5, .ref h6, .int 0, .ref h7, .ref h8, .ref h9, .int 0, .ref h10, .ref h11, .ref h12, .ref h13, .ref h14, .ref h15, .ref h16, .ref h17, .ref h18, .ref h19, .ref h20, .ref h21, .ref h22])), (h1, .inl (zI g, 180, .inl (upd (upd (upd (fun _ => 0) 0 60) 1 1) 2 1)))] sz)) (va_A [(h0, .inr (5, [.ref h1, .int 0, .ref h2, .int 0, .int 0, .ref h3, .ref h4, .ref h5, .ref h6, .int 0, .ref h7, .ref h8, .ref h9, .int 0, .ref h10, .ref h11, .ref h12, .ref h13, .ref h14, .ref h15, .ref h16, .ref h17, .ref h18, .ref h19, .ref h20, .ref h21, .ref h22])), (h1, .inl (zI g, 180, .inl (upd (upd (upd (fun _ => 0) 0 60) 1 1) 2 1)))] sz)) 0 0 (va_A [(h0, .inr (5, [.ref h1, .int 0, .ref h2, .int 0, .int 0, .ref h3, .ref h4, .ref h5, .ref h6, .int 0, .ref h7, .ref h8, .ref h9, .int 0, .ref h10, .ref h11, .ref h12, .ref h13, .ref h14, .ref h15, .ref h16, .ref h17, .ref h18, .ref h19, .ref h20, .ref h21, .ref h22])), (h1, .inl (zI g, 180, .inl (upd (upd (upd (fun _ => 0) 0 60) 1 1) 2 1)))] sz) := by
  refine zMetV rfl (Nat.le_of_ble_eq_true rfl) ?_
  intro p e s m args below meth c A ls hx hb hml hr hlocks hin hown hts hK hN hZ hP hD hA hS hAe hl
  have hown : s.vm.findClass RX5 = some m.cls := hown
  have hl : lv_has ls 2 [(0, .ref h0)] := hl
  refine lv_aload_n hx hb dX5_openMorning_0 rfl (lv_at hl 0 rfl) ?_
  refine lv_iconst (v := 0) hx hb dX5_openMorning_1 (by decide) ?_
  refine va_put (D := g.1) (ci := 5) (v := .int 0) (ty := .int) (C := RX5) (T := TX5) (N := 27) hx hb hts zl_X5 tyX5 tyX5_ok nmX5 hown hK hP hD hS 0 rfl rfl 13 (by decide) (hts _ m_f_RX5_147) (fun _ h => h) rfl (by decide +kernel) rfl rfl (Nat.le_of_ble_eq_true rfl) dX5_openMorning_2 (fun H locs hP hD hS => ?_)
  have hP : va_P g.1 vwCl [(h0, .inr (5, [.ref h1, .int 0, .ref h2, .int 0, .int 0, .ref h3, .ref h4, .ref h5, .ref h6, .int 0, .ref h7, .ref h8, .ref h9, .int 0, .ref h10, .ref h11, .ref h12, .ref h13, .ref h14, .ref h15, .ref h16, .ref h17, .ref h18, .ref h19, .ref h20, .ref h21, .ref h22])), (h1, .inl (zI g, 180, .inl (upd (upd (upd (fun _ => 0) 0 60) 1 1) 2 1)))] H := hP
  have hD : va_D A [(h0, .inr (5, [.ref h1, .int 0, .ref h2, .int 0, .int 0, .ref h3, .ref h4, .ref h5, .ref h6, .int 0, .ref h7, .ref h8, .ref h9, .int 0, .ref h10, .ref h11, .ref h12, .ref h13, .ref h14, .ref h15, .ref h16, .ref h17, .ref h18, .ref h19, .ref h20, .ref h21, .ref h22])), (h1, .inl (zI g, 180, .inl (upd (upd (upd (fun _ => 0) 0 60) 1 1) 2 1)))] := hD
  refine lv_iconst (v := 0) hx hb dX5_openMorning_5 (by decide) ?_
  refine lv_istore_n (lv' := [(1, .int 0), (0, .ref h0)]) hx hb dX5_openMorning_6 rfl hl (by decide) rfl (fun ls hl => ?_)
  refine lv_iload_n hx hb dX5_openMorning_7 rfl (lv_at hl 0 rfl) ?_
  refine lv_aload_n hx hb dX5_openMorning_8 rfl (lv_at hl 1 rfl) ?_
  refine va_get (D := g.1) (ci := 5) (v := .ref h1) (C := RX5) (T := TX5) (N := 27) hx hb hts zl_X5 hown hK hP 0 rfl rfl 0 (by decide) (hts _ m_f_RX5_7) (fun _ h => h) rfl dX5_openMorning_9 ?_
  refine lv_bipush (v := 12) hx hb dX5_openMorning_12 (by decide) ?_
  refine va_iald (D := g.1) hx hb hK hP 1 0 rfl rfl (vp_in_iff.mpr (by decide +kernel)) dX5_openMorning_14 ?_
  refine lv_topi (nm_r (e' := 0) (by rfl) ?_)
  refine lv_icmp_ge (tgt := 70) hx hb dX5_openMorning_15 (by decide) (fun _ => ?_) (fun h => absurd h (by decide +kernel))
  have hP9 := hP.sub (ws' := [(h0, .inr (5, [.ref h1, .int 0, .ref h2, .int 0, .int 0, .ref h3, .ref h4, .ref h5, .ref h6, .int 0, .ref h7, .ref h8, .ref h9, .int 0, .ref h10, .ref h11, .ref h12, .ref h13, .ref h14, .ref h15, .ref h16, .ref h17, .ref h18, .ref h19, .ref h20, .ref h21, .ref h22])), (h1, .inl (zI g, 180, .inl (upd (upd (upd (fun _ => 0) 0 60) 1 1) 2 1)))]) [0, 1] rfl
  have hD9 := hD.sub (ws' := [(h0, .inr (5, [.ref h1, .int 0, .ref h2, .int 0, .int 0, .ref h3, .ref h4, .ref h5, .ref h6, .int 0, .ref h7, .ref h8, .ref h9, .int 0, .ref h10, .ref h11, .ref h12, .ref h13, .ref h14, .ref h15, .ref h16, .ref h17, .ref h18, .ref h19, .ref h20, .ref h21, .ref h22])), (h1, .inl (zI g, 180, .inl (upd (upd (upd (fun _ => 0) 0 60) 1 1) 2 1)))]) [0, 1] (by decide) rfl
  exact W.vret hx hb hr (fun t ht hW => ⟨⟨0, rfl, trivial, by rw [ht]; exact hP9, hD9⟩, hS.F ht⟩) hS.2.2 dX5_openMorning_70
set_option maxHeartbeats 4000000 in
set_option maxRecDepth 100000 in
theorem kX5_openMorning_2 (l : Launch) (g : zG) (h0 h1 h2 h3 h4 h5 h6 h7 h8 h9 h10 h11 h12 h13 h14 h15 h16 h17 h18 h19 h20 h21 h22 : Nat) (sz : Nat) : Met l yX5_openMorning (.code yX5_openMorning cX5_openMorning 2 none :: zBig) ({ frames := 0, cells := 0, slots := 0, locals := 0 }) (va_Pc [.ref h0] (zPre g [(h0, .inr (5, [.ref h1, .int 0, .ref h2, .int 0, .int 0, .ref h3, .ref h4, .ref h5, .ref h6, .int 0, .ref h7, .ref h8, .ref h9, .int 0, .ref h10, .ref h11, .ref h12, .ref h13, .ref h14, .ref h15, .ref h16, .ref h17, .ref h18, .ref h19, .ref h20, .ref h21, .ref h22])), (h1, .inl (zI g, 180, .inl (upd (upd (upd (fun _ => 0) 0 60) 1 1) 2 1)))] sz)) (va_Qv (fun _ : Nat => True) (zPost g (fun _ : Nat => [(h0, .inr (5, [.ref h1, .int 0, .ref h2, .int 0, .int 0, .ref h3, .ref h4, .ref h5, .ref h6, .int 0, .ref h7, .ref h8, .ref h9, .int 0, .ref h10, .ref h11, .ref h12, .ref h13, .ref h14, .ref h15, .ref h16, .ref h17, .ref h18, .ref h19, .ref h20, .ref h21, .ref h22])), (h1, .inl (zI g, 180, .inl (upd (upd (upd (fun _ => 0) 0 60) 1 1) 2 1)))]) (va_A [(h0, .inr (5, [.ref h1, .int 0, .ref h2, .int 0, .int 0, .ref h3, .ref h4, .ref h5, .ref h6, .int 0, .ref h7, .ref h8, .ref h9, .int 0, .ref h10, .ref h11, .ref h12, .ref h13, .ref h14, .ref h15, .ref h16, .ref h17, .ref h18, .ref h19, .ref h20, .ref h21, .ref h22])), (h1, .inl (zI g, 180, .inl (upd (upd (upd (fun _ => 0) 0 60) 1 1) 2 1)))] sz)) (va_A [(h0, .inr (5, [.ref h1, .int 0, .ref h2, .int 0, .int 0, .ref h3, .ref h4, .ref h5, .ref h6, .int 0, .ref h7, .ref h8, .ref h9, .int 0, .ref h10, .ref h11, .ref h12, .ref h13, .ref h14, .ref h15, .ref h16, .ref h17, .ref h18, .ref h19, .ref h20, .ref h21, .ref h22])), (h1, .inl (zI g, 180, .inl (upd (upd (upd (fun _ => 0) 0 60) 1 1) 2 1)))] sz)) 0 0 (va_A [(h0, .inr (5, [.ref h1, .int 0, .ref h2, .int 0, .int 0, .ref h3, .ref h4, .ref h5, .ref h6, .int 0, .ref h7, .ref h8, .ref h9, .int 0, .ref h10, .ref h11, .ref h12, .ref h13, .ref h14, .ref h15, .ref h16, .ref h17, .ref h18, .ref h19, .ref h20, .ref h21, .ref h22])), (h1, .inl (zI g, 180, .inl (upd (upd (upd (fun _ => 0) 0 60) 1 1) 2 1)))] sz) := by
  refine zMetV rfl (Nat.le_of_ble_eq_true rfl) ?_
  intro p e s m args below meth c A ls hx hb hml hr hlocks hin hown hts hK hN hZ hP hD hA hS hAe hl
  have hown : s.vm.findClass RX5 = some m.cls := hown
  have hl : lv_has ls 2 [(0, .ref h0)] := hl
  refine lv_aload_n hx hb dX5_openMorning_0 rfl (lv_at hl 0 rfl) ?_
  refine lv_iconst (v := 0) hx hb dX5_openMorning_1 (by decide) ?_
  refine va_put (D := g.1) (ci := 5) (v := .int 0) (ty := .int) (C := RX5) (T := TX5) (N := 27) hx hb hts zl_X5 tyX5 tyX5_ok nmX5 hown hK hP hD hS 0 rfl rfl 13 (by decide) (hts _ m_f_RX5_147) (fun _ h => h) rfl (by decide +kernel) rfl rfl (Nat.le_of_ble_eq_true rfl) dX5_openMorning_2 (fun H locs hP hD hS => ?_)
  have hP : va_P g.1 vwCl [(h0, .inr (5, [.ref h1, .int 0, .ref h2, .int 0, .int 0, .ref h3, .ref h4, .ref h5, .ref h6, .int 0, .ref h7, .ref h8, .ref h9, .int 0, .ref h10, .ref h11, .ref h12, .ref h13, .ref h14, .ref h15, .ref h16, .ref h17, .ref h18, .ref h19, .ref h20, .ref h21, .ref h22])), (h1, .inl (zI g, 180, .inl (upd (upd (upd (fun _ => 0) 0 60) 1 1) 2 1)))] H := hP
  have hD : va_D A [(h0, .inr (5, [.ref h1, .int 0, .ref h2, .int 0, .int 0, .ref h3, .ref h4, .ref h5, .ref h6, .int 0, .ref h7, .ref h8, .ref h9, .int 0, .ref h10, .ref h11, .ref h12, .ref h13, .ref h14, .ref h15, .ref h16, .ref h17, .ref h18, .ref h19, .ref h20, .ref h21, .ref h22])), (h1, .inl (zI g, 180, .inl (upd (upd (upd (fun _ => 0) 0 60) 1 1) 2 1)))] := hD
  refine lv_iconst (v := 0) hx hb dX5_openMorning_5 (by decide) ?_
  refine lv_istore_n (lv' := [(1, .int 0), (0, .ref h0)]) hx hb dX5_openMorning_6 rfl hl (by decide) rfl (fun ls hl => ?_)
  refine lv_iload_n hx hb dX5_openMorning_7 rfl (lv_at hl 0 rfl) ?_
  refine lv_aload_n hx hb dX5_openMorning_8 rfl (lv_at hl 1 rfl) ?_
  refine va_get (D := g.1) (ci := 5) (v := .ref h1) (C := RX5) (T := TX5) (N := 27) hx hb hts zl_X5 hown hK hP 0 rfl rfl 0 (by decide) (hts _ m_f_RX5_7) (fun _ h => h) rfl dX5_openMorning_9 ?_
  refine lv_bipush (v := 12) hx hb dX5_openMorning_12 (by decide) ?_
  refine va_iald (D := g.1) hx hb hK hP 1 0 rfl rfl (vp_in_iff.mpr (by decide +kernel)) dX5_openMorning_14 ?_
  refine lv_topi (nm_r (e' := 0) (by rfl) ?_)
  refine lv_icmp_ge (tgt := 70) hx hb dX5_openMorning_15 (by decide) (fun _ => ?_) (fun h => absurd h (by decide +kernel))
  have hP9 := hP.sub (ws' := [(h0, .inr (5, [.ref h1, .int 0, .ref h2, .int 0, .int 0, .ref h3, .ref h4, .ref h5, .ref h6, .int 0, .ref h7, .ref h8, .ref h9, .int 0, .ref h10, .ref h11, .ref h12, .ref h13, .ref h14, .ref h15, .ref h16, .ref h17, .ref h18, .ref h19, .ref h20, .ref h21, .ref h22])), (h1, .inl (zI g, 180, .inl (upd (upd (upd (fun _ => 0) 0 60) 1 1) 2 1)))]) [0, 1] rfl
  have hD9 := hD.sub (ws' := [(h0, .inr (5, [.ref h1, .int 0, .ref h2, .int 0, .int 0, .ref h3, .ref h4, .ref h5, .ref h6, .int 0, .ref h7, .ref h8, .ref h9, .int 0, .ref h10, .ref h11, .ref h12, .ref h13, .ref h14, .ref h15, .ref h16, .ref h17, .ref h18, .ref h19, .ref h20, .ref h21, .ref h22])), (h1, .inl (zI g, 180, .inl (upd (upd (upd (fun _ => 0) 0 60) 1 1) 2 1)))]) [0, 1] (by decide) rfl
  exact W.vret hx hb hr (fun t ht hW => ⟨⟨0, rfl, trivial, by rw [ht]; exact hP9, hD9⟩, hS.F ht⟩) hS.2.2 dX5_openMorning_70
set_option maxHeartbeats 4000000 in
set_option maxRecDepth 100000 in
theorem kX5_goThrough (l : Launch) (g : zG) (h0 h1 h2 h3 h4 h5 h6 h7 h8 h9 h10 h11 h12 h13 h14 h15 h16 h17 h18 h19 h20 h21 h22 : Nat) (sz : Nat) : Met l yX5_goThrough (.code yX5_goThrough cX5_goThrough 3 none :: zBig) ({ frames := 1, cells := 0, slots := 0, locals := 21 }) (va_Pc [.ref h0, .int 0] (zPre g [(h0, .inr (5, [.ref h1, .int 0, .ref h2, .int 0, .int 0, .ref h3, .ref h4, .ref h5, .ref h6, .int 0, .ref h7, .ref h8, .ref h9, .int 0, .ref h10, .ref h11, .ref h12, .ref h13, .ref h14, .ref h15, .ref h16, .ref h17, .ref h18, .ref h19, .ref h20, .ref h21, .ref h22])), (h1, .inl (zI g, 180, .inl (upd (upd (upd (fun _ => 0) 0 60) 1 1) 2 1)))] sz)) (va_Qv (fun _ : Nat => True) (zPost g (fun _ : Nat => [(h0, .inr (5, [.ref h1, .int 0, .ref h2, .int 0, .int 0, .ref h3, .ref h4, .ref h5, .ref h6, .int 0, .ref h7, .ref h8, .ref h9, .int 0, .ref h10, .ref h11, .ref h12, .ref h13, .ref h14, .ref h15, .ref h16, .ref h17, .ref h18, .ref h19, .ref h20, .ref h21, .ref h22])), (h1, .inl (zI g, 180, .inl (upd (upd (upd (fun _ => 0) 0 60) 1 1) 2 1)))]) (va_A [(h0, .inr (5, [.ref h1, .int 0, .ref h2, .int 0, .int 0, .ref h3, .ref h4, .ref h5, .ref h6, .int 0, .ref h7, .ref h8, .ref h9, .int 0, .ref h10, .ref h11, .ref h12, .ref h13, .ref h14, .ref h15, .ref h16, .ref h17, .ref h18, .ref h19, .ref h20, .ref h21, .ref h22])), (h1, .inl (zI g, 180, .inl (upd (upd (upd (fun _ => 0) 0 60) 1 1) 2 1)))] sz)) (va_A [(h0, .inr (5, [.ref h1, .int 0, .ref h2, .int 0, .int 0, .ref h3, .ref h4, .ref h5, .ref h6, .int 0, .ref h7, .ref h8, .ref h9, .int 0, .ref h10, .ref h11, .ref h12, .ref h13, .ref h14, .ref h15, .ref h16, .ref h17, .ref h18, .ref h19, .ref h20, .ref h21, .ref h22])), (h1, .inl (zI g, 180, .inl (upd (upd (upd (fun _ => 0) 0 60) 1 1) 2 1)))] sz)) 0 0 (va_A [(h0, .inr (5, [.ref h1, .int 0, .ref h2, .int 0, .int 0, .ref h3, .ref h4, .ref h5, .ref h6, .int 0, .ref h7, .ref h8, .ref h9, .int 0, .ref h10, .ref h11, .ref h12, .ref h13, .ref h14, .ref h15, .ref h16, .ref h17, .ref h18, .ref h19, .ref h20, .ref h21, .ref h22])), (h1, .inl (zI g, 180, .inl (upd (upd (upd (fun _ => 0) 0 60) 1 1) 2 1)))] sz) := by
  refine zMetV rfl (Nat.le_of_ble_eq_true rfl) ?_
  intro p e s m args below meth c A ls hx hb hml hr hlocks hin hown hts hK hN hZ hP hD hA hS hAe hl
  have hown : s.vm.findClass RX5 = some m.cls := hown
  have hl : lv_has ls 3 [(0, .ref h0), (1, .int 0)] := hl
  refine lv_aload_n hx hb dX5_goThrough_0 rfl (lv_at hl 0 rfl) ?_
  refine lv_iload_n hx hb dX5_goThrough_1 rfl (lv_at hl 1 rfl) ?_
  refine va_put (D := g.1) (ci := 5) (v := .int 0) (ty := .int) (C := RX5) (T := TX5) (N := 27) hx hb hts zl_X5 tyX5 tyX5_ok nmX5 hown hK hP hD hS 0 rfl rfl 9 (by decide) (hts _ m_f_RX5_153) (fun _ h => h) rfl (by decide +kernel) rfl rfl (Nat.le_of_ble_eq_true rfl) dX5_goThrough_2 (fun H locs hP hD hS => ?_)
  have hP : va_P g.1 vwCl [(h0, .inr (5, [.ref h1, .int 0, .ref h2, .int 0, .int 0, .ref h3, .ref h4, .ref h5, .ref h6, .int 0, .ref h7, .ref h8, .ref h9, .int 0, .ref h10, .ref h11, .ref h12, .ref h13, .ref h14, .ref h15, .ref h16, .ref h17, .ref h18, .ref h19, .ref h20, .ref h21, .ref h22])), (h1, .inl (zI g, 180, .inl (upd (upd (upd (fun _ => 0) 0 60) 1 1) 2 1)))] H := hP
  have hD : va_D A [(h0, .inr (5, [.ref h1, .int 0, .ref h2, .int 0, .int 0, .ref h3, .ref h4, .ref h5, .ref h6, .int 0, .ref h7, .ref h8, .ref h9, .int 0, .ref h10, .ref h11, .ref h12, .ref h13, .ref h14, .ref h15, .ref h16, .ref h17, .ref h18, .ref h19, .ref h20, .ref h21, .ref h22])), (h1, .inl (zI g, 180, .inl (upd (upd (upd (fun _ => 0) 0 60) 1 1) 2 1)))] := hD
  refine lv_aload_n hx hb dX5_goThrough_5 rfl (lv_at hl 0 rfl) ?_
  refine z_callv (wr := []) hP hD hS hA [0, 1] [] (by decide) rfl rfl (by decide) (va_runV (As := []) (rest := []) ⟨hx, hb, hml, hown, hts⟩ (kX5_openMorning_2 l g h0 h1 h2 h3 h4 h5 h6 h7 h8 h9 h10 h11 h12 h13 h14 h15 h16 h17 h18 h19 h20 h21 h22 H.size) ⟨callB_of 0 hts (zGood m_o_yX5_openMorning) rfl rfl rfl (hts _ m_z_RX5) (hts _ m_m_RX5_184) ⟨by decide +kernel, by decide +kernel, by decide +kernel⟩ ⟨Nat.le_of_ble_eq_true rfl, Nat.le_of_ble_eq_true rfl⟩, hts _ m_i_yX5_openMorning, hts _ m_e_yX5_openMorning⟩ (zPreV hK hN hZ hP hD hS hA [0, 1] (by decide) rfl rfl 5 0 rfl rfl) rfl rfl hl.1 rfl (lv_room (Nat.le_of_ble_eq_true rfl)) dX5_goThrough_6 ⟨Nat.le_of_ble_eq_true rfl, Nat.le_of_ble_eq_true rfl⟩) (fun u H locs hw hP hD hS => ?_)
  have hP : va_P g.1 vwCl [(h0, .inr (5, [.ref h1, .int 0, .ref h2, .int 0, .int 0, .ref h3, .ref h4, .ref h5, .ref h6, .int 0, .ref h7, .ref h8, .ref h9, .int 0, .ref h10, .ref h11, .ref h12, .ref h13, .ref h14, .ref h15, .ref h16, .ref h17, .ref h18, .ref h19, .ref h20, .ref h21, .ref h22])), (h1, .inl (zI g, 180, .inl (upd (upd (upd (fun _ => 0) 0 60) 1 1) 2 1)))] H := hP
  have hD : va_D A [(h0, .inr (5, [.ref h1, .int 0, .ref h2, .int 0, .int 0, .ref h3, .ref h4, .ref h5, .ref h6, .int 0, .ref h7, .ref h8, .ref h9, .int 0, .ref h10, .ref h11, .ref h12, .ref h13, .ref h14, .ref h15, .ref h16, .ref h17, .ref h18, .ref h19, .ref h20, .ref h21, .ref h22])), (h1, .inl (zI g, 180, .inl (upd (upd (upd (fun _ => 0) 0 60) 1 1) 2 1)))] := hD
  refine lv_iconst (v := 0) hx hb dX5_goThrough_9 (by decide) ?_
  refine lv_istore_n (lv' := [(2, .int 0), (0, .ref h0), (1, .int 0)]) hx hb dX5_goThrough_10 rfl hl (by decide) rfl (fun ls hl => ?_)
  refine lv_iload_n hx hb dX5_goThrough_11 rfl (lv_at hl 0 rfl) ?_
  refine lv_aload_n hx hb dX5_goThrough_12 rfl (lv_at hl 1 rfl) ?_
  refine va_get (D := g.1) (ci := 5) (v := .ref h1) (C := RX5) (T := TX5) (N := 27) hx hb hts zl_X5 hown hK hP 0 rfl rfl 0 (by decide) (hts _ m_f_RX5_7) (fun _ h => h) rfl dX5_goThrough_13 ?_
  refine lv_iconst (v := 5) hx hb dX5_goThrough_16 (by decide) ?_
  refine va_iald (D := g.1) hx hb hK hP 1 0 rfl rfl (vp_in_iff.mpr (by decide +kernel)) dX5_goThrough_17 ?_
  refine lv_topi (nm_r (e' := 0) (by rfl) ?_)
  refine lv_icmp_ge (tgt := 37) hx hb dX5_goThrough_18 (by decide) (fun _ => ?_) (fun h => absurd h (by decide +kernel))
  have hP9 := hP.sub (ws' := [(h0, .inr (5, [.ref h1, .int 0, .ref h2, .int 0, .int 0, .ref h3, .ref h4, .ref h5, .ref h6, .int 0, .ref h7, .ref h8, .ref h9, .int 0, .ref h10, .ref h11, .ref h12, .ref h13, .ref h14, .ref h15, .ref h16, .ref h17, .ref h18, .ref h19, .ref h20, .ref h21, .ref h22])), (h1, .inl (zI g, 180, .inl (upd (upd (upd (fun _ => 0) 0 60) 1 1) 2 1)))]) [0, 1] rfl
  have hD9 := hD.sub (ws' := [(h0, .inr (5, [.ref h1, .int 0, .ref h2, .int 0, .int 0, .ref h3, .ref h4, .ref h5, .ref h6, .int 0, .ref h7, .ref h8, .ref h9, .int 0, .ref h10, .ref h11, .ref h12, .ref h13, .ref h14, .ref h15, .ref h16, .ref h17, .ref h18, .ref h19, .ref h20, .ref h21, .ref h22])), (h1, .inl (zI g, 180, .inl (upd (upd (upd (fun _ => 0) 0 60) 1 1) 2 1)))]) [0, 1] (by decide) rfl
  exact W.vret hx hb hr (fun t ht hW => ⟨⟨0, rfl, trivial, by rw [ht]; exact hP9, hD9⟩, hS.F ht⟩) hS.2.2 dX5_goThrough_37
set_option maxHeartbeats 4000000 in
set_option maxRecDepth 100000 in
theorem kX5_openMorning_3 (l : Launch) (g : zG) (h0 h1 h2 h3 h4 h5 h6 h7 h8 h9 h10 h11 h12 h13 h14 h15 h16 h17 h18 h19 h20 h21 h22 : Nat) (sz : Nat) : Met l yX5_openMorning (.code yX5_openMorning cX5_openMorning 2 none :: zBig) ({ frames := 0, cells := 0, slots := 0, locals := 0 }) (va_Pc [.ref h0] (zPre g [(h0, .inr (5, [.ref h1, .int 0, .ref h2, .int 0, .int 0, .ref h3, .ref h4, .ref h5, .ref h6, .int 0, .ref h7, .ref h8, .ref h9, .int 0, .ref h10, .ref h11, .ref h12, .ref h13, .ref h14, .ref h15, .ref h16, .ref h17, .ref h18, .ref h19, .ref h20, .ref h21, .ref h22])), (h1, .inl (zI g, 180, .inl (upd (upd (upd (fun _ => 0) 0 60) 1 1) 2 1)))] sz)) (va_Qv (fun _ : Nat => True) (zPost g (fun _ : Nat => [(h0, .inr (5, [.ref h1, .int 0, .ref h2, .int 0, .int 0, .ref h3, .ref h4, .ref h5, .ref h6, .int 0, .ref h7, .ref h8, .ref h9, .int 0, .ref h10, .ref h11, .ref h12, .ref h13, .ref h14, .ref h15, .ref h16, .ref h17, .ref h18, .ref h19, .ref h20, .ref h21, .ref h22])), (h1, .inl (zI g, 180, .inl (upd (upd (upd (fun _ => 0) 0 60) 1 1) 2 1)))]) (va_A [(h0, .inr (5, [.ref h1, .int 0, .ref h2, .int 0, .int 0, .ref h3, .ref h4, .ref h5, .ref h6, .int 0, .ref h7, .ref h8, .ref h9, .int 0, .ref h10, .ref h11, .ref h12, .ref h13, .ref h14, .ref h15, .ref h16, .ref h17, .ref h18, .ref h19, .ref h20, .ref h21, .ref h22])), (h1, .inl (zI g, 180, .inl (upd (upd (upd (fun _ => 0) 0 60) 1 1) 2 1)))] sz)) (va_A [(h0, .inr (5, [.ref h1, .int 0, .ref h2, .int 0, .int 0, .ref h3, .ref h4, .ref h5, .ref h6, .int 0, .ref h7, .ref h8, .ref h9, .int 0, .ref h10, .ref h11, .ref h12, .ref h13, .ref h14, .ref h15, .ref h16, .ref h17, .ref h18, .ref h19, .ref h20, .ref h21, .ref h22])), (h1, .inl (zI g, 180, .inl (upd (upd (upd (fun _ => 0) 0 60) 1 1) 2 1)))] sz)) 0 0 (va_A [(h0, .inr (5, [.ref h1, .int 0, .ref h2, .int 0, .int 0, .ref h3, .ref h4, .ref h5, .ref h6, .int 0, .ref h7, .ref h8, .ref h9, .int 0, .ref h10, .ref h11, .ref h12, .ref h13, .ref h14, .ref h15, .ref h16, .ref h17, .ref h18, .ref h19, .ref h20, .ref h21, .ref h22])), (h1, .inl (zI g, 180, .inl (upd (upd (upd (fun _ => 0) 0 60) 1 1) 2 1)))] sz) := by
  refine zMetV rfl (Nat.le_of_ble_eq_true rfl) ?_
  intro p e s m args below meth c A ls hx hb hml hr hlocks hin hown hts hK hN hZ hP hD hA hS hAe hl
  have hown : s.vm.findClass RX5 = some m.cls := hown
  have hl : lv_has ls 2 [(0, .ref h0)] := hl
  refine lv_aload_n hx hb dX5_openMorning_0 rfl (lv_at hl 0 rfl) ?_
  refine lv_iconst (v := 0) hx hb dX5_openMorning_1 (by decide) ?_
  refine va_put (D := g.1) (ci := 5) (v := .int 0) (ty := .int) (C := RX5) (T := TX5) (N := 27) hx hb hts zl_X5 tyX5 tyX5_ok nmX5 hown hK hP hD hS 0 rfl rfl 13 (by decide) (hts _ m_f_RX5_147) (fun _ h => h) rfl (by decide +kernel) rfl rfl (Nat.le_of_ble_eq_true rfl) dX5_openMorning_2 (fun H locs hP hD hS => ?_)
  have hP : va_P g.1 vwCl [(h0, .inr (5, [.ref h1, .int 0, .ref h2, .int 0, .int 0, .ref h3, .ref h4, .ref h5, .ref h6, .int 0, .ref h7, .ref h8, .ref h9, .int 0, .ref h10, .ref h11, .ref h12, .ref h13, .ref h14, .ref h15, .ref h16, .ref h17, .ref h18, .ref h19, .ref h20, .ref h21, .ref h22])), (h1, .inl (zI g, 180, .inl (upd (upd (upd (fun _ => 0) 0 60) 1 1) 2 1)))] H := hP
  have hD : va_D A [(h0, .inr (5, [.ref h1, .int 0, .ref h2, .int 0, .int 0, .ref h3, .ref h4, .ref h5, .ref h6, .int 0, .ref h7, .ref h8, .ref h9, .int 0, .ref h10, .ref h11, .ref h12, .ref h13, .ref h14, .ref h15, .ref h16, .ref h17, .ref h18, .ref h19, .ref h20, .ref h21, .ref h22])), (h1, .inl (zI g, 180, .inl (upd (upd (upd (fun _ => 0) 0 60) 1 1) 2 1)))] := hD
  refine lv_iconst (v := 0) hx hb dX5_openMorning_5 (by decide) ?_
  refine lv_istore_n (lv' := [(1, .int 0), (0, .ref h0)]) hx hb dX5_openMorning_6 rfl hl (by decide) rfl (fun ls hl => ?_)
  refine lv_iload_n hx hb dX5_openMorning_7 rfl (lv_at hl 0 rfl) ?_
  refine lv_aload_n hx hb dX5_openMorning_8 rfl (lv_at hl 1 rfl) ?_
  refine va_get (D := g.1) (ci := 5) (v := .ref h1) (C := RX5) (T := TX5) (N := 27) hx hb hts zl_X5 hown hK hP 0 rfl rfl 0 (by decide) (hts _ m_f_RX5_7) (fun _ h => h) rfl dX5_openMorning_9 ?_
  refine lv_bipush (v := 12) hx hb dX5_openMorning_12 (by decide) ?_
  refine va_iald (D := g.1) hx hb hK hP 1 0 rfl rfl (vp_in_iff.mpr (by decide +kernel)) dX5_openMorning_14 ?_
  refine lv_topi (nm_r (e' := 0) (by rfl) ?_)
  refine lv_icmp_ge (tgt := 70) hx hb dX5_openMorning_15 (by decide) (fun _ => ?_) (fun h => absurd h (by decide +kernel))
  have hP9 := hP.sub (ws' := [(h0, .inr (5, [.ref h1, .int 0, .ref h2, .int 0, .int 0, .ref h3, .ref h4, .ref h5, .ref h6, .int 0, .ref h7, .ref h8, .ref h9, .int 0, .ref h10, .ref h11, .ref h12, .ref h13, .ref h14, .ref h15, .ref h16, .ref h17, .ref h18, .ref h19, .ref h20, .ref h21, .ref h22])), (h1, .inl (zI g, 180, .inl (upd (upd (upd (fun _ => 0) 0 60) 1 1) 2 1)))]) [0, 1] rfl
  have hD9 := hD.sub (ws' := [(h0, .inr (5, [.ref h1, .int 0, .ref h2, .int 0, .int 0, .ref h3, .ref h4, .ref h5, .ref h6, .int 0, .ref h7, .ref h8, .ref h9, .int 0, .ref h10, .ref h11, .ref h12, .ref h13, .ref h14, .ref h15, .ref h16, .ref h17, .ref h18, .ref h19, .ref h20, .ref h21, .ref h22])), (h1, .inl (zI g, 180, .inl (upd (upd (upd (fun _ => 0) 0 60) 1 1) 2 1)))]) [0, 1] (by decide) rfl
  exact W.vret hx hb hr (fun t ht hW => ⟨⟨0, rfl, trivial, by rw [ht]; exact hP9, hD9⟩, hS.F ht⟩) hS.2.2 dX5_openMorning_70
set_option maxHeartbeats 4000000 in
set_option maxRecDepth 100000 in
theorem kX5_goThrough_2 (l : Launch) (g : zG) (h0 h1 h2 h3 h4 h5 h6 h7 h8 h9 h10 h11 h12 h13 h14 h15 h16 h17 h18 h19 h20 h21 h22 : Nat) (sz : Nat) : Met l yX5_goThrough (.code yX5_goThrough cX5_goThrough 3 none :: zBig) ({ frames := 1, cells := 0, slots := 0, locals := 21 }) (va_Pc [.ref h0, .int 0] (zPre g [(h0, .inr (5, [.ref h1, .int 0, .ref h2, .int 0, .int 0, .ref h3, .ref h4, .ref h5, .ref h6, .int 0, .ref h7, .ref h8, .ref h9, .int 0, .ref h10, .ref h11, .ref h12, .ref h13, .ref h14, .ref h15, .ref h16, .ref h17, .ref h18, .ref h19, .ref h20, .ref h21, .ref h22])), (h1, .inl (zI g, 180, .inl (upd (upd (upd (fun _ => 0) 0 60) 1 1) 2 1)))] sz)) (va_Qv (fun _ : Nat => True) (zPost g (fun _ : Nat => [(h0, .inr (5, [.ref h1, .int 0, .ref h2, .int 0, .int 0, .ref h3, .ref h4, .ref h5, .ref h6, .int 0, .ref h7, .ref h8, .ref h9, .int 0, .ref h10, .ref h11, .ref h12, .ref h13, .ref h14, .ref h15, .ref h16, .ref h17, .ref h18, .ref h19, .ref h20, .ref h21, .ref h22])), (h1, .inl (zI g, 180, .inl (upd (upd (upd (fun _ => 0) 0 60) 1 1) 2 1)))]) (va_A [(h0, .inr (5, [.ref h1, .int 0, .ref h2, .int 0, .int 0, .ref h3, .ref h4, .ref h5, .ref h6, .int 0, .ref h7, .ref h8, .ref h9, .int 0, .ref h10, .ref h11, .ref h12, .ref h13, .ref h14, .ref h15, .ref h16, .ref h17, .ref h18, .ref h19, .ref h20, .ref h21, .ref h22])), (h1, .inl (zI g, 180, .inl (upd (upd (upd (fun _ => 0) 0 60) 1 1) 2 1)))] sz)) (va_A [(h0, .inr (5, [.ref h1, .int 0, .ref h2, .int 0, .int 0, .ref h3, .ref h4, .ref h5, .ref h6, .int 0, .ref h7, .ref h8, .ref h9, .int 0, .ref h10, .ref h11, .ref h12, .ref h13, .ref h14, .ref h15, .ref h16, .ref h17, .ref h18, .ref h19, .ref h20, .ref h21, .ref h22])), (h1, .inl (zI g, 180, .inl (upd (upd (upd (fun _ => 0) 0 60) 1 1) 2 1)))] sz)) 0 0 (va_A [(h0, .inr (5, [.ref h1, .int 0, .ref h2, .int 0, .int 0, .ref h3, .ref h4, .ref h5, .ref h6, .int 0, .ref h7, .ref h8, .ref h9, .int 0, .ref h10, .ref h11, .ref h12, .ref h13, .ref h14, .ref h15, .ref h16, .ref h17, .ref h18, .ref h19, .ref h20, .ref h21, .ref h22])), (h1, .inl (zI g, 180, .inl (upd (upd (upd (fun _ => 0) 0 60) 1 1) 2 1)))] sz) := by
  refine zMetV rfl (Nat.le_of_ble_eq_true rfl) ?_
  intro p e s m args below meth c A ls hx hb hml hr hlocks hin hown hts hK hN hZ hP hD hA hS hAe hl
  have hown : s.vm.findClass RX5 = some m.cls := hown
  have hl : lv_has ls 3 [(0, .ref h0), (1, .int 0)] := hl
  refine lv_aload_n hx hb dX5_goThrough_0 rfl (lv_at hl 0 rfl) ?_
  refine lv_iload_n hx hb dX5_goThrough_1 rfl (lv_at hl 1 rfl) ?_
  refine va_put (D := g.1) (ci := 5) (v := .int 0) (ty := .int) (C := RX5) (T := TX5) (N := 27) hx hb hts zl_X5 tyX5 tyX5_ok nmX5 hown hK hP hD hS 0 rfl rfl 9 (by decide) (hts _ m_f_RX5_153) (fun _ h => h) rfl (by decide +kernel) rfl rfl (Nat.le_of_ble_eq_true rfl) dX5_goThrough_2 (fun H locs hP hD hS => ?_)
  have hP : va_P g.1 vwCl [(h0, .inr (5, [.ref h1, .int 0, .ref h2, .int 0, .int 0, .ref h3, .ref h4, .ref h5, .ref h6, .int 0, .ref h7, .ref h8, .ref h9, .int 0, .ref h10, .ref h11, .ref h12, .ref h13, .ref h14, .ref h15, .ref h16, .ref h17, .ref h18, .ref h19, .ref h20, .ref h21, .ref h22])), (h1, .inl (zI g, 180, .inl (upd (upd (upd (fun _ => 0) 0 60) 1 1) 2 1)))] H := hP
  have hD : va_D A [(h0, .inr (5, [.ref h1, .int 0, .ref h2, .int 0, .int 0, .ref h3, .ref h4, .ref h5, .ref h6, .int 0, .ref h7, .ref h8, .ref h9, .int 0, .ref h10, .ref h11, .ref h12, .ref h13, .ref h14, .ref h15, .ref h16, .ref h17, .ref h18, .ref h19, .ref h20, .ref h21, .ref h22])), (h1, .inl (zI g, 180, .inl (upd (upd (upd (fun _ => 0) 0 60) 1 1) 2 1)))] := hD
  refine lv_aload_n hx hb dX5_goThrough_5 rfl (lv_at hl 0 rfl) ?_
  refine z_callv (wr := []) hP hD hS hA [0, 1] [] (by decide) rfl rfl (by decide) (va_runV (As := []) (rest := []) ⟨hx, hb, hml, hown, hts⟩ (kX5_openMorning_2 l g h0 h1 h2 h3 h4 h5 h6 h7 h8 h9 h10 h11 h12 h13 h14 h15 h16 h17 h18 h19 h20 h21 h22 H.size) ⟨callB_of 0 hts (zGood m_o_yX5_openMorning) rfl rfl rfl (hts _ m_z_RX5) (hts _ m_m_RX5_184) ⟨by decide +kernel, by decide +kernel, by decide +kernel⟩ ⟨Nat.le_of_ble_eq_true rfl, Nat.le_of_ble_eq_true rfl⟩, hts _ m_i_yX5_openMorning, hts _ m_e_yX5_openMorning⟩ (zPreV hK hN hZ hP hD hS hA [0, 1] (by decide) rfl rfl 5 0 rfl rfl) rfl rfl hl.1 rfl (lv_room (Nat.le_of_ble_eq_true rfl)) dX5_goThrough_6 ⟨Nat.le_of_ble_eq_true rfl, Nat.le_of_ble_eq_true rfl⟩) (fun u H locs hw hP hD hS => ?_)
  have hP : va_P g.1 vwCl [(h0, .inr (5, [.ref h1, .int 0, .ref h2, .int 0, .int 0, .ref h3, .ref h4, .ref h5, .ref h6, .int 0, .ref h7, .ref h8, .ref h9, .int 0, .ref h10, .ref h11, .ref h12, .ref h13, .ref h14, .ref h15, .ref h16, .ref h17, .ref h18, .ref h19, .ref h20, .ref h21, .ref h22])), (h1, .inl (zI g, 180, .inl (upd (upd (upd (fun _ => 0) 0 60) 1 1) 2 1)))] H := hP
  have hD : va_D A [(h0, .inr (5, [.ref h1, .int 0, .ref h2, .int 0, .int 0, .ref h3, .ref h4, .ref h5, .ref h6, .int 0, .ref h7, .ref h8, .ref h9, .int 0, .ref h10, .ref h11, .ref h12, .ref h13, .ref h14, .ref h15, .ref h16, .ref h17, .ref h18, .ref h19, .ref h20, .ref h21, .ref h22])), (h1, .inl (zI g, 180, .inl (upd (upd (upd (fun _ => 0) 0 60) 1 1) 2 1)))] := hD
  refine lv_iconst (v := 0) hx hb dX5_goThrough_9 (by decide) ?_
  refine lv_istore_n (lv' := [(2, .int 0), (0, .ref h0), (1, .int 0)]) hx hb dX5_goThrough_10 rfl hl (by decide) rfl (fun ls hl => ?_)
  refine lv_iload_n hx hb dX5_goThrough_11 rfl (lv_at hl 0 rfl) ?_
  refine lv_aload_n hx hb dX5_goThrough_12 rfl (lv_at hl 1 rfl) ?_
  refine va_get (D := g.1) (ci := 5) (v := .ref h1) (C := RX5) (T := TX5) (N := 27) hx hb hts zl_X5 hown hK hP 0 rfl rfl 0 (by decide) (hts _ m_f_RX5_7) (fun _ h => h) rfl dX5_goThrough_13 ?_
  refine lv_iconst (v := 5) hx hb dX5_goThrough_16 (by decide) ?_
  refine va_iald (D := g.1) hx hb hK hP 1 0 rfl rfl (vp_in_iff.mpr (by decide +kernel)) dX5_goThrough_17 ?_
  refine lv_topi (nm_r (e' := 0) (by rfl) ?_)
  refine lv_icmp_ge (tgt := 37) hx hb dX5_goThrough_18 (by decide) (fun _ => ?_) (fun h => absurd h (by decide +kernel))
  have hP9 := hP.sub (ws' := [(h0, .inr (5, [.ref h1, .int 0, .ref h2, .int 0, .int 0, .ref h3, .ref h4, .ref h5, .ref h6, .int 0, .ref h7, .ref h8, .ref h9, .int 0, .ref h10, .ref h11, .ref h12, .ref h13, .ref h14, .ref h15, .ref h16, .ref h17, .ref h18, .ref h19, .ref h20, .ref h21, .ref h22])), (h1, .inl (zI g, 180, .inl (upd (upd (upd (fun _ => 0) 0 60) 1 1) 2 1)))]) [0, 1] rfl
  have hD9 := hD.sub (ws' := [(h0, .inr (5, [.ref h1, .int 0, .ref h2, .int 0, .int 0, .ref h3, .ref h4, .ref h5, .ref h6, .int 0, .ref h7, .ref h8, .ref h9, .int 0, .ref h10, .ref h11, .ref h12, .ref h13, .ref h14, .ref h15, .ref h16, .ref h17, .ref h18, .ref h19, .ref h20, .ref h21, .ref h22])), (h1, .inl (zI g, 180, .inl (upd (upd (upd (fun _ => 0) 0 60) 1 1) 2 1)))]) [0, 1] (by decide) rfl
  exact W.vret hx hb hr (fun t ht hW => ⟨⟨0, rfl, trivial, by rw [ht]; exact hP9, hD9⟩, hS.F ht⟩) hS.2.2 dX5_goThrough_37
set_option maxHeartbeats 4000000 in
set_option maxRecDepth 100000 in
theorem kX5_hold (l : Launch) (g : zG) (h0 h1 h2 h3 h4 h5 h6 h7 h8 h9 h10 h11 h12 h13 h14 h15 h16 h17 h18 h19 h20 h21 h22 : Nat) (sz : Nat) : Met l yX5_hold (.code yX5_hold cX5_hold 3 none :: zBig) ({ frames := 2, cells := 0, slots := 0, locals := 43 }) (va_Pc [.ref h0, .int 0] (zPre g [(h0, .inr (5, [.ref h1, .int 0, .ref h2, .int 0, .int 0, .ref h3, .ref h4, .ref h5, .ref h6, .int 0, .ref h7, .ref h8, .ref h9, .int 0, .ref h10, .ref h11, .ref h12, .ref h13, .ref h14, .ref h15, .ref h16, .ref h17, .ref h18, .ref h19, .ref h20, .ref h21, .ref h22])), (h1, .inl (zI g, 180, .inl (upd (upd (upd (fun _ => 0) 0 60) 1 1) 2 1))), (h5, .inl (zI g, 6, .inl (upd (upd (upd (upd (upd (fun _ => 0) 1 1) 2 2) 3 3) 4 4) 5 5)))] sz)) (va_Qv (fun _ : Nat => True) (zPost g (fun _ : Nat => [(h5, .inl (zI g, 6, .inl (upd (upd (upd (upd (upd (upd (upd (upd (upd (upd (upd (fun _ => 0) 1 1) 2 2) 3 3) 4 4) 5 5) 0 0) 1 1) 2 2) 3 3) 4 4) 5 5))), (h0, .inr (5, [.ref h1, .int 0, .ref h2, .int 0, .int 0, .ref h3, .ref h4, .ref h5, .ref h6, .int 0, .ref h7, .ref h8, .ref h9, .int 0, .ref h10, .ref h11, .ref h12, .ref h13, .ref h14, .ref h15, .ref h16, .ref h17, .ref h18, .ref h19, .ref h20, .ref h21, .ref h22])), (h1, .inl (zI g, 180, .inl (upd (upd (upd (fun _ => 0) 0 60) 1 1) 2 1)))]) (va_A [(h0, .inr (5, [.ref h1, .int 0, .ref h2, .int 0, .int 0, .ref h3, .ref h4, .ref h5, .ref h6, .int 0, .ref h7, .ref h8, .ref h9, .int 0, .ref h10, .ref h11, .ref h12, .ref h13, .ref h14, .ref h15, .ref h16, .ref h17, .ref h18, .ref h19, .ref h20, .ref h21, .ref h22])), (h1, .inl (zI g, 180, .inl (upd (upd (upd (fun _ => 0) 0 60) 1 1) 2 1))), (h5, .inl (zI g, 6, .inl (upd (upd (upd (upd (upd (fun _ => 0) 1 1) 2 2) 3 3) 4 4) 5 5)))] sz)) (va_A [(h0, .inr (5, [.ref h1, .int 0, .ref h2, .int 0, .int 0, .ref h3, .ref h4, .ref h5, .ref h6, .int 0, .ref h7, .ref h8, .ref h9, .int 0, .ref h10, .ref h11, .ref h12, .ref h13, .ref h14, .ref h15, .ref h16, .ref h17, .ref h18, .ref h19, .ref h20, .ref h21, .ref h22])), (h1, .inl (zI g, 180, .inl (upd (upd (upd (fun _ => 0) 0 60) 1 1) 2 1))), (h5, .inl (zI g, 6, .inl (upd (upd (upd (upd (upd (fun _ => 0) 1 1) 2 2) 3 3) 4 4) 5 5)))] sz)) 0 0 (va_A [(h0, .inr (5, [.ref h1, .int 0, .ref h2, .int 0, .int 0, .ref h3, .ref h4, .ref h5, .ref h6, .int 0, .ref h7, .ref h8, .ref h9, .int 0, .ref h10, .ref h11, .ref h12, .ref h13, .ref h14, .ref h15, .ref h16, .ref h17, .ref h18, .ref h19, .ref h20, .ref h21, .ref h22])), (h1, .inl (zI g, 180, .inl (upd (upd (upd (fun _ => 0) 0 60) 1 1) 2 1))), (h5, .inl (zI g, 6, .inl (upd (upd (upd (upd (upd (fun _ => 0) 1 1) 2 2) 3 3) 4 4) 5 5)))] sz) := by
  refine zMetV rfl (Nat.le_of_ble_eq_true rfl) ?_
  intro p e s m args below meth c A ls hx hb hml hr hlocks hin hown hts hK hN hZ hP hD hA hS hAe hl
  have hown : s.vm.findClass RX5 = some m.cls := hown
  have hl : lv_has ls 3 [(0, .ref h0), (1, .int 0)] := hl
  refine lv_iconst (v := 0) hx hb dX5_hold_0 (by decide) ?_
  refine lv_istore_n (lv' := [(2, .int 0), (0, .ref h0), (1, .int 0)]) hx hb dX5_hold_1 rfl hl (by decide) rfl (fun ls hl => ?_)
  refine lv_iload_n hx hb dX5_hold_2 rfl (lv_at hl 0 rfl) ?_
  refine lv_bipush (v := 6) hx hb dX5_hold_3 (by decide) ?_
  refine lv_icmp_ge (tgt := 21) hx hb dX5_hold_5 (by decide) (fun h => absurd h (by decide +kernel)) (fun _ => ?_)
  refine lv_aload_n hx hb dX5_hold_8 rfl (lv_at hl 1 rfl) ?_
  refine va_get (D := g.1) (ci := 5) (v := .ref h5) (C := RX5) (T := TX5) (N := 27) hx hb hts zl_X5 hown hK hP 0 rfl rfl 7 (by decide) (hts _ m_f_RX5_22) (fun _ h => h) rfl dX5_hold_9 ?_
  refine lv_iload_n hx hb dX5_hold_12 rfl (lv_at hl 0 rfl) ?_
  refine lv_iload_n hx hb dX5_hold_13 rfl (lv_at hl 0 rfl) ?_
  refine va_iast (D := g.1) hx hb hK hP hD hS 2 0 rfl rfl (vp_in_iff.mpr (by decide +kernel)) dX5_hold_14 (fun H locs hP hD hS => ?_)
  have hP : va_P g.1 vwCl [(h0, .inr (5, [.ref h1, .int 0, .ref h2, .int 0, .int 0, .ref h3, .ref h4, .ref h5, .ref h6, .int 0, .ref h7, .ref h8, .ref h9, .int 0, .ref h10, .ref h11, .ref h12, .ref h13, .ref h14, .ref h15, .ref h16, .ref h17, .ref h18, .ref h19, .ref h20, .ref h21, .ref h22])), (h1, .inl (zI g, 180, .inl (upd (upd (upd (fun _ => 0) 0 60) 1 1) 2 1))), (h5, .inl (zI g, 6, .inl (upd (upd (upd (upd (upd (upd (fun _ => 0) 1 1) 2 2) 3 3) 4 4) 5 5) 0 0)))] H := hP
  have hD : va_D A [(h0, .inr (5, [.ref h1, .int 0, .ref h2, .int 0, .int 0, .ref h3, .ref h4, .ref h5, .ref h6, .int 0, .ref h7, .ref h8, .ref h9, .int 0, .ref h10, .ref h11, .ref h12, .ref h13, .ref h14, .ref h15, .ref h16, .ref h17, .ref h18, .ref h19, .ref h20, .ref h21, .ref h22])), (h1, .inl (zI g, 180, .inl (upd (upd (upd (fun _ => 0) 0 60) 1 1) 2 1))), (h5, .inl (zI g, 6, .inl (upd (upd (upd (upd (upd (upd (fun _ => 0) 1 1) 2 2) 3 3) 4 4) 5 5) 0 0)))] := hD
  refine lv_iinc (v := 1) (lv' := [(2, .int 1), (0, .ref h0), (1, .int 0)]) hx hb dX5_hold_15 hl (k := 0) rfl (by decide) (by decide) rfl (fun ls hl => ?_)
  refine lv_goto (tgt := 2) hx hb dX5_hold_18 (by decide) ?_
  refine lv_iload_n hx hb dX5_hold_2 rfl (lv_at hl 0 rfl) ?_
  refine lv_bipush (v := 6) hx hb dX5_hold_3 (by decide) ?_
  refine lv_icmp_ge (tgt := 21) hx hb dX5_hold_5 (by decide) (fun h => absurd h (by decide +kernel)) (fun _ => ?_)
  refine lv_aload_n hx hb dX5_hold_8 rfl (lv_at hl 1 rfl) ?_
  refine va_get (D := g.1) (ci := 5) (v := .ref h5) (C := RX5) (T := TX5) (N := 27) hx hb hts zl_X5 hown hK hP 0 rfl rfl 7 (by decide) (hts _ m_f_RX5_22) (fun _ h => h) rfl dX5_hold_9 ?_
  refine lv_iload_n hx hb dX5_hold_12 rfl (lv_at hl 0 rfl) ?_
  refine lv_iload_n hx hb dX5_hold_13 rfl (lv_at hl 0 rfl) ?_
  refine va_iast (D := g.1) hx hb hK hP hD hS 2 0 rfl rfl (vp_in_iff.mpr (by decide +kernel)) dX5_hold_14 (fun H locs hP hD hS => ?_)
  have hP : va_P g.1 vwCl [(h0, .inr (5, [.ref h1, .int 0, .ref h2, .int 0, .int 0, .ref h3, .ref h4, .ref h5, .ref h6, .int 0, .ref h7, .ref h8, .ref h9, .int 0, .ref h10, .ref h11, .ref h12, .ref h13, .ref h14, .ref h15, .ref h16, .ref h17, .ref h18, .ref h19, .ref h20, .ref h21, .ref h22])), (h1, .inl (zI g, 180, .inl (upd (upd (upd (fun _ => 0) 0 60) 1 1) 2 1))), (h5, .inl (zI g, 6, .inl (upd (upd (upd (upd (upd (upd (upd (fun _ => 0) 1 1) 2 2) 3 3) 4 4) 5 5) 0 0) 1 1)))] H := hP
  have hD : va_D A [(h0, .inr (5, [.ref h1, .int 0, .ref h2, .int 0, .int 0, .ref h3, .ref h4, .ref h5, .ref h6, .int 0, .ref h7, .ref h8, .ref h9, .int 0, .ref h10, .ref h11, .ref h12, .ref h13, .ref h14, .ref h15, .ref h16, .ref h17, .ref h18, .ref h19, .ref h20, .ref h21, .ref h22])), (h1, .inl (zI g, 180, .inl (upd (upd (upd (fun _ => 0) 0 60) 1 1) 2 1))), (h5, .inl (zI g, 6, .inl (upd (upd (upd (upd (upd (upd (upd (fun _ => 0) 1 1) 2 2) 3 3) 4 4) 5 5) 0 0) 1 1)))] := hD
  refine lv_iinc (v := 2) (lv' := [(2, .int 2), (0, .ref h0), (1, .int 0)]) hx hb dX5_hold_15 hl (k := 0) rfl (by decide) (by decide) rfl (fun ls hl => ?_)
  refine lv_goto (tgt := 2) hx hb dX5_hold_18 (by decide) ?_
  refine lv_iload_n hx hb dX5_hold_2 rfl (lv_at hl 0 rfl) ?_
  refine lv_bipush (v := 6) hx hb dX5_hold_3 (by decide) ?_
  refine lv_icmp_ge (tgt := 21) hx hb dX5_hold_5 (by decide) (fun h => absurd h (by decide +kernel)) (fun _ => ?_)
  refine lv_aload_n hx hb dX5_hold_8 rfl (lv_at hl 1 rfl) ?_
  refine va_get (D := g.1) (ci := 5) (v := .ref h5) (C := RX5) (T := TX5) (N := 27) hx hb hts zl_X5 hown hK hP 0 rfl rfl 7 (by decide) (hts _ m_f_RX5_22) (fun _ h => h) rfl dX5_hold_9 ?_
  refine lv_iload_n hx hb dX5_hold_12 rfl (lv_at hl 0 rfl) ?_
  refine lv_iload_n hx hb dX5_hold_13 rfl (lv_at hl 0 rfl) ?_
  refine va_iast (D := g.1) hx hb hK hP hD hS 2 0 rfl rfl (vp_in_iff.mpr (by decide +kernel)) dX5_hold_14 (fun H locs hP hD hS => ?_)
  have hP : va_P g.1 vwCl [(h0, .inr (5, [.ref h1, .int 0, .ref h2, .int 0, .int 0, .ref h3, .ref h4, .ref h5, .ref h6, .int 0, .ref h7, .ref h8, .ref h9, .int 0, .ref h10, .ref h11, .ref h12, .ref h13, .ref h14, .ref h15, .ref h16, .ref h17, .ref h18, .ref h19, .ref h20, .ref h21, .ref h22])), (h1, .inl (zI g, 180, .inl (upd (upd (upd (fun _ => 0) 0 60) 1 1) 2 1))), (h5, .inl (zI g, 6, .inl (upd (upd (upd (upd (upd (upd (upd (upd (fun _ => 0) 1 1) 2 2) 3 3) 4 4) 5 5) 0 0) 1 1) 2 2)))] H := hP
  have hD : va_D A [(h0, .inr (5, [.ref h1, .int 0, .ref h2, .int 0, .int 0, .ref h3, .ref h4, .ref h5, .ref h6, .int 0, .ref h7, .ref h8, .ref h9, .int 0, .ref h10, .ref h11, .ref h12, .ref h13, .ref h14, .ref h15, .ref h16, .ref h17, .ref h18, .ref h19, .ref h20, .ref h21, .ref h22])), (h1, .inl (zI g, 180, .inl (upd (upd (upd (fun _ => 0) 0 60) 1 1) 2 1))), (h5, .inl (zI g, 6, .inl (upd (upd (upd (upd (upd (upd (upd (upd (fun _ => 0) 1 1) 2 2) 3 3) 4 4) 5 5) 0 0) 1 1) 2 2)))] := hD
  refine lv_iinc (v := 3) (lv' := [(2, .int 3), (0, .ref h0), (1, .int 0)]) hx hb dX5_hold_15 hl (k := 0) rfl (by decide) (by decide) rfl (fun ls hl => ?_)
  refine lv_goto (tgt := 2) hx hb dX5_hold_18 (by decide) ?_
  refine lv_iload_n hx hb dX5_hold_2 rfl (lv_at hl 0 rfl) ?_
  refine lv_bipush (v := 6) hx hb dX5_hold_3 (by decide) ?_
  refine lv_icmp_ge (tgt := 21) hx hb dX5_hold_5 (by decide) (fun h => absurd h (by decide +kernel)) (fun _ => ?_)
  refine lv_aload_n hx hb dX5_hold_8 rfl (lv_at hl 1 rfl) ?_
  refine va_get (D := g.1) (ci := 5) (v := .ref h5) (C := RX5) (T := TX5) (N := 27) hx hb hts zl_X5 hown hK hP 0 rfl rfl 7 (by decide) (hts _ m_f_RX5_22) (fun _ h => h) rfl dX5_hold_9 ?_
  refine lv_iload_n hx hb dX5_hold_12 rfl (lv_at hl 0 rfl) ?_
  refine lv_iload_n hx hb dX5_hold_13 rfl (lv_at hl 0 rfl) ?_
  refine va_iast (D := g.1) hx hb hK hP hD hS 2 0 rfl rfl (vp_in_iff.mpr (by decide +kernel)) dX5_hold_14 (fun H locs hP hD hS => ?_)
  have hP : va_P g.1 vwCl [(h0, .inr (5, [.ref h1, .int 0, .ref h2, .int 0, .int 0, .ref h3, .ref h4, .ref h5, .ref h6, .int 0, .ref h7, .ref h8, .ref h9, .int 0, .ref h10, .ref h11, .ref h12, .ref h13, .ref h14, .ref h15, .ref h16, .ref h17, .ref h18, .ref h19, .ref h20, .ref h21, .ref h22])), (h1, .inl (zI g, 180, .inl (upd (upd (upd (fun _ => 0) 0 60) 1 1) 2 1))), (h5, .inl (zI g, 6, .inl (upd (upd (upd (upd (upd (upd (upd (upd (upd (fun _ => 0) 1 1) 2 2) 3 3) 4 4) 5 5) 0 0) 1 1) 2 2) 3 3)))] H := hP
  have hD : va_D A [(h0, .inr (5, [.ref h1, .int 0, .ref h2, .int 0, .int 0, .ref h3, .ref h4, .ref h5, .ref h6, .int 0, .ref h7, .ref h8, .ref h9, .int 0, .ref h10, .ref h11, .ref h12, .ref h13, .ref h14, .ref h15, .ref h16, .ref h17, .ref h18, .ref h19, .ref h20, .ref h21, .ref h22])), (h1, .inl (zI g, 180, .inl (upd (upd (upd (fun _ => 0) 0 60) 1 1) 2 1))), (h5, .inl (zI g, 6, .inl (upd (upd (upd (upd (upd (upd (upd (upd (upd (fun _ => 0) 1 1) 2 2) 3 3) 4 4) 5 5) 0 0) 1 1) 2 2) 3 3)))] := hD
  refine lv_iinc (v := 4) (lv' := [(2, .int 4), (0, .ref h0), (1, .int 0)]) hx hb dX5_hold_15 hl (k := 0) rfl (by decide) (by decide) rfl (fun ls hl => ?_)
  refine lv_goto (tgt := 2) hx hb dX5_hold_18 (by decide) ?_
  refine lv_iload_n hx hb dX5_hold_2 rfl (lv_at hl 0 rfl) ?_
  refine lv_bipush (v := 6) hx hb dX5_hold_3 (by decide) ?_
  refine lv_icmp_ge (tgt := 21) hx hb dX5_hold_5 (by decide) (fun h => absurd h (by decide +kernel)) (fun _ => ?_)
  refine lv_aload_n hx hb dX5_hold_8 rfl (lv_at hl 1 rfl) ?_
  refine va_get (D := g.1) (ci := 5) (v := .ref h5) (C := RX5) (T := TX5) (N := 27) hx hb hts zl_X5 hown hK hP 0 rfl rfl 7 (by decide) (hts _ m_f_RX5_22) (fun _ h => h) rfl dX5_hold_9 ?_
  refine lv_iload_n hx hb dX5_hold_12 rfl (lv_at hl 0 rfl) ?_
  refine lv_iload_n hx hb dX5_hold_13 rfl (lv_at hl 0 rfl) ?_
  refine va_iast (D := g.1) hx hb hK hP hD hS 2 0 rfl rfl (vp_in_iff.mpr (by decide +kernel)) dX5_hold_14 (fun H locs hP hD hS => ?_)
  have hP : va_P g.1 vwCl [(h0, .inr (5, [.ref h1, .int 0, .ref h2, .int 0, .int 0, .ref h3, .ref h4, .ref h5, .ref h6, .int 0, .ref h7, .ref h8, .ref h9, .int 0, .ref h10, .ref h11, .ref h12, .ref h13, .ref h14, .ref h15, .ref h16, .ref h17, .ref h18, .ref h19, .ref h20, .ref h21, .ref h22])), (h1, .inl (zI g, 180, .inl (upd (upd (upd (fun _ => 0) 0 60) 1 1) 2 1))), (h5, .inl (zI g, 6, .inl (upd (upd (upd (upd (upd (upd (upd (upd (upd (upd (fun _ => 0) 1 1) 2 2) 3 3) 4 4) 5 5) 0 0) 1 1) 2 2) 3 3) 4 4)))] H := hP
  have hD : va_D A [(h0, .inr (5, [.ref h1, .int 0, .ref h2, .int 0, .int 0, .ref h3, .ref h4, .ref h5, .ref h6, .int 0, .ref h7, .ref h8, .ref h9, .int 0, .ref h10, .ref h11, .ref h12, .ref h13, .ref h14, .ref h15, .ref h16, .ref h17, .ref h18, .ref h19, .ref h20, .ref h21, .ref h22])), (h1, .inl (zI g, 180, .inl (upd (upd (upd (fun _ => 0) 0 60) 1 1) 2 1))), (h5, .inl (zI g, 6, .inl (upd (upd (upd (upd (upd (upd (upd (upd (upd (upd (fun _ => 0) 1 1) 2 2) 3 3) 4 4) 5 5) 0 0) 1 1) 2 2) 3 3) 4 4)))] := hD
  refine lv_iinc (v := 5) (lv' := [(2, .int 5), (0, .ref h0), (1, .int 0)]) hx hb dX5_hold_15 hl (k := 0) rfl (by decide) (by decide) rfl (fun ls hl => ?_)
  refine lv_goto (tgt := 2) hx hb dX5_hold_18 (by decide) ?_
  refine lv_iload_n hx hb dX5_hold_2 rfl (lv_at hl 0 rfl) ?_
  refine lv_bipush (v := 6) hx hb dX5_hold_3 (by decide) ?_
  refine lv_icmp_ge (tgt := 21) hx hb dX5_hold_5 (by decide) (fun h => absurd h (by decide +kernel)) (fun _ => ?_)
  refine lv_aload_n hx hb dX5_hold_8 rfl (lv_at hl 1 rfl) ?_
  refine va_get (D := g.1) (ci := 5) (v := .ref h5) (C := RX5) (T := TX5) (N := 27) hx hb hts zl_X5 hown hK hP 0 rfl rfl 7 (by decide) (hts _ m_f_RX5_22) (fun _ h => h) rfl dX5_hold_9 ?_
  refine lv_iload_n hx hb dX5_hold_12 rfl (lv_at hl 0 rfl) ?_
  refine lv_iload_n hx hb dX5_hold_13 rfl (lv_at hl 0 rfl) ?_
  refine va_iast (D := g.1) hx hb hK hP hD hS 2 0 rfl rfl (vp_in_iff.mpr (by decide +kernel)) dX5_hold_14 (fun H locs hP hD hS => ?_)
  have hP : va_P g.1 vwCl [(h0, .inr (5, [.ref h1, .int 0, .ref h2, .int 0, .int 0, .ref h3, .ref h4, .ref h5, .ref h6, .int 0, .ref h7, .ref h8, .ref h9, .int 0, .ref h10, .ref h11, .ref h12, .ref h13, .ref h14, .ref h15, .ref h16, .ref h17, .ref h18, .ref h19, .ref h20, .ref h21, .ref h22])), (h1, .inl (zI g, 180, .inl (upd (upd (upd (fun _ => 0) 0 60) 1 1) 2 1))), (h5, .inl (zI g, 6, .inl (upd (upd (upd (upd (upd (upd (upd (upd (upd (upd (upd (fun _ => 0) 1 1) 2 2) 3 3) 4 4) 5 5) 0 0) 1 1) 2 2) 3 3) 4 4) 5 5)))] H := hP
  have hD : va_D A [(h0, .inr (5, [.ref h1, .int 0, .ref h2, .int 0, .int 0, .ref h3, .ref h4, .ref h5, .ref h6, .int 0, .ref h7, .ref h8, .ref h9, .int 0, .ref h10, .ref h11, .ref h12, .ref h13, .ref h14, .ref h15, .ref h16, .ref h17, .ref h18, .ref h19, .ref h20, .ref h21, .ref h22])), (h1, .inl (zI g, 180, .inl (upd (upd (upd (fun _ => 0) 0 60) 1 1) 2 1))), (h5, .inl (zI g, 6, .inl (upd (upd (upd (upd (upd (upd (upd (upd (upd (upd (upd (fun _ => 0) 1 1) 2 2) 3 3) 4 4) 5 5) 0 0) 1 1) 2 2) 3 3) 4 4) 5 5)))] := hD
  refine lv_iinc (v := 6) (lv' := [(2, .int 6), (0, .ref h0), (1, .int 0)]) hx hb dX5_hold_15 hl (k := 0) rfl (by decide) (by decide) rfl (fun ls hl => ?_)
  refine lv_goto (tgt := 2) hx hb dX5_hold_18 (by decide) ?_
  refine lv_iload_n hx hb dX5_hold_2 rfl (lv_at hl 0 rfl) ?_
  refine lv_bipush (v := 6) hx hb dX5_hold_3 (by decide) ?_
  refine lv_icmp_ge (tgt := 21) hx hb dX5_hold_5 (by decide) (fun _ => ?_) (fun h => absurd h (by decide +kernel))
  refine lv_iconst (v := 0) hx hb dX5_hold_21 (by decide) ?_
  refine lv_istore_n (lv' := [(2, .int 0), (0, .ref h0), (1, .int 0)]) hx hb dX5_hold_22 rfl hl (by decide) rfl (fun ls hl => ?_)
  refine lv_iload_n hx hb dX5_hold_23 rfl (lv_at hl 0 rfl) ?_
  refine lv_aload_n hx hb dX5_hold_24 rfl (lv_at hl 1 rfl) ?_
  refine va_get (D := g.1) (ci := 5) (v := .ref h1) (C := RX5) (T := TX5) (N := 27) hx hb hts zl_X5 hown hK hP 0 rfl rfl 0 (by decide) (hts _ m_f_RX5_7) (fun _ h => h) rfl dX5_hold_25 ?_
  refine lv_bipush (v := 12) hx hb dX5_hold_28 (by decide) ?_
  refine va_iald (D := g.1) hx hb hK hP 1 0 rfl rfl (vp_in_iff.mpr (by decide +kernel)) dX5_hold_30 ?_
  refine lv_topi (nm_r (e' := 0) (by rfl) ?_)
  refine lv_icmp_ge (tgt := 55) hx hb dX5_hold_31 (by decide) (fun _ => ?_) (fun h => absurd h (by decide +kernel))
  refine lv_aload_n hx hb dX5_hold_55 rfl (lv_at hl 1 rfl) ?_
  refine lv_iload_n hx hb dX5_hold_56 rfl (lv_at hl 2 rfl) ?_
  refine z_callv (wr := [(h5, .inl (zI g, 6, .inl (upd (upd (upd (upd (upd (upd (upd (upd (upd (upd (upd (fun _ => 0) 1 1) 2 2) 3 3) 4 4) 5 5) 0 0) 1 1) 2 2) 3 3) 4 4) 5 5)))]) hP hD hS hA [0, 1] [2] (by decide) rfl rfl (by decide) (va_runV (As := [.int 0]) (rest := []) ⟨hx, hb, hml, hown, hts⟩ (kX5_goThrough_2 l g h0 h1 h2 h3 h4 h5 h6 h7 h8 h9 h10 h11 h12 h13 h14 h15 h16 h17 h18 h19 h20 h21 h22 H.size) ⟨callB_of 1 hts (zGood m_o_yX5_goThrough) rfl rfl rfl (hts _ m_z_RX5) (hts _ m_m_RX5_191) ⟨by decide +kernel, by decide +kernel, by decide +kernel⟩ ⟨Nat.le_of_ble_eq_true rfl, Nat.le_of_ble_eq_true rfl⟩, hts _ m_i_yX5_goThrough, hts _ m_e_yX5_goThrough⟩ (zPreV hK hN hZ hP hD hS hA [0, 1] (by decide) rfl rfl 5 0 rfl rfl) rfl rfl hl.1 rfl (lv_room (Nat.le_of_ble_eq_true rfl)) dX5_hold_57 ⟨Nat.le_of_ble_eq_true rfl, Nat.le_of_ble_eq_true rfl⟩) (fun u H locs hw hP hD hS => ?_)
  have hP : va_P g.1 vwCl [(h5, .inl (zI g, 6, .inl (upd (upd (upd (upd (upd (upd (upd (upd (upd (upd (upd (fun _ => 0) 1 1) 2 2) 3 3) 4 4) 5 5) 0 0) 1 1) 2 2) 3 3) 4 4) 5 5))), (h0, .inr (5, [.ref h1, .int 0, .ref h2, .int 0, .int 0, .ref h3, .ref h4, .ref h5, .ref h6, .int 0, .ref h7, .ref h8, .ref h9, .int 0, .ref h10, .ref h11, .ref h12, .ref h13, .ref h14, .ref h15, .ref h16, .ref h17, .ref h18, .ref h19, .ref h20, .ref h21, .ref h22])), (h1, .inl (zI g, 180, .inl (upd (upd (upd (fun _ => 0) 0 60) 1 1) 2 1)))] H := hP
  have hD : va_D A [(h5, .inl (zI g, 6, .inl (upd (upd (upd (upd (upd (upd (upd (upd (upd (upd (upd (fun _ => 0) 1 1) 2 2) 3 3) 4 4) 5 5) 0 0) 1 1) 2 2) 3 3) 4 4) 5 5))), (h0, .inr (5, [.ref h1, .int 0, .ref h2, .int 0, .int 0, .ref h3, .ref h4, .ref h5, .ref h6, .int 0, .ref h7, .ref h8, .ref h9, .int 0, .ref h10, .ref h11, .ref h12, .ref h13, .ref h14, .ref h15, .ref h16, .ref h17, .ref h18, .ref h19, .ref h20, .ref h21, .ref h22])), (h1, .inl (zI g, 180, .inl (upd (upd (upd (fun _ => 0) 0 60) 1 1) 2 1)))] := hD
  have hP9 := hP.sub (ws' := [(h5, .inl (zI g, 6, .inl (upd (upd (upd (upd (upd (upd (upd (upd (upd (upd (upd (fun _ => 0) 1 1) 2 2) 3 3) 4 4) 5 5) 0 0) 1 1) 2 2) 3 3) 4 4) 5 5))), (h0, .inr (5, [.ref h1, .int 0, .ref h2, .int 0, .int 0, .ref h3, .ref h4, .ref h5, .ref h6, .int 0, .ref h7, .ref h8, .ref h9, .int 0, .ref h10, .ref h11, .ref h12, .ref h13, .ref h14, .ref h15, .ref h16, .ref h17, .ref h18, .ref h19, .ref h20, .ref h21, .ref h22])), (h1, .inl (zI g, 180, .inl (upd (upd (upd (fun _ => 0) 0 60) 1 1) 2 1)))]) [0, 1, 2] rfl
  have hD9 := hD.sub (ws' := [(h5, .inl (zI g, 6, .inl (upd (upd (upd (upd (upd (upd (upd (upd (upd (upd (upd (fun _ => 0) 1 1) 2 2) 3 3) 4 4) 5 5) 0 0) 1 1) 2 2) 3 3) 4 4) 5 5))), (h0, .inr (5, [.ref h1, .int 0, .ref h2, .int 0, .int 0, .ref h3, .ref h4, .ref h5, .ref h6, .int 0, .ref h7, .ref h8, .ref h9, .int 0, .ref h10, .ref h11, .ref h12, .ref h13, .ref h14, .ref h15, .ref h16, .ref h17, .ref h18, .ref h19, .ref h20, .ref h21, .ref h22])), (h1, .inl (zI g, 180, .inl (upd (upd (upd (fun _ => 0) 0 60) 1 1) 2 1)))]) [0, 1, 2] (by decide) rfl
  exact W.vret hx hb hr (fun t ht hW => ⟨⟨0, rfl, trivial, by rw [ht]; exact hP9, hD9⟩, hS.F ht⟩) hS.2.2 dX5_hold_60
set_option maxHeartbeats 4000000 in
set_option maxRecDepth 100000 in
theorem kX5_openMorning_4 (l : Launch) (g : zG) (h0 h1 h2 h3 h4 h5 h6 h7 h8 h9 h10 h11 h12 h13 h14 h15 h16 h17 h18 h19 h20 h21 h22 : Nat) (sz : Nat) : Met l yX5_openMorning (.code yX5_openMorning cX5_openMorning 2 none :: zBig) ({ frames := 0, cells := 0, slots := 0, locals := 0 }) (va_Pc [.ref h0] (zPre g [(h0, .inr (5, [.ref h22, .int 0, .ref h1, .int 0, .int 0, .ref h2, .ref h3, .ref h21, .ref h4, .int 0, .ref h5, .ref h6, .ref h7, .int 0, .ref h8, .ref h9, .ref h10, .ref h11, .ref h12, .ref h13, .ref h14, .ref h15, .ref h16, .ref h17, .ref h18, .ref h19, .ref h20])), (h22, .inl (zI g, 180, .inl (upd (upd (upd (fun _ => 0) 0 60) 1 1) 2 1)))] sz)) (va_Qv (fun _ : Nat => True) (zPost g (fun _ : Nat => [(h0, .inr (5, [.ref h22, .int 0, .ref h1, .int 0, .int 0, .ref h2, .ref h3, .ref h21, .ref h4, .int 0, .ref h5, .ref h6, .ref h7, .int 0, .ref h8, .ref h9, .ref h10, .ref h11, .ref h12, .ref h13, .ref h14, .ref h15, .ref h16, .ref h17, .ref h18, .ref h19, .ref h20])), (h22, .inl (zI g, 180, .inl (upd (upd (upd (fun _ => 0) 0 60) 1 1) 2 1)))]) (va_A [(h0, .inr (5, [.ref h22, .int 0, .ref h1, .int 0, .int 0, .ref h2, .ref h3, .ref h21, .ref h4, .int 0, .ref h5, .ref h6, .ref h7, .int 0, .ref h8, .ref h9, .ref h10, .ref h11, .ref h12, .ref h13, .ref h14, .ref h15, .ref h16, .ref h17, .ref h18, .ref h19, .ref h20])), (h22, .inl (zI g, 180, .inl (upd (upd (upd (fun _ => 0) 0 60) 1 1) 2 1)))] sz)) (va_A [(h0, .inr (5, [.ref h22, .int 0, .ref h1, .int 0, .int 0, .ref h2, .ref h3, .ref h21, .ref h4, .int 0, .ref h5, .ref h6, .ref h7, .int 0, .ref h8, .ref h9, .ref h10, .ref h11, .ref h12, .ref h13, .ref h14, .ref h15, .ref h16, .ref h17, .ref h18, .ref h19, .ref h20])), (h22, .inl (zI g, 180, .inl (upd (upd (upd (fun _ => 0) 0 60) 1 1) 2 1)))] sz)) 0 0 (va_A [(h0, .inr (5, [.ref h22, .int 0, .ref h1, .int 0, .int 0, .ref h2, .ref h3, .ref h21, .ref h4, .int 0, .ref h5, .ref h6, .ref h7, .int 0, .ref h8, .ref h9, .ref h10, .ref h11, .ref h12, .ref h13, .ref h14, .ref h15, .ref h16, .ref h17, .ref h18, .ref h19, .ref h20])), (h22, .inl (zI g, 180, .inl (upd (upd (upd (fun _ => 0) 0 60) 1 1) 2 1)))] sz) := by
  refine zMetV rfl (Nat.le_of_ble_eq_true rfl) ?_
  intro p e s m args below meth c A ls hx hb hml hr hlocks hin hown hts hK hN hZ hP hD hA hS hAe hl
  have hown : s.vm.findClass RX5 = some m.cls := hown
  have hl : lv_has ls 2 [(0, .ref h0)] := hl
  refine lv_aload_n hx hb dX5_openMorning_0 rfl (lv_at hl 0 rfl) ?_
  refine lv_iconst (v := 0) hx hb dX5_openMorning_1 (by decide) ?_
  refine va_put (D := g.1) (ci := 5) (v := .int 0) (ty := .int) (C := RX5) (T := TX5) (N := 27) hx hb hts zl_X5 tyX5 tyX5_ok nmX5 hown hK hP hD hS 0 rfl rfl 13 (by decide) (hts _ m_f_RX5_147) (fun _ h => h) rfl (by decide +kernel) rfl rfl (Nat.le_of_ble_eq_true rfl) dX5_openMorning_2 (fun H locs hP hD hS => ?_)
  have hP : va_P g.1 vwCl [(h0, .inr (5, [.ref h22, .int 0, .ref h1, .int 0, .int 0, .ref h2, .ref h3, .ref h21, .ref h4, .int 0, .ref h5, .ref h6, .ref h7, .int 0, .ref h8, .ref h9, .ref h10, .ref h11, .ref h12, .ref h13, .ref h14, .ref h15, .ref h16, .ref h17, .ref h18, .ref h19, .ref h20])), (h22, .inl (zI g, 180, .inl (upd (upd (upd (fun _ => 0) 0 60) 1 1) 2 1)))] H := hP
  have hD : va_D A [(h0, .inr (5, [.ref h22, .int 0, .ref h1, .int 0, .int 0, .ref h2, .ref h3, .ref h21, .ref h4, .int 0, .ref h5, .ref h6, .ref h7, .int 0, .ref h8, .ref h9, .ref h10, .ref h11, .ref h12, .ref h13, .ref h14, .ref h15, .ref h16, .ref h17, .ref h18, .ref h19, .ref h20])), (h22, .inl (zI g, 180, .inl (upd (upd (upd (fun _ => 0) 0 60) 1 1) 2 1)))] := hD
  refine lv_iconst (v := 0) hx hb dX5_openMorning_5 (by decide) ?_
  refine lv_istore_n (lv' := [(1, .int 0), (0, .ref h0)]) hx hb dX5_openMorning_6 rfl hl (by decide) rfl (fun ls hl => ?_)
  refine lv_iload_n hx hb dX5_openMorning_7 rfl (lv_at hl 0 rfl) ?_
  refine lv_aload_n hx hb dX5_openMorning_8 rfl (lv_at hl 1 rfl) ?_
  refine va_get (D := g.1) (ci := 5) (v := .ref h22) (C := RX5) (T := TX5) (N := 27) hx hb hts zl_X5 hown hK hP 0 rfl rfl 0 (by decide) (hts _ m_f_RX5_7) (fun _ h => h) rfl dX5_openMorning_9 ?_
  refine lv_bipush (v := 12) hx hb dX5_openMorning_12 (by decide) ?_
  refine va_iald (D := g.1) hx hb hK hP 1 0 rfl rfl (vp_in_iff.mpr (by decide +kernel)) dX5_openMorning_14 ?_
  refine lv_topi (nm_r (e' := 0) (by rfl) ?_)
  refine lv_icmp_ge (tgt := 70) hx hb dX5_openMorning_15 (by decide) (fun _ => ?_) (fun h => absurd h (by decide +kernel))
  have hP9 := hP.sub (ws' := [(h0, .inr (5, [.ref h22, .int 0, .ref h1, .int 0, .int 0, .ref h2, .ref h3, .ref h21, .ref h4, .int 0, .ref h5, .ref h6, .ref h7, .int 0, .ref h8, .ref h9, .ref h10, .ref h11, .ref h12, .ref h13, .ref h14, .ref h15, .ref h16, .ref h17, .ref h18, .ref h19, .ref h20])), (h22, .inl (zI g, 180, .inl (upd (upd (upd (fun _ => 0) 0 60) 1 1) 2 1)))]) [0, 1] rfl
  have hD9 := hD.sub (ws' := [(h0, .inr (5, [.ref h22, .int 0, .ref h1, .int 0, .int 0, .ref h2, .ref h3, .ref h21, .ref h4, .int 0, .ref h5, .ref h6, .ref h7, .int 0, .ref h8, .ref h9, .ref h10, .ref h11, .ref h12, .ref h13, .ref h14, .ref h15, .ref h16, .ref h17, .ref h18, .ref h19, .ref h20])), (h22, .inl (zI g, 180, .inl (upd (upd (upd (fun _ => 0) 0 60) 1 1) 2 1)))]) [0, 1] (by decide) rfl
  exact W.vret hx hb hr (fun t ht hW => ⟨⟨0, rfl, trivial, by rw [ht]; exact hP9, hD9⟩, hS.F ht⟩) hS.2.2 dX5_openMorning_70
set_option maxHeartbeats 4000000 in
set_option maxRecDepth 100000 in
theorem kX5_in_22 (l : Launch) (g : zG) (sz : Nat) (p0 : Int64) : Met l yX5_in (.code yX5_in cX5_in 6 (some .boolean) :: zBig) ({ frames := 0, cells := 0, slots := 0, locals := 0 }) (va_Pc [.long p0, .long 0, .long 2] (zPre g [] sz)) (va_Qi (fun (r : Int32) (_ : Nat) => ((p0 : Int64).toInt < 0 ∧ r = 0) ∨ (0 ≤ (p0 : Int64).toInt ∧ 2 < (p0 : Int64).toInt ∧ r = 0) ∨ (0 ≤ (p0 : Int64).toInt ∧ (p0 : Int64).toInt ≤ 2 ∧ r = 1)) (zPost g (fun _ : Nat => []) (va_A [] sz)) (va_A [] sz)) 0 0 (va_A [] sz) := by
  refine zMetI rfl (Nat.le_of_ble_eq_true rfl) ?_
  intro p e s m args below meth c A ls hx hb hml hr hlocks hin hown hts hK hN hZ hP hD hA hS hAe hl
  have hown : s.vm.findClass RX5 = some m.cls := hown
  have hl : lv_has ls 6 [(0, .long p0), (2, .long 0), (4, .long 2)] := hl
  refine lv_lload_n hx hb dX5_in_0 rfl (lv_at hl 0 rfl) ?_
  refine lv_lload_n hx hb dX5_in_1 rfl (lv_at hl 1 rfl) ?_
  refine W.lcmp hx hb dX5_in_2 ?_
  refine lv_if_lt (tgt := 17) hx hb dX5_in_3 (by decide) (fun c_0 => ?_) (fun c_0 => ?_)
  · have i_0 : (p0 : Int64).toInt < 0 := zl_lt (rfl) (rfl) ((lg_cmp_lt _ _).mp c_0)
    refine lv_iconst (v := 0) hx hb dX5_in_17 (by decide) ?_
    have hP9 := hP.sub (ws' := []) [] rfl
    have hD9 := hD.sub (ws' := []) [] (by decide) rfl
    exact W.zret (v := 0) hx hb hr (by decide) (fun t ht hW => ⟨⟨0, 0, rfl, Or.inl ⟨i_0, rfl⟩, by rw [ht]; exact hP9, hD9⟩, hS.F ht⟩) hS.2.2 dX5_in_18
  · have i_0 : 0 ≤ (p0 : Int64).toInt := zl_nlt (rfl) (rfl) (fun h => c_0 ((lg_cmp_lt _ _).mpr h))
    refine lv_lload_n hx hb dX5_in_6 rfl (lv_at hl 0 rfl) ?_
    refine lv_lload hx hb dX5_in_7 (lv_at hl 2 rfl) ?_
    refine W.lcmp hx hb dX5_in_9 ?_
    refine lv_if_gt (tgt := 17) hx hb dX5_in_10 (by decide) (fun c_1 => ?_) (fun c_1 => ?_)
    · have i_1 : 2 < (p0 : Int64).toInt := zl_lt (rfl) (rfl) ((lg_cmp_gt _ _).mp c_1)
      refine lv_iconst (v := 0) hx hb dX5_in_17 (by decide) ?_
      have hP9 := hP.sub (ws' := []) [] rfl
      have hD9 := hD.sub (ws' := []) [] (by decide) rfl
      exact W.zret (v := 0) hx hb hr (by decide) (fun t ht hW => ⟨⟨0, 0, rfl, Or.inr (Or.inl ⟨i_0, i_1, rfl⟩), by rw [ht]; exact hP9, hD9⟩, hS.F ht⟩) hS.2.2 dX5_in_18
    · have i_1 : (p0 : Int64).toInt ≤ 2 := zl_nlt (rfl) (rfl) (fun h => c_1 ((lg_cmp_gt _ _).mpr h))
      refine lv_iconst (v := 1) hx hb dX5_in_13 (by decide) ?_
      refine lv_goto (tgt := 18) hx hb dX5_in_14 (by decide) ?_
      have hP9 := hP.sub (ws' := []) [] rfl
      have hD9 := hD.sub (ws' := []) [] (by decide) rfl
      exact W.zret (v := 1) hx hb hr (by decide) (fun t ht hW => ⟨⟨1, 0, rfl, Or.inr (Or.inr (⟨i_0, i_1, rfl⟩)), by rw [ht]; exact hP9, hD9⟩, hS.F ht⟩) hS.2.2 dX5_in_18
set_option maxHeartbeats 4000000 in
set_option maxRecDepth 100000 in
theorem kX5_hold_2 (l : Launch) (g : zG) (h0 h1 h2 h3 h4 h5 h6 h7 h8 h9 h10 h11 h12 h13 h14 h15 h16 h17 h18 h19 h20 h21 h22 : Nat) (sz : Nat) : Met l yX5_hold (.code yX5_hold cX5_hold 3 none :: zBig) ({ frames := 2, cells := 0, slots := 0, locals := 43 }) (va_Pc [.ref h0, .int 0] (zPre g [(h0, .inr (5, [.ref h1, .int 0, .ref h2, .int 0, .int 0, .ref h3, .ref h4, .ref h5, .ref h6, .int 0, .ref h7, .ref h8, .ref h9, .int 0, .ref h10, .ref h11, .ref h12, .ref h13, .ref h14, .ref h15, .ref h16, .ref h17, .ref h18, .ref h19, .ref h20, .ref h21, .ref h22])), (h1, .inl (zI g, 180, .inl (upd (upd (upd (fun _ => 0) 0 60) 1 1) 2 1))), (h5, .inl (zI g, 6, .inl (upd (upd (upd (upd (upd (fun _ => 0) 1 1) 2 2) 3 3) 4 4) 5 5)))] sz)) (va_Qv (fun _ : Nat => True) (zPost g (fun _ : Nat => [(h5, .inl (zI g, 6, .inl (upd (upd (upd (upd (upd (upd (upd (upd (upd (upd (upd (fun _ => 0) 1 1) 2 2) 3 3) 4 4) 5 5) 0 0) 1 1) 2 2) 3 3) 4 4) 5 5))), (h0, .inr (5, [.ref h1, .int 0, .ref h2, .int 0, .int 0, .ref h3, .ref h4, .ref h5, .ref h6, .int 0, .ref h7, .ref h8, .ref h9, .int 0, .ref h10, .ref h11, .ref h12, .ref h13, .ref h14, .ref h15, .ref h16, .ref h17, .ref h18, .ref h19, .ref h20, .ref h21, .ref h22])), (h1, .inl (zI g, 180, .inl (upd (upd (upd (fun _ => 0) 0 60) 1 1) 2 1)))]) (va_A [(h0, .inr (5, [.ref h1, .int 0, .ref h2, .int 0, .int 0, .ref h3, .ref h4, .ref h5, .ref h6, .int 0, .ref h7, .ref h8, .ref h9, .int 0, .ref h10, .ref h11, .ref h12, .ref h13, .ref h14, .ref h15, .ref h16, .ref h17, .ref h18, .ref h19, .ref h20, .ref h21, .ref h22])), (h1, .inl (zI g, 180, .inl (upd (upd (upd (fun _ => 0) 0 60) 1 1) 2 1))), (h5, .inl (zI g, 6, .inl (upd (upd (upd (upd (upd (fun _ => 0) 1 1) 2 2) 3 3) 4 4) 5 5)))] sz)) (va_A [(h0, .inr (5, [.ref h1, .int 0, .ref h2, .int 0, .int 0, .ref h3, .ref h4, .ref h5, .ref h6, .int 0, .ref h7, .ref h8, .ref h9, .int 0, .ref h10, .ref h11, .ref h12, .ref h13, .ref h14, .ref h15, .ref h16, .ref h17, .ref h18, .ref h19, .ref h20, .ref h21, .ref h22])), (h1, .inl (zI g, 180, .inl (upd (upd (upd (fun _ => 0) 0 60) 1 1) 2 1))), (h5, .inl (zI g, 6, .inl (upd (upd (upd (upd (upd (fun _ => 0) 1 1) 2 2) 3 3) 4 4) 5 5)))] sz)) 0 0 (va_A [(h0, .inr (5, [.ref h1, .int 0, .ref h2, .int 0, .int 0, .ref h3, .ref h4, .ref h5, .ref h6, .int 0, .ref h7, .ref h8, .ref h9, .int 0, .ref h10, .ref h11, .ref h12, .ref h13, .ref h14, .ref h15, .ref h16, .ref h17, .ref h18, .ref h19, .ref h20, .ref h21, .ref h22])), (h1, .inl (zI g, 180, .inl (upd (upd (upd (fun _ => 0) 0 60) 1 1) 2 1))), (h5, .inl (zI g, 6, .inl (upd (upd (upd (upd (upd (fun _ => 0) 1 1) 2 2) 3 3) 4 4) 5 5)))] sz) := by
  refine zMetV rfl (Nat.le_of_ble_eq_true rfl) ?_
  intro p e s m args below meth c A ls hx hb hml hr hlocks hin hown hts hK hN hZ hP hD hA hS hAe hl
  have hown : s.vm.findClass RX5 = some m.cls := hown
  have hl : lv_has ls 3 [(0, .ref h0), (1, .int 0)] := hl
  refine lv_iconst (v := 0) hx hb dX5_hold_0 (by decide) ?_
  refine lv_istore_n (lv' := [(2, .int 0), (0, .ref h0), (1, .int 0)]) hx hb dX5_hold_1 rfl hl (by decide) rfl (fun ls hl => ?_)
  refine lv_iload_n hx hb dX5_hold_2 rfl (lv_at hl 0 rfl) ?_
  refine lv_bipush (v := 6) hx hb dX5_hold_3 (by decide) ?_
  refine lv_icmp_ge (tgt := 21) hx hb dX5_hold_5 (by decide) (fun h => absurd h (by decide +kernel)) (fun _ => ?_)
  refine lv_aload_n hx hb dX5_hold_8 rfl (lv_at hl 1 rfl) ?_
  refine va_get (D := g.1) (ci := 5) (v := .ref h5) (C := RX5) (T := TX5) (N := 27) hx hb hts zl_X5 hown hK hP 0 rfl rfl 7 (by decide) (hts _ m_f_RX5_22) (fun _ h => h) rfl dX5_hold_9 ?_
  refine lv_iload_n hx hb dX5_hold_12 rfl (lv_at hl 0 rfl) ?_
  refine lv_iload_n hx hb dX5_hold_13 rfl (lv_at hl 0 rfl) ?_
  refine va_iast (D := g.1) hx hb hK hP hD hS 2 0 rfl rfl (vp_in_iff.mpr (by decide +kernel)) dX5_hold_14 (fun H locs hP hD hS => ?_)
  have hP : va_P g.1 vwCl [(h0, .inr (5, [.ref h1, .int 0, .ref h2, .int 0, .int 0, .ref h3, .ref h4, .ref h5, .ref h6, .int 0, .ref h7, .ref h8, .ref h9, .int 0, .ref h10, .ref h11, .ref h12, .ref h13, .ref h14, .ref h15, .ref h16, .ref h17, .ref h18, .ref h19, .ref h20, .ref h21, .ref h22])), (h1, .inl (zI g, 180, .inl (upd (upd (upd (fun _ => 0) 0 60) 1 1) 2 1))), (h5, .inl (zI g, 6, .inl (upd (upd (upd (upd (upd (upd (fun _ => 0) 1 1) 2 2) 3 3) 4 4) 5 5) 0 0)))] H := hP
  have hD : va_D A [(h0, .inr (5, [.ref h1, .int 0, .ref h2, .int 0, .int 0, .ref h3, .ref h4, .ref h5, .ref h6, .int 0, .ref h7, .ref h8, .ref h9, .int 0, .ref h10, .ref h11, .ref h12, .ref h13, .ref h14, .ref h15, .ref h16, .ref h17, .ref h18, .ref h19, .ref h20, .ref h21, .ref h22])), (h1, .inl (zI g, 180, .inl (upd (upd (upd (fun _ => 0) 0 60) 1 1) 2 1))), (h5, .inl (zI g, 6, .inl (upd (upd (upd (upd (upd (upd (fun _ => 0) 1 1) 2 2) 3 3) 4 4) 5 5) 0 0)))] := hD
  refine lv_iinc (v := 1) (lv' := [(2, .int 1), (0, .ref h0), (1, .int 0)]) hx hb dX5_hold_15 hl (k := 0) rfl (by decide) (by decide) rfl (fun ls hl => ?_)
  refine lv_goto (tgt := 2) hx hb dX5_hold_18 (by decide) ?_
  refine lv_iload_n hx hb dX5_hold_2 rfl (lv_at hl 0 rfl) ?_
  refine lv_bipush (v := 6) hx hb dX5_hold_3 (by decide) ?_
  refine lv_icmp_ge (tgt := 21) hx hb dX5_hold_5 (by decide) (fun h => absurd h (by decide +kernel)) (fun _ => ?_)
  refine lv_aload_n hx hb dX5_hold_8 rfl (lv_at hl 1 rfl) ?_
  refine va_get (D := g.1) (ci := 5) (v := .ref h5) (C := RX5) (T := TX5) (N := 27) hx hb hts zl_X5 hown hK hP 0 rfl rfl 7 (by decide) (hts _ m_f_RX5_22) (fun _ h => h) rfl dX5_hold_9 ?_
  refine lv_iload_n hx hb dX5_hold_12 rfl (lv_at hl 0 rfl) ?_
  refine lv_iload_n hx hb dX5_hold_13 rfl (lv_at hl 0 rfl) ?_
  refine va_iast (D := g.1) hx hb hK hP hD hS 2 0 rfl rfl (vp_in_iff.mpr (by decide +kernel)) dX5_hold_14 (fun H locs hP hD hS => ?_)
  have hP : va_P g.1 vwCl [(h0, .inr (5, [.ref h1, .int 0, .ref h2, .int 0, .int 0, .ref h3, .ref h4, .ref h5, .ref h6, .int 0, .ref h7, .ref h8, .ref h9, .int 0, .ref h10, .ref h11, .ref h12, .ref h13, .ref h14, .ref h15, .ref h16, .ref h17, .ref h18, .ref h19, .ref h20, .ref h21, .ref h22])), (h1, .inl (zI g, 180, .inl (upd (upd (upd (fun _ => 0) 0 60) 1 1) 2 1))), (h5, .inl (zI g, 6, .inl (upd (upd (upd (upd (upd (upd (upd (fun _ => 0) 1 1) 2 2) 3 3) 4 4) 5 5) 0 0) 1 1)))] H := hP
  have hD : va_D A [(h0, .inr (5, [.ref h1, .int 0, .ref h2, .int 0, .int 0, .ref h3, .ref h4, .ref h5, .ref h6, .int 0, .ref h7, .ref h8, .ref h9, .int 0, .ref h10, .ref h11, .ref h12, .ref h13, .ref h14, .ref h15, .ref h16, .ref h17, .ref h18, .ref h19, .ref h20, .ref h21, .ref h22])), (h1, .inl (zI g, 180, .inl (upd (upd (upd (fun _ => 0) 0 60) 1 1) 2 1))), (h5, .inl (zI g, 6, .inl (upd (upd (upd (upd (upd (upd (upd (fun _ => 0) 1 1) 2 2) 3 3) 4 4) 5 5) 0 0) 1 1)))] := hD
  refine lv_iinc (v := 2) (lv' := [(2, .int 2), (0, .ref h0), (1, .int 0)]) hx hb dX5_hold_15 hl (k := 0) rfl (by decide) (by decide) rfl (fun ls hl => ?_)
  refine lv_goto (tgt := 2) hx hb dX5_hold_18 (by decide) ?_
  refine lv_iload_n hx hb dX5_hold_2 rfl (lv_at hl 0 rfl) ?_
  refine lv_bipush (v := 6) hx hb dX5_hold_3 (by decide) ?_
  refine lv_icmp_ge (tgt := 21) hx hb dX5_hold_5 (by decide) (fun h => absurd h (by decide +kernel)) (fun _ => ?_)
  refine lv_aload_n hx hb dX5_hold_8 rfl (lv_at hl 1 rfl) ?_
  refine va_get (D := g.1) (ci := 5) (v := .ref h5) (C := RX5) (T := TX5) (N := 27) hx hb hts zl_X5 hown hK hP 0 rfl rfl 7 (by decide) (hts _ m_f_RX5_22) (fun _ h => h) rfl dX5_hold_9 ?_
  refine lv_iload_n hx hb dX5_hold_12 rfl (lv_at hl 0 rfl) ?_
  refine lv_iload_n hx hb dX5_hold_13 rfl (lv_at hl 0 rfl) ?_
  refine va_iast (D := g.1) hx hb hK hP hD hS 2 0 rfl rfl (vp_in_iff.mpr (by decide +kernel)) dX5_hold_14 (fun H locs hP hD hS => ?_)
  have hP : va_P g.1 vwCl [(h0, .inr (5, [.ref h1, .int 0, .ref h2, .int 0, .int 0, .ref h3, .ref h4, .ref h5, .ref h6, .int 0, .ref h7, .ref h8, .ref h9, .int 0, .ref h10, .ref h11, .ref h12, .ref h13, .ref h14, .ref h15, .ref h16, .ref h17, .ref h18, .ref h19, .ref h20, .ref h21, .ref h22])), (h1, .inl (zI g, 180, .inl (upd (upd (upd (fun _ => 0) 0 60) 1 1) 2 1))), (h5, .inl (zI g, 6, .inl (upd (upd (upd (upd (upd (upd (upd (upd (fun _ => 0) 1 1) 2 2) 3 3) 4 4) 5 5) 0 0) 1 1) 2 2)))] H := hP
  have hD : va_D A [(h0, .inr (5, [.ref h1, .int 0, .ref h2, .int 0, .int 0, .ref h3, .ref h4, .ref h5, .ref h6, .int 0, .ref h7, .ref h8, .ref h9, .int 0, .ref h10, .ref h11, .ref h12, .ref h13, .ref h14, .ref h15, .ref h16, .ref h17, .ref h18, .ref h19, .ref h20, .ref h21, .ref h22])), (h1, .inl (zI g, 180, .inl (upd (upd (upd (fun _ => 0) 0 60) 1 1) 2 1))), (h5, .inl (zI g, 6, .inl (upd (upd (upd (upd (upd (upd (upd (upd (fun _ => 0) 1 1) 2 2) 3 3) 4 4) 5 5) 0 0) 1 1) 2 2)))] := hD
  refine lv_iinc (v := 3) (lv' := [(2, .int 3), (0, .ref h0), (1, .int 0)]) hx hb dX5_hold_15 hl (k := 0) rfl (by decide) (by decide) rfl (fun ls hl => ?_)
  refine lv_goto (tgt := 2) hx hb dX5_hold_18 (by decide) ?_
  refine lv_iload_n hx hb dX5_hold_2 rfl (lv_at hl 0 rfl) ?_
  refine lv_bipush (v := 6) hx hb dX5_hold_3 (by decide) ?_
  refine lv_icmp_ge (tgt := 21) hx hb dX5_hold_5 (by decide) (fun h => absurd h (by decide +kernel)) (fun _ => ?_)
  refine lv_aload_n hx hb dX5_hold_8 rfl (lv_at hl 1 rfl) ?_
  refine va_get (D := g.1) (ci := 5) (v := .ref h5) (C := RX5) (T := TX5) (N := 27) hx hb hts zl_X5 hown hK hP 0 rfl rfl 7 (by decide) (hts _ m_f_RX5_22) (fun _ h => h) rfl dX5_hold_9 ?_
  refine lv_iload_n hx hb dX5_hold_12 rfl (lv_at hl 0 rfl) ?_
  refine lv_iload_n hx hb dX5_hold_13 rfl (lv_at hl 0 rfl) ?_
  refine va_iast (D := g.1) hx hb hK hP hD hS 2 0 rfl rfl (vp_in_iff.mpr (by decide +kernel)) dX5_hold_14 (fun H locs hP hD hS => ?_)
  have hP : va_P g.1 vwCl [(h0, .inr (5, [.ref h1, .int 0, .ref h2, .int 0, .int 0, .ref h3, .ref h4, .ref h5, .ref h6, .int 0, .ref h7, .ref h8, .ref h9, .int 0, .ref h10, .ref h11, .ref h12, .ref h13, .ref h14, .ref h15, .ref h16, .ref h17, .ref h18, .ref h19, .ref h20, .ref h21, .ref h22])), (h1, .inl (zI g, 180, .inl (upd (upd (upd (fun _ => 0) 0 60) 1 1) 2 1))), (h5, .inl (zI g, 6, .inl (upd (upd (upd (upd (upd (upd (upd (upd (upd (fun _ => 0) 1 1) 2 2) 3 3) 4 4) 5 5) 0 0) 1 1) 2 2) 3 3)))] H := hP
  have hD : va_D A [(h0, .inr (5, [.ref h1, .int 0, .ref h2, .int 0, .int 0, .ref h3, .ref h4, .ref h5, .ref h6, .int 0, .ref h7, .ref h8, .ref h9, .int 0, .ref h10, .ref h11, .ref h12, .ref h13, .ref h14, .ref h15, .ref h16, .ref h17, .ref h18, .ref h19, .ref h20, .ref h21, .ref h22])), (h1, .inl (zI g, 180, .inl (upd (upd (upd (fun _ => 0) 0 60) 1 1) 2 1))), (h5, .inl (zI g, 6, .inl (upd (upd (upd (upd (upd (upd (upd (upd (upd (fun _ => 0) 1 1) 2 2) 3 3) 4 4) 5 5) 0 0) 1 1) 2 2) 3 3)))] := hD
  refine lv_iinc (v := 4) (lv' := [(2, .int 4), (0, .ref h0), (1, .int 0)]) hx hb dX5_hold_15 hl (k := 0) rfl (by decide) (by decide) rfl (fun ls hl => ?_)
  refine lv_goto (tgt := 2) hx hb dX5_hold_18 (by decide) ?_
  refine lv_iload_n hx hb dX5_hold_2 rfl (lv_at hl 0 rfl) ?_
  refine lv_bipush (v := 6) hx hb dX5_hold_3 (by decide) ?_
  refine lv_icmp_ge (tgt := 21) hx hb dX5_hold_5 (by decide) (fun h => absurd h (by decide +kernel)) (fun _ => ?_)
  refine lv_aload_n hx hb dX5_hold_8 rfl (lv_at hl 1 rfl) ?_
  refine va_get (D := g.1) (ci := 5) (v := .ref h5) (C := RX5) (T := TX5) (N := 27) hx hb hts zl_X5 hown hK hP 0 rfl rfl 7 (by decide) (hts _ m_f_RX5_22) (fun _ h => h) rfl dX5_hold_9 ?_
  refine lv_iload_n hx hb dX5_hold_12 rfl (lv_at hl 0 rfl) ?_
  refine lv_iload_n hx hb dX5_hold_13 rfl (lv_at hl 0 rfl) ?_
  refine va_iast (D := g.1) hx hb hK hP hD hS 2 0 rfl rfl (vp_in_iff.mpr (by decide +kernel)) dX5_hold_14 (fun H locs hP hD hS => ?_)
  have hP : va_P g.1 vwCl [(h0, .inr (5, [.ref h1, .int 0, .ref h2, .int 0, .int 0, .ref h3, .ref h4, .ref h5, .ref h6, .int 0, .ref h7, .ref h8, .ref h9, .int 0, .ref h10, .ref h11, .ref h12, .ref h13, .ref h14, .ref h15, .ref h16, .ref h17, .ref h18, .ref h19, .ref h20, .ref h21, .ref h22])), (h1, .inl (zI g, 180, .inl (upd (upd (upd (fun _ => 0) 0 60) 1 1) 2 1))), (h5, .inl (zI g, 6, .inl (upd (upd (upd (upd (upd (upd (upd (upd (upd (upd (fun _ => 0) 1 1) 2 2) 3 3) 4 4) 5 5) 0 0) 1 1) 2 2) 3 3) 4 4)))] H := hP
  have hD : va_D A [(h0, .inr (5, [.ref h1, .int 0, .ref h2, .int 0, .int 0, .ref h3, .ref h4, .ref h5, .ref h6, .int 0, .ref h7, .ref h8, .ref h9, .int 0, .ref h10, .ref h11, .ref h12, .ref h13, .ref h14, .ref h15, .ref h16, .ref h17, .ref h18, .ref h19, .ref h20, .ref h21, .ref h22])), (h1, .inl (zI g, 180, .inl (upd (upd (upd (fun _ => 0) 0 60) 1 1) 2 1))), (h5, .inl (zI g, 6, .inl (upd (upd (upd (upd (upd (upd (upd (upd (upd (upd (fun _ => 0) 1 1) 2 2) 3 3) 4 4) 5 5) 0 0) 1 1) 2 2) 3 3) 4 4)))] := hD
  refine lv_iinc (v := 5) (lv' := [(2, .int 5), (0, .ref h0), (1, .int 0)]) hx hb dX5_hold_15 hl (k := 0) rfl (by decide) (by decide) rfl (fun ls hl => ?_)
  refine lv_goto (tgt := 2) hx hb dX5_hold_18 (by decide) ?_
  refine lv_iload_n hx hb dX5_hold_2 rfl (lv_at hl 0 rfl) ?_
  refine lv_bipush (v := 6) hx hb dX5_hold_3 (by decide) ?_
  refine lv_icmp_ge (tgt := 21) hx hb dX5_hold_5 (by decide) (fun h => absurd h (by decide +kernel)) (fun _ => ?_)
  refine lv_aload_n hx hb dX5_hold_8 rfl (lv_at hl 1 rfl) ?_
  refine va_get (D := g.1) (ci := 5) (v := .ref h5) (C := RX5) (T := TX5) (N := 27) hx hb hts zl_X5 hown hK hP 0 rfl rfl 7 (by decide) (hts _ m_f_RX5_22) (fun _ h => h) rfl dX5_hold_9 ?_
  refine lv_iload_n hx hb dX5_hold_12 rfl (lv_at hl 0 rfl) ?_
  refine lv_iload_n hx hb dX5_hold_13 rfl (lv_at hl 0 rfl) ?_
  refine va_iast (D := g.1) hx hb hK hP hD hS 2 0 rfl rfl (vp_in_iff.mpr (by decide +kernel)) dX5_hold_14 (fun H locs hP hD hS => ?_)
  have hP : va_P g.1 vwCl [(h0, .inr (5, [.ref h1, .int 0, .ref h2, .int 0, .int 0, .ref h3, .ref h4, .ref h5, .ref h6, .int 0, .ref h7, .ref h8, .ref h9, .int 0, .ref h10, .ref h11, .ref h12, .ref h13, .ref h14, .ref h15, .ref h16, .ref h17, .ref h18, .ref h19, .ref h20, .ref h21, .ref h22])), (h1, .inl (zI g, 180, .inl (upd (upd (upd (fun _ => 0) 0 60) 1 1) 2 1))), (h5, .inl (zI g, 6, .inl (upd (upd (upd (upd (upd (upd (upd (upd (upd (upd (upd (fun _ => 0) 1 1) 2 2) 3 3) 4 4) 5 5) 0 0) 1 1) 2 2) 3 3) 4 4) 5 5)))] H := hP
  have hD : va_D A [(h0, .inr (5, [.ref h1, .int 0, .ref h2, .int 0, .int 0, .ref h3, .ref h4, .ref h5, .ref h6, .int 0, .ref h7, .ref h8, .ref h9, .int 0, .ref h10, .ref h11, .ref h12, .ref h13, .ref h14, .ref h15, .ref h16, .ref h17, .ref h18, .ref h19, .ref h20, .ref h21, .ref h22])), (h1, .inl (zI g, 180, .inl (upd (upd (upd (fun _ => 0) 0 60) 1 1) 2 1))), (h5, .inl (zI g, 6, .inl (upd (upd (upd (upd (upd (upd (upd (upd (upd (upd (upd (fun _ => 0) 1 1) 2 2) 3 3) 4 4) 5 5) 0 0) 1 1) 2 2) 3 3) 4 4) 5 5)))] := hD
  refine lv_iinc (v := 6) (lv' := [(2, .int 6), (0, .ref h0), (1, .int 0)]) hx hb dX5_hold_15 hl (k := 0) rfl (by decide) (by decide) rfl (fun ls hl => ?_)
  refine lv_goto (tgt := 2) hx hb dX5_hold_18 (by decide) ?_
  refine lv_iload_n hx hb dX5_hold_2 rfl (lv_at hl 0 rfl) ?_
  refine lv_bipush (v := 6) hx hb dX5_hold_3 (by decide) ?_
  refine lv_icmp_ge (tgt := 21) hx hb dX5_hold_5 (by decide) (fun _ => ?_) (fun h => absurd h (by decide +kernel))
  refine lv_iconst (v := 0) hx hb dX5_hold_21 (by decide) ?_
  refine lv_istore_n (lv' := [(2, .int 0), (0, .ref h0), (1, .int 0)]) hx hb dX5_hold_22 rfl hl (by decide) rfl (fun ls hl => ?_)
  refine lv_iload_n hx hb dX5_hold_23 rfl (lv_at hl 0 rfl) ?_
  refine lv_aload_n hx hb dX5_hold_24 rfl (lv_at hl 1 rfl) ?_
  refine va_get (D := g.1) (ci := 5) (v := .ref h1) (C := RX5) (T := TX5) (N := 27) hx hb hts zl_X5 hown hK hP 0 rfl rfl 0 (by decide) (hts _ m_f_RX5_7) (fun _ h => h) rfl dX5_hold_25 ?_
  refine lv_bipush (v := 12) hx hb dX5_hold_28 (by decide) ?_
  refine va_iald (D := g.1) hx hb hK hP 1 0 rfl rfl (vp_in_iff.mpr (by decide +kernel)) dX5_hold_30 ?_
  refine lv_topi (nm_r (e' := 0) (by rfl) ?_)
  refine lv_icmp_ge (tgt := 55) hx hb dX5_hold_31 (by decide) (fun _ => ?_) (fun h => absurd h (by decide +kernel))
  refine lv_aload_n hx hb dX5_hold_55 rfl (lv_at hl 1 rfl) ?_
  refine lv_iload_n hx hb dX5_hold_56 rfl (lv_at hl 2 rfl) ?_
  refine z_callv (wr := [(h5, .inl (zI g, 6, .inl (upd (upd (upd (upd (upd (upd (upd (upd (upd (upd (upd (fun _ => 0) 1 1) 2 2) 3 3) 4 4) 5 5) 0 0) 1 1) 2 2) 3 3) 4 4) 5 5)))]) hP hD hS hA [0, 1] [2] (by decide) rfl rfl (by decide) (va_runV (As := [.int 0]) (rest := []) ⟨hx, hb, hml, hown, hts⟩ (kX5_goThrough_2 l g h0 h1 h2 h3 h4 h5 h6 h7 h8 h9 h10 h11 h12 h13 h14 h15 h16 h17 h18 h19 h20 h21 h22 H.size) ⟨callB_of 1 hts (zGood m_o_yX5_goThrough) rfl rfl rfl (hts _ m_z_RX5) (hts _ m_m_RX5_191) ⟨by decide +kernel, by decide +kernel, by decide +kernel⟩ ⟨Nat.le_of_ble_eq_true rfl, Nat.le_of_ble_eq_true rfl⟩, hts _ m_i_yX5_goThrough, hts _ m_e_yX5_goThrough⟩ (zPreV hK hN hZ hP hD hS hA [0, 1] (by decide) rfl rfl 5 0 rfl rfl) rfl rfl hl.1 rfl (lv_room (Nat.le_of_ble_eq_true rfl)) dX5_hold_57 ⟨Nat.le_of_ble_eq_true rfl, Nat.le_of_ble_eq_true rfl⟩) (fun u H locs hw hP hD hS => ?_)
  have hP : va_P g.1 vwCl [(h5, .inl (zI g, 6, .inl (upd (upd (upd (upd (upd (upd (upd (upd (upd (upd (upd (fun _ => 0) 1 1) 2 2) 3 3) 4 4) 5 5) 0 0) 1 1) 2 2) 3 3) 4 4) 5 5))), (h0, .inr (5, [.ref h1, .int 0, .ref h2, .int 0, .int 0, .ref h3, .ref h4, .ref h5, .ref h6, .int 0, .ref h7, .ref h8, .ref h9, .int 0, .ref h10, .ref h11, .ref h12, .ref h13, .ref h14, .ref h15, .ref h16, .ref h17, .ref h18, .ref h19, .ref h20, .ref h21, .ref h22])), (h1, .inl (zI g, 180, .inl (upd (upd (upd (fun _ => 0) 0 60) 1 1) 2 1)))] H := hP
  have hD : va_D A [(h5, .inl (zI g, 6, .inl (upd (upd (upd (upd (upd (upd (upd (upd (upd (upd (upd (fun _ => 0) 1 1) 2 2) 3 3) 4 4) 5 5) 0 0) 1 1) 2 2) 3 3) 4 4) 5 5))), (h0, .inr (5, [.ref h1, .int 0, .ref h2, .int 0, .int 0, .ref h3, .ref h4, .ref h5, .ref h6, .int 0, .ref h7, .ref h8, .ref h9, .int 0, .ref h10, .ref h11, .ref h12, .ref h13, .ref h14, .ref h15, .ref h16, .ref h17, .ref h18, .ref h19, .ref h20, .ref h21, .ref h22])), (h1, .inl (zI g, 180, .inl (upd (upd (upd (fun _ => 0) 0 60) 1 1) 2 1)))] := hD
  have hP9 := hP.sub (ws' := [(h5, .inl (zI g, 6, .inl (upd (upd (upd (upd (upd (upd (upd (upd (upd (upd (upd (fun _ => 0) 1 1) 2 2) 3 3) 4 4) 5 5) 0 0) 1 1) 2 2) 3 3) 4 4) 5 5))), (h0, .inr (5, [.ref h1, .int 0, .ref h2, .int 0, .int 0, .ref h3, .ref h4, .ref h5, .ref h6, .int 0, .ref h7, .ref h8, .ref h9, .int 0, .ref h10, .ref h11, .ref h12, .ref h13, .ref h14, .ref h15, .ref h16, .ref h17, .ref h18, .ref h19, .ref h20, .ref h21, .ref h22])), (h1, .inl (zI g, 180, .inl (upd (upd (upd (fun _ => 0) 0 60) 1 1) 2 1)))]) [0, 1, 2] rfl
  have hD9 := hD.sub (ws' := [(h5, .inl (zI g, 6, .inl (upd (upd (upd (upd (upd (upd (upd (upd (upd (upd (upd (fun _ => 0) 1 1) 2 2) 3 3) 4 4) 5 5) 0 0) 1 1) 2 2) 3 3) 4 4) 5 5))), (h0, .inr (5, [.ref h1, .int 0, .ref h2, .int 0, .int 0, .ref h3, .ref h4, .ref h5, .ref h6, .int 0, .ref h7, .ref h8, .ref h9, .int 0, .ref h10, .ref h11, .ref h12, .ref h13, .ref h14, .ref h15, .ref h16, .ref h17, .ref h18, .ref h19, .ref h20, .ref h21, .ref h22])), (h1, .inl (zI g, 180, .inl (upd (upd (upd (fun _ => 0) 0 60) 1 1) 2 1)))]) [0, 1, 2] (by decide) rfl
  exact W.vret hx hb hr (fun t ht hW => ⟨⟨0, rfl, trivial, by rw [ht]; exact hP9, hD9⟩, hS.F ht⟩) hS.2.2 dX5_hold_60
set_option maxHeartbeats 4000000 in
set_option maxRecDepth 100000 in
theorem kX5_openMorning_5 (l : Launch) (g : zG) (h0 h1 h2 h3 h4 h5 h6 h7 h8 h9 h10 h11 h12 h13 h14 h15 h16 h17 h18 h19 h20 h21 h22 : Nat) (sz : Nat) : Met l yX5_openMorning (.code yX5_openMorning cX5_openMorning 2 none :: zBig) ({ frames := 0, cells := 0, slots := 0, locals := 0 }) (va_Pc [.ref h0] (zPre g [(h0, .inr (5, [.ref h2, .int 0, .ref h3, .int 0, .int 0, .ref h4, .ref h5, .ref h1, .ref h6, .int 0, .ref h7, .ref h8, .ref h9, .int 0, .ref h10, .ref h11, .ref h12, .ref h13, .ref h14, .ref h15, .ref h16, .ref h17, .ref h18, .ref h19, .ref h20, .ref h21, .ref h22])), (h2, .inl (zI g, 180, .inl (upd (upd (upd (fun _ => 0) 0 60) 1 1) 2 1)))] sz)) (va_Qv (fun _ : Nat => True) (zPost g (fun _ : Nat => [(h0, .inr (5, [.ref h2, .int 0, .ref h3, .int 0, .int 0, .ref h4, .ref h5, .ref h1, .ref h6, .int 0, .ref h7, .ref h8, .ref h9, .int 0, .ref h10, .ref h11, .ref h12, .ref h13, .ref h14, .ref h15, .ref h16, .ref h17, .ref h18, .ref h19, .ref h20, .ref h21, .ref h22])), (h2, .inl (zI g, 180, .inl (upd (upd (upd (fun _ => 0) 0 60) 1 1) 2 1)))]) (va_A [(h0, .inr (5, [.ref h2, .int 0, .ref h3, .int 0, .int 0, .ref h4, .ref h5, .ref h1, .ref h6, .int 0, .ref h7, .ref h8, .ref h9, .int 0, .ref h10, .ref h11, .ref h12, .ref h13, .ref h14, .ref h15, .ref h16, .ref h17, .ref h18, .ref h19, .ref h20, .ref h21, .ref h22])), (h2, .inl (zI g, 180, .inl (upd (upd (upd (fun _ => 0) 0 60) 1 1) 2 1)))] sz)) (va_A [(h0, .inr (5, [.ref h2, .int 0, .ref h3, .int 0, .int 0, .ref h4, .ref h5, .ref h1, .ref h6, .int 0, .ref h7, .ref h8, .ref h9, .int 0, .ref h10, .ref h11, .ref h12, .ref h13, .ref h14, .ref h15, .ref h16, .ref h17, .ref h18, .ref h19, .ref h20, .ref h21, .ref h22])), (h2, .inl (zI g, 180, .inl (upd (upd (upd (fun _ => 0) 0 60) 1 1) 2 1)))] sz)) 0 0 (va_A [(h0, .inr (5, [.ref h2, .int 0, .ref h3, .int 0, .int 0, .ref h4, .ref h5, .ref h1, .ref h6, .int 0, .ref h7, .ref h8, .ref h9, .int 0, .ref h10, .ref h11, .ref h12, .ref h13, .ref h14, .ref h15, .ref h16, .ref h17, .ref h18, .ref h19, .ref h20, .ref h21, .ref h22])), (h2, .inl (zI g, 180, .inl (upd (upd (upd (fun _ => 0) 0 60) 1 1) 2 1)))] sz) := by
  refine zMetV rfl (Nat.le_of_ble_eq_true rfl) ?_
  intro p e s m args below meth c A ls hx hb hml hr hlocks hin hown hts hK hN hZ hP hD hA hS hAe hl
  have hown : s.vm.findClass RX5 = some m.cls := hown
  have hl : lv_has ls 2 [(0, .ref h0)] := hl
  refine lv_aload_n hx hb dX5_openMorning_0 rfl (lv_at hl 0 rfl) ?_
  refine lv_iconst (v := 0) hx hb dX5_openMorning_1 (by decide) ?_
  refine va_put (D := g.1) (ci := 5) (v := .int 0) (ty := .int) (C := RX5) (T := TX5) (N := 27) hx hb hts zl_X5 tyX5 tyX5_ok nmX5 hown hK hP hD hS 0 rfl rfl 13 (by decide) (hts _ m_f_RX5_147) (fun _ h => h) rfl (by decide +kernel) rfl rfl (Nat.le_of_ble_eq_true rfl) dX5_openMorning_2 (fun H locs hP hD hS => ?_)
  have hP : va_P g.1 vwCl [(h0, .inr (5, [.ref h2, .int 0, .ref h3, .int 0, .int 0, .ref h4, .ref h5, .ref h1, .ref h6, .int 0, .ref h7, .ref h8, .ref h9, .int 0, .ref h10, .ref h11, .ref h12, .ref h13, .ref h14, .ref h15, .ref h16, .ref h17, .ref h18, .ref h19, .ref h20, .ref h21, .ref h22])), (h2, .inl (zI g, 180, .inl (upd (upd (upd (fun _ => 0) 0 60) 1 1) 2 1)))] H := hP
  have hD : va_D A [(h0, .inr (5, [.ref h2, .int 0, .ref h3, .int 0, .int 0, .ref h4, .ref h5, .ref h1, .ref h6, .int 0, .ref h7, .ref h8, .ref h9, .int 0, .ref h10, .ref h11, .ref h12, .ref h13, .ref h14, .ref h15, .ref h16, .ref h17, .ref h18, .ref h19, .ref h20, .ref h21, .ref h22])), (h2, .inl (zI g, 180, .inl (upd (upd (upd (fun _ => 0) 0 60) 1 1) 2 1)))] := hD
  refine lv_iconst (v := 0) hx hb dX5_openMorning_5 (by decide) ?_
  refine lv_istore_n (lv' := [(1, .int 0), (0, .ref h0)]) hx hb dX5_openMorning_6 rfl hl (by decide) rfl (fun ls hl => ?_)
  refine lv_iload_n hx hb dX5_openMorning_7 rfl (lv_at hl 0 rfl) ?_
  refine lv_aload_n hx hb dX5_openMorning_8 rfl (lv_at hl 1 rfl) ?_
  refine va_get (D := g.1) (ci := 5) (v := .ref h2) (C := RX5) (T := TX5) (N := 27) hx hb hts zl_X5 hown hK hP 0 rfl rfl 0 (by decide) (hts _ m_f_RX5_7) (fun _ h => h) rfl dX5_openMorning_9 ?_
  refine lv_bipush (v := 12) hx hb dX5_openMorning_12 (by decide) ?_
  refine va_iald (D := g.1) hx hb hK hP 1 0 rfl rfl (vp_in_iff.mpr (by decide +kernel)) dX5_openMorning_14 ?_
  refine lv_topi (nm_r (e' := 0) (by rfl) ?_)
  refine lv_icmp_ge (tgt := 70) hx hb dX5_openMorning_15 (by decide) (fun _ => ?_) (fun h => absurd h (by decide +kernel))
  have hP9 := hP.sub (ws' := [(h0, .inr (5, [.ref h2, .int 0, .ref h3, .int 0, .int 0, .ref h4, .ref h5, .ref h1, .ref h6, .int 0, .ref h7, .ref h8, .ref h9, .int 0, .ref h10, .ref h11, .ref h12, .ref h13, .ref h14, .ref h15, .ref h16, .ref h17, .ref h18, .ref h19, .ref h20, .ref h21, .ref h22])), (h2, .inl (zI g, 180, .inl (upd (upd (upd (fun _ => 0) 0 60) 1 1) 2 1)))]) [0, 1] rfl
  have hD9 := hD.sub (ws' := [(h0, .inr (5, [.ref h2, .int 0, .ref h3, .int 0, .int 0, .ref h4, .ref h5, .ref h1, .ref h6, .int 0, .ref h7, .ref h8, .ref h9, .int 0, .ref h10, .ref h11, .ref h12, .ref h13, .ref h14, .ref h15, .ref h16, .ref h17, .ref h18, .ref h19, .ref h20, .ref h21, .ref h22])), (h2, .inl (zI g, 180, .inl (upd (upd (upd (fun _ => 0) 0 60) 1 1) 2 1)))]) [0, 1] (by decide) rfl
  exact W.vret hx hb hr (fun t ht hW => ⟨⟨0, rfl, trivial, by rw [ht]; exact hP9, hD9⟩, hS.F ht⟩) hS.2.2 dX5_openMorning_70
set_option maxHeartbeats 4000000 in
set_option maxRecDepth 100000 in
theorem kX5_till (l : Launch) (g : zG) (h0 h1 h2 h3 h4 h5 h6 h7 h8 h9 h10 h11 h12 h13 h14 h15 h16 h17 h18 h19 h20 h21 h22 : Nat) (sz : Nat) (p1 : Int32) : Met l yX5_till (.code yX5_till cX5_till 3 (some .int) :: zBig) ({ frames := 3, cells := 0, slots := 0, locals := 65 }) (va_Pc [.ref h0, .int p1] (zPre g [(h0, .inr (5, [.ref h1, .int 0, .ref h2, .int 0, .int 0, .ref h3, .ref h4, .ref h5, .ref h6, .int 0, .ref h7, .ref h8, .ref h9, .int 0, .ref h10, .ref h11, .ref h12, .ref h13, .ref h14, .ref h15, .ref h16, .ref h17, .ref h18, .ref h19, .ref h20, .ref h21, .ref h22])), (h1, .inl (zI g, 180, .inl (upd (upd (upd (fun _ => 0) 0 60) 1 1) 2 1))), (h5, .inl (zI g, 6, .inl (upd (upd (upd (upd (upd (fun _ => 0) 1 1) 2 2) 3 3) 4 4) 5 5)))] sz)) (va_Qi (fun (r : Int32) (_ : Nat) => (p1.toInt < 0 ∧ r = (-1)) ∨ (0 ≤ p1.toInt ∧ 2 < p1.toInt ∧ r = (-1)) ∨ (0 ≤ p1.toInt ∧ p1.toInt ≤ 2 ∧ p1.toInt ≤ 0 ∧ r = 0) ∨ (0 ≤ p1.toInt ∧ p1.toInt ≤ 2 ∧ 0 < p1.toInt ∧ r = 0)) (zPost g (fun _ : Nat => []) (va_A [(h0, .inr (5, [.ref h1, .int 0, .ref h2, .int 0, .int 0, .ref h3, .ref h4, .ref h5, .ref h6, .int 0, .ref h7, .ref h8, .ref h9, .int 0, .ref h10, .ref h11, .ref h12, .ref h13, .ref h14, .ref h15, .ref h16, .ref h17, .ref h18, .ref h19, .ref h20, .ref h21, .ref h22])), (h1, .inl (zI g, 180, .inl (upd (upd (upd (fun _ => 0) 0 60) 1 1) 2 1))), (h5, .inl (zI g, 6, .inl (upd (upd (upd (upd (upd (fun _ => 0) 1 1) 2 2) 3 3) 4 4) 5 5)))] sz)) (va_A [(h0, .inr (5, [.ref h1, .int 0, .ref h2, .int 0, .int 0, .ref h3, .ref h4, .ref h5, .ref h6, .int 0, .ref h7, .ref h8, .ref h9, .int 0, .ref h10, .ref h11, .ref h12, .ref h13, .ref h14, .ref h15, .ref h16, .ref h17, .ref h18, .ref h19, .ref h20, .ref h21, .ref h22])), (h1, .inl (zI g, 180, .inl (upd (upd (upd (fun _ => 0) 0 60) 1 1) 2 1))), (h5, .inl (zI g, 6, .inl (upd (upd (upd (upd (upd (fun _ => 0) 1 1) 2 2) 3 3) 4 4) 5 5)))] sz)) 0 0 (va_A [(h0, .inr (5, [.ref h1, .int 0, .ref h2, .int 0, .int 0, .ref h3, .ref h4, .ref h5, .ref h6, .int 0, .ref h7, .ref h8, .ref h9, .int 0, .ref h10, .ref h11, .ref h12, .ref h13, .ref h14, .ref h15, .ref h16, .ref h17, .ref h18, .ref h19, .ref h20, .ref h21, .ref h22])), (h1, .inl (zI g, 180, .inl (upd (upd (upd (fun _ => 0) 0 60) 1 1) 2 1))), (h5, .inl (zI g, 6, .inl (upd (upd (upd (upd (upd (fun _ => 0) 1 1) 2 2) 3 3) 4 4) 5 5)))] sz) := by
  refine zMetI rfl (Nat.le_of_ble_eq_true rfl) ?_
  intro p e s m args below meth c A ls hx hb hml hr hlocks hin hown hts hK hN hZ hP hD hA hS hAe hl
  have hown : s.vm.findClass RX5 = some m.cls := hown
  have hl : lv_has ls 3 [(0, .ref h0), (1, .int p1)] := hl
  refine lv_iload_n hx hb dX5_till_0 rfl (lv_at hl 1 rfl) ?_
  refine lv_i2l (v := p1.toInt64) hx hb dX5_till_1 rfl ?_
  refine lv_lconst (v := 0) hx hb dX5_till_2 (by decide) ?_
  refine lv_ldc2 (v := 2) hx hb hown (hts _ m_k_RX5_197) dX5_till_3 ?_
  refine z_calli (wr := [(h0, .inr (5, [.ref h1, .int 0, .ref h2, .int 0, .int 0, .ref h3, .ref h4, .ref h5, .ref h6, .int 0, .ref h7, .ref h8, .ref h9, .int 0, .ref h10, .ref h11, .ref h12, .ref h13, .ref h14, .ref h15, .ref h16, .ref h17, .ref h18, .ref h19, .ref h20, .ref h21, .ref h22])), (h1, .inl (zI g, 180, .inl (upd (upd (upd (fun _ => 0) 0 60) 1 1) 2 1))), (h5, .inl (zI g, 6, .inl (upd (upd (upd (upd (upd (fun _ => 0) 1 1) 2 2) 3 3) 4 4) 5 5)))]) hP hD hS hA [] [0, 1, 2] (by decide) rfl rfl (by decide) (va_runS (As := [.long p1.toInt64, .long 0, .long 2]) (rest := []) ⟨hx, hb, hml, hown, hts⟩ (kX5_in_22 l g  s.heap.size p1.toInt64) ⟨callB_of 3 hts (zGood m_o_yX5_in) rfl rfl rfl (hts _ m_z_RX5) (hts _ m_m_RX5_77) ⟨by decide +kernel, by decide +kernel, by decide +kernel⟩ ⟨Nat.le_of_ble_eq_true rfl, Nat.le_of_ble_eq_true rfl⟩, hts _ m_s_yX5_in⟩ (zPreS hK hN hZ hP hD hS hA [] (by decide) rfl rfl) rfl rfl hl.1 rfl (lv_room (Nat.le_of_ble_eq_true rfl)) dX5_till_6 ⟨Nat.le_of_ble_eq_true rfl, Nat.le_of_ble_eq_true rfl⟩) (fun r u H locs hw hP hD hS => ?_)
  rcases hw with ⟨i_0, rfl⟩ | ⟨i_1, i_2, rfl⟩ | ⟨i_3, i_4, rfl⟩
  · skip
    have i_0 : p1.toInt < 0 := by simpa only [Int32.toInt_toInt64] using i_0
    have hP : va_P g.1 vwCl [(h0, .inr (5, [.ref h1, .int 0, .ref h2, .int 0, .int 0, .ref h3, .ref h4, .ref h5, .ref h6, .int 0, .ref h7, .ref h8, .ref h9, .int 0, .ref h10, .ref h11, .ref h12, .ref h13, .ref h14, .ref h15, .ref h16, .ref h17, .ref h18, .ref h19, .ref h20, .ref h21, .ref h22])), (h1, .inl (zI g, 180, .inl (upd (upd (upd (fun _ => 0) 0 60) 1 1) 2 1))), (h5, .inl (zI g, 6, .inl (upd (upd (upd (upd (upd (fun _ => 0) 1 1) 2 2) 3 3) 4 4) 5 5)))] H := hP
    have hD : va_D A [(h0, .inr (5, [.ref h1, .int 0, .ref h2, .int 0, .int 0, .ref h3, .ref h4, .ref h5, .ref h6, .int 0, .ref h7, .ref h8, .ref h9, .int 0, .ref h10, .ref h11, .ref h12, .ref h13, .ref h14, .ref h15, .ref h16, .ref h17, .ref h18, .ref h19, .ref h20, .ref h21, .ref h22])), (h1, .inl (zI g, 180, .inl (upd (upd (upd (fun _ => 0) 0 60) 1 1) 2 1))), (h5, .inl (zI g, 6, .inl (upd (upd (upd (upd (upd (fun _ => 0) 1 1) 2 2) 3 3) 4 4) 5 5)))] := hD
    refine lv_if_ne (tgt := 14) hx hb dX5_till_9 (by decide) (fun h => absurd h (by decide +kernel)) (fun _ => ?_)
    refine lv_iconst (v := (-1)) hx hb dX5_till_12 (by decide) ?_
    have hP9 := hP.sub (ws' := []) [] rfl
    have hD9 := hD.sub (ws' := []) [] (by decide) rfl
    exact W.iret (v := (-1)) hx hb hr (fun t ht hW => ⟨⟨(-1), 0, rfl, Or.inl ⟨i_0, rfl⟩, by rw [ht]; exact hP9, hD9⟩, hS.F ht⟩) hS.2.2 dX5_till_13
  · skip
    have i_1 : 0 ≤ p1.toInt := by simpa only [Int32.toInt_toInt64] using i_1
    have i_2 : 2 < p1.toInt := by simpa only [Int32.toInt_toInt64] using i_2
    have hP : va_P g.1 vwCl [(h0, .inr (5, [.ref h1, .int 0, .ref h2, .int 0, .int 0, .ref h3, .ref h4, .ref h5, .ref h6, .int 0, .ref h7, .ref h8, .ref h9, .int 0, .ref h10, .ref h11, .ref h12, .ref h13, .ref h14, .ref h15, .ref h16, .ref h17, .ref h18, .ref h19, .ref h20, .ref h21, .ref h22])), (h1, .inl (zI g, 180, .inl (upd (upd (upd (fun _ => 0) 0 60) 1 1) 2 1))), (h5, .inl (zI g, 6, .inl (upd (upd (upd (upd (upd (fun _ => 0) 1 1) 2 2) 3 3) 4 4) 5 5)))] H := hP
    have hD : va_D A [(h0, .inr (5, [.ref h1, .int 0, .ref h2, .int 0, .int 0, .ref h3, .ref h4, .ref h5, .ref h6, .int 0, .ref h7, .ref h8, .ref h9, .int 0, .ref h10, .ref h11, .ref h12, .ref h13, .ref h14, .ref h15, .ref h16, .ref h17, .ref h18, .ref h19, .ref h20, .ref h21, .ref h22])), (h1, .inl (zI g, 180, .inl (upd (upd (upd (fun _ => 0) 0 60) 1 1) 2 1))), (h5, .inl (zI g, 6, .inl (upd (upd (upd (upd (upd (fun _ => 0) 1 1) 2 2) 3 3) 4 4) 5 5)))] := hD
    refine lv_if_ne (tgt := 14) hx hb dX5_till_9 (by decide) (fun h => absurd h (by decide +kernel)) (fun _ => ?_)
    refine lv_iconst (v := (-1)) hx hb dX5_till_12 (by decide) ?_
    have hP9 := hP.sub (ws' := []) [] rfl
    have hD9 := hD.sub (ws' := []) [] (by decide) rfl
    exact W.iret (v := (-1)) hx hb hr (fun t ht hW => ⟨⟨(-1), 0, rfl, Or.inr (Or.inl ⟨i_1, i_2, rfl⟩), by rw [ht]; exact hP9, hD9⟩, hS.F ht⟩) hS.2.2 dX5_till_13
  · skip
    have i_3 : 0 ≤ p1.toInt := by simpa only [Int32.toInt_toInt64] using i_3
    have i_4 : p1.toInt ≤ 2 := by simpa only [Int32.toInt_toInt64] using i_4
    have hP : va_P g.1 vwCl [(h0, .inr (5, [.ref h1, .int 0, .ref h2, .int 0, .int 0, .ref h3, .ref h4, .ref h5, .ref h6, .int 0, .ref h7, .ref h8, .ref h9, .int 0, .ref h10, .ref h11, .ref h12, .ref h13, .ref h14, .ref h15, .ref h16, .ref h17, .ref h18, .ref h19, .ref h20, .ref h21, .ref h22])), (h1, .inl (zI g, 180, .inl (upd (upd (upd (fun _ => 0) 0 60) 1 1) 2 1))), (h5, .inl (zI g, 6, .inl (upd (upd (upd (upd (upd (fun _ => 0) 1 1) 2 2) 3 3) 4 4) 5 5)))] H := hP
    have hD : va_D A [(h0, .inr (5, [.ref h1, .int 0, .ref h2, .int 0, .int 0, .ref h3, .ref h4, .ref h5, .ref h6, .int 0, .ref h7, .ref h8, .ref h9, .int 0, .ref h10, .ref h11, .ref h12, .ref h13, .ref h14, .ref h15, .ref h16, .ref h17, .ref h18, .ref h19, .ref h20, .ref h21, .ref h22])), (h1, .inl (zI g, 180, .inl (upd (upd (upd (fun _ => 0) 0 60) 1 1) 2 1))), (h5, .inl (zI g, 6, .inl (upd (upd (upd (upd (upd (fun _ => 0) 1 1) 2 2) 3 3) 4 4) 5 5)))] := hD
    refine lv_if_ne (tgt := 14) hx hb dX5_till_9 (by decide) (fun _ => ?_) (fun h => absurd h (by decide +kernel))
    refine lv_aload_n hx hb dX5_till_14 rfl (lv_at hl 0 rfl) ?_
    refine lv_iconst (v := 0) hx hb dX5_till_15 (by decide) ?_
    refine z_callv (wr := []) hP hD hS hA [0, 1, 2] [] (by decide) rfl rfl (by decide) (va_runV (As := [.int 0]) (rest := []) ⟨hx, hb, hml, hown, hts⟩ (kX5_hold_2 l g h0 h1 h2 h3 h4 h5 h6 h7 h8 h9 h10 h11 h12 h13 h14 h15 h16 h17 h18 h19 h20 h21 h22 H.size) ⟨callB_of 1 hts (zGood m_o_yX5_hold) rfl rfl rfl (hts _ m_z_RX5) (hts _ m_m_RX5_194) ⟨by decide +kernel, by decide +kernel, by decide +kernel⟩ ⟨Nat.le_of_ble_eq_true rfl, Nat.le_of_ble_eq_true rfl⟩, hts _ m_i_yX5_hold, hts _ m_e_yX5_hold⟩ (zPreV hK hN hZ hP hD hS hA [0, 1, 2] (by decide) rfl rfl 5 0 rfl rfl) rfl rfl hl.1 rfl (lv_room (Nat.le_of_ble_eq_true rfl)) dX5_till_16 ⟨Nat.le_of_ble_eq_true rfl, Nat.le_of_ble_eq_true rfl⟩) (fun u H locs hw hP hD hS => ?_)
    have hP : va_P g.1 vwCl [(h5, .inl (zI g, 6, .inl (upd (upd (upd (upd (upd (upd (upd (upd (upd (upd (upd (fun _ => 0) 1 1) 2 2) 3 3) 4 4) 5 5) 0 0) 1 1) 2 2) 3 3) 4 4) 5 5))), (h0, .inr (5, [.ref h1, .int 0, .ref h2, .int 0, .int 0, .ref h3, .ref h4, .ref h5, .ref h6, .int 0, .ref h7, .ref h8, .ref h9, .int 0, .ref h10, .ref h11, .ref h12, .ref h13, .ref h14, .ref h15, .ref h16, .ref h17, .ref h18, .ref h19, .ref h20, .ref h21, .ref h22])), (h1, .inl (zI g, 180, .inl (upd (upd (upd (fun _ => 0) 0 60) 1 1) 2 1)))] H := hP
    have hD : va_D A [(h5, .inl (zI g, 6, .inl (upd (upd (upd (upd (upd (upd (upd (upd (upd (upd (upd (fun _ => 0) 1 1) 2 2) 3 3) 4 4) 5 5) 0 0) 1 1) 2 2) 3 3) 4 4) 5 5))), (h0, .inr (5, [.ref h1, .int 0, .ref h2, .int 0, .int 0, .ref h3, .ref h4, .ref h5, .ref h6, .int 0, .ref h7, .ref h8, .ref h9, .int 0, .ref h10, .ref h11, .ref h12, .ref h13, .ref h14, .ref h15, .ref h16, .ref h17, .ref h18, .ref h19, .ref h20, .ref h21, .ref h22])), (h1, .inl (zI g, 180, .inl (upd (upd (upd (fun _ => 0) 0 60) 1 1) 2 1)))] := hD
    refine lv_iload_n hx hb dX5_till_19 rfl (lv_at hl 1 rfl) ?_
    refine lv_if_le (tgt := 79) hx hb dX5_till_20 (by decide) (fun c_5 => ?_) (fun c_5 => ?_)
    · have i_5 : p1.toInt ≤ 0 := z_le (rfl) (rfl) c_5
      refine lv_aload_n hx hb dX5_till_79 rfl (lv_at hl 0 rfl) ?_
      refine va_get (D := g.1) (ci := 5) (v := .int 0) (C := RX5) (T := TX5) (N := 27) hx hb hts zl_X5 hown hK hP 1 rfl rfl 13 (by decide) (hts _ m_f_RX5_147) (fun _ h => h) rfl dX5_till_80 ?_
      have hP9 := hP.sub (ws' := []) [] rfl
      have hD9 := hD.sub (ws' := []) [] (by decide) rfl
      exact W.iret (v := 0) hx hb hr (fun t ht hW => ⟨⟨0, 0, rfl, Or.inr (Or.inr (Or.inl ⟨i_3, i_4, i_5, rfl⟩)), by rw [ht]; exact hP9, hD9⟩, hS.F ht⟩) hS.2.2 dX5_till_83
    · have i_5 : 0 < p1.toInt := z_nle (rfl) (rfl) c_5
      refine lv_aload_n hx hb dX5_till_23 rfl (lv_at hl 0 rfl) ?_
      refine z_callv (wr := [(h5, .inl (zI g, 6, .inl (upd (upd (upd (upd (upd (upd (upd (upd (upd (upd (upd (fun _ => 0) 1 1) 2 2) 3 3) 4 4) 5 5) 0 0) 1 1) 2 2) 3 3) 4 4) 5 5)))]) hP hD hS hA [1, 2] [0] (by decide) rfl rfl (by decide) (va_runV (As := []) (rest := []) ⟨hx, hb, hml, hown, hts⟩ (kX5_openMorning_5 l g h0 h5 h1 h2 h3 h4 h6 h7 h8 h9 h10 h11 h12 h13 h14 h15 h16 h17 h18 h19 h20 h21 h22 H.size) ⟨callB_of 0 hts (zGood m_o_yX5_openMorning) rfl rfl rfl (hts _ m_z_RX5) (hts _ m_m_RX5_184) ⟨by decide +kernel, by decide +kernel, by decide +kernel⟩ ⟨Nat.le_of_ble_eq_true rfl, Nat.le_of_ble_eq_true rfl⟩, hts _ m_i_yX5_openMorning, hts _ m_e_yX5_openMorning⟩ (zPreV hK hN hZ hP hD hS hA [1, 2] (by decide) rfl rfl 5 1 rfl rfl) rfl rfl hl.1 rfl (lv_room (Nat.le_of_ble_eq_true rfl)) dX5_till_24 ⟨Nat.le_of_ble_eq_true rfl, Nat.le_of_ble_eq_true rfl⟩) (fun u H locs hw hP hD hS => ?_)
      have hP : va_P g.1 vwCl [(h5, .inl (zI g, 6, .inl (upd (upd (upd (upd (upd (upd (upd (upd (upd (upd (upd (fun _ => 0) 1 1) 2 2) 3 3) 4 4) 5 5) 0 0) 1 1) 2 2) 3 3) 4 4) 5 5))), (h0, .inr (5, [.ref h1, .int 0, .ref h2, .int 0, .int 0, .ref h3, .ref h4, .ref h5, .ref h6, .int 0, .ref h7, .ref h8, .ref h9, .int 0, .ref h10, .ref h11, .ref h12, .ref h13, .ref h14, .ref h15, .ref h16, .ref h17, .ref h18, .ref h19, .ref h20, .ref h21, .ref h22])), (h1, .inl (zI g, 180, .inl (upd (upd (upd (fun _ => 0) 0 60) 1 1) 2 1)))] H := hP
      have hD : va_D A [(h5, .inl (zI g, 6, .inl (upd (upd (upd (upd (upd (upd (upd (upd (upd (upd (upd (fun _ => 0) 1 1) 2 2) 3 3) 4 4) 5 5) 0 0) 1 1) 2 2) 3 3) 4 4) 5 5))), (h0, .inr (5, [.ref h1, .int 0, .ref h2, .int 0, .int 0, .ref h3, .ref h4, .ref h5, .ref h6, .int 0, .ref h7, .ref h8, .ref h9, .int 0, .ref h10, .ref h11, .ref h12, .ref h13, .ref h14, .ref h15, .ref h16, .ref h17, .ref h18, .ref h19, .ref h20, .ref h21, .ref h22])), (h1, .inl (zI g, 180, .inl (upd (upd (upd (fun _ => 0) 0 60) 1 1) 2 1)))] := hD
      refine lv_iconst (v := 0) hx hb dX5_till_27 (by decide) ?_
      refine lv_istore_n (lv' := [(2, .int 0), (0, .ref h0), (1, .int p1)]) hx hb dX5_till_28 rfl hl (by decide) rfl (fun ls hl => ?_)
      refine lv_iload_n hx hb dX5_till_29 rfl (lv_at hl 0 rfl) ?_
      refine lv_aload_n hx hb dX5_till_30 rfl (lv_at hl 1 rfl) ?_
      refine va_get (D := g.1) (ci := 5) (v := .ref h1) (C := RX5) (T := TX5) (N := 27) hx hb hts zl_X5 hown hK hP 1 rfl rfl 0 (by decide) (hts _ m_f_RX5_7) (fun _ h => h) rfl dX5_till_31 ?_
      refine lv_iconst (v := 5) hx hb dX5_till_34 (by decide) ?_
      refine va_iald (D := g.1) hx hb hK hP 2 0 rfl rfl (vp_in_iff.mpr (by decide +kernel)) dX5_till_35 ?_
      refine lv_topi (nm_r (e' := 0) (by rfl) ?_)
      refine lv_icmp_ge (tgt := 79) hx hb dX5_till_36 (by decide) (fun _ => ?_) (fun h => absurd h (by decide +kernel))
      refine lv_aload_n hx hb dX5_till_79 rfl (lv_at hl 1 rfl) ?_
      refine va_get (D := g.1) (ci := 5) (v := .int 0) (C := RX5) (T := TX5) (N := 27) hx hb hts zl_X5 hown hK hP 1 rfl rfl 13 (by decide) (hts _ m_f_RX5_147) (fun _ h => h) rfl dX5_till_80 ?_
      have hP9 := hP.sub (ws' := []) [] rfl
      have hD9 := hD.sub (ws' := []) [] (by decide) rfl
      exact W.iret (v := 0) hx hb hr (fun t ht hW => ⟨⟨0, 0, rfl, Or.inr (Or.inr (Or.inr (⟨i_3, i_4, i_5, rfl⟩))), by rw [ht]; exact hP9, hD9⟩, hS.F ht⟩) hS.2.2 dX5_till_83
set_option maxHeartbeats 4000000 in
set_option maxRecDepth 100000 in
theorem kX5_morning (l : Launch) (g : zG) (h0 h1 h2 h3 h4 h5 h6 h7 h8 h9 h10 h11 h12 h13 h14 h15 h16 h17 h18 h19 h20 h21 h22 : Nat) (sz : Nat) : Met l yX5_morning (.code yX5_morning cX5_morning 2 (some .int) :: zBig) ({ frames := 0, cells := 0, slots := 0, locals := 0 }) (va_Pc [.ref h0] (zPre g [(h0, .inr (5, [.ref h1, .int 0, .ref h2, .int 0, .int 0, .ref h3, .ref h4, .ref h5, .ref h6, .int 0, .ref h7, .ref h8, .ref h9, .int 0, .ref h10, .ref h11, .ref h12, .ref h13, .ref h14, .ref h15, .ref h16, .ref h17, .ref h18, .ref h19, .ref h20, .ref h21, .ref h22])), (h1, .inl (zI g, 180, .inl (upd (upd (upd (fun _ => 0) 0 60) 1 1) 2 1)))] sz)) (va_Qi (fun (r : Int32) (_ : Nat) => r = (-2)) (zPost g (fun _ : Nat => []) (va_A [(h0, .inr (5, [.ref h1, .int 0, .ref h2, .int 0, .int 0, .ref h3, .ref h4, .ref h5, .ref h6, .int 0, .ref h7, .ref h8, .ref h9, .int 0, .ref h10, .ref h11, .ref h12, .ref h13, .ref h14, .ref h15, .ref h16, .ref h17, .ref h18, .ref h19, .ref h20, .ref h21, .ref h22])), (h1, .inl (zI g, 180, .inl (upd (upd (upd (fun _ => 0) 0 60) 1 1) 2 1)))] sz)) (va_A [(h0, .inr (5, [.ref h1, .int 0, .ref h2, .int 0, .int 0, .ref h3, .ref h4, .ref h5, .ref h6, .int 0, .ref h7, .ref h8, .ref h9, .int 0, .ref h10, .ref h11, .ref h12, .ref h13, .ref h14, .ref h15, .ref h16, .ref h17, .ref h18, .ref h19, .ref h20, .ref h21, .ref h22])), (h1, .inl (zI g, 180, .inl (upd (upd (upd (fun _ => 0) 0 60) 1 1) 2 1)))] sz)) 0 0 (va_A [(h0, .inr (5, [.ref h1, .int 0, .ref h2, .int 0, .int 0, .ref h3, .ref h4, .ref h5, .ref h6, .int 0, .ref h7, .ref h8, .ref h9, .int 0, .ref h10, .ref h11, .ref h12, .ref h13, .ref h14, .ref h15, .ref h16, .ref h17, .ref h18, .ref h19, .ref h20, .ref h21, .ref h22])), (h1, .inl (zI g, 180, .inl (upd (upd (upd (fun _ => 0) 0 60) 1 1) 2 1)))] sz) := by
  refine zMetI rfl (Nat.le_of_ble_eq_true rfl) ?_
  intro p e s m args below meth c A ls hx hb hml hr hlocks hin hown hts hK hN hZ hP hD hA hS hAe hl
  have hown : s.vm.findClass RX5 = some m.cls := hown
  have hl : lv_has ls 2 [(0, .ref h0)] := hl
  refine lv_aload_n hx hb dX5_morning_0 rfl (lv_at hl 0 rfl) ?_
  refine va_get (D := g.1) (ci := 5) (v := .ref h1) (C := RX5) (T := TX5) (N := 27) hx hb hts zl_X5 hown hK hP 0 rfl rfl 0 (by decide) (hts _ m_f_RX5_7) (fun _ h => h) rfl dX5_morning_1 ?_
  refine lv_iconst (v := 5) hx hb dX5_morning_4 (by decide) ?_
  refine va_iald (D := g.1) hx hb hK hP 1 0 rfl rfl (vp_in_iff.mpr (by decide +kernel)) dX5_morning_5 ?_
  refine lv_topi (nm_r (e' := 0) (by rfl) ?_)
  refine lv_if_ne (tgt := 12) hx hb dX5_morning_6 (by decide) (fun h => absurd h (by decide +kernel)) (fun _ => ?_)
  refine lv_bipush (v := (-2)) hx hb dX5_morning_9 (by decide) ?_
  have hP9 := hP.sub (ws' := []) [] rfl
  have hD9 := hD.sub (ws' := []) [] (by decide) rfl
  exact W.iret (v := (-2)) hx hb hr (fun t ht hW => ⟨⟨(-2), 0, rfl, rfl, by rw [ht]; exact hP9, hD9⟩, hS.F ht⟩) hS.2.2 dX5_morning_11
set_option maxHeartbeats 4000000 in
set_option maxRecDepth 100000 in
theorem kX5_span (l : Launch) (g : zG) (h0 h1 h2 h3 h4 h5 h6 h7 h8 h9 h10 h11 h12 h13 h14 h15 h16 h17 h18 h19 h20 h21 h22 : Nat) (sz : Nat) (p1 : Int32) (p2 : Int32) (p3 : Int32) : Met l yX5_span (.code yX5_span cX5_span 4 (some .int) :: zBig) ({ frames := 2, cells := 0, slots := 0, locals := 46 }) (va_Pc [.ref h0, .int p1, .int p2, .int p3] (zPre g [(h0, .inr (5, [.ref h1, .int 0, .ref h2, .int 0, .int 0, .ref h3, .ref h4, .ref h5, .ref h6, .int 0, .ref h7, .ref h8, .ref h9, .int 0, .ref h10, .ref h11, .ref h12, .ref h13, .ref h14, .ref h15, .ref h16, .ref h17, .ref h18, .ref h19, .ref h20, .ref h21, .ref h22])), (h1, .inl (zI g, 180, .inl (upd (upd (upd (fun _ => 0) 0 60) 1 1) 2 1)))] sz)) (va_Qi (fun (r : Int32) (_ : Nat) => (p1.toInt < 0 ∧ r = (-1)) ∨ (0 ≤ p1.toInt ∧ r = (-1))) (zPost g (fun _ : Nat => []) (va_A [(h0, .inr (5, [.ref h1, .int 0, .ref h2, .int 0, .int 0, .ref h3, .ref h4, .ref h5, .ref h6, .int 0, .ref h7, .ref h8, .ref h9, .int 0, .ref h10, .ref h11, .ref h12, .ref h13, .ref h14, .ref h15, .ref h16, .ref h17, .ref h18, .ref h19, .ref h20, .ref h21, .ref h22])), (h1, .inl (zI g, 180, .inl (upd (upd (upd (fun _ => 0) 0 60) 1 1) 2 1)))] sz)) (va_A [(h0, .inr (5, [.ref h1, .int 0, .ref h2, .int 0, .int 0, .ref h3, .ref h4, .ref h5, .ref h6, .int 0, .ref h7, .ref h8, .ref h9, .int 0, .ref h10, .ref h11, .ref h12, .ref h13, .ref h14, .ref h15, .ref h16, .ref h17, .ref h18, .ref h19, .ref h20, .ref h21, .ref h22])), (h1, .inl (zI g, 180, .inl (upd (upd (upd (fun _ => 0) 0 60) 1 1) 2 1)))] sz)) 0 0 (va_A [(h0, .inr (5, [.ref h1, .int 0, .ref h2, .int 0, .int 0, .ref h3, .ref h4, .ref h5, .ref h6, .int 0, .ref h7, .ref h8, .ref h9, .int 0, .ref h10, .ref h11, .ref h12, .ref h13, .ref h14, .ref h15, .ref h16, .ref h17, .ref h18, .ref h19, .ref h20, .ref h21, .ref h22])), (h1, .inl (zI g, 180, .inl (upd (upd (upd (fun _ => 0) 0 60) 1 1) 2 1)))] sz) := by
  refine zMetI rfl (Nat.le_of_ble_eq_true rfl) ?_
  intro p e s m args below meth c A ls hx hb hml hr hlocks hin hown hts hK hN hZ hP hD hA hS hAe hl
  have hown : s.vm.findClass RX5 = some m.cls := hown
  have hl : lv_has ls 4 [(0, .ref h0), (1, .int p1), (2, .int p2), (3, .int p3)] := hl
  refine lv_aload_n hx hb dX5_span_0 rfl (lv_at hl 0 rfl) ?_
  refine lv_iload_n hx hb dX5_span_1 rfl (lv_at hl 1 rfl) ?_
  refine z_calli (wr := []) hP hD hS hA [0, 1] [] (by decide) rfl rfl (by decide) (va_runV (As := [.int p1]) (rest := []) ⟨hx, hb, hml, hown, hts⟩ (kX5_isBuyer_2 l g h0 h1 h2 h3 h4 h5 h6 h7 h8 h9 h10 h11 h12 h13 h14 h15 h16 h17 h18 h19 h20 h21 h22 s.heap.size p1) ⟨callB_of 1 hts (zGood m_o_yX5_isBuyer) rfl rfl rfl (hts _ m_z_RX5) (hts _ m_m_RX5_92) ⟨by decide +kernel, by decide +kernel, by decide +kernel⟩ ⟨Nat.le_of_ble_eq_true rfl, Nat.le_of_ble_eq_true rfl⟩, hts _ m_i_yX5_isBuyer, hts _ m_e_yX5_isBuyer⟩ (zPreV hK hN hZ hP hD hS hA [0, 1] (by decide) rfl rfl 5 0 rfl rfl) rfl rfl hl.1 rfl (lv_room (Nat.le_of_ble_eq_true rfl)) dX5_span_2 ⟨Nat.le_of_ble_eq_true rfl, Nat.le_of_ble_eq_true rfl⟩) (fun r u H locs hw hP hD hS => ?_)
  rcases hw with ⟨i_0, rfl⟩ | ⟨i_1, rfl⟩
  · skip
    have i_0 : p1.toInt < 0 := i_0
    have hP : va_P g.1 vwCl [(h0, .inr (5, [.ref h1, .int 0, .ref h2, .int 0, .int 0, .ref h3, .ref h4, .ref h5, .ref h6, .int 0, .ref h7, .ref h8, .ref h9, .int 0, .ref h10, .ref h11, .ref h12, .ref h13, .ref h14, .ref h15, .ref h16, .ref h17, .ref h18, .ref h19, .ref h20, .ref h21, .ref h22])), (h1, .inl (zI g, 180, .inl (upd (upd (upd (fun _ => 0) 0 60) 1 1) 2 1)))] H := hP
    have hD : va_D A [(h0, .inr (5, [.ref h1, .int 0, .ref h2, .int 0, .int 0, .ref h3, .ref h4, .ref h5, .ref h6, .int 0, .ref h7, .ref h8, .ref h9, .int 0, .ref h10, .ref h11, .ref h12, .ref h13, .ref h14, .ref h15, .ref h16, .ref h17, .ref h18, .ref h19, .ref h20, .ref h21, .ref h22])), (h1, .inl (zI g, 180, .inl (upd (upd (upd (fun _ => 0) 0 60) 1 1) 2 1)))] := hD
    refine lv_if_eq (tgt := 30) hx hb dX5_span_5 (by decide) (fun _ => ?_) (fun h => absurd h (by decide +kernel))
    refine lv_iconst (v := (-1)) hx hb dX5_span_30 (by decide) ?_
    have hP9 := hP.sub (ws' := []) [] rfl
    have hD9 := hD.sub (ws' := []) [] (by decide) rfl
    exact W.iret (v := (-1)) hx hb hr (fun t ht hW => ⟨⟨(-1), 0, rfl, Or.inl ⟨i_0, rfl⟩, by rw [ht]; exact hP9, hD9⟩, hS.F ht⟩) hS.2.2 dX5_span_31
  · skip
    have i_1 : 0 ≤ p1.toInt := i_1
    have hP : va_P g.1 vwCl [(h0, .inr (5, [.ref h1, .int 0, .ref h2, .int 0, .int 0, .ref h3, .ref h4, .ref h5, .ref h6, .int 0, .ref h7, .ref h8, .ref h9, .int 0, .ref h10, .ref h11, .ref h12, .ref h13, .ref h14, .ref h15, .ref h16, .ref h17, .ref h18, .ref h19, .ref h20, .ref h21, .ref h22])), (h1, .inl (zI g, 180, .inl (upd (upd (upd (fun _ => 0) 0 60) 1 1) 2 1)))] H := hP
    have hD : va_D A [(h0, .inr (5, [.ref h1, .int 0, .ref h2, .int 0, .int 0, .ref h3, .ref h4, .ref h5, .ref h6, .int 0, .ref h7, .ref h8, .ref h9, .int 0, .ref h10, .ref h11, .ref h12, .ref h13, .ref h14, .ref h15, .ref h16, .ref h17, .ref h18, .ref h19, .ref h20, .ref h21, .ref h22])), (h1, .inl (zI g, 180, .inl (upd (upd (upd (fun _ => 0) 0 60) 1 1) 2 1)))] := hD
    refine lv_if_eq (tgt := 30) hx hb dX5_span_5 (by decide) (fun _ => ?_) (fun h => absurd h (by decide +kernel))
    refine lv_iconst (v := (-1)) hx hb dX5_span_30 (by decide) ?_
    have hP9 := hP.sub (ws' := []) [] rfl
    have hD9 := hD.sub (ws' := []) [] (by decide) rfl
    exact W.iret (v := (-1)) hx hb hr (fun t ht hW => ⟨⟨(-1), 0, rfl, Or.inr (⟨i_1, rfl⟩), by rw [ht]; exact hP9, hD9⟩, hS.F ht⟩) hS.2.2 dX5_span_31
set_option maxHeartbeats 4000000 in
set_option maxRecDepth 100000 in
theorem kX5_hush (l : Launch) (g : zG) (h0 h1 h2 h3 h4 h5 h6 h7 h8 h9 h10 h11 h12 h13 h14 h15 h16 h17 h18 h19 h20 h21 h22 : Nat) (sz : Nat) : Met l yX5_hush (.code yX5_hush cX5_hush 3 (some .int) :: zBig) ({ frames := 0, cells := 0, slots := 0, locals := 0 }) (va_Pc [.ref h0] (zPre g [(h0, .inr (5, [.ref h1, .int 0, .ref h2, .int 0, .int 0, .ref h3, .ref h4, .ref h5, .ref h6, .int 0, .ref h7, .ref h8, .ref h9, .int 0, .ref h10, .ref h11, .ref h12, .ref h13, .ref h14, .ref h15, .ref h16, .ref h17, .ref h18, .ref h19, .ref h20, .ref h21, .ref h22])), (h1, .inl (zI g, 180, .inl (upd (upd (upd (fun _ => 0) 0 60) 1 1) 2 1)))] sz)) (va_Qi (fun (r : Int32) (_ : Nat) => r = 0) (zPost g (fun _ : Nat => []) (va_A [(h0, .inr (5, [.ref h1, .int 0, .ref h2, .int 0, .int 0, .ref h3, .ref h4, .ref h5, .ref h6, .int 0, .ref h7, .ref h8, .ref h9, .int 0, .ref h10, .ref h11, .ref h12, .ref h13, .ref h14, .ref h15, .ref h16, .ref h17, .ref h18, .ref h19, .ref h20, .ref h21, .ref h22])), (h1, .inl (zI g, 180, .inl (upd (upd (upd (fun _ => 0) 0 60) 1 1) 2 1)))] sz)) (va_A [(h0, .inr (5, [.ref h1, .int 0, .ref h2, .int 0, .int 0, .ref h3, .ref h4, .ref h5, .ref h6, .int 0, .ref h7, .ref h8, .ref h9, .int 0, .ref h10, .ref h11, .ref h12, .ref h13, .ref h14, .ref h15, .ref h16, .ref h17, .ref h18, .ref h19, .ref h20, .ref h21, .ref h22])), (h1, .inl (zI g, 180, .inl (upd (upd (upd (fun _ => 0) 0 60) 1 1) 2 1)))] sz)) 0 0 (va_A [(h0, .inr (5, [.ref h1, .int 0, .ref h2, .int 0, .int 0, .ref h3, .ref h4, .ref h5, .ref h6, .int 0, .ref h7, .ref h8, .ref h9, .int 0, .ref h10, .ref h11, .ref h12, .ref h13, .ref h14, .ref h15, .ref h16, .ref h17, .ref h18, .ref h19, .ref h20, .ref h21, .ref h22])), (h1, .inl (zI g, 180, .inl (upd (upd (upd (fun _ => 0) 0 60) 1 1) 2 1)))] sz) := by
  refine zMetI rfl (Nat.le_of_ble_eq_true rfl) ?_
  intro p e s m args below meth c A ls hx hb hml hr hlocks hin hown hts hK hN hZ hP hD hA hS hAe hl
  have hown : s.vm.findClass RX5 = some m.cls := hown
  have hl : lv_has ls 3 [(0, .ref h0)] := hl
  refine lv_iconst (v := 0) hx hb dX5_hush_0 (by decide) ?_
  refine lv_istore_n (lv' := [(1, .int 0), (0, .ref h0)]) hx hb dX5_hush_1 rfl hl (by decide) rfl (fun ls hl => ?_)
  refine lv_iconst (v := 0) hx hb dX5_hush_2 (by decide) ?_
  refine lv_istore_n (lv' := [(2, .int 0), (1, .int 0), (0, .ref h0)]) hx hb dX5_hush_3 rfl hl (by decide) rfl (fun ls hl => ?_)
  refine lv_iload_n hx hb dX5_hush_4 rfl (lv_at hl 0 rfl) ?_
  refine lv_iconst (v := 4) hx hb dX5_hush_5 (by decide) ?_
  refine lv_aload_n hx hb dX5_hush_6 rfl (lv_at hl 2 rfl) ?_
  refine va_get (D := g.1) (ci := 5) (v := .ref h1) (C := RX5) (T := TX5) (N := 27) hx hb hts zl_X5 hown hK hP 0 rfl rfl 0 (by decide) (hts _ m_f_RX5_7) (fun _ h => h) rfl dX5_hush_7 ?_
  refine lv_bipush (v := 12) hx hb dX5_hush_10 (by decide) ?_
  refine va_iald (D := g.1) hx hb hK hP 1 0 rfl rfl (vp_in_iff.mpr (by decide +kernel)) dX5_hush_12 ?_
  refine lv_topi (nm_r (e' := 0) (by rfl) ?_)
  refine lv_imul hx hb dX5_hush_13 ?_
  refine lv_topi (nm_r (e' := 0) (by decide +kernel) ?_)
  refine lv_icmp_ge (tgt := 78) hx hb dX5_hush_14 (by decide) (fun _ => ?_) (fun h => absurd h (by decide +kernel))
  refine lv_iload_n hx hb dX5_hush_78 rfl (lv_at hl 1 rfl) ?_
  have hP9 := hP.sub (ws' := []) [] rfl
  have hD9 := hD.sub (ws' := []) [] (by decide) rfl
  exact W.iret (v := 0) hx hb hr (fun t ht hW => ⟨⟨0, 0, rfl, rfl, by rw [ht]; exact hP9, hD9⟩, hS.F ht⟩) hS.2.2 dX5_hush_79
set_option maxHeartbeats 4000000 in
set_option maxRecDepth 100000 in
theorem kX5_best (l : Launch) (g : zG) (h0 h1 h2 h3 h4 h5 h6 h7 h8 h9 h10 h11 h12 h13 h14 h15 h16 h17 h18 h19 h20 h21 h22 : Nat) (sz : Nat) (p1 : Int32) : Met l yX5_best (.code yX5_best cX5_best 6 (some .int) :: zBig) ({ frames := 2, cells := 0, slots := 0, locals := 46 }) (va_Pc [.ref h0, .int p1] (zPre g [(h0, .inr (5, [.ref h1, .int 0, .ref h2, .int 0, .int 0, .ref h3, .ref h4, .ref h5, .ref h6, .int 0, .ref h7, .ref h8, .ref h9, .int 0, .ref h10, .ref h11, .ref h12, .ref h13, .ref h14, .ref h15, .ref h16, .ref h17, .ref h18, .ref h19, .ref h20, .ref h21, .ref h22])), (h1, .inl (zI g, 180, .inl (upd (upd (upd (fun _ => 0) 0 60) 1 1) 2 1)))] sz)) (va_Qi (fun (r : Int32) (_ : Nat) => (p1.toInt < 0 ∧ r = (-1)) ∨ (0 ≤ p1.toInt ∧ r = (-1))) (zPost g (fun _ : Nat => []) (va_A [(h0, .inr (5, [.ref h1, .int 0, .ref h2, .int 0, .int 0, .ref h3, .ref h4, .ref h5, .ref h6, .int 0, .ref h7, .ref h8, .ref h9, .int 0, .ref h10, .ref h11, .ref h12, .ref h13, .ref h14, .ref h15, .ref h16, .ref h17, .ref h18, .ref h19, .ref h20, .ref h21, .ref h22])), (h1, .inl (zI g, 180, .inl (upd (upd (upd (fun _ => 0) 0 60) 1 1) 2 1)))] sz)) (va_A [(h0, .inr (5, [.ref h1, .int 0, .ref h2, .int 0, .int 0, .ref h3, .ref h4, .ref h5, .ref h6, .int 0, .ref h7, .ref h8, .ref h9, .int 0, .ref h10, .ref h11, .ref h12, .ref h13, .ref h14, .ref h15, .ref h16, .ref h17, .ref h18, .ref h19, .ref h20, .ref h21, .ref h22])), (h1, .inl (zI g, 180, .inl (upd (upd (upd (fun _ => 0) 0 60) 1 1) 2 1)))] sz)) 0 0 (va_A [(h0, .inr (5, [.ref h1, .int 0, .ref h2, .int 0, .int 0, .ref h3, .ref h4, .ref h5, .ref h6, .int 0, .ref h7, .ref h8, .ref h9, .int 0, .ref h10, .ref h11, .ref h12, .ref h13, .ref h14, .ref h15, .ref h16, .ref h17, .ref h18, .ref h19, .ref h20, .ref h21, .ref h22])), (h1, .inl (zI g, 180, .inl (upd (upd (upd (fun _ => 0) 0 60) 1 1) 2 1)))] sz) := by
  refine zMetI rfl (Nat.le_of_ble_eq_true rfl) ?_
  intro p e s m args below meth c A ls hx hb hml hr hlocks hin hown hts hK hN hZ hP hD hA hS hAe hl
  have hown : s.vm.findClass RX5 = some m.cls := hown
  have hl : lv_has ls 6 [(0, .ref h0), (1, .int p1)] := hl
  refine lv_aload_n hx hb dX5_best_0 rfl (lv_at hl 0 rfl) ?_
  refine lv_iload_n hx hb dX5_best_1 rfl (lv_at hl 1 rfl) ?_
  refine z_calli (wr := []) hP hD hS hA [0, 1] [] (by decide) rfl rfl (by decide) (va_runV (As := [.int p1]) (rest := []) ⟨hx, hb, hml, hown, hts⟩ (kX5_isBuyer_2 l g h0 h1 h2 h3 h4 h5 h6 h7 h8 h9 h10 h11 h12 h13 h14 h15 h16 h17 h18 h19 h20 h21 h22 s.heap.size p1) ⟨callB_of 1 hts (zGood m_o_yX5_isBuyer) rfl rfl rfl (hts _ m_z_RX5) (hts _ m_m_RX5_92) ⟨by decide +kernel, by decide +kernel, by decide +kernel⟩ ⟨Nat.le_of_ble_eq_true rfl, Nat.le_of_ble_eq_true rfl⟩, hts _ m_i_yX5_isBuyer, hts _ m_e_yX5_isBuyer⟩ (zPreV hK hN hZ hP hD hS hA [0, 1] (by decide) rfl rfl 5 0 rfl rfl) rfl rfl hl.1 rfl (lv_room (Nat.le_of_ble_eq_true rfl)) dX5_best_2 ⟨Nat.le_of_ble_eq_true rfl, Nat.le_of_ble_eq_true rfl⟩) (fun r u H locs hw hP hD hS => ?_)
  rcases hw with ⟨i_0, rfl⟩ | ⟨i_1, rfl⟩
  · skip
    have i_0 : p1.toInt < 0 := i_0
    have hP : va_P g.1 vwCl [(h0, .inr (5, [.ref h1, .int 0, .ref h2, .int 0, .int 0, .ref h3, .ref h4, .ref h5, .ref h6, .int 0, .ref h7, .ref h8, .ref h9, .int 0, .ref h10, .ref h11, .ref h12, .ref h13, .ref h14, .ref h15, .ref h16, .ref h17, .ref h18, .ref h19, .ref h20, .ref h21, .ref h22])), (h1, .inl (zI g, 180, .inl (upd (upd (upd (fun _ => 0) 0 60) 1 1) 2 1)))] H := hP
    have hD : va_D A [(h0, .inr (5, [.ref h1, .int 0, .ref h2, .int 0, .int 0, .ref h3, .ref h4, .ref h5, .ref h6, .int 0, .ref h7, .ref h8, .ref h9, .int 0, .ref h10, .ref h11, .ref h12, .ref h13, .ref h14, .ref h15, .ref h16, .ref h17, .ref h18, .ref h19, .ref h20, .ref h21, .ref h22])), (h1, .inl (zI g, 180, .inl (upd (upd (upd (fun _ => 0) 0 60) 1 1) 2 1)))] := hD
    refine lv_if_ne (tgt := 10) hx hb dX5_best_5 (by decide) (fun h => absurd h (by decide +kernel)) (fun _ => ?_)
    refine lv_iconst (v := (-1)) hx hb dX5_best_8 (by decide) ?_
    have hP9 := hP.sub (ws' := []) [] rfl
    have hD9 := hD.sub (ws' := []) [] (by decide) rfl
    exact W.iret (v := (-1)) hx hb hr (fun t ht hW => ⟨⟨(-1), 0, rfl, Or.inl ⟨i_0, rfl⟩, by rw [ht]; exact hP9, hD9⟩, hS.F ht⟩) hS.2.2 dX5_best_9
  · skip
    have i_1 : 0 ≤ p1.toInt := i_1
    have hP : va_P g.1 vwCl [(h0, .inr (5, [.ref h1, .int 0, .ref h2, .int 0, .int 0, .ref h3, .ref h4, .ref h5, .ref h6, .int 0, .ref h7, .ref h8, .ref h9, .int 0, .ref h10, .ref h11, .ref h12, .ref h13, .ref h14, .ref h15, .ref h16, .ref h17, .ref h18, .ref h19, .ref h20, .ref h21, .ref h22])), (h1, .inl (zI g, 180, .inl (upd (upd (upd (fun _ => 0) 0 60) 1 1) 2 1)))] H := hP
    have hD : va_D A [(h0, .inr (5, [.ref h1, .int 0, .ref h2, .int 0, .int 0, .ref h3, .ref h4, .ref h5, .ref h6, .int 0, .ref h7, .ref h8, .ref h9, .int 0, .ref h10, .ref h11, .ref h12, .ref h13, .ref h14, .ref h15, .ref h16, .ref h17, .ref h18, .ref h19, .ref h20, .ref h21, .ref h22])), (h1, .inl (zI g, 180, .inl (upd (upd (upd (fun _ => 0) 0 60) 1 1) 2 1)))] := hD
    refine lv_if_ne (tgt := 10) hx hb dX5_best_5 (by decide) (fun h => absurd h (by decide +kernel)) (fun _ => ?_)
    refine lv_iconst (v := (-1)) hx hb dX5_best_8 (by decide) ?_
    have hP9 := hP.sub (ws' := []) [] rfl
    have hD9 := hD.sub (ws' := []) [] (by decide) rfl
    exact W.iret (v := (-1)) hx hb hr (fun t ht hW => ⟨⟨(-1), 0, rfl, Or.inr (⟨i_1, rfl⟩), by rw [ht]; exact hP9, hD9⟩, hS.F ht⟩) hS.2.2 dX5_best_9
set_option maxHeartbeats 4000000 in
set_option maxRecDepth 100000 in
theorem kX5_in_23 (l : Launch) (g : zG) (sz : Nat) (p0 : Int64) : Met l yX5_in (.code yX5_in cX5_in 6 (some .boolean) :: zBig) ({ frames := 0, cells := 0, slots := 0, locals := 0 }) (va_Pc [.long p0, .long (-1), .long 4] (zPre g [] sz)) (va_Qi (fun (r : Int32) (_ : Nat) => ((p0 : Int64).toInt < (-1) ∧ r = 0) ∨ ((-1) ≤ (p0 : Int64).toInt ∧ 4 < (p0 : Int64).toInt ∧ r = 0) ∨ ((-1) ≤ (p0 : Int64).toInt ∧ (p0 : Int64).toInt ≤ 4 ∧ r = 1)) (zPost g (fun _ : Nat => []) (va_A [] sz)) (va_A [] sz)) 0 0 (va_A [] sz) := by
  refine zMetI rfl (Nat.le_of_ble_eq_true rfl) ?_
  intro p e s m args below meth c A ls hx hb hml hr hlocks hin hown hts hK hN hZ hP hD hA hS hAe hl
  have hown : s.vm.findClass RX5 = some m.cls := hown
  have hl : lv_has ls 6 [(0, .long p0), (2, .long (-1)), (4, .long 4)] := hl
  refine lv_lload_n hx hb dX5_in_0 rfl (lv_at hl 0 rfl) ?_
  refine lv_lload_n hx hb dX5_in_1 rfl (lv_at hl 1 rfl) ?_
  refine W.lcmp hx hb dX5_in_2 ?_
  refine lv_if_lt (tgt := 17) hx hb dX5_in_3 (by decide) (fun c_0 => ?_) (fun c_0 => ?_)
  · have i_0 : (p0 : Int64).toInt < (-1) := zl_lt (rfl) (rfl) ((lg_cmp_lt _ _).mp c_0)
    refine lv_iconst (v := 0) hx hb dX5_in_17 (by decide) ?_
    have hP9 := hP.sub (ws' := []) [] rfl
    have hD9 := hD.sub (ws' := []) [] (by decide) rfl
    exact W.zret (v := 0) hx hb hr (by decide) (fun t ht hW => ⟨⟨0, 0, rfl, Or.inl ⟨i_0, rfl⟩, by rw [ht]; exact hP9, hD9⟩, hS.F ht⟩) hS.2.2 dX5_in_18
  · have i_0 : (-1) ≤ (p0 : Int64).toInt := zl_nlt (rfl) (rfl) (fun h => c_0 ((lg_cmp_lt _ _).mpr h))
    refine lv_lload_n hx hb dX5_in_6 rfl (lv_at hl 0 rfl) ?_
    refine lv_lload hx hb dX5_in_7 (lv_at hl 2 rfl) ?_
    refine W.lcmp hx hb dX5_in_9 ?_
    refine lv_if_gt (tgt := 17) hx hb dX5_in_10 (by decide) (fun c_1 => ?_) (fun c_1 => ?_)
    · have i_1 : 4 < (p0 : Int64).toInt := zl_lt (rfl) (rfl) ((lg_cmp_gt _ _).mp c_1)
      refine lv_iconst (v := 0) hx hb dX5_in_17 (by decide) ?_
      have hP9 := hP.sub (ws' := []) [] rfl
      have hD9 := hD.sub (ws' := []) [] (by decide) rfl
      exact W.zret (v := 0) hx hb hr (by decide) (fun t ht hW => ⟨⟨0, 0, rfl, Or.inr (Or.inl ⟨i_0, i_1, rfl⟩), by rw [ht]; exact hP9, hD9⟩, hS.F ht⟩) hS.2.2 dX5_in_18
    · have i_1 : (p0 : Int64).toInt ≤ 4 := zl_nlt (rfl) (rfl) (fun h => c_1 ((lg_cmp_gt _ _).mpr h))
      refine lv_iconst (v := 1) hx hb dX5_in_13 (by decide) ?_
      refine lv_goto (tgt := 18) hx hb dX5_in_14 (by decide) ?_
      have hP9 := hP.sub (ws' := []) [] rfl
      have hD9 := hD.sub (ws' := []) [] (by decide) rfl
      exact W.zret (v := 1) hx hb hr (by decide) (fun t ht hW => ⟨⟨1, 0, rfl, Or.inr (Or.inr (⟨i_0, i_1, rfl⟩)), by rw [ht]; exact hP9, hD9⟩, hS.F ht⟩) hS.2.2 dX5_in_18
set_option maxHeartbeats 4000000 in
set_option maxRecDepth 100000 in
theorem kX5_in_24 (l : Launch) (g : zG) (sz : Nat) (p0 : Int64) : Met l yX5_in (.code yX5_in cX5_in 6 (some .boolean) :: zBig) ({ frames := 0, cells := 0, slots := 0, locals := 0 }) (va_Pc [.long p0, .long (-1), .long 4] (zPre g [] sz)) (va_Qi (fun (r : Int32) (_ : Nat) => ((p0 : Int64).toInt < (-1) ∧ r = 0) ∨ ((-1) ≤ (p0 : Int64).toInt ∧ 4 < (p0 : Int64).toInt ∧ r = 0) ∨ ((-1) ≤ (p0 : Int64).toInt ∧ (p0 : Int64).toInt ≤ 4 ∧ r = 1)) (zPost g (fun _ : Nat => []) (va_A [] sz)) (va_A [] sz)) 0 0 (va_A [] sz) := by
  refine zMetI rfl (Nat.le_of_ble_eq_true rfl) ?_
  intro p e s m args below meth c A ls hx hb hml hr hlocks hin hown hts hK hN hZ hP hD hA hS hAe hl
  have hown : s.vm.findClass RX5 = some m.cls := hown
  have hl : lv_has ls 6 [(0, .long p0), (2, .long (-1)), (4, .long 4)] := hl
  refine lv_lload_n hx hb dX5_in_0 rfl (lv_at hl 0 rfl) ?_
  refine lv_lload_n hx hb dX5_in_1 rfl (lv_at hl 1 rfl) ?_
  refine W.lcmp hx hb dX5_in_2 ?_
  refine lv_if_lt (tgt := 17) hx hb dX5_in_3 (by decide) (fun c_0 => ?_) (fun c_0 => ?_)
  · have i_0 : (p0 : Int64).toInt < (-1) := zl_lt (rfl) (rfl) ((lg_cmp_lt _ _).mp c_0)
    refine lv_iconst (v := 0) hx hb dX5_in_17 (by decide) ?_
    have hP9 := hP.sub (ws' := []) [] rfl
    have hD9 := hD.sub (ws' := []) [] (by decide) rfl
    exact W.zret (v := 0) hx hb hr (by decide) (fun t ht hW => ⟨⟨0, 0, rfl, Or.inl ⟨i_0, rfl⟩, by rw [ht]; exact hP9, hD9⟩, hS.F ht⟩) hS.2.2 dX5_in_18
  · have i_0 : (-1) ≤ (p0 : Int64).toInt := zl_nlt (rfl) (rfl) (fun h => c_0 ((lg_cmp_lt _ _).mpr h))
    refine lv_lload_n hx hb dX5_in_6 rfl (lv_at hl 0 rfl) ?_
    refine lv_lload hx hb dX5_in_7 (lv_at hl 2 rfl) ?_
    refine W.lcmp hx hb dX5_in_9 ?_
    refine lv_if_gt (tgt := 17) hx hb dX5_in_10 (by decide) (fun c_1 => ?_) (fun c_1 => ?_)
    · have i_1 : 4 < (p0 : Int64).toInt := zl_lt (rfl) (rfl) ((lg_cmp_gt _ _).mp c_1)
      refine lv_iconst (v := 0) hx hb dX5_in_17 (by decide) ?_
      have hP9 := hP.sub (ws' := []) [] rfl
      have hD9 := hD.sub (ws' := []) [] (by decide) rfl
      exact W.zret (v := 0) hx hb hr (by decide) (fun t ht hW => ⟨⟨0, 0, rfl, Or.inr (Or.inl ⟨i_0, i_1, rfl⟩), by rw [ht]; exact hP9, hD9⟩, hS.F ht⟩) hS.2.2 dX5_in_18
    · have i_1 : (p0 : Int64).toInt ≤ 4 := zl_nlt (rfl) (rfl) (fun h => c_1 ((lg_cmp_gt _ _).mpr h))
      refine lv_iconst (v := 1) hx hb dX5_in_13 (by decide) ?_
      refine lv_goto (tgt := 18) hx hb dX5_in_14 (by decide) ?_
      have hP9 := hP.sub (ws' := []) [] rfl
      have hD9 := hD.sub (ws' := []) [] (by decide) rfl
      exact W.zret (v := 1) hx hb hr (by decide) (fun t ht hW => ⟨⟨1, 0, rfl, Or.inr (Or.inr (⟨i_0, i_1, rfl⟩)), by rw [ht]; exact hP9, hD9⟩, hS.F ht⟩) hS.2.2 dX5_in_18
set_option maxHeartbeats 4000000 in
set_option maxRecDepth 100000 in
theorem kX5_rests (l : Launch) (g : zG) (h0 h1 h2 h3 h4 h5 h6 h7 h8 h9 h10 h11 h12 h13 h14 h15 h16 h17 h18 h19 h20 h21 h22 : Nat) (sz : Nat) (p1 : Int32) : Met l yX5_rests (.code yX5_rests cX5_rests 7 (some .int) :: zBig) ({ frames := 1, cells := 0, slots := 0, locals := 25 }) (va_Pc [.ref h0, .int p1] (zPre g [(h0, .inr (5, [.ref h1, .int 0, .ref h2, .int 0, .int 0, .ref h3, .ref h4, .ref h5, .ref h6, .int 0, .ref h7, .ref h8, .ref h9, .int 0, .ref h10, .ref h11, .ref h12, .ref h13, .ref h14, .ref h15, .ref h16, .ref h17, .ref h18, .ref h19, .ref h20, .ref h21, .ref h22])), (h1, .inl (zI g, 180, .inl (upd (upd (upd (fun _ => 0) 0 60) 1 1) 2 1)))] sz)) (va_Qi (fun (r : Int32) (_ : Nat) => (p1.toInt < (-1) ∧ r = (-1)) ∨ ((-1) ≤ p1.toInt ∧ 4 < p1.toInt ∧ r = (-1)) ∨ ((-1) ≤ p1.toInt ∧ p1.toInt ≤ 4 ∧ r = (-2))) (zPost g (fun _ : Nat => []) (va_A [(h0, .inr (5, [.ref h1, .int 0, .ref h2, .int 0, .int 0, .ref h3, .ref h4, .ref h5, .ref h6, .int 0, .ref h7, .ref h8, .ref h9, .int 0, .ref h10, .ref h11, .ref h12, .ref h13, .ref h14, .ref h15, .ref h16, .ref h17, .ref h18, .ref h19, .ref h20, .ref h21, .ref h22])), (h1, .inl (zI g, 180, .inl (upd (upd (upd (fun _ => 0) 0 60) 1 1) 2 1)))] sz)) (va_A [(h0, .inr (5, [.ref h1, .int 0, .ref h2, .int 0, .int 0, .ref h3, .ref h4, .ref h5, .ref h6, .int 0, .ref h7, .ref h8, .ref h9, .int 0, .ref h10, .ref h11, .ref h12, .ref h13, .ref h14, .ref h15, .ref h16, .ref h17, .ref h18, .ref h19, .ref h20, .ref h21, .ref h22])), (h1, .inl (zI g, 180, .inl (upd (upd (upd (fun _ => 0) 0 60) 1 1) 2 1)))] sz)) 0 0 (va_A [(h0, .inr (5, [.ref h1, .int 0, .ref h2, .int 0, .int 0, .ref h3, .ref h4, .ref h5, .ref h6, .int 0, .ref h7, .ref h8, .ref h9, .int 0, .ref h10, .ref h11, .ref h12, .ref h13, .ref h14, .ref h15, .ref h16, .ref h17, .ref h18, .ref h19, .ref h20, .ref h21, .ref h22])), (h1, .inl (zI g, 180, .inl (upd (upd (upd (fun _ => 0) 0 60) 1 1) 2 1)))] sz) := by
  refine zMetI rfl (Nat.le_of_ble_eq_true rfl) ?_
  intro p e s m args below meth c A ls hx hb hml hr hlocks hin hown hts hK hN hZ hP hD hA hS hAe hl
  have hown : s.vm.findClass RX5 = some m.cls := hown
  have hl : lv_has ls 7 [(0, .ref h0), (1, .int p1)] := hl
  refine lv_iload_n hx hb dX5_rests_0 rfl (lv_at hl 1 rfl) ?_
  refine lv_i2l (v := p1.toInt64) hx hb dX5_rests_1 rfl ?_
  refine lv_ldc2 (v := (-1)) hx hb hown (hts _ m_k_RX5_208) dX5_rests_2 ?_
  refine lv_ldc2 (v := 4) hx hb hown (hts _ m_k_RX5_81) dX5_rests_5 ?_
  refine z_calli (wr := [(h0, .inr (5, [.ref h1, .int 0, .ref h2, .int 0, .int 0, .ref h3, .ref h4, .ref h5, .ref h6, .int 0, .ref h7, .ref h8, .ref h9, .int 0, .ref h10, .ref h11, .ref h12, .ref h13, .ref h14, .ref h15, .ref h16, .ref h17, .ref h18, .ref h19, .ref h20, .ref h21, .ref h22])), (h1, .inl (zI g, 180, .inl (upd (upd (upd (fun _ => 0) 0 60) 1 1) 2 1)))]) hP hD hS hA [] [0, 1] (by decide) rfl rfl (by decide) (va_runS (As := [.long p1.toInt64, .long (-1), .long 4]) (rest := []) ⟨hx, hb, hml, hown, hts⟩ (kX5_in_24 l g  s.heap.size p1.toInt64) ⟨callB_of 3 hts (zGood m_o_yX5_in) rfl rfl rfl (hts _ m_z_RX5) (hts _ m_m_RX5_77) ⟨by decide +kernel, by decide +kernel, by decide +kernel⟩ ⟨Nat.le_of_ble_eq_true rfl, Nat.le_of_ble_eq_true rfl⟩, hts _ m_s_yX5_in⟩ (zPreS hK hN hZ hP hD hS hA [] (by decide) rfl rfl) rfl rfl hl.1 rfl (lv_room (Nat.le_of_ble_eq_true rfl)) dX5_rests_8 ⟨Nat.le_of_ble_eq_true rfl, Nat.le_of_ble_eq_true rfl⟩) (fun r u H locs hw hP hD hS => ?_)
  rcases hw with ⟨i_0, rfl⟩ | ⟨i_1, i_2, rfl⟩ | ⟨i_3, i_4, rfl⟩
  · skip
    have i_0 : p1.toInt < (-1) := by simpa only [Int32.toInt_toInt64] using i_0
    have hP : va_P g.1 vwCl [(h0, .inr (5, [.ref h1, .int 0, .ref h2, .int 0, .int 0, .ref h3, .ref h4, .ref h5, .ref h6, .int 0, .ref h7, .ref h8, .ref h9, .int 0, .ref h10, .ref h11, .ref h12, .ref h13, .ref h14, .ref h15, .ref h16, .ref h17, .ref h18, .ref h19, .ref h20, .ref h21, .ref h22])), (h1, .inl (zI g, 180, .inl (upd (upd (upd (fun _ => 0) 0 60) 1 1) 2 1)))] H := hP
    have hD : va_D A [(h0, .inr (5, [.ref h1, .int 0, .ref h2, .int 0, .int 0, .ref h3, .ref h4, .ref h5, .ref h6, .int 0, .ref h7, .ref h8, .ref h9, .int 0, .ref h10, .ref h11, .ref h12, .ref h13, .ref h14, .ref h15, .ref h16, .ref h17, .ref h18, .ref h19, .ref h20, .ref h21, .ref h22])), (h1, .inl (zI g, 180, .inl (upd (upd (upd (fun _ => 0) 0 60) 1 1) 2 1)))] := hD
    refine lv_if_ne (tgt := 16) hx hb dX5_rests_11 (by decide) (fun h => absurd h (by decide +kernel)) (fun _ => ?_)
    refine lv_iconst (v := (-1)) hx hb dX5_rests_14 (by decide) ?_
    have hP9 := hP.sub (ws' := []) [] rfl
    have hD9 := hD.sub (ws' := []) [] (by decide) rfl
    exact W.iret (v := (-1)) hx hb hr (fun t ht hW => ⟨⟨(-1), 0, rfl, Or.inl ⟨i_0, rfl⟩, by rw [ht]; exact hP9, hD9⟩, hS.F ht⟩) hS.2.2 dX5_rests_15
  · skip
    have i_1 : (-1) ≤ p1.toInt := by simpa only [Int32.toInt_toInt64] using i_1
    have i_2 : 4 < p1.toInt := by simpa only [Int32.toInt_toInt64] using i_2
    have hP : va_P g.1 vwCl [(h0, .inr (5, [.ref h1, .int 0, .ref h2, .int 0, .int 0, .ref h3, .ref h4, .ref h5, .ref h6, .int 0, .ref h7, .ref h8, .ref h9, .int 0, .ref h10, .ref h11, .ref h12, .ref h13, .ref h14, .ref h15, .ref h16, .ref h17, .ref h18, .ref h19, .ref h20, .ref h21, .ref h22])), (h1, .inl (zI g, 180, .inl (upd (upd (upd (fun _ => 0) 0 60) 1 1) 2 1)))] H := hP
    have hD : va_D A [(h0, .inr (5, [.ref h1, .int 0, .ref h2, .int 0, .int 0, .ref h3, .ref h4, .ref h5, .ref h6, .int 0, .ref h7, .ref h8, .ref h9, .int 0, .ref h10, .ref h11, .ref h12, .ref h13, .ref h14, .ref h15, .ref h16, .ref h17, .ref h18, .ref h19, .ref h20, .ref h21, .ref h22])), (h1, .inl (zI g, 180, .inl (upd (upd (upd (fun _ => 0) 0 60) 1 1) 2 1)))] := hD
    refine lv_if_ne (tgt := 16) hx hb dX5_rests_11 (by decide) (fun h => absurd h (by decide +kernel)) (fun _ => ?_)
    refine lv_iconst (v := (-1)) hx hb dX5_rests_14 (by decide) ?_
    have hP9 := hP.sub (ws' := []) [] rfl
    have hD9 := hD.sub (ws' := []) [] (by decide) rfl
    exact W.iret (v := (-1)) hx hb hr (fun t ht hW => ⟨⟨(-1), 0, rfl, Or.inr (Or.inl ⟨i_1, i_2, rfl⟩), by rw [ht]; exact hP9, hD9⟩, hS.F ht⟩) hS.2.2 dX5_rests_15
  · skip
    have i_3 : (-1) ≤ p1.toInt := by simpa only [Int32.toInt_toInt64] using i_3
    have i_4 : p1.toInt ≤ 4 := by simpa only [Int32.toInt_toInt64] using i_4
    have hP : va_P g.1 vwCl [(h0, .inr (5, [.ref h1, .int 0, .ref h2, .int 0, .int 0, .ref h3, .ref h4, .ref h5, .ref h6, .int 0, .ref h7, .ref h8, .ref h9, .int 0, .ref h10, .ref h11, .ref h12, .ref h13, .ref h14, .ref h15, .ref h16, .ref h17, .ref h18, .ref h19, .ref h20, .ref h21, .ref h22])), (h1, .inl (zI g, 180, .inl (upd (upd (upd (fun _ => 0) 0 60) 1 1) 2 1)))] H := hP
    have hD : va_D A [(h0, .inr (5, [.ref h1, .int 0, .ref h2, .int 0, .int 0, .ref h3, .ref h4, .ref h5, .ref h6, .int 0, .ref h7, .ref h8, .ref h9, .int 0, .ref h10, .ref h11, .ref h12, .ref h13, .ref h14, .ref h15, .ref h16, .ref h17, .ref h18, .ref h19, .ref h20, .ref h21, .ref h22])), (h1, .inl (zI g, 180, .inl (upd (upd (upd (fun _ => 0) 0 60) 1 1) 2 1)))] := hD
    refine lv_if_ne (tgt := 16) hx hb dX5_rests_11 (by decide) (fun _ => ?_) (fun h => absurd h (by decide +kernel))
    refine lv_aload_n hx hb dX5_rests_16 rfl (lv_at hl 0 rfl) ?_
    refine va_get (D := g.1) (ci := 5) (v := .ref h1) (C := RX5) (T := TX5) (N := 27) hx hb hts zl_X5 hown hK hP 0 rfl rfl 0 (by decide) (hts _ m_f_RX5_7) (fun _ h => h) rfl dX5_rests_17 ?_
    refine lv_bipush (v := 12) hx hb dX5_rests_20 (by decide) ?_
    refine va_iald (D := g.1) hx hb hK hP 1 0 rfl rfl (vp_in_iff.mpr (by decide +kernel)) dX5_rests_22 ?_
    refine lv_topi (nm_r (e' := 0) (by rfl) ?_)
    refine lv_istore_n (lv' := [(2, .int 0), (0, .ref h0), (1, .int p1)]) hx hb dX5_rests_23 rfl hl (by decide) rfl (fun ls hl => ?_)
    refine lv_iload_n hx hb dX5_rests_24 rfl (lv_at hl 0 rfl) ?_
    refine lv_if_ne (tgt := 31) hx hb dX5_rests_25 (by decide) (fun h => absurd h (by decide +kernel)) (fun _ => ?_)
    refine lv_bipush (v := (-2)) hx hb dX5_rests_28 (by decide) ?_
    have hP9 := hP.sub (ws' := []) [] rfl
    have hD9 := hD.sub (ws' := []) [] (by decide) rfl
    exact W.iret (v := (-2)) hx hb hr (fun t ht hW => ⟨⟨(-2), 0, rfl, Or.inr (Or.inr (⟨i_3, i_4, rfl⟩)), by rw [ht]; exact hP9, hD9⟩, hS.F ht⟩) hS.2.2 dX5_rests_30
set_option maxHeartbeats 4000000 in
set_option maxRecDepth 100000 in
theorem kX5_in_25 (l : Launch) (g : zG) (sz : Nat) (p0 : Int64) : Met l yX5_in (.code yX5_in cX5_in 6 (some .boolean) :: zBig) ({ frames := 0, cells := 0, slots := 0, locals := 0 }) (va_Pc [.long p0, .long (-1), .long 5] (zPre g [] sz)) (va_Qi (fun (r : Int32) (_ : Nat) => ((p0 : Int64).toInt < (-1) ∧ r = 0) ∨ ((-1) ≤ (p0 : Int64).toInt ∧ 5 < (p0 : Int64).toInt ∧ r = 0) ∨ ((-1) ≤ (p0 : Int64).toInt ∧ (p0 : Int64).toInt ≤ 5 ∧ r = 1)) (zPost g (fun _ : Nat => []) (va_A [] sz)) (va_A [] sz)) 0 0 (va_A [] sz) := by
  refine zMetI rfl (Nat.le_of_ble_eq_true rfl) ?_
  intro p e s m args below meth c A ls hx hb hml hr hlocks hin hown hts hK hN hZ hP hD hA hS hAe hl
  have hown : s.vm.findClass RX5 = some m.cls := hown
  have hl : lv_has ls 6 [(0, .long p0), (2, .long (-1)), (4, .long 5)] := hl
  refine lv_lload_n hx hb dX5_in_0 rfl (lv_at hl 0 rfl) ?_
  refine lv_lload_n hx hb dX5_in_1 rfl (lv_at hl 1 rfl) ?_
  refine W.lcmp hx hb dX5_in_2 ?_
  refine lv_if_lt (tgt := 17) hx hb dX5_in_3 (by decide) (fun c_0 => ?_) (fun c_0 => ?_)
  · have i_0 : (p0 : Int64).toInt < (-1) := zl_lt (rfl) (rfl) ((lg_cmp_lt _ _).mp c_0)
    refine lv_iconst (v := 0) hx hb dX5_in_17 (by decide) ?_
    have hP9 := hP.sub (ws' := []) [] rfl
    have hD9 := hD.sub (ws' := []) [] (by decide) rfl
    exact W.zret (v := 0) hx hb hr (by decide) (fun t ht hW => ⟨⟨0, 0, rfl, Or.inl ⟨i_0, rfl⟩, by rw [ht]; exact hP9, hD9⟩, hS.F ht⟩) hS.2.2 dX5_in_18
  · have i_0 : (-1) ≤ (p0 : Int64).toInt := zl_nlt (rfl) (rfl) (fun h => c_0 ((lg_cmp_lt _ _).mpr h))
    refine lv_lload_n hx hb dX5_in_6 rfl (lv_at hl 0 rfl) ?_
    refine lv_lload hx hb dX5_in_7 (lv_at hl 2 rfl) ?_
    refine W.lcmp hx hb dX5_in_9 ?_
    refine lv_if_gt (tgt := 17) hx hb dX5_in_10 (by decide) (fun c_1 => ?_) (fun c_1 => ?_)
    · have i_1 : 5 < (p0 : Int64).toInt := zl_lt (rfl) (rfl) ((lg_cmp_gt _ _).mp c_1)
      refine lv_iconst (v := 0) hx hb dX5_in_17 (by decide) ?_
      have hP9 := hP.sub (ws' := []) [] rfl
      have hD9 := hD.sub (ws' := []) [] (by decide) rfl
      exact W.zret (v := 0) hx hb hr (by decide) (fun t ht hW => ⟨⟨0, 0, rfl, Or.inr (Or.inl ⟨i_0, i_1, rfl⟩), by rw [ht]; exact hP9, hD9⟩, hS.F ht⟩) hS.2.2 dX5_in_18
    · have i_1 : (p0 : Int64).toInt ≤ 5 := zl_nlt (rfl) (rfl) (fun h => c_1 ((lg_cmp_gt _ _).mpr h))
      refine lv_iconst (v := 1) hx hb dX5_in_13 (by decide) ?_
      refine lv_goto (tgt := 18) hx hb dX5_in_14 (by decide) ?_
      have hP9 := hP.sub (ws' := []) [] rfl
      have hD9 := hD.sub (ws' := []) [] (by decide) rfl
      exact W.zret (v := 1) hx hb hr (by decide) (fun t ht hW => ⟨⟨1, 0, rfl, Or.inr (Or.inr (⟨i_0, i_1, rfl⟩)), by rw [ht]; exact hP9, hD9⟩, hS.F ht⟩) hS.2.2 dX5_in_18
set_option maxHeartbeats 4000000 in
set_option maxRecDepth 100000 in
theorem kX5_in_26 (l : Launch) (g : zG) (sz : Nat) (p0 : Int64) : Met l yX5_in (.code yX5_in cX5_in 6 (some .boolean) :: zBig) ({ frames := 0, cells := 0, slots := 0, locals := 0 }) (va_Pc [.long p0, .long (-1), .long 5] (zPre g [] sz)) (va_Qi (fun (r : Int32) (_ : Nat) => ((p0 : Int64).toInt < (-1) ∧ r = 0) ∨ ((-1) ≤ (p0 : Int64).toInt ∧ 5 < (p0 : Int64).toInt ∧ r = 0) ∨ ((-1) ≤ (p0 : Int64).toInt ∧ (p0 : Int64).toInt ≤ 5 ∧ r = 1)) (zPost g (fun _ : Nat => []) (va_A [] sz)) (va_A [] sz)) 0 0 (va_A [] sz) := by
  refine zMetI rfl (Nat.le_of_ble_eq_true rfl) ?_
  intro p e s m args below meth c A ls hx hb hml hr hlocks hin hown hts hK hN hZ hP hD hA hS hAe hl
  have hown : s.vm.findClass RX5 = some m.cls := hown
  have hl : lv_has ls 6 [(0, .long p0), (2, .long (-1)), (4, .long 5)] := hl
  refine lv_lload_n hx hb dX5_in_0 rfl (lv_at hl 0 rfl) ?_
  refine lv_lload_n hx hb dX5_in_1 rfl (lv_at hl 1 rfl) ?_
  refine W.lcmp hx hb dX5_in_2 ?_
  refine lv_if_lt (tgt := 17) hx hb dX5_in_3 (by decide) (fun c_0 => ?_) (fun c_0 => ?_)
  · have i_0 : (p0 : Int64).toInt < (-1) := zl_lt (rfl) (rfl) ((lg_cmp_lt _ _).mp c_0)
    refine lv_iconst (v := 0) hx hb dX5_in_17 (by decide) ?_
    have hP9 := hP.sub (ws' := []) [] rfl
    have hD9 := hD.sub (ws' := []) [] (by decide) rfl
    exact W.zret (v := 0) hx hb hr (by decide) (fun t ht hW => ⟨⟨0, 0, rfl, Or.inl ⟨i_0, rfl⟩, by rw [ht]; exact hP9, hD9⟩, hS.F ht⟩) hS.2.2 dX5_in_18
  · have i_0 : (-1) ≤ (p0 : Int64).toInt := zl_nlt (rfl) (rfl) (fun h => c_0 ((lg_cmp_lt _ _).mpr h))
    refine lv_lload_n hx hb dX5_in_6 rfl (lv_at hl 0 rfl) ?_
    refine lv_lload hx hb dX5_in_7 (lv_at hl 2 rfl) ?_
    refine W.lcmp hx hb dX5_in_9 ?_
    refine lv_if_gt (tgt := 17) hx hb dX5_in_10 (by decide) (fun c_1 => ?_) (fun c_1 => ?_)
    · have i_1 : 5 < (p0 : Int64).toInt := zl_lt (rfl) (rfl) ((lg_cmp_gt _ _).mp c_1)
      refine lv_iconst (v := 0) hx hb dX5_in_17 (by decide) ?_
      have hP9 := hP.sub (ws' := []) [] rfl
      have hD9 := hD.sub (ws' := []) [] (by decide) rfl
      exact W.zret (v := 0) hx hb hr (by decide) (fun t ht hW => ⟨⟨0, 0, rfl, Or.inr (Or.inl ⟨i_0, i_1, rfl⟩), by rw [ht]; exact hP9, hD9⟩, hS.F ht⟩) hS.2.2 dX5_in_18
    · have i_1 : (p0 : Int64).toInt ≤ 5 := zl_nlt (rfl) (rfl) (fun h => c_1 ((lg_cmp_gt _ _).mpr h))
      refine lv_iconst (v := 1) hx hb dX5_in_13 (by decide) ?_
      refine lv_goto (tgt := 18) hx hb dX5_in_14 (by decide) ?_
      have hP9 := hP.sub (ws' := []) [] rfl
      have hD9 := hD.sub (ws' := []) [] (by decide) rfl
      exact W.zret (v := 1) hx hb hr (by decide) (fun t ht hW => ⟨⟨1, 0, rfl, Or.inr (Or.inr (⟨i_0, i_1, rfl⟩)), by rw [ht]; exact hP9, hD9⟩, hS.F ht⟩) hS.2.2 dX5_in_18
set_option maxHeartbeats 4000000 in
set_option maxRecDepth 100000 in
theorem kX5_order (l : Launch) (g : zG) (h0 h1 h2 h3 h4 h5 h6 h7 h8 h9 h10 h11 h12 h13 h14 h15 h16 h17 h18 h19 h20 h21 h22 : Nat) (sz : Nat) (p1 : Int32) : Met l yX5_order (.code yX5_order cX5_order 6 (some .int) :: zBig) ({ frames := 1, cells := 0, slots := 0, locals := 25 }) (va_Pc [.ref h0, .int p1] (zPre g [(h0, .inr (5, [.ref h1, .int 0, .ref h2, .int 0, .int 0, .ref h3, .ref h4, .ref h5, .ref h6, .int 0, .ref h7, .ref h8, .ref h9, .int 0, .ref h10, .ref h11, .ref h12, .ref h13, .ref h14, .ref h15, .ref h16, .ref h17, .ref h18, .ref h19, .ref h20, .ref h21, .ref h22])), (h1, .inl (zI g, 180, .inl (upd (upd (upd (fun _ => 0) 0 60) 1 1) 2 1)))] sz)) (va_Qi (fun (r : Int32) (_ : Nat) => (p1.toInt < (-1) ∧ r = (-1)) ∨ ((-1) ≤ p1.toInt ∧ 5 < p1.toInt ∧ r = (-1)) ∨ ((-1) ≤ p1.toInt ∧ p1.toInt ≤ 5 ∧ r = (-2))) (zPost g (fun _ : Nat => []) (va_A [(h0, .inr (5, [.ref h1, .int 0, .ref h2, .int 0, .int 0, .ref h3, .ref h4, .ref h5, .ref h6, .int 0, .ref h7, .ref h8, .ref h9, .int 0, .ref h10, .ref h11, .ref h12, .ref h13, .ref h14, .ref h15, .ref h16, .ref h17, .ref h18, .ref h19, .ref h20, .ref h21, .ref h22])), (h1, .inl (zI g, 180, .inl (upd (upd (upd (fun _ => 0) 0 60) 1 1) 2 1)))] sz)) (va_A [(h0, .inr (5, [.ref h1, .int 0, .ref h2, .int 0, .int 0, .ref h3, .ref h4, .ref h5, .ref h6, .int 0, .ref h7, .ref h8, .ref h9, .int 0, .ref h10, .ref h11, .ref h12, .ref h13, .ref h14, .ref h15, .ref h16, .ref h17, .ref h18, .ref h19, .ref h20, .ref h21, .ref h22])), (h1, .inl (zI g, 180, .inl (upd (upd (upd (fun _ => 0) 0 60) 1 1) 2 1)))] sz)) 0 0 (va_A [(h0, .inr (5, [.ref h1, .int 0, .ref h2, .int 0, .int 0, .ref h3, .ref h4, .ref h5, .ref h6, .int 0, .ref h7, .ref h8, .ref h9, .int 0, .ref h10, .ref h11, .ref h12, .ref h13, .ref h14, .ref h15, .ref h16, .ref h17, .ref h18, .ref h19, .ref h20, .ref h21, .ref h22])), (h1, .inl (zI g, 180, .inl (upd (upd (upd (fun _ => 0) 0 60) 1 1) 2 1)))] sz) := by
  refine zMetI rfl (Nat.le_of_ble_eq_true rfl) ?_
  intro p e s m args below meth c A ls hx hb hml hr hlocks hin hown hts hK hN hZ hP hD hA hS hAe hl
  have hown : s.vm.findClass RX5 = some m.cls := hown
  have hl : lv_has ls 6 [(0, .ref h0), (1, .int p1)] := hl
  refine lv_iload_n hx hb dX5_order_0 rfl (lv_at hl 1 rfl) ?_
  refine lv_i2l (v := p1.toInt64) hx hb dX5_order_1 rfl ?_
  refine lv_ldc2 (v := (-1)) hx hb hown (hts _ m_k_RX5_208) dX5_order_2 ?_
  refine lv_ldc2 (v := 5) hx hb hown (hts _ m_k_RX5_213) dX5_order_5 ?_
  refine z_calli (wr := [(h0, .inr (5, [.ref h1, .int 0, .ref h2, .int 0, .int 0, .ref h3, .ref h4, .ref h5, .ref h6, .int 0, .ref h7, .ref h8, .ref h9, .int 0, .ref h10, .ref h11, .ref h12, .ref h13, .ref h14, .ref h15, .ref h16, .ref h17, .ref h18, .ref h19, .ref h20, .ref h21, .ref h22])), (h1, .inl (zI g, 180, .inl (upd (upd (upd (fun _ => 0) 0 60) 1 1) 2 1)))]) hP hD hS hA [] [0, 1] (by decide) rfl rfl (by decide) (va_runS (As := [.long p1.toInt64, .long (-1), .long 5]) (rest := []) ⟨hx, hb, hml, hown, hts⟩ (kX5_in_26 l g  s.heap.size p1.toInt64) ⟨callB_of 3 hts (zGood m_o_yX5_in) rfl rfl rfl (hts _ m_z_RX5) (hts _ m_m_RX5_77) ⟨by decide +kernel, by decide +kernel, by decide +kernel⟩ ⟨Nat.le_of_ble_eq_true rfl, Nat.le_of_ble_eq_true rfl⟩, hts _ m_s_yX5_in⟩ (zPreS hK hN hZ hP hD hS hA [] (by decide) rfl rfl) rfl rfl hl.1 rfl (lv_room (Nat.le_of_ble_eq_true rfl)) dX5_order_8 ⟨Nat.le_of_ble_eq_true rfl, Nat.le_of_ble_eq_true rfl⟩) (fun r u H locs hw hP hD hS => ?_)
  rcases hw with ⟨i_0, rfl⟩ | ⟨i_1, i_2, rfl⟩ | ⟨i_3, i_4, rfl⟩
  · skip
    have i_0 : p1.toInt < (-1) := by simpa only [Int32.toInt_toInt64] using i_0
    have hP : va_P g.1 vwCl [(h0, .inr (5, [.ref h1, .int 0, .ref h2, .int 0, .int 0, .ref h3, .ref h4, .ref h5, .ref h6, .int 0, .ref h7, .ref h8, .ref h9, .int 0, .ref h10, .ref h11, .ref h12, .ref h13, .ref h14, .ref h15, .ref h16, .ref h17, .ref h18, .ref h19, .ref h20, .ref h21, .ref h22])), (h1, .inl (zI g, 180, .inl (upd (upd (upd (fun _ => 0) 0 60) 1 1) 2 1)))] H := hP
    have hD : va_D A [(h0, .inr (5, [.ref h1, .int 0, .ref h2, .int 0, .int 0, .ref h3, .ref h4, .ref h5, .ref h6, .int 0, .ref h7, .ref h8, .ref h9, .int 0, .ref h10, .ref h11, .ref h12, .ref h13, .ref h14, .ref h15, .ref h16, .ref h17, .ref h18, .ref h19, .ref h20, .ref h21, .ref h22])), (h1, .inl (zI g, 180, .inl (upd (upd (upd (fun _ => 0) 0 60) 1 1) 2 1)))] := hD
    refine lv_if_ne (tgt := 16) hx hb dX5_order_11 (by decide) (fun h => absurd h (by decide +kernel)) (fun _ => ?_)
    refine lv_iconst (v := (-1)) hx hb dX5_order_14 (by decide) ?_
    have hP9 := hP.sub (ws' := []) [] rfl
    have hD9 := hD.sub (ws' := []) [] (by decide) rfl
    exact W.iret (v := (-1)) hx hb hr (fun t ht hW => ⟨⟨(-1), 0, rfl, Or.inl ⟨i_0, rfl⟩, by rw [ht]; exact hP9, hD9⟩, hS.F ht⟩) hS.2.2 dX5_order_15
  · skip
    have i_1 : (-1) ≤ p1.toInt := by simpa only [Int32.toInt_toInt64] using i_1
    have i_2 : 5 < p1.toInt := by simpa only [Int32.toInt_toInt64] using i_2
    have hP : va_P g.1 vwCl [(h0, .inr (5, [.ref h1, .int 0, .ref h2, .int 0, .int 0, .ref h3, .ref h4, .ref h5, .ref h6, .int 0, .ref h7, .ref h8, .ref h9, .int 0, .ref h10, .ref h11, .ref h12, .ref h13, .ref h14, .ref h15, .ref h16, .ref h17, .ref h18, .ref h19, .ref h20, .ref h21, .ref h22])), (h1, .inl (zI g, 180, .inl (upd (upd (upd (fun _ => 0) 0 60) 1 1) 2 1)))] H := hP
    have hD : va_D A [(h0, .inr (5, [.ref h1, .int 0, .ref h2, .int 0, .int 0, .ref h3, .ref h4, .ref h5, .ref h6, .int 0, .ref h7, .ref h8, .ref h9, .int 0, .ref h10, .ref h11, .ref h12, .ref h13, .ref h14, .ref h15, .ref h16, .ref h17, .ref h18, .ref h19, .ref h20, .ref h21, .ref h22])), (h1, .inl (zI g, 180, .inl (upd (upd (upd (fun _ => 0) 0 60) 1 1) 2 1)))] := hD
    refine lv_if_ne (tgt := 16) hx hb dX5_order_11 (by decide) (fun h => absurd h (by decide +kernel)) (fun _ => ?_)
    refine lv_iconst (v := (-1)) hx hb dX5_order_14 (by decide) ?_
    have hP9 := hP.sub (ws' := []) [] rfl
    have hD9 := hD.sub (ws' := []) [] (by decide) rfl
    exact W.iret (v := (-1)) hx hb hr (fun t ht hW => ⟨⟨(-1), 0, rfl, Or.inr (Or.inl ⟨i_1, i_2, rfl⟩), by rw [ht]; exact hP9, hD9⟩, hS.F ht⟩) hS.2.2 dX5_order_15
  · skip
    have i_3 : (-1) ≤ p1.toInt := by simpa only [Int32.toInt_toInt64] using i_3
    have i_4 : p1.toInt ≤ 5 := by simpa only [Int32.toInt_toInt64] using i_4
    have hP : va_P g.1 vwCl [(h0, .inr (5, [.ref h1, .int 0, .ref h2, .int 0, .int 0, .ref h3, .ref h4, .ref h5, .ref h6, .int 0, .ref h7, .ref h8, .ref h9, .int 0, .ref h10, .ref h11, .ref h12, .ref h13, .ref h14, .ref h15, .ref h16, .ref h17, .ref h18, .ref h19, .ref h20, .ref h21, .ref h22])), (h1, .inl (zI g, 180, .inl (upd (upd (upd (fun _ => 0) 0 60) 1 1) 2 1)))] H := hP
    have hD : va_D A [(h0, .inr (5, [.ref h1, .int 0, .ref h2, .int 0, .int 0, .ref h3, .ref h4, .ref h5, .ref h6, .int 0, .ref h7, .ref h8, .ref h9, .int 0, .ref h10, .ref h11, .ref h12, .ref h13, .ref h14, .ref h15, .ref h16, .ref h17, .ref h18, .ref h19, .ref h20, .ref h21, .ref h22])), (h1, .inl (zI g, 180, .inl (upd (upd (upd (fun _ => 0) 0 60) 1 1) 2 1)))] := hD
    refine lv_if_ne (tgt := 16) hx hb dX5_order_11 (by decide) (fun _ => ?_) (fun h => absurd h (by decide +kernel))
    refine lv_aload_n hx hb dX5_order_16 rfl (lv_at hl 0 rfl) ?_
    refine va_get (D := g.1) (ci := 5) (v := .ref h1) (C := RX5) (T := TX5) (N := 27) hx hb hts zl_X5 hown hK hP 0 rfl rfl 0 (by decide) (hts _ m_f_RX5_7) (fun _ h => h) rfl dX5_order_17 ?_
    refine lv_iconst (v := 5) hx hb dX5_order_20 (by decide) ?_
    refine va_iald (D := g.1) hx hb hK hP 1 0 rfl rfl (vp_in_iff.mpr (by decide +kernel)) dX5_order_21 ?_
    refine lv_topi (nm_r (e' := 0) (by rfl) ?_)
    refine lv_istore_n (lv' := [(2, .int 0), (0, .ref h0), (1, .int p1)]) hx hb dX5_order_22 rfl hl (by decide) rfl (fun ls hl => ?_)
    refine lv_iload_n hx hb dX5_order_23 rfl (lv_at hl 0 rfl) ?_
    refine lv_if_ne (tgt := 30) hx hb dX5_order_24 (by decide) (fun h => absurd h (by decide +kernel)) (fun _ => ?_)
    refine lv_bipush (v := (-2)) hx hb dX5_order_27 (by decide) ?_
    have hP9 := hP.sub (ws' := []) [] rfl
    have hD9 := hD.sub (ws' := []) [] (by decide) rfl
    exact W.iret (v := (-2)) hx hb hr (fun t ht hW => ⟨⟨(-2), 0, rfl, Or.inr (Or.inr (⟨i_3, i_4, rfl⟩)), by rw [ht]; exact hP9, hD9⟩, hS.F ht⟩) hS.2.2 dX5_order_29
set_option maxHeartbeats 4000000 in
set_option maxRecDepth 100000 in
theorem kX5_in_27 (l : Launch) (g : zG) (sz : Nat) (p0 : Int64) : Met l yX5_in (.code yX5_in cX5_in 6 (some .boolean) :: zBig) ({ frames := 0, cells := 0, slots := 0, locals := 0 }) (va_Pc [.long p0, .long 0, .long 0] (zPre g [] sz)) (va_Qi (fun (r : Int32) (_ : Nat) => ((p0 : Int64).toInt < 0 ∧ r = 0) ∨ (0 ≤ (p0 : Int64).toInt ∧ 0 < (p0 : Int64).toInt ∧ r = 0) ∨ (0 ≤ (p0 : Int64).toInt ∧ (p0 : Int64).toInt ≤ 0 ∧ r = 1)) (zPost g (fun _ : Nat => []) (va_A [] sz)) (va_A [] sz)) 0 0 (va_A [] sz) := by
  refine zMetI rfl (Nat.le_of_ble_eq_true rfl) ?_
  intro p e s m args below meth c A ls hx hb hml hr hlocks hin hown hts hK hN hZ hP hD hA hS hAe hl
  have hown : s.vm.findClass RX5 = some m.cls := hown
  have hl : lv_has ls 6 [(0, .long p0), (2, .long 0), (4, .long 0)] := hl
  refine lv_lload_n hx hb dX5_in_0 rfl (lv_at hl 0 rfl) ?_
  refine lv_lload_n hx hb dX5_in_1 rfl (lv_at hl 1 rfl) ?_
  refine W.lcmp hx hb dX5_in_2 ?_
  refine lv_if_lt (tgt := 17) hx hb dX5_in_3 (by decide) (fun c_0 => ?_) (fun c_0 => ?_)
  · have i_0 : (p0 : Int64).toInt < 0 := zl_lt (rfl) (rfl) ((lg_cmp_lt _ _).mp c_0)
    refine lv_iconst (v := 0) hx hb dX5_in_17 (by decide) ?_
    have hP9 := hP.sub (ws' := []) [] rfl
    have hD9 := hD.sub (ws' := []) [] (by decide) rfl
    exact W.zret (v := 0) hx hb hr (by decide) (fun t ht hW => ⟨⟨0, 0, rfl, Or.inl ⟨i_0, rfl⟩, by rw [ht]; exact hP9, hD9⟩, hS.F ht⟩) hS.2.2 dX5_in_18
  · have i_0 : 0 ≤ (p0 : Int64).toInt := zl_nlt (rfl) (rfl) (fun h => c_0 ((lg_cmp_lt _ _).mpr h))
    refine lv_lload_n hx hb dX5_in_6 rfl (lv_at hl 0 rfl) ?_
    refine lv_lload hx hb dX5_in_7 (lv_at hl 2 rfl) ?_
    refine W.lcmp hx hb dX5_in_9 ?_
    refine lv_if_gt (tgt := 17) hx hb dX5_in_10 (by decide) (fun c_1 => ?_) (fun c_1 => ?_)
    · have i_1 : 0 < (p0 : Int64).toInt := zl_lt (rfl) (rfl) ((lg_cmp_gt _ _).mp c_1)
      refine lv_iconst (v := 0) hx hb dX5_in_17 (by decide) ?_
      have hP9 := hP.sub (ws' := []) [] rfl
      have hD9 := hD.sub (ws' := []) [] (by decide) rfl
      exact W.zret (v := 0) hx hb hr (by decide) (fun t ht hW => ⟨⟨0, 0, rfl, Or.inr (Or.inl ⟨i_0, i_1, rfl⟩), by rw [ht]; exact hP9, hD9⟩, hS.F ht⟩) hS.2.2 dX5_in_18
    · have i_1 : (p0 : Int64).toInt ≤ 0 := zl_nlt (rfl) (rfl) (fun h => c_1 ((lg_cmp_gt _ _).mpr h))
      refine lv_iconst (v := 1) hx hb dX5_in_13 (by decide) ?_
      refine lv_goto (tgt := 18) hx hb dX5_in_14 (by decide) ?_
      have hP9 := hP.sub (ws' := []) [] rfl
      have hD9 := hD.sub (ws' := []) [] (by decide) rfl
      exact W.zret (v := 1) hx hb hr (by decide) (fun t ht hW => ⟨⟨1, 0, rfl, Or.inr (Or.inr (⟨i_0, i_1, rfl⟩)), by rw [ht]; exact hP9, hD9⟩, hS.F ht⟩) hS.2.2 dX5_in_18
set_option maxHeartbeats 4000000 in
set_option maxRecDepth 100000 in
theorem kX5_in_28 (l : Launch) (g : zG) (sz : Nat) (p0 : Int64) : Met l yX5_in (.code yX5_in cX5_in 6 (some .boolean) :: zBig) ({ frames := 0, cells := 0, slots := 0, locals := 0 }) (va_Pc [.long p0, .long 0, .long 0] (zPre g [] sz)) (va_Qi (fun (r : Int32) (_ : Nat) => ((p0 : Int64).toInt < 0 ∧ r = 0) ∨ (0 ≤ (p0 : Int64).toInt ∧ 0 < (p0 : Int64).toInt ∧ r = 0) ∨ (0 ≤ (p0 : Int64).toInt ∧ (p0 : Int64).toInt ≤ 0 ∧ r = 1)) (zPost g (fun _ : Nat => []) (va_A [] sz)) (va_A [] sz)) 0 0 (va_A [] sz) := by
  refine zMetI rfl (Nat.le_of_ble_eq_true rfl) ?_
  intro p e s m args below meth c A ls hx hb hml hr hlocks hin hown hts hK hN hZ hP hD hA hS hAe hl
  have hown : s.vm.findClass RX5 = some m.cls := hown
  have hl : lv_has ls 6 [(0, .long p0), (2, .long 0), (4, .long 0)] := hl
  refine lv_lload_n hx hb dX5_in_0 rfl (lv_at hl 0 rfl) ?_
  refine lv_lload_n hx hb dX5_in_1 rfl (lv_at hl 1 rfl) ?_
  refine W.lcmp hx hb dX5_in_2 ?_
  refine lv_if_lt (tgt := 17) hx hb dX5_in_3 (by decide) (fun c_0 => ?_) (fun c_0 => ?_)
  · have i_0 : (p0 : Int64).toInt < 0 := zl_lt (rfl) (rfl) ((lg_cmp_lt _ _).mp c_0)
    refine lv_iconst (v := 0) hx hb dX5_in_17 (by decide) ?_
    have hP9 := hP.sub (ws' := []) [] rfl
    have hD9 := hD.sub (ws' := []) [] (by decide) rfl
    exact W.zret (v := 0) hx hb hr (by decide) (fun t ht hW => ⟨⟨0, 0, rfl, Or.inl ⟨i_0, rfl⟩, by rw [ht]; exact hP9, hD9⟩, hS.F ht⟩) hS.2.2 dX5_in_18
  · have i_0 : 0 ≤ (p0 : Int64).toInt := zl_nlt (rfl) (rfl) (fun h => c_0 ((lg_cmp_lt _ _).mpr h))
    refine lv_lload_n hx hb dX5_in_6 rfl (lv_at hl 0 rfl) ?_
    refine lv_lload hx hb dX5_in_7 (lv_at hl 2 rfl) ?_
    refine W.lcmp hx hb dX5_in_9 ?_
    refine lv_if_gt (tgt := 17) hx hb dX5_in_10 (by decide) (fun c_1 => ?_) (fun c_1 => ?_)
    · have i_1 : 0 < (p0 : Int64).toInt := zl_lt (rfl) (rfl) ((lg_cmp_gt _ _).mp c_1)
      refine lv_iconst (v := 0) hx hb dX5_in_17 (by decide) ?_
      have hP9 := hP.sub (ws' := []) [] rfl
      have hD9 := hD.sub (ws' := []) [] (by decide) rfl
      exact W.zret (v := 0) hx hb hr (by decide) (fun t ht hW => ⟨⟨0, 0, rfl, Or.inr (Or.inl ⟨i_0, i_1, rfl⟩), by rw [ht]; exact hP9, hD9⟩, hS.F ht⟩) hS.2.2 dX5_in_18
    · have i_1 : (p0 : Int64).toInt ≤ 0 := zl_nlt (rfl) (rfl) (fun h => c_1 ((lg_cmp_gt _ _).mpr h))
      refine lv_iconst (v := 1) hx hb dX5_in_13 (by decide) ?_
      refine lv_goto (tgt := 18) hx hb dX5_in_14 (by decide) ?_
      have hP9 := hP.sub (ws' := []) [] rfl
      have hD9 := hD.sub (ws' := []) [] (by decide) rfl
      exact W.zret (v := 1) hx hb hr (by decide) (fun t ht hW => ⟨⟨1, 0, rfl, Or.inr (Or.inr (⟨i_0, i_1, rfl⟩)), by rw [ht]; exact hP9, hD9⟩, hS.F ht⟩) hS.2.2 dX5_in_18
set_option maxHeartbeats 4000000 in
set_option maxRecDepth 100000 in
theorem kX5_ring (l : Launch) (g : zG) (h0 h1 h2 h3 h4 h5 h6 h7 h8 h9 h10 h11 h12 h13 h14 h15 h16 h17 h18 h19 h20 h21 h22 : Nat) (sz : Nat) (p1 : Int32) : Met l yX5_ring (.code yX5_ring cX5_ring 3 (some .int) :: zBig) ({ frames := 1, cells := 0, slots := 0, locals := 25 }) (va_Pc [.ref h0, .int p1] (zPre g [(h0, .inr (5, [.ref h1, .int 0, .ref h2, .int 0, .int 0, .ref h3, .ref h4, .ref h5, .ref h6, .int 0, .ref h7, .ref h8, .ref h9, .int 0, .ref h10, .ref h11, .ref h12, .ref h13, .ref h14, .ref h15, .ref h16, .ref h17, .ref h18, .ref h19, .ref h20, .ref h21, .ref h22])), (h1, .inl (zI g, 180, .inl (upd (upd (upd (fun _ => 0) 0 60) 1 1) 2 1)))] sz)) (va_Qi (fun (r : Int32) (_ : Nat) => (p1.toInt < 0 ∧ r = (-100001)) ∨ (0 ≤ p1.toInt ∧ 0 < p1.toInt ∧ r = (-100001)) ∨ (0 ≤ p1.toInt ∧ p1.toInt ≤ 0 ∧ r = (-100001))) (zPost g (fun _ : Nat => []) (va_A [(h0, .inr (5, [.ref h1, .int 0, .ref h2, .int 0, .int 0, .ref h3, .ref h4, .ref h5, .ref h6, .int 0, .ref h7, .ref h8, .ref h9, .int 0, .ref h10, .ref h11, .ref h12, .ref h13, .ref h14, .ref h15, .ref h16, .ref h17, .ref h18, .ref h19, .ref h20, .ref h21, .ref h22])), (h1, .inl (zI g, 180, .inl (upd (upd (upd (fun _ => 0) 0 60) 1 1) 2 1)))] sz)) (va_A [(h0, .inr (5, [.ref h1, .int 0, .ref h2, .int 0, .int 0, .ref h3, .ref h4, .ref h5, .ref h6, .int 0, .ref h7, .ref h8, .ref h9, .int 0, .ref h10, .ref h11, .ref h12, .ref h13, .ref h14, .ref h15, .ref h16, .ref h17, .ref h18, .ref h19, .ref h20, .ref h21, .ref h22])), (h1, .inl (zI g, 180, .inl (upd (upd (upd (fun _ => 0) 0 60) 1 1) 2 1)))] sz)) 0 0 (va_A [(h0, .inr (5, [.ref h1, .int 0, .ref h2, .int 0, .int 0, .ref h3, .ref h4, .ref h5, .ref h6, .int 0, .ref h7, .ref h8, .ref h9, .int 0, .ref h10, .ref h11, .ref h12, .ref h13, .ref h14, .ref h15, .ref h16, .ref h17, .ref h18, .ref h19, .ref h20, .ref h21, .ref h22])), (h1, .inl (zI g, 180, .inl (upd (upd (upd (fun _ => 0) 0 60) 1 1) 2 1)))] sz) := by
  refine zMetI rfl (Nat.le_of_ble_eq_true rfl) ?_
  intro p e s m args below meth c A ls hx hb hml hr hlocks hin hown hts hK hN hZ hP hD hA hS hAe hl
  have hown : s.vm.findClass RX5 = some m.cls := hown
  have hl : lv_has ls 3 [(0, .ref h0), (1, .int p1)] := hl
  refine lv_iload_n hx hb dX5_ring_0 rfl (lv_at hl 1 rfl) ?_
  refine lv_i2l (v := p1.toInt64) hx hb dX5_ring_1 rfl ?_
  refine lv_lconst (v := 0) hx hb dX5_ring_2 (by decide) ?_
  refine lv_iconst (v := 1) hx hb dX5_ring_3 (by decide) ?_
  refine lv_aload_n hx hb dX5_ring_4 rfl (lv_at hl 0 rfl) ?_
  refine va_get (D := g.1) (ci := 5) (v := .ref h1) (C := RX5) (T := TX5) (N := 27) hx hb hts zl_X5 hown hK hP 0 rfl rfl 0 (by decide) (hts _ m_f_RX5_7) (fun _ h => h) rfl dX5_ring_5 ?_
  refine lv_bipush (v := 12) hx hb dX5_ring_8 (by decide) ?_
  refine va_iald (D := g.1) hx hb hK hP 1 0 rfl rfl (vp_in_iff.mpr (by decide +kernel)) dX5_ring_10 ?_
  refine lv_topi (nm_r (e' := 0) (by rfl) ?_)
  refine lv_ishl hx hb dX5_ring_11 ?_
  refine lv_topi (nm_r (e' := 1) (by decide +kernel) ?_)
  refine lv_iconst (v := 1) hx hb dX5_ring_12 (by decide) ?_
  refine lv_isub hx hb dX5_ring_13 ?_
  refine lv_topi (nm_r (e' := 0) (by decide +kernel) ?_)
  refine lv_i2l (v := 0) hx hb dX5_ring_14 (by decide) ?_
  refine z_calli (wr := [(h0, .inr (5, [.ref h1, .int 0, .ref h2, .int 0, .int 0, .ref h3, .ref h4, .ref h5, .ref h6, .int 0, .ref h7, .ref h8, .ref h9, .int 0, .ref h10, .ref h11, .ref h12, .ref h13, .ref h14, .ref h15, .ref h16, .ref h17, .ref h18, .ref h19, .ref h20, .ref h21, .ref h22])), (h1, .inl (zI g, 180, .inl (upd (upd (upd (fun _ => 0) 0 60) 1 1) 2 1)))]) hP hD hS hA [] [0, 1] (by decide) rfl rfl (by decide) (va_runS (As := [.long p1.toInt64, .long 0, .long 0]) (rest := []) ⟨hx, hb, hml, hown, hts⟩ (kX5_in_28 l g  s.heap.size p1.toInt64) ⟨callB_of 3 hts (zGood m_o_yX5_in) rfl rfl rfl (hts _ m_z_RX5) (hts _ m_m_RX5_77) ⟨by decide +kernel, by decide +kernel, by decide +kernel⟩ ⟨Nat.le_of_ble_eq_true rfl, Nat.le_of_ble_eq_true rfl⟩, hts _ m_s_yX5_in⟩ (zPreS hK hN hZ hP hD hS hA [] (by decide) rfl rfl) rfl rfl hl.1 rfl (lv_room (Nat.le_of_ble_eq_true rfl)) dX5_ring_15 ⟨Nat.le_of_ble_eq_true rfl, Nat.le_of_ble_eq_true rfl⟩) (fun r u H locs hw hP hD hS => ?_)
  rcases hw with ⟨i_0, rfl⟩ | ⟨i_1, i_2, rfl⟩ | ⟨i_3, i_4, rfl⟩
  · skip
    have i_0 : p1.toInt < 0 := by simpa only [Int32.toInt_toInt64] using i_0
    have hP : va_P g.1 vwCl [(h0, .inr (5, [.ref h1, .int 0, .ref h2, .int 0, .int 0, .ref h3, .ref h4, .ref h5, .ref h6, .int 0, .ref h7, .ref h8, .ref h9, .int 0, .ref h10, .ref h11, .ref h12, .ref h13, .ref h14, .ref h15, .ref h16, .ref h17, .ref h18, .ref h19, .ref h20, .ref h21, .ref h22])), (h1, .inl (zI g, 180, .inl (upd (upd (upd (fun _ => 0) 0 60) 1 1) 2 1)))] H := hP
    have hD : va_D A [(h0, .inr (5, [.ref h1, .int 0, .ref h2, .int 0, .int 0, .ref h3, .ref h4, .ref h5, .ref h6, .int 0, .ref h7, .ref h8, .ref h9, .int 0, .ref h10, .ref h11, .ref h12, .ref h13, .ref h14, .ref h15, .ref h16, .ref h17, .ref h18, .ref h19, .ref h20, .ref h21, .ref h22])), (h1, .inl (zI g, 180, .inl (upd (upd (upd (fun _ => 0) 0 60) 1 1) 2 1)))] := hD
    refine lv_if_eq (tgt := 29) hx hb dX5_ring_18 (by decide) (fun _ => ?_) (fun h => absurd h (by decide +kernel))
    refine lv_ldc (v := (-100001)) hx hb hown (hts _ m_k_RX5_104) dX5_ring_29 ?_
    have hP9 := hP.sub (ws' := []) [] rfl
    have hD9 := hD.sub (ws' := []) [] (by decide) rfl
    exact W.iret (v := (-100001)) hx hb hr (fun t ht hW => ⟨⟨(-100001), 0, rfl, Or.inl ⟨i_0, rfl⟩, by rw [ht]; exact hP9, hD9⟩, hS.F ht⟩) hS.2.2 dX5_ring_31
  · skip
    have i_1 : 0 ≤ p1.toInt := by simpa only [Int32.toInt_toInt64] using i_1
    have i_2 : 0 < p1.toInt := by simpa only [Int32.toInt_toInt64] using i_2
    have hP : va_P g.1 vwCl [(h0, .inr (5, [.ref h1, .int 0, .ref h2, .int 0, .int 0, .ref h3, .ref h4, .ref h5, .ref h6, .int 0, .ref h7, .ref h8, .ref h9, .int 0, .ref h10, .ref h11, .ref h12, .ref h13, .ref h14, .ref h15, .ref h16, .ref h17, .ref h18, .ref h19, .ref h20, .ref h21, .ref h22])), (h1, .inl (zI g, 180, .inl (upd (upd (upd (fun _ => 0) 0 60) 1 1) 2 1)))] H := hP
    have hD : va_D A [(h0, .inr (5, [.ref h1, .int 0, .ref h2, .int 0, .int 0, .ref h3, .ref h4, .ref h5, .ref h6, .int 0, .ref h7, .ref h8, .ref h9, .int 0, .ref h10, .ref h11, .ref h12, .ref h13, .ref h14, .ref h15, .ref h16, .ref h17, .ref h18, .ref h19, .ref h20, .ref h21, .ref h22])), (h1, .inl (zI g, 180, .inl (upd (upd (upd (fun _ => 0) 0 60) 1 1) 2 1)))] := hD
    refine lv_if_eq (tgt := 29) hx hb dX5_ring_18 (by decide) (fun _ => ?_) (fun h => absurd h (by decide +kernel))
    refine lv_ldc (v := (-100001)) hx hb hown (hts _ m_k_RX5_104) dX5_ring_29 ?_
    have hP9 := hP.sub (ws' := []) [] rfl
    have hD9 := hD.sub (ws' := []) [] (by decide) rfl
    exact W.iret (v := (-100001)) hx hb hr (fun t ht hW => ⟨⟨(-100001), 0, rfl, Or.inr (Or.inl ⟨i_1, i_2, rfl⟩), by rw [ht]; exact hP9, hD9⟩, hS.F ht⟩) hS.2.2 dX5_ring_31
  · skip
    have i_3 : 0 ≤ p1.toInt := by simpa only [Int32.toInt_toInt64] using i_3
    have i_4 : p1.toInt ≤ 0 := by simpa only [Int32.toInt_toInt64] using i_4
    have hP : va_P g.1 vwCl [(h0, .inr (5, [.ref h1, .int 0, .ref h2, .int 0, .int 0, .ref h3, .ref h4, .ref h5, .ref h6, .int 0, .ref h7, .ref h8, .ref h9, .int 0, .ref h10, .ref h11, .ref h12, .ref h13, .ref h14, .ref h15, .ref h16, .ref h17, .ref h18, .ref h19, .ref h20, .ref h21, .ref h22])), (h1, .inl (zI g, 180, .inl (upd (upd (upd (fun _ => 0) 0 60) 1 1) 2 1)))] H := hP
    have hD : va_D A [(h0, .inr (5, [.ref h1, .int 0, .ref h2, .int 0, .int 0, .ref h3, .ref h4, .ref h5, .ref h6, .int 0, .ref h7, .ref h8, .ref h9, .int 0, .ref h10, .ref h11, .ref h12, .ref h13, .ref h14, .ref h15, .ref h16, .ref h17, .ref h18, .ref h19, .ref h20, .ref h21, .ref h22])), (h1, .inl (zI g, 180, .inl (upd (upd (upd (fun _ => 0) 0 60) 1 1) 2 1)))] := hD
    refine lv_if_eq (tgt := 29) hx hb dX5_ring_18 (by decide) (fun h => absurd h (by decide +kernel)) (fun _ => ?_)
    refine lv_iload_n hx hb dX5_ring_21 rfl (lv_at hl 1 rfl) ?_
    refine lv_iload_n hx hb dX5_ring_22 rfl (lv_at hl 1 rfl) ?_
    refine lv_iconst (v := 1) hx hb dX5_ring_23 (by decide) ?_
    obtain rfl : p1 = 0 := Int32.toInt_inj.mp (show p1.toInt = (0 : Int32).toInt from (show p1.toInt = 0 by omega).trans rfl)
    refine lv_isub hx hb dX5_ring_24 ?_
    refine lv_topi (nm_r (e' := (-1)) (by decide +kernel) ?_)
    refine lv_iand hx hb dX5_ring_25 ?_
    refine lv_topi (nm_r (e' := 0) (by decide +kernel) ?_)
    refine lv_if_ne (tgt := 32) hx hb dX5_ring_26 (by decide) (fun h => absurd h (by decide +kernel)) (fun _ => ?_)
    refine lv_ldc (v := (-100001)) hx hb hown (hts _ m_k_RX5_104) dX5_ring_29 ?_
    have hP9 := hP.sub (ws' := []) [] rfl
    have hD9 := hD.sub (ws' := []) [] (by decide) rfl
    exact W.iret (v := (-100001)) hx hb hr (fun t ht hW => ⟨⟨(-100001), 0, rfl, Or.inr (Or.inr (⟨i_3, i_4, rfl⟩)), by rw [ht]; exact hP9, hD9⟩, hS.F ht⟩) hS.2.2 dX5_ring_31
set_option maxHeartbeats 4000000 in
set_option maxRecDepth 100000 in
theorem kX5_image (l : Launch) (g : zG) (h0 h1 h2 h3 h4 h5 h6 h7 h8 h9 h10 h11 h12 h13 h14 h15 h16 h17 h18 h19 h20 h21 h22 : Nat) (sz : Nat) : Met l yX5_image (.code yX5_image cX5_image 2 (some .int) :: zBig) ({ frames := 0, cells := 0, slots := 0, locals := 0 }) (va_Pc [.ref h0] (zPre g [(h0, .inr (5, [.ref h1, .int 0, .ref h2, .int 0, .int 0, .ref h3, .ref h4, .ref h5, .ref h6, .int 0, .ref h7, .ref h8, .ref h9, .int 0, .ref h10, .ref h11, .ref h12, .ref h13, .ref h14, .ref h15, .ref h16, .ref h17, .ref h18, .ref h19, .ref h20, .ref h21, .ref h22])), (h1, .inl (zI g, 180, .inl (upd (upd (upd (fun _ => 0) 0 60) 1 1) 2 1)))] sz)) (va_Qi (fun (r : Int32) (_ : Nat) => r = 1) (zPost g (fun _ : Nat => []) (va_A [(h0, .inr (5, [.ref h1, .int 0, .ref h2, .int 0, .int 0, .ref h3, .ref h4, .ref h5, .ref h6, .int 0, .ref h7, .ref h8, .ref h9, .int 0, .ref h10, .ref h11, .ref h12, .ref h13, .ref h14, .ref h15, .ref h16, .ref h17, .ref h18, .ref h19, .ref h20, .ref h21, .ref h22])), (h1, .inl (zI g, 180, .inl (upd (upd (upd (fun _ => 0) 0 60) 1 1) 2 1)))] sz)) (va_A [(h0, .inr (5, [.ref h1, .int 0, .ref h2, .int 0, .int 0, .ref h3, .ref h4, .ref h5, .ref h6, .int 0, .ref h7, .ref h8, .ref h9, .int 0, .ref h10, .ref h11, .ref h12, .ref h13, .ref h14, .ref h15, .ref h16, .ref h17, .ref h18, .ref h19, .ref h20, .ref h21, .ref h22])), (h1, .inl (zI g, 180, .inl (upd (upd (upd (fun _ => 0) 0 60) 1 1) 2 1)))] sz)) 0 0 (va_A [(h0, .inr (5, [.ref h1, .int 0, .ref h2, .int 0, .int 0, .ref h3, .ref h4, .ref h5, .ref h6, .int 0, .ref h7, .ref h8, .ref h9, .int 0, .ref h10, .ref h11, .ref h12, .ref h13, .ref h14, .ref h15, .ref h16, .ref h17, .ref h18, .ref h19, .ref h20, .ref h21, .ref h22])), (h1, .inl (zI g, 180, .inl (upd (upd (upd (fun _ => 0) 0 60) 1 1) 2 1)))] sz) := by
  refine zMetI rfl (Nat.le_of_ble_eq_true rfl) ?_
  intro p e s m args below meth c A ls hx hb hml hr hlocks hin hown hts hK hN hZ hP hD hA hS hAe hl
  have hown : s.vm.findClass RX5 = some m.cls := hown
  have hl : lv_has ls 2 [(0, .ref h0)] := hl
  refine lv_iconst (v := 0) hx hb dX5_image_0 (by decide) ?_
  refine lv_istore_n (lv' := [(1, .int 0), (0, .ref h0)]) hx hb dX5_image_1 rfl hl (by decide) rfl (fun ls hl => ?_)
  have loop : ∀ (n i : Nat), i ≤ 90 → 91 ≤ i + n → ∀ (G0 : Nat → Int32) (H : Heap) (locs : List Loc), va_P g.1 vwCl [(h0, .inr (5, [.ref h1, .int 0, .ref h2, .int 0, .int 0, .ref h3, .ref h4, .ref h5, .ref h6, .int 0, .ref h7, .ref h8, .ref h9, .int 0, .ref h10, .ref h11, .ref h12, .ref h13, .ref h14, .ref h15, .ref h16, .ref h17, .ref h18, .ref h19, .ref h20, .ref h21, .ref h22])), (h1, .inl (zI g, 180, .inl G0))] H → va_D A [(h0, .inr (5, [.ref h1, .int 0, .ref h2, .int 0, .int 0, .ref h3, .ref h4, .ref h5, .ref h6, .int 0, .ref h7, .ref h8, .ref h9, .int 0, .ref h10, .ref h11, .ref h12, .ref h13, .ref h14, .ref h15, .ref h16, .ref h17, .ref h18, .ref h19, .ref h20, .ref h21, .ref h22])), (h1, .inl (zI g, 180, .inl G0))] → va_S A s.heap H locs → ∀ (ls : Array Slot), lv_has ls 2 [(1, .int (nI i)), (0, .ref h0)] → W p l e ({ frames := 0, cells := 0, slots := 0, locals := 0 }) s m args below meth c H locs 0 0 (MQ below (va_Qi (fun (r : Int32) (_ : Nat) => r = 1) (zPost g (fun _ : Nat => []) A) A) args s 0 0 A) (F0 m 2 ls []) := by
    intro n
    induction n with
    | zero => intro i q1 q2; omega
    | succ n ih =>
      intro i q1 q2 G0 H locs hP hD hS ls hl
      refine lv_iload_n hx hb dX5_image_2 rfl (lv_at hl 0 rfl) ?_
      refine lv_bipush (v := 90) hx hb dX5_image_3 (by decide) ?_
      refine lv_icmp_ge (tgt := 29) hx hb dX5_image_5 (by decide) (fun c_0 => ?_) (fun c_0 => ?_)
      · have i_0 : 90 ≤ ((i : Nat) : Int) := z_le (rfl) ((nI_toInt (by omega))) c_0
        refine lv_aload_n hx hb dX5_image_29 rfl (lv_at hl 1 rfl) ?_
        refine lv_iconst (v := 1) hx hb dX5_image_30 (by decide) ?_
        refine va_put (D := g.1) (ci := 5) (v := .int 1) (ty := .boolean) (C := RX5) (T := TX5) (N := 27) hx hb hts zl_X5 tyX5 tyX5_ok nmX5 hown hK hP hD hS 0 rfl rfl 1 (by decide) (hts _ m_f_RX5_221) (fun _ h => h) rfl (by decide +kernel) rfl rfl (Nat.le_of_ble_eq_true rfl) dX5_image_31 (fun H locs hP hD hS => ?_)
        have hP : va_P g.1 vwCl [(h0, .inr (5, [.ref h1, .int 1, .ref h2, .int 0, .int 0, .ref h3, .ref h4, .ref h5, .ref h6, .int 0, .ref h7, .ref h8, .ref h9, .int 0, .ref h10, .ref h11, .ref h12, .ref h13, .ref h14, .ref h15, .ref h16, .ref h17, .ref h18, .ref h19, .ref h20, .ref h21, .ref h22])), (h1, .inl (zI g, 180, .inl G0))] H := hP
        have hD : va_D A [(h0, .inr (5, [.ref h1, .int 1, .ref h2, .int 0, .int 0, .ref h3, .ref h4, .ref h5, .ref h6, .int 0, .ref h7, .ref h8, .ref h9, .int 0, .ref h10, .ref h11, .ref h12, .ref h13, .ref h14, .ref h15, .ref h16, .ref h17, .ref h18, .ref h19, .ref h20, .ref h21, .ref h22])), (h1, .inl (zI g, 180, .inl G0))] := hD
        refine lv_iconst (v := 1) hx hb dX5_image_34 (by decide) ?_
        have hP9 := hP.sub (ws' := []) [] rfl
        have hD9 := hD.sub (ws' := []) [] (by decide) rfl
        exact W.iret (v := 1) hx hb hr (fun t ht hW => ⟨⟨1, 0, rfl, rfl, by rw [ht]; exact hP9, hD9⟩, hS.F ht⟩) hS.2.2 dX5_image_35
      · have i_0 : ((i : Nat) : Int) < 90 := z_nle (rfl) ((nI_toInt (by omega))) c_0
        refine lv_aload_n hx hb dX5_image_8 rfl (lv_at hl 1 rfl) ?_
        refine va_get (D := g.1) (ci := 5) (v := .ref h1) (C := RX5) (T := TX5) (N := 27) hx hb hts zl_X5 hown hK hP 0 rfl rfl 0 (by decide) (hts _ m_f_RX5_7) (fun _ h => h) rfl dX5_image_9 ?_
        refine lv_bipush (v := 90) hx hb dX5_image_12 (by decide) ?_
        refine lv_iload_n hx hb dX5_image_14 rfl (lv_at hl 0 rfl) ?_
        refine lv_iadd hx hb dX5_image_15 ?_
        refine lv_topi (nm_r (e' := nI (90 + i)) (nI_add 90 i) ?_)
        refine lv_aload_n hx hb dX5_image_16 rfl (lv_at hl 1 rfl) ?_
        refine va_get (D := g.1) (ci := 5) (v := .ref h1) (C := RX5) (T := TX5) (N := 27) hx hb hts zl_X5 hown hK hP 0 rfl rfl 0 (by decide) (hts _ m_f_RX5_7) (fun _ h => h) rfl dX5_image_17 ?_
        refine lv_iload_n hx hb dX5_image_20 rfl (lv_at hl 0 rfl) ?_
        refine va_iald (D := g.1) hx hb hK hP 1 0 rfl rfl (vp_in_nI (by omega) (by omega)) dX5_image_21 ?_
        refine lv_topi (nm_r (e' := (G0 i)) (by rw [nI_clamp (by omega)]) ?_)
        refine va_iast (D := g.1) hx hb hK hP hD hS 1 0 rfl rfl (vp_in_nI (by omega) (by omega)) dX5_image_22 (fun H locs hP hD hS => ?_)
        have hP : va_P g.1 vwCl [(h0, .inr (5, [.ref h1, .int 0, .ref h2, .int 0, .int 0, .ref h3, .ref h4, .ref h5, .ref h6, .int 0, .ref h7, .ref h8, .ref h9, .int 0, .ref h10, .ref h11, .ref h12, .ref h13, .ref h14, .ref h15, .ref h16, .ref h17, .ref h18, .ref h19, .ref h20, .ref h21, .ref h22])), (h1, .inl (zI g, 180, .inl (upd G0 (nI (90 + i)).toNatClampNeg (G0 i))))] H := hP
        have hD : va_D A [(h0, .inr (5, [.ref h1, .int 0, .ref h2, .int 0, .int 0, .ref h3, .ref h4, .ref h5, .ref h6, .int 0, .ref h7, .ref h8, .ref h9, .int 0, .ref h10, .ref h11, .ref h12, .ref h13, .ref h14, .ref h15, .ref h16, .ref h17, .ref h18, .ref h19, .ref h20, .ref h21, .ref h22])), (h1, .inl (zI g, 180, .inl (upd G0 (nI (90 + i)).toNatClampNeg (G0 i))))] := hD
        refine lv_iinc (v := (nI (i + 1))) (lv' := [(1, .int (nI (i + 1))), (0, .ref h0)]) hx hb dX5_image_23 hl (k := 0) rfl (nI_add _ _) (by decide) rfl (fun ls hl => ?_)
        refine lv_goto (tgt := 2) hx hb dX5_image_26 (by decide) ?_
        exact ih (i + 1) (by omega) (by omega) _ _ _ hP hD hS ls (lv_sub hl [0, 1] rfl)
  have hl : lv_has ls 2 [(1, .int (nI 0)), (0, .ref h0)] := by rw [nI_0]; exact lv_sub hl [0, 1] rfl
  exact loop 91 0 (by omega) (by omega) _ _ _ hP hD hS ls hl
set_option maxHeartbeats 4000000 in
set_option maxRecDepth 100000 in
theorem kX5_restore (l : Launch) (g : zG) (h0 h1 h2 h3 h4 h5 h6 h7 h8 h9 h10 h11 h12 h13 h14 h15 h16 h17 h18 h19 h20 h21 h22 : Nat) (sz : Nat) : Met l yX5_restore (.code yX5_restore cX5_restore 2 (some .int) :: zBig) ({ frames := 0, cells := 0, slots := 0, locals := 0 }) (va_Pc [.ref h0] (zPre g [(h0, .inr (5, [.ref h1, .int 0, .ref h2, .int 0, .int 0, .ref h3, .ref h4, .ref h5, .ref h6, .int 0, .ref h7, .ref h8, .ref h9, .int 0, .ref h10, .ref h11, .ref h12, .ref h13, .ref h14, .ref h15, .ref h16, .ref h17, .ref h18, .ref h19, .ref h20, .ref h21, .ref h22]))] sz)) (va_Qi (fun (r : Int32) (_ : Nat) => r = (-4)) (zPost g (fun _ : Nat => []) (va_A [(h0, .inr (5, [.ref h1, .int 0, .ref h2, .int 0, .int 0, .ref h3, .ref h4, .ref h5, .ref h6, .int 0, .ref h7, .ref h8, .ref h9, .int 0, .ref h10, .ref h11, .ref h12, .ref h13, .ref h14, .ref h15, .ref h16, .ref h17, .ref h18, .ref h19, .ref h20, .ref h21, .ref h22]))] sz)) (va_A [(h0, .inr (5, [.ref h1, .int 0, .ref h2, .int 0, .int 0, .ref h3, .ref h4, .ref h5, .ref h6, .int 0, .ref h7, .ref h8, .ref h9, .int 0, .ref h10, .ref h11, .ref h12, .ref h13, .ref h14, .ref h15, .ref h16, .ref h17, .ref h18, .ref h19, .ref h20, .ref h21, .ref h22]))] sz)) 0 0 (va_A [(h0, .inr (5, [.ref h1, .int 0, .ref h2, .int 0, .int 0, .ref h3, .ref h4, .ref h5, .ref h6, .int 0, .ref h7, .ref h8, .ref h9, .int 0, .ref h10, .ref h11, .ref h12, .ref h13, .ref h14, .ref h15, .ref h16, .ref h17, .ref h18, .ref h19, .ref h20, .ref h21, .ref h22]))] sz) := by
  refine zMetI rfl (Nat.le_of_ble_eq_true rfl) ?_
  intro p e s m args below meth c A ls hx hb hml hr hlocks hin hown hts hK hN hZ hP hD hA hS hAe hl
  have hown : s.vm.findClass RX5 = some m.cls := hown
  have hl : lv_has ls 2 [(0, .ref h0)] := hl
  refine lv_aload_n hx hb dX5_restore_0 rfl (lv_at hl 0 rfl) ?_
  refine va_get (D := g.1) (ci := 5) (v := .int 0) (C := RX5) (T := TX5) (N := 27) hx hb hts zl_X5 hown hK hP 0 rfl rfl 1 (by decide) (hts _ m_f_RX5_221) (fun _ h => h) rfl dX5_restore_1 ?_
  refine lv_if_ne (tgt := 10) hx hb dX5_restore_4 (by decide) (fun h => absurd h (by decide +kernel)) (fun _ => ?_)
  refine lv_bipush (v := (-4)) hx hb dX5_restore_7 (by decide) ?_
  have hP9 := hP.sub (ws' := []) [] rfl
  have hD9 := hD.sub (ws' := []) [] (by decide) rfl
  exact W.iret (v := (-4)) hx hb hr (fun t ht hW => ⟨⟨(-4), 0, rfl, rfl, by rw [ht]; exact hP9, hD9⟩, hS.F ht⟩) hS.2.2 dX5_restore_9
set_option maxHeartbeats 4000000 in
set_option maxRecDepth 100000 in
theorem kX5_in_29 (l : Launch) (g : zG) (sz : Nat) (p0 : Int64) : Met l yX5_in (.code yX5_in cX5_in 6 (some .boolean) :: zBig) ({ frames := 0, cells := 0, slots := 0, locals := 0 }) (va_Pc [.long p0, .long 0, .long 3] (zPre g [] sz)) (va_Qi (fun (r : Int32) (_ : Nat) => ((p0 : Int64).toInt < 0 ∧ r = 0) ∨ (0 ≤ (p0 : Int64).toInt ∧ 3 < (p0 : Int64).toInt ∧ r = 0) ∨ (0 ≤ (p0 : Int64).toInt ∧ (p0 : Int64).toInt ≤ 3 ∧ r = 1)) (zPost g (fun _ : Nat => []) (va_A [] sz)) (va_A [] sz)) 0 0 (va_A [] sz) := by
  refine zMetI rfl (Nat.le_of_ble_eq_true rfl) ?_
  intro p e s m args below meth c A ls hx hb hml hr hlocks hin hown hts hK hN hZ hP hD hA hS hAe hl
  have hown : s.vm.findClass RX5 = some m.cls := hown
  have hl : lv_has ls 6 [(0, .long p0), (2, .long 0), (4, .long 3)] := hl
  refine lv_lload_n hx hb dX5_in_0 rfl (lv_at hl 0 rfl) ?_
  refine lv_lload_n hx hb dX5_in_1 rfl (lv_at hl 1 rfl) ?_
  refine W.lcmp hx hb dX5_in_2 ?_
  refine lv_if_lt (tgt := 17) hx hb dX5_in_3 (by decide) (fun c_0 => ?_) (fun c_0 => ?_)
  · have i_0 : (p0 : Int64).toInt < 0 := zl_lt (rfl) (rfl) ((lg_cmp_lt _ _).mp c_0)
    refine lv_iconst (v := 0) hx hb dX5_in_17 (by decide) ?_
    have hP9 := hP.sub (ws' := []) [] rfl
    have hD9 := hD.sub (ws' := []) [] (by decide) rfl
    exact W.zret (v := 0) hx hb hr (by decide) (fun t ht hW => ⟨⟨0, 0, rfl, Or.inl ⟨i_0, rfl⟩, by rw [ht]; exact hP9, hD9⟩, hS.F ht⟩) hS.2.2 dX5_in_18
  · have i_0 : 0 ≤ (p0 : Int64).toInt := zl_nlt (rfl) (rfl) (fun h => c_0 ((lg_cmp_lt _ _).mpr h))
    refine lv_lload_n hx hb dX5_in_6 rfl (lv_at hl 0 rfl) ?_
    refine lv_lload hx hb dX5_in_7 (lv_at hl 2 rfl) ?_
    refine W.lcmp hx hb dX5_in_9 ?_
    refine lv_if_gt (tgt := 17) hx hb dX5_in_10 (by decide) (fun c_1 => ?_) (fun c_1 => ?_)
    · have i_1 : 3 < (p0 : Int64).toInt := zl_lt (rfl) (rfl) ((lg_cmp_gt _ _).mp c_1)
      refine lv_iconst (v := 0) hx hb dX5_in_17 (by decide) ?_
      have hP9 := hP.sub (ws' := []) [] rfl
      have hD9 := hD.sub (ws' := []) [] (by decide) rfl
      exact W.zret (v := 0) hx hb hr (by decide) (fun t ht hW => ⟨⟨0, 0, rfl, Or.inr (Or.inl ⟨i_0, i_1, rfl⟩), by rw [ht]; exact hP9, hD9⟩, hS.F ht⟩) hS.2.2 dX5_in_18
    · have i_1 : (p0 : Int64).toInt ≤ 3 := zl_nlt (rfl) (rfl) (fun h => c_1 ((lg_cmp_gt _ _).mpr h))
      refine lv_iconst (v := 1) hx hb dX5_in_13 (by decide) ?_
      refine lv_goto (tgt := 18) hx hb dX5_in_14 (by decide) ?_
      have hP9 := hP.sub (ws' := []) [] rfl
      have hD9 := hD.sub (ws' := []) [] (by decide) rfl
      exact W.zret (v := 1) hx hb hr (by decide) (fun t ht hW => ⟨⟨1, 0, rfl, Or.inr (Or.inr (⟨i_0, i_1, rfl⟩)), by rw [ht]; exact hP9, hD9⟩, hS.F ht⟩) hS.2.2 dX5_in_18
set_option maxHeartbeats 4000000 in
set_option maxRecDepth 100000 in
theorem kX5_in_30 (l : Launch) (g : zG) (sz : Nat) (p0 : Int64) : Met l yX5_in (.code yX5_in cX5_in 6 (some .boolean) :: zBig) ({ frames := 0, cells := 0, slots := 0, locals := 0 }) (va_Pc [.long p0, .long 0, .long 3] (zPre g [] sz)) (va_Qi (fun (r : Int32) (_ : Nat) => ((p0 : Int64).toInt < 0 ∧ r = 0) ∨ (0 ≤ (p0 : Int64).toInt ∧ 3 < (p0 : Int64).toInt ∧ r = 0) ∨ (0 ≤ (p0 : Int64).toInt ∧ (p0 : Int64).toInt ≤ 3 ∧ r = 1)) (zPost g (fun _ : Nat => []) (va_A [] sz)) (va_A [] sz)) 0 0 (va_A [] sz) := by
  refine zMetI rfl (Nat.le_of_ble_eq_true rfl) ?_
  intro p e s m args below meth c A ls hx hb hml hr hlocks hin hown hts hK hN hZ hP hD hA hS hAe hl
  have hown : s.vm.findClass RX5 = some m.cls := hown
  have hl : lv_has ls 6 [(0, .long p0), (2, .long 0), (4, .long 3)] := hl
  refine lv_lload_n hx hb dX5_in_0 rfl (lv_at hl 0 rfl) ?_
  refine lv_lload_n hx hb dX5_in_1 rfl (lv_at hl 1 rfl) ?_
  refine W.lcmp hx hb dX5_in_2 ?_
  refine lv_if_lt (tgt := 17) hx hb dX5_in_3 (by decide) (fun c_0 => ?_) (fun c_0 => ?_)
  · have i_0 : (p0 : Int64).toInt < 0 := zl_lt (rfl) (rfl) ((lg_cmp_lt _ _).mp c_0)
    refine lv_iconst (v := 0) hx hb dX5_in_17 (by decide) ?_
    have hP9 := hP.sub (ws' := []) [] rfl
    have hD9 := hD.sub (ws' := []) [] (by decide) rfl
    exact W.zret (v := 0) hx hb hr (by decide) (fun t ht hW => ⟨⟨0, 0, rfl, Or.inl ⟨i_0, rfl⟩, by rw [ht]; exact hP9, hD9⟩, hS.F ht⟩) hS.2.2 dX5_in_18
  · have i_0 : 0 ≤ (p0 : Int64).toInt := zl_nlt (rfl) (rfl) (fun h => c_0 ((lg_cmp_lt _ _).mpr h))
    refine lv_lload_n hx hb dX5_in_6 rfl (lv_at hl 0 rfl) ?_
    refine lv_lload hx hb dX5_in_7 (lv_at hl 2 rfl) ?_
    refine W.lcmp hx hb dX5_in_9 ?_
    refine lv_if_gt (tgt := 17) hx hb dX5_in_10 (by decide) (fun c_1 => ?_) (fun c_1 => ?_)
    · have i_1 : 3 < (p0 : Int64).toInt := zl_lt (rfl) (rfl) ((lg_cmp_gt _ _).mp c_1)
      refine lv_iconst (v := 0) hx hb dX5_in_17 (by decide) ?_
      have hP9 := hP.sub (ws' := []) [] rfl
      have hD9 := hD.sub (ws' := []) [] (by decide) rfl
      exact W.zret (v := 0) hx hb hr (by decide) (fun t ht hW => ⟨⟨0, 0, rfl, Or.inr (Or.inl ⟨i_0, i_1, rfl⟩), by rw [ht]; exact hP9, hD9⟩, hS.F ht⟩) hS.2.2 dX5_in_18
    · have i_1 : (p0 : Int64).toInt ≤ 3 := zl_nlt (rfl) (rfl) (fun h => c_1 ((lg_cmp_gt _ _).mpr h))
      refine lv_iconst (v := 1) hx hb dX5_in_13 (by decide) ?_
      refine lv_goto (tgt := 18) hx hb dX5_in_14 (by decide) ?_
      have hP9 := hP.sub (ws' := []) [] rfl
      have hD9 := hD.sub (ws' := []) [] (by decide) rfl
      exact W.zret (v := 1) hx hb hr (by decide) (fun t ht hW => ⟨⟨1, 0, rfl, Or.inr (Or.inr (⟨i_0, i_1, rfl⟩)), by rw [ht]; exact hP9, hD9⟩, hS.F ht⟩) hS.2.2 dX5_in_18
set_option maxHeartbeats 4000000 in
set_option maxRecDepth 100000 in
theorem kX5_isSheet (l : Launch) (g : zG) (sz : Nat) (p0 : Int32) : Met l yX5_isSheet (.code yX5_isSheet cX5_isSheet 1 (some .boolean) :: zBig) ({ frames := 1, cells := 0, slots := 0, locals := 25 }) (va_Pc [.int p0] (zPre g [] sz)) (va_Qi (fun (r : Int32) (_ : Nat) => (p0.toInt < 0 ∧ r = 0) ∨ (0 ≤ p0.toInt ∧ 3 < p0.toInt ∧ r = 0) ∨ (0 ≤ p0.toInt ∧ p0.toInt ≤ 3 ∧ r = 1)) (zPost g (fun _ : Nat => []) (va_A [] sz)) (va_A [] sz)) 0 0 (va_A [] sz) := by
  refine zMetI rfl (Nat.le_of_ble_eq_true rfl) ?_
  intro p e s m args below meth c A ls hx hb hml hr hlocks hin hown hts hK hN hZ hP hD hA hS hAe hl
  have hown : s.vm.findClass RX5 = some m.cls := hown
  have hl : lv_has ls 1 [(0, .int p0)] := hl
  refine lv_iload_n hx hb dX5_isSheet_0 rfl (lv_at hl 0 rfl) ?_
  refine lv_i2l (v := p0.toInt64) hx hb dX5_isSheet_1 rfl ?_
  refine lv_lconst (v := 0) hx hb dX5_isSheet_2 (by decide) ?_
  refine lv_ldc2 (v := 3) hx hb hown (hts _ m_k_RX5_96) dX5_isSheet_3 ?_
  refine z_calli (wr := []) hP hD hS hA [] [] (by decide) rfl rfl (by decide) (va_runS (As := [.long p0.toInt64, .long 0, .long 3]) (rest := []) ⟨hx, hb, hml, hown, hts⟩ (kX5_in_30 l g  s.heap.size p0.toInt64) ⟨callB_of 3 hts (zGood m_o_yX5_in) rfl rfl rfl (hts _ m_z_RX5) (hts _ m_m_RX5_77) ⟨by decide +kernel, by decide +kernel, by decide +kernel⟩ ⟨Nat.le_of_ble_eq_true rfl, Nat.le_of_ble_eq_true rfl⟩, hts _ m_s_yX5_in⟩ (zPreS hK hN hZ hP hD hS hA [] (by decide) rfl rfl) rfl rfl hl.1 rfl (lv_room (Nat.le_of_ble_eq_true rfl)) dX5_isSheet_6 ⟨Nat.le_of_ble_eq_true rfl, Nat.le_of_ble_eq_true rfl⟩) (fun r u H locs hw hP hD hS => ?_)
  rcases hw with ⟨i_0, rfl⟩ | ⟨i_1, i_2, rfl⟩ | ⟨i_3, i_4, rfl⟩
  · skip
    have i_0 : p0.toInt < 0 := by simpa only [Int32.toInt_toInt64] using i_0
    have hP : va_P g.1 vwCl [] H := hP
    have hD : va_D A [] := hD
    have hP9 := hP.sub (ws' := []) [] rfl
    have hD9 := hD.sub (ws' := []) [] (by decide) rfl
    exact W.zret (v := 0) hx hb hr (by decide) (fun t ht hW => ⟨⟨0, 0, rfl, Or.inl ⟨i_0, rfl⟩, by rw [ht]; exact hP9, hD9⟩, hS.F ht⟩) hS.2.2 dX5_isSheet_9
  · skip
    have i_1 : 0 ≤ p0.toInt := by simpa only [Int32.toInt_toInt64] using i_1
    have i_2 : 3 < p0.toInt := by simpa only [Int32.toInt_toInt64] using i_2
    have hP : va_P g.1 vwCl [] H := hP
    have hD : va_D A [] := hD
    have hP9 := hP.sub (ws' := []) [] rfl
    have hD9 := hD.sub (ws' := []) [] (by decide) rfl
    exact W.zret (v := 0) hx hb hr (by decide) (fun t ht hW => ⟨⟨0, 0, rfl, Or.inr (Or.inl ⟨i_1, i_2, rfl⟩), by rw [ht]; exact hP9, hD9⟩, hS.F ht⟩) hS.2.2 dX5_isSheet_9
  · skip
    have i_3 : 0 ≤ p0.toInt := by simpa only [Int32.toInt_toInt64] using i_3
    have i_4 : p0.toInt ≤ 3 := by simpa only [Int32.toInt_toInt64] using i_4
    have hP : va_P g.1 vwCl [] H := hP
    have hD : va_D A [] := hD
    have hP9 := hP.sub (ws' := []) [] rfl
    have hD9 := hD.sub (ws' := []) [] (by decide) rfl
    exact W.zret (v := 1) hx hb hr (by decide) (fun t ht hW => ⟨⟨1, 0, rfl, Or.inr (Or.inr (⟨i_3, i_4, rfl⟩)), by rw [ht]; exact hP9, hD9⟩, hS.F ht⟩) hS.2.2 dX5_isSheet_9
set_option maxHeartbeats 4000000 in
set_option maxRecDepth 100000 in
theorem kX5_bars (l : Launch) (g : zG) (h0 h1 h2 h3 h4 h5 h6 h7 h8 h9 h10 h11 h12 h13 h14 h15 h16 h17 h18 h19 h20 h21 h22 : Nat) (sz : Nat) (p2 : Int32) (p3 : Int32) : Met l yX5_bars (.code yX5_bars cX5_bars 5 (some .int) :: zBig) ({ frames := 0, cells := 0, slots := 0, locals := 0 }) (va_Pc [.ref h0, .int 0, .int p2, .int p3, .int 0] (zPre g [(h0, .inr (5, [.ref h1, .int 0, .ref h2, .int 0, .int 0, .ref h3, .ref h4, .ref h5, .ref h6, .int 0, .ref h7, .ref h8, .ref h9, .int 0, .ref h10, .ref h11, .ref h12, .ref h13, .ref h14, .ref h15, .ref h16, .ref h17, .ref h18, .ref h19, .ref h20, .ref h21, .ref h22])), (h19, .inl (zI g, 4, .inl (upd (upd (upd (upd (fun _ => 0) 0 (-1)) 1 (-1)) 2 (-1)) 3 (-1))))] sz)) (va_Qi (fun (r : Int32) (_ : Nat) => r = (-11)) (zPost g (fun _ : Nat => [(h0, .inr (5, [.ref h1, .int 0, .ref h2, .int 0, .int 0, .ref h3, .ref h4, .ref h5, .ref h6, .int 0, .ref h7, .ref h8, .ref h9, .int 0, .ref h10, .ref h11, .ref h12, .ref h13, .ref h14, .ref h15, .ref h16, .ref h17, .ref h18, .ref h19, .ref h20, .ref h21, .ref h22])), (h19, .inl (zI g, 4, .inl (upd (upd (upd (upd (fun _ => 0) 0 (-1)) 1 (-1)) 2 (-1)) 3 (-1))))]) (va_A [(h0, .inr (5, [.ref h1, .int 0, .ref h2, .int 0, .int 0, .ref h3, .ref h4, .ref h5, .ref h6, .int 0, .ref h7, .ref h8, .ref h9, .int 0, .ref h10, .ref h11, .ref h12, .ref h13, .ref h14, .ref h15, .ref h16, .ref h17, .ref h18, .ref h19, .ref h20, .ref h21, .ref h22])), (h19, .inl (zI g, 4, .inl (upd (upd (upd (upd (fun _ => 0) 0 (-1)) 1 (-1)) 2 (-1)) 3 (-1))))] sz)) (va_A [(h0, .inr (5, [.ref h1, .int 0, .ref h2, .int 0, .int 0, .ref h3, .ref h4, .ref h5, .ref h6, .int 0, .ref h7, .ref h8, .ref h9, .int 0, .ref h10, .ref h11, .ref h12, .ref h13, .ref h14, .ref h15, .ref h16, .ref h17, .ref h18, .ref h19, .ref h20, .ref h21, .ref h22])), (h19, .inl (zI g, 4, .inl (upd (upd (upd (upd (fun _ => 0) 0 (-1)) 1 (-1)) 2 (-1)) 3 (-1))))] sz)) 0 0 (va_A [(h0, .inr (5, [.ref h1, .int 0, .ref h2, .int 0, .int 0, .ref h3, .ref h4, .ref h5, .ref h6, .int 0, .ref h7, .ref h8, .ref h9, .int 0, .ref h10, .ref h11, .ref h12, .ref h13, .ref h14, .ref h15, .ref h16, .ref h17, .ref h18, .ref h19, .ref h20, .ref h21, .ref h22])), (h19, .inl (zI g, 4, .inl (upd (upd (upd (upd (fun _ => 0) 0 (-1)) 1 (-1)) 2 (-1)) 3 (-1))))] sz) := by
  refine zMetI rfl (Nat.le_of_ble_eq_true rfl) ?_
  intro p e s m args below meth c A ls hx hb hml hr hlocks hin hown hts hK hN hZ hP hD hA hS hAe hl
  have hown : s.vm.findClass RX5 = some m.cls := hown
  have hl : lv_has ls 5 [(0, .ref h0), (1, .int 0), (2, .int p2), (3, .int p3), (4, .int 0)] := hl
  refine lv_aload_n hx hb dX5_bars_0 rfl (lv_at hl 0 rfl) ?_
  refine va_get (D := g.1) (ci := 5) (v := .ref h19) (C := RX5) (T := TX5) (N := 27) hx hb hts zl_X5 hown hK hP 0 rfl rfl 23 (by decide) (hts _ m_f_RX5_64) (fun _ h => h) rfl dX5_bars_1 ?_
  refine lv_iload_n hx hb dX5_bars_4 rfl (lv_at hl 1 rfl) ?_
  refine va_iald (D := g.1) hx hb hK hP 1 0 rfl rfl (vp_in_iff.mpr (by decide +kernel)) dX5_bars_5 ?_
  refine lv_topi (nm_r (e' := (-1)) (by rfl) ?_)
  refine lv_if_ge (tgt := 14) hx hb dX5_bars_6 (by decide) (fun h => absurd h (by decide +kernel)) (fun _ => ?_)
  refine lv_bipush (v := (-11)) hx hb dX5_bars_9 (by decide) ?_
  refine lv_goto (tgt := 61) hx hb dX5_bars_11 (by decide) ?_
  have hP9 := hP.sub (ws' := [(h0, .inr (5, [.ref h1, .int 0, .ref h2, .int 0, .int 0, .ref h3, .ref h4, .ref h5, .ref h6, .int 0, .ref h7, .ref h8, .ref h9, .int 0, .ref h10, .ref h11, .ref h12, .ref h13, .ref h14, .ref h15, .ref h16, .ref h17, .ref h18, .ref h19, .ref h20, .ref h21, .ref h22])), (h19, .inl (zI g, 4, .inl (upd (upd (upd (upd (fun _ => 0) 0 (-1)) 1 (-1)) 2 (-1)) 3 (-1))))]) [0, 1] rfl
  have hD9 := hD.sub (ws' := [(h0, .inr (5, [.ref h1, .int 0, .ref h2, .int 0, .int 0, .ref h3, .ref h4, .ref h5, .ref h6, .int 0, .ref h7, .ref h8, .ref h9, .int 0, .ref h10, .ref h11, .ref h12, .ref h13, .ref h14, .ref h15, .ref h16, .ref h17, .ref h18, .ref h19, .ref h20, .ref h21, .ref h22])), (h19, .inl (zI g, 4, .inl (upd (upd (upd (upd (fun _ => 0) 0 (-1)) 1 (-1)) 2 (-1)) 3 (-1))))]) [0, 1] (by decide) rfl
  exact W.iret (v := (-11)) hx hb hr (fun t ht hW => ⟨⟨(-11), 0, rfl, rfl, by rw [ht]; exact hP9, hD9⟩, hS.F ht⟩) hS.2.2 dX5_bars_61
set_option maxHeartbeats 4000000 in
set_option maxRecDepth 100000 in
theorem kX5_bars_2 (l : Launch) (g : zG) (h0 h1 h2 h3 h4 h5 h6 h7 h8 h9 h10 h11 h12 h13 h14 h15 h16 h17 h18 h19 h20 h21 h22 : Nat) (sz : Nat) (p2 : Int32) (p3 : Int32) : Met l yX5_bars (.code yX5_bars cX5_bars 5 (some .int) :: zBig) ({ frames := 0, cells := 0, slots := 0, locals := 0 }) (va_Pc [.ref h0, .int 1, .int p2, .int p3, .int 0] (zPre g [(h0, .inr (5, [.ref h1, .int 0, .ref h2, .int 0, .int 0, .ref h3, .ref h4, .ref h5, .ref h6, .int 0, .ref h7, .ref h8, .ref h9, .int 0, .ref h10, .ref h11, .ref h12, .ref h13, .ref h14, .ref h15, .ref h16, .ref h17, .ref h18, .ref h19, .ref h20, .ref h21, .ref h22])), (h19, .inl (zI g, 4, .inl (upd (upd (upd (upd (fun _ => 0) 0 (-1)) 1 (-1)) 2 (-1)) 3 (-1))))] sz)) (va_Qi (fun (r : Int32) (_ : Nat) => r = (-11)) (zPost g (fun _ : Nat => [(h0, .inr (5, [.ref h1, .int 0, .ref h2, .int 0, .int 0, .ref h3, .ref h4, .ref h5, .ref h6, .int 0, .ref h7, .ref h8, .ref h9, .int 0, .ref h10, .ref h11, .ref h12, .ref h13, .ref h14, .ref h15, .ref h16, .ref h17, .ref h18, .ref h19, .ref h20, .ref h21, .ref h22])), (h19, .inl (zI g, 4, .inl (upd (upd (upd (upd (fun _ => 0) 0 (-1)) 1 (-1)) 2 (-1)) 3 (-1))))]) (va_A [(h0, .inr (5, [.ref h1, .int 0, .ref h2, .int 0, .int 0, .ref h3, .ref h4, .ref h5, .ref h6, .int 0, .ref h7, .ref h8, .ref h9, .int 0, .ref h10, .ref h11, .ref h12, .ref h13, .ref h14, .ref h15, .ref h16, .ref h17, .ref h18, .ref h19, .ref h20, .ref h21, .ref h22])), (h19, .inl (zI g, 4, .inl (upd (upd (upd (upd (fun _ => 0) 0 (-1)) 1 (-1)) 2 (-1)) 3 (-1))))] sz)) (va_A [(h0, .inr (5, [.ref h1, .int 0, .ref h2, .int 0, .int 0, .ref h3, .ref h4, .ref h5, .ref h6, .int 0, .ref h7, .ref h8, .ref h9, .int 0, .ref h10, .ref h11, .ref h12, .ref h13, .ref h14, .ref h15, .ref h16, .ref h17, .ref h18, .ref h19, .ref h20, .ref h21, .ref h22])), (h19, .inl (zI g, 4, .inl (upd (upd (upd (upd (fun _ => 0) 0 (-1)) 1 (-1)) 2 (-1)) 3 (-1))))] sz)) 0 0 (va_A [(h0, .inr (5, [.ref h1, .int 0, .ref h2, .int 0, .int 0, .ref h3, .ref h4, .ref h5, .ref h6, .int 0, .ref h7, .ref h8, .ref h9, .int 0, .ref h10, .ref h11, .ref h12, .ref h13, .ref h14, .ref h15, .ref h16, .ref h17, .ref h18, .ref h19, .ref h20, .ref h21, .ref h22])), (h19, .inl (zI g, 4, .inl (upd (upd (upd (upd (fun _ => 0) 0 (-1)) 1 (-1)) 2 (-1)) 3 (-1))))] sz) := by
  refine zMetI rfl (Nat.le_of_ble_eq_true rfl) ?_
  intro p e s m args below meth c A ls hx hb hml hr hlocks hin hown hts hK hN hZ hP hD hA hS hAe hl
  have hown : s.vm.findClass RX5 = some m.cls := hown
  have hl : lv_has ls 5 [(0, .ref h0), (1, .int 1), (2, .int p2), (3, .int p3), (4, .int 0)] := hl
  refine lv_aload_n hx hb dX5_bars_0 rfl (lv_at hl 0 rfl) ?_
  refine va_get (D := g.1) (ci := 5) (v := .ref h19) (C := RX5) (T := TX5) (N := 27) hx hb hts zl_X5 hown hK hP 0 rfl rfl 23 (by decide) (hts _ m_f_RX5_64) (fun _ h => h) rfl dX5_bars_1 ?_
  refine lv_iload_n hx hb dX5_bars_4 rfl (lv_at hl 1 rfl) ?_
  refine va_iald (D := g.1) hx hb hK hP 1 0 rfl rfl (vp_in_iff.mpr (by decide +kernel)) dX5_bars_5 ?_
  refine lv_topi (nm_r (e' := (-1)) (by rfl) ?_)
  refine lv_if_ge (tgt := 14) hx hb dX5_bars_6 (by decide) (fun h => absurd h (by decide +kernel)) (fun _ => ?_)
  refine lv_bipush (v := (-11)) hx hb dX5_bars_9 (by decide) ?_
  refine lv_goto (tgt := 61) hx hb dX5_bars_11 (by decide) ?_
  have hP9 := hP.sub (ws' := [(h0, .inr (5, [.ref h1, .int 0, .ref h2, .int 0, .int 0, .ref h3, .ref h4, .ref h5, .ref h6, .int 0, .ref h7, .ref h8, .ref h9, .int 0, .ref h10, .ref h11, .ref h12, .ref h13, .ref h14, .ref h15, .ref h16, .ref h17, .ref h18, .ref h19, .ref h20, .ref h21, .ref h22])), (h19, .inl (zI g, 4, .inl (upd (upd (upd (upd (fun _ => 0) 0 (-1)) 1 (-1)) 2 (-1)) 3 (-1))))]) [0, 1] rfl
  have hD9 := hD.sub (ws' := [(h0, .inr (5, [.ref h1, .int 0, .ref h2, .int 0, .int 0, .ref h3, .ref h4, .ref h5, .ref h6, .int 0, .ref h7, .ref h8, .ref h9, .int 0, .ref h10, .ref h11, .ref h12, .ref h13, .ref h14, .ref h15, .ref h16, .ref h17, .ref h18, .ref h19, .ref h20, .ref h21, .ref h22])), (h19, .inl (zI g, 4, .inl (upd (upd (upd (upd (fun _ => 0) 0 (-1)) 1 (-1)) 2 (-1)) 3 (-1))))]) [0, 1] (by decide) rfl
  exact W.iret (v := (-11)) hx hb hr (fun t ht hW => ⟨⟨(-11), 0, rfl, rfl, by rw [ht]; exact hP9, hD9⟩, hS.F ht⟩) hS.2.2 dX5_bars_61
set_option maxHeartbeats 4000000 in
set_option maxRecDepth 100000 in
theorem kX5_bars_3 (l : Launch) (g : zG) (h0 h1 h2 h3 h4 h5 h6 h7 h8 h9 h10 h11 h12 h13 h14 h15 h16 h17 h18 h19 h20 h21 h22 : Nat) (sz : Nat) (p2 : Int32) (p3 : Int32) : Met l yX5_bars (.code yX5_bars cX5_bars 5 (some .int) :: zBig) ({ frames := 0, cells := 0, slots := 0, locals := 0 }) (va_Pc [.ref h0, .int 2, .int p2, .int p3, .int 0] (zPre g [(h0, .inr (5, [.ref h1, .int 0, .ref h2, .int 0, .int 0, .ref h3, .ref h4, .ref h5, .ref h6, .int 0, .ref h7, .ref h8, .ref h9, .int 0, .ref h10, .ref h11, .ref h12, .ref h13, .ref h14, .ref h15, .ref h16, .ref h17, .ref h18, .ref h19, .ref h20, .ref h21, .ref h22])), (h19, .inl (zI g, 4, .inl (upd (upd (upd (upd (fun _ => 0) 0 (-1)) 1 (-1)) 2 (-1)) 3 (-1))))] sz)) (va_Qi (fun (r : Int32) (_ : Nat) => r = (-11)) (zPost g (fun _ : Nat => [(h0, .inr (5, [.ref h1, .int 0, .ref h2, .int 0, .int 0, .ref h3, .ref h4, .ref h5, .ref h6, .int 0, .ref h7, .ref h8, .ref h9, .int 0, .ref h10, .ref h11, .ref h12, .ref h13, .ref h14, .ref h15, .ref h16, .ref h17, .ref h18, .ref h19, .ref h20, .ref h21, .ref h22])), (h19, .inl (zI g, 4, .inl (upd (upd (upd (upd (fun _ => 0) 0 (-1)) 1 (-1)) 2 (-1)) 3 (-1))))]) (va_A [(h0, .inr (5, [.ref h1, .int 0, .ref h2, .int 0, .int 0, .ref h3, .ref h4, .ref h5, .ref h6, .int 0, .ref h7, .ref h8, .ref h9, .int 0, .ref h10, .ref h11, .ref h12, .ref h13, .ref h14, .ref h15, .ref h16, .ref h17, .ref h18, .ref h19, .ref h20, .ref h21, .ref h22])), (h19, .inl (zI g, 4, .inl (upd (upd (upd (upd (fun _ => 0) 0 (-1)) 1 (-1)) 2 (-1)) 3 (-1))))] sz)) (va_A [(h0, .inr (5, [.ref h1, .int 0, .ref h2, .int 0, .int 0, .ref h3, .ref h4, .ref h5, .ref h6, .int 0, .ref h7, .ref h8, .ref h9, .int 0, .ref h10, .ref h11, .ref h12, .ref h13, .ref h14, .ref h15, .ref h16, .ref h17, .ref h18, .ref h19, .ref h20, .ref h21, .ref h22])), (h19, .inl (zI g, 4, .inl (upd (upd (upd (upd (fun _ => 0) 0 (-1)) 1 (-1)) 2 (-1)) 3 (-1))))] sz)) 0 0 (va_A [(h0, .inr (5, [.ref h1, .int 0, .ref h2, .int 0, .int 0, .ref h3, .ref h4, .ref h5, .ref h6, .int 0, .ref h7, .ref h8, .ref h9, .int 0, .ref h10, .ref h11, .ref h12, .ref h13, .ref h14, .ref h15, .ref h16, .ref h17, .ref h18, .ref h19, .ref h20, .ref h21, .ref h22])), (h19, .inl (zI g, 4, .inl (upd (upd (upd (upd (fun _ => 0) 0 (-1)) 1 (-1)) 2 (-1)) 3 (-1))))] sz) := by
  refine zMetI rfl (Nat.le_of_ble_eq_true rfl) ?_
  intro p e s m args below meth c A ls hx hb hml hr hlocks hin hown hts hK hN hZ hP hD hA hS hAe hl
  have hown : s.vm.findClass RX5 = some m.cls := hown
  have hl : lv_has ls 5 [(0, .ref h0), (1, .int 2), (2, .int p2), (3, .int p3), (4, .int 0)] := hl
  refine lv_aload_n hx hb dX5_bars_0 rfl (lv_at hl 0 rfl) ?_
  refine va_get (D := g.1) (ci := 5) (v := .ref h19) (C := RX5) (T := TX5) (N := 27) hx hb hts zl_X5 hown hK hP 0 rfl rfl 23 (by decide) (hts _ m_f_RX5_64) (fun _ h => h) rfl dX5_bars_1 ?_
  refine lv_iload_n hx hb dX5_bars_4 rfl (lv_at hl 1 rfl) ?_
  refine va_iald (D := g.1) hx hb hK hP 1 0 rfl rfl (vp_in_iff.mpr (by decide +kernel)) dX5_bars_5 ?_
  refine lv_topi (nm_r (e' := (-1)) (by rfl) ?_)
  refine lv_if_ge (tgt := 14) hx hb dX5_bars_6 (by decide) (fun h => absurd h (by decide +kernel)) (fun _ => ?_)
  refine lv_bipush (v := (-11)) hx hb dX5_bars_9 (by decide) ?_
  refine lv_goto (tgt := 61) hx hb dX5_bars_11 (by decide) ?_
  have hP9 := hP.sub (ws' := [(h0, .inr (5, [.ref h1, .int 0, .ref h2, .int 0, .int 0, .ref h3, .ref h4, .ref h5, .ref h6, .int 0, .ref h7, .ref h8, .ref h9, .int 0, .ref h10, .ref h11, .ref h12, .ref h13, .ref h14, .ref h15, .ref h16, .ref h17, .ref h18, .ref h19, .ref h20, .ref h21, .ref h22])), (h19, .inl (zI g, 4, .inl (upd (upd (upd (upd (fun _ => 0) 0 (-1)) 1 (-1)) 2 (-1)) 3 (-1))))]) [0, 1] rfl
  have hD9 := hD.sub (ws' := [(h0, .inr (5, [.ref h1, .int 0, .ref h2, .int 0, .int 0, .ref h3, .ref h4, .ref h5, .ref h6, .int 0, .ref h7, .ref h8, .ref h9, .int 0, .ref h10, .ref h11, .ref h12, .ref h13, .ref h14, .ref h15, .ref h16, .ref h17, .ref h18, .ref h19, .ref h20, .ref h21, .ref h22])), (h19, .inl (zI g, 4, .inl (upd (upd (upd (upd (fun _ => 0) 0 (-1)) 1 (-1)) 2 (-1)) 3 (-1))))]) [0, 1] (by decide) rfl
  exact W.iret (v := (-11)) hx hb hr (fun t ht hW => ⟨⟨(-11), 0, rfl, rfl, by rw [ht]; exact hP9, hD9⟩, hS.F ht⟩) hS.2.2 dX5_bars_61
set_option maxHeartbeats 4000000 in
set_option maxRecDepth 100000 in
theorem kX5_bars_4 (l : Launch) (g : zG) (h0 h1 h2 h3 h4 h5 h6 h7 h8 h9 h10 h11 h12 h13 h14 h15 h16 h17 h18 h19 h20 h21 h22 : Nat) (sz : Nat) (p2 : Int32) (p3 : Int32) : Met l yX5_bars (.code yX5_bars cX5_bars 5 (some .int) :: zBig) ({ frames := 0, cells := 0, slots := 0, locals := 0 }) (va_Pc [.ref h0, .int 3, .int p2, .int p3, .int 0] (zPre g [(h0, .inr (5, [.ref h1, .int 0, .ref h2, .int 0, .int 0, .ref h3, .ref h4, .ref h5, .ref h6, .int 0, .ref h7, .ref h8, .ref h9, .int 0, .ref h10, .ref h11, .ref h12, .ref h13, .ref h14, .ref h15, .ref h16, .ref h17, .ref h18, .ref h19, .ref h20, .ref h21, .ref h22])), (h19, .inl (zI g, 4, .inl (upd (upd (upd (upd (fun _ => 0) 0 (-1)) 1 (-1)) 2 (-1)) 3 (-1))))] sz)) (va_Qi (fun (r : Int32) (_ : Nat) => r = (-11)) (zPost g (fun _ : Nat => [(h0, .inr (5, [.ref h1, .int 0, .ref h2, .int 0, .int 0, .ref h3, .ref h4, .ref h5, .ref h6, .int 0, .ref h7, .ref h8, .ref h9, .int 0, .ref h10, .ref h11, .ref h12, .ref h13, .ref h14, .ref h15, .ref h16, .ref h17, .ref h18, .ref h19, .ref h20, .ref h21, .ref h22])), (h19, .inl (zI g, 4, .inl (upd (upd (upd (upd (fun _ => 0) 0 (-1)) 1 (-1)) 2 (-1)) 3 (-1))))]) (va_A [(h0, .inr (5, [.ref h1, .int 0, .ref h2, .int 0, .int 0, .ref h3, .ref h4, .ref h5, .ref h6, .int 0, .ref h7, .ref h8, .ref h9, .int 0, .ref h10, .ref h11, .ref h12, .ref h13, .ref h14, .ref h15, .ref h16, .ref h17, .ref h18, .ref h19, .ref h20, .ref h21, .ref h22])), (h19, .inl (zI g, 4, .inl (upd (upd (upd (upd (fun _ => 0) 0 (-1)) 1 (-1)) 2 (-1)) 3 (-1))))] sz)) (va_A [(h0, .inr (5, [.ref h1, .int 0, .ref h2, .int 0, .int 0, .ref h3, .ref h4, .ref h5, .ref h6, .int 0, .ref h7, .ref h8, .ref h9, .int 0, .ref h10, .ref h11, .ref h12, .ref h13, .ref h14, .ref h15, .ref h16, .ref h17, .ref h18, .ref h19, .ref h20, .ref h21, .ref h22])), (h19, .inl (zI g, 4, .inl (upd (upd (upd (upd (fun _ => 0) 0 (-1)) 1 (-1)) 2 (-1)) 3 (-1))))] sz)) 0 0 (va_A [(h0, .inr (5, [.ref h1, .int 0, .ref h2, .int 0, .int 0, .ref h3, .ref h4, .ref h5, .ref h6, .int 0, .ref h7, .ref h8, .ref h9, .int 0, .ref h10, .ref h11, .ref h12, .ref h13, .ref h14, .ref h15, .ref h16, .ref h17, .ref h18, .ref h19, .ref h20, .ref h21, .ref h22])), (h19, .inl (zI g, 4, .inl (upd (upd (upd (upd (fun _ => 0) 0 (-1)) 1 (-1)) 2 (-1)) 3 (-1))))] sz) := by
  refine zMetI rfl (Nat.le_of_ble_eq_true rfl) ?_
  intro p e s m args below meth c A ls hx hb hml hr hlocks hin hown hts hK hN hZ hP hD hA hS hAe hl
  have hown : s.vm.findClass RX5 = some m.cls := hown
  have hl : lv_has ls 5 [(0, .ref h0), (1, .int 3), (2, .int p2), (3, .int p3), (4, .int 0)] := hl
  refine lv_aload_n hx hb dX5_bars_0 rfl (lv_at hl 0 rfl) ?_
  refine va_get (D := g.1) (ci := 5) (v := .ref h19) (C := RX5) (T := TX5) (N := 27) hx hb hts zl_X5 hown hK hP 0 rfl rfl 23 (by decide) (hts _ m_f_RX5_64) (fun _ h => h) rfl dX5_bars_1 ?_
  refine lv_iload_n hx hb dX5_bars_4 rfl (lv_at hl 1 rfl) ?_
  refine va_iald (D := g.1) hx hb hK hP 1 0 rfl rfl (vp_in_iff.mpr (by decide +kernel)) dX5_bars_5 ?_
  refine lv_topi (nm_r (e' := (-1)) (by rfl) ?_)
  refine lv_if_ge (tgt := 14) hx hb dX5_bars_6 (by decide) (fun h => absurd h (by decide +kernel)) (fun _ => ?_)
  refine lv_bipush (v := (-11)) hx hb dX5_bars_9 (by decide) ?_
  refine lv_goto (tgt := 61) hx hb dX5_bars_11 (by decide) ?_
  have hP9 := hP.sub (ws' := [(h0, .inr (5, [.ref h1, .int 0, .ref h2, .int 0, .int 0, .ref h3, .ref h4, .ref h5, .ref h6, .int 0, .ref h7, .ref h8, .ref h9, .int 0, .ref h10, .ref h11, .ref h12, .ref h13, .ref h14, .ref h15, .ref h16, .ref h17, .ref h18, .ref h19, .ref h20, .ref h21, .ref h22])), (h19, .inl (zI g, 4, .inl (upd (upd (upd (upd (fun _ => 0) 0 (-1)) 1 (-1)) 2 (-1)) 3 (-1))))]) [0, 1] rfl
  have hD9 := hD.sub (ws' := [(h0, .inr (5, [.ref h1, .int 0, .ref h2, .int 0, .int 0, .ref h3, .ref h4, .ref h5, .ref h6, .int 0, .ref h7, .ref h8, .ref h9, .int 0, .ref h10, .ref h11, .ref h12, .ref h13, .ref h14, .ref h15, .ref h16, .ref h17, .ref h18, .ref h19, .ref h20, .ref h21, .ref h22])), (h19, .inl (zI g, 4, .inl (upd (upd (upd (upd (fun _ => 0) 0 (-1)) 1 (-1)) 2 (-1)) 3 (-1))))]) [0, 1] (by decide) rfl
  exact W.iret (v := (-11)) hx hb hr (fun t ht hW => ⟨⟨(-11), 0, rfl, rfl, by rw [ht]; exact hP9, hD9⟩, hS.F ht⟩) hS.2.2 dX5_bars_61
set_option maxHeartbeats 4000000 in
set_option maxRecDepth 100000 in
theorem kX5_in_31 (l : Launch) (g : zG) (sz : Nat) (p0 : Int64) : Met l yX5_in (.code yX5_in cX5_in 6 (some .boolean) :: zBig) ({ frames := 0, cells := 0, slots := 0, locals := 0 }) (va_Pc [.long p0, .long 0, .long 3] (zPre g [] sz)) (va_Qi (fun (r : Int32) (_ : Nat) => ((p0 : Int64).toInt < 0 ∧ r = 0) ∨ (0 ≤ (p0 : Int64).toInt ∧ 3 < (p0 : Int64).toInt ∧ r = 0) ∨ (0 ≤ (p0 : Int64).toInt ∧ (p0 : Int64).toInt ≤ 3 ∧ r = 1)) (zPost g (fun _ : Nat => []) (va_A [] sz)) (va_A [] sz)) 0 0 (va_A [] sz) := by
  refine zMetI rfl (Nat.le_of_ble_eq_true rfl) ?_
  intro p e s m args below meth c A ls hx hb hml hr hlocks hin hown hts hK hN hZ hP hD hA hS hAe hl
  have hown : s.vm.findClass RX5 = some m.cls := hown
  have hl : lv_has ls 6 [(0, .long p0), (2, .long 0), (4, .long 3)] := hl
  refine lv_lload_n hx hb dX5_in_0 rfl (lv_at hl 0 rfl) ?_
  refine lv_lload_n hx hb dX5_in_1 rfl (lv_at hl 1 rfl) ?_
  refine W.lcmp hx hb dX5_in_2 ?_
  refine lv_if_lt (tgt := 17) hx hb dX5_in_3 (by decide) (fun c_0 => ?_) (fun c_0 => ?_)
  · have i_0 : (p0 : Int64).toInt < 0 := zl_lt (rfl) (rfl) ((lg_cmp_lt _ _).mp c_0)
    refine lv_iconst (v := 0) hx hb dX5_in_17 (by decide) ?_
    have hP9 := hP.sub (ws' := []) [] rfl
    have hD9 := hD.sub (ws' := []) [] (by decide) rfl
    exact W.zret (v := 0) hx hb hr (by decide) (fun t ht hW => ⟨⟨0, 0, rfl, Or.inl ⟨i_0, rfl⟩, by rw [ht]; exact hP9, hD9⟩, hS.F ht⟩) hS.2.2 dX5_in_18
  · have i_0 : 0 ≤ (p0 : Int64).toInt := zl_nlt (rfl) (rfl) (fun h => c_0 ((lg_cmp_lt _ _).mpr h))
    refine lv_lload_n hx hb dX5_in_6 rfl (lv_at hl 0 rfl) ?_
    refine lv_lload hx hb dX5_in_7 (lv_at hl 2 rfl) ?_
    refine W.lcmp hx hb dX5_in_9 ?_
    refine lv_if_gt (tgt := 17) hx hb dX5_in_10 (by decide) (fun c_1 => ?_) (fun c_1 => ?_)
    · have i_1 : 3 < (p0 : Int64).toInt := zl_lt (rfl) (rfl) ((lg_cmp_gt _ _).mp c_1)
      refine lv_iconst (v := 0) hx hb dX5_in_17 (by decide) ?_
      have hP9 := hP.sub (ws' := []) [] rfl
      have hD9 := hD.sub (ws' := []) [] (by decide) rfl
      exact W.zret (v := 0) hx hb hr (by decide) (fun t ht hW => ⟨⟨0, 0, rfl, Or.inr (Or.inl ⟨i_0, i_1, rfl⟩), by rw [ht]; exact hP9, hD9⟩, hS.F ht⟩) hS.2.2 dX5_in_18
    · have i_1 : (p0 : Int64).toInt ≤ 3 := zl_nlt (rfl) (rfl) (fun h => c_1 ((lg_cmp_gt _ _).mpr h))
      refine lv_iconst (v := 1) hx hb dX5_in_13 (by decide) ?_
      refine lv_goto (tgt := 18) hx hb dX5_in_14 (by decide) ?_
      have hP9 := hP.sub (ws' := []) [] rfl
      have hD9 := hD.sub (ws' := []) [] (by decide) rfl
      exact W.zret (v := 1) hx hb hr (by decide) (fun t ht hW => ⟨⟨1, 0, rfl, Or.inr (Or.inr (⟨i_0, i_1, rfl⟩)), by rw [ht]; exact hP9, hD9⟩, hS.F ht⟩) hS.2.2 dX5_in_18
set_option maxHeartbeats 4000000 in
set_option maxRecDepth 100000 in
theorem kX5_isSheet_2 (l : Launch) (g : zG) (sz : Nat) (p0 : Int32) : Met l yX5_isSheet (.code yX5_isSheet cX5_isSheet 1 (some .boolean) :: zBig) ({ frames := 1, cells := 0, slots := 0, locals := 25 }) (va_Pc [.int p0] (zPre g [] sz)) (va_Qi (fun (r : Int32) (_ : Nat) => (p0.toInt < 0 ∧ r = 0) ∨ (0 ≤ p0.toInt ∧ 3 < p0.toInt ∧ r = 0) ∨ (0 ≤ p0.toInt ∧ p0.toInt ≤ 3 ∧ r = 1)) (zPost g (fun _ : Nat => []) (va_A [] sz)) (va_A [] sz)) 0 0 (va_A [] sz) := by
  refine zMetI rfl (Nat.le_of_ble_eq_true rfl) ?_
  intro p e s m args below meth c A ls hx hb hml hr hlocks hin hown hts hK hN hZ hP hD hA hS hAe hl
  have hown : s.vm.findClass RX5 = some m.cls := hown
  have hl : lv_has ls 1 [(0, .int p0)] := hl
  refine lv_iload_n hx hb dX5_isSheet_0 rfl (lv_at hl 0 rfl) ?_
  refine lv_i2l (v := p0.toInt64) hx hb dX5_isSheet_1 rfl ?_
  refine lv_lconst (v := 0) hx hb dX5_isSheet_2 (by decide) ?_
  refine lv_ldc2 (v := 3) hx hb hown (hts _ m_k_RX5_96) dX5_isSheet_3 ?_
  refine z_calli (wr := []) hP hD hS hA [] [] (by decide) rfl rfl (by decide) (va_runS (As := [.long p0.toInt64, .long 0, .long 3]) (rest := []) ⟨hx, hb, hml, hown, hts⟩ (kX5_in_30 l g  s.heap.size p0.toInt64) ⟨callB_of 3 hts (zGood m_o_yX5_in) rfl rfl rfl (hts _ m_z_RX5) (hts _ m_m_RX5_77) ⟨by decide +kernel, by decide +kernel, by decide +kernel⟩ ⟨Nat.le_of_ble_eq_true rfl, Nat.le_of_ble_eq_true rfl⟩, hts _ m_s_yX5_in⟩ (zPreS hK hN hZ hP hD hS hA [] (by decide) rfl rfl) rfl rfl hl.1 rfl (lv_room (Nat.le_of_ble_eq_true rfl)) dX5_isSheet_6 ⟨Nat.le_of_ble_eq_true rfl, Nat.le_of_ble_eq_true rfl⟩) (fun r u H locs hw hP hD hS => ?_)
  rcases hw with ⟨i_0, rfl⟩ | ⟨i_1, i_2, rfl⟩ | ⟨i_3, i_4, rfl⟩
  · skip
    have i_0 : p0.toInt < 0 := by simpa only [Int32.toInt_toInt64] using i_0
    have hP : va_P g.1 vwCl [] H := hP
    have hD : va_D A [] := hD
    have hP9 := hP.sub (ws' := []) [] rfl
    have hD9 := hD.sub (ws' := []) [] (by decide) rfl
    exact W.zret (v := 0) hx hb hr (by decide) (fun t ht hW => ⟨⟨0, 0, rfl, Or.inl ⟨i_0, rfl⟩, by rw [ht]; exact hP9, hD9⟩, hS.F ht⟩) hS.2.2 dX5_isSheet_9
  · skip
    have i_1 : 0 ≤ p0.toInt := by simpa only [Int32.toInt_toInt64] using i_1
    have i_2 : 3 < p0.toInt := by simpa only [Int32.toInt_toInt64] using i_2
    have hP : va_P g.1 vwCl [] H := hP
    have hD : va_D A [] := hD
    have hP9 := hP.sub (ws' := []) [] rfl
    have hD9 := hD.sub (ws' := []) [] (by decide) rfl
    exact W.zret (v := 0) hx hb hr (by decide) (fun t ht hW => ⟨⟨0, 0, rfl, Or.inr (Or.inl ⟨i_1, i_2, rfl⟩), by rw [ht]; exact hP9, hD9⟩, hS.F ht⟩) hS.2.2 dX5_isSheet_9
  · skip
    have i_3 : 0 ≤ p0.toInt := by simpa only [Int32.toInt_toInt64] using i_3
    have i_4 : p0.toInt ≤ 3 := by simpa only [Int32.toInt_toInt64] using i_4
    have hP : va_P g.1 vwCl [] H := hP
    have hD : va_D A [] := hD
    have hP9 := hP.sub (ws' := []) [] rfl
    have hD9 := hD.sub (ws' := []) [] (by decide) rfl
    exact W.zret (v := 1) hx hb hr (by decide) (fun t ht hW => ⟨⟨1, 0, rfl, Or.inr (Or.inr (⟨i_3, i_4, rfl⟩)), by rw [ht]; exact hP9, hD9⟩, hS.F ht⟩) hS.2.2 dX5_isSheet_9
set_option maxHeartbeats 4000000 in
set_option maxRecDepth 100000 in
theorem kX5_in_32 (l : Launch) (g : zG) (sz : Nat) (p0 : Int64) : Met l yX5_in (.code yX5_in cX5_in 6 (some .boolean) :: zBig) ({ frames := 0, cells := 0, slots := 0, locals := 0 }) (va_Pc [.long p0, .long 0, .long 2] (zPre g [] sz)) (va_Qi (fun (r : Int32) (_ : Nat) => ((p0 : Int64).toInt < 0 ∧ r = 0) ∨ (0 ≤ (p0 : Int64).toInt ∧ 2 < (p0 : Int64).toInt ∧ r = 0) ∨ (0 ≤ (p0 : Int64).toInt ∧ (p0 : Int64).toInt ≤ 2 ∧ r = 1)) (zPost g (fun _ : Nat => []) (va_A [] sz)) (va_A [] sz)) 0 0 (va_A [] sz) := by
  refine zMetI rfl (Nat.le_of_ble_eq_true rfl) ?_
  intro p e s m args below meth c A ls hx hb hml hr hlocks hin hown hts hK hN hZ hP hD hA hS hAe hl
  have hown : s.vm.findClass RX5 = some m.cls := hown
  have hl : lv_has ls 6 [(0, .long p0), (2, .long 0), (4, .long 2)] := hl
  refine lv_lload_n hx hb dX5_in_0 rfl (lv_at hl 0 rfl) ?_
  refine lv_lload_n hx hb dX5_in_1 rfl (lv_at hl 1 rfl) ?_
  refine W.lcmp hx hb dX5_in_2 ?_
  refine lv_if_lt (tgt := 17) hx hb dX5_in_3 (by decide) (fun c_0 => ?_) (fun c_0 => ?_)
  · have i_0 : (p0 : Int64).toInt < 0 := zl_lt (rfl) (rfl) ((lg_cmp_lt _ _).mp c_0)
    refine lv_iconst (v := 0) hx hb dX5_in_17 (by decide) ?_
    have hP9 := hP.sub (ws' := []) [] rfl
    have hD9 := hD.sub (ws' := []) [] (by decide) rfl
    exact W.zret (v := 0) hx hb hr (by decide) (fun t ht hW => ⟨⟨0, 0, rfl, Or.inl ⟨i_0, rfl⟩, by rw [ht]; exact hP9, hD9⟩, hS.F ht⟩) hS.2.2 dX5_in_18
  · have i_0 : 0 ≤ (p0 : Int64).toInt := zl_nlt (rfl) (rfl) (fun h => c_0 ((lg_cmp_lt _ _).mpr h))
    refine lv_lload_n hx hb dX5_in_6 rfl (lv_at hl 0 rfl) ?_
    refine lv_lload hx hb dX5_in_7 (lv_at hl 2 rfl) ?_
    refine W.lcmp hx hb dX5_in_9 ?_
    refine lv_if_gt (tgt := 17) hx hb dX5_in_10 (by decide) (fun c_1 => ?_) (fun c_1 => ?_)
    · have i_1 : 2 < (p0 : Int64).toInt := zl_lt (rfl) (rfl) ((lg_cmp_gt _ _).mp c_1)
      refine lv_iconst (v := 0) hx hb dX5_in_17 (by decide) ?_
      have hP9 := hP.sub (ws' := []) [] rfl
      have hD9 := hD.sub (ws' := []) [] (by decide) rfl
      exact W.zret (v := 0) hx hb hr (by decide) (fun t ht hW => ⟨⟨0, 0, rfl, Or.inr (Or.inl ⟨i_0, i_1, rfl⟩), by rw [ht]; exact hP9, hD9⟩, hS.F ht⟩) hS.2.2 dX5_in_18
    · have i_1 : (p0 : Int64).toInt ≤ 2 := zl_nlt (rfl) (rfl) (fun h => c_1 ((lg_cmp_gt _ _).mpr h))
      refine lv_iconst (v := 1) hx hb dX5_in_13 (by decide) ?_
      refine lv_goto (tgt := 18) hx hb dX5_in_14 (by decide) ?_
      have hP9 := hP.sub (ws' := []) [] rfl
      have hD9 := hD.sub (ws' := []) [] (by decide) rfl
      exact W.zret (v := 1) hx hb hr (by decide) (fun t ht hW => ⟨⟨1, 0, rfl, Or.inr (Or.inr (⟨i_0, i_1, rfl⟩)), by rw [ht]; exact hP9, hD9⟩, hS.F ht⟩) hS.2.2 dX5_in_18
set_option maxHeartbeats 4000000 in
set_option maxRecDepth 100000 in
theorem kX5_in_33 (l : Launch) (g : zG) (sz : Nat) (p0 : Int64) : Met l yX5_in (.code yX5_in cX5_in 6 (some .boolean) :: zBig) ({ frames := 0, cells := 0, slots := 0, locals := 0 }) (va_Pc [.long p0, .long 0, .long 1] (zPre g [] sz)) (va_Qi (fun (r : Int32) (_ : Nat) => ((p0 : Int64).toInt < 0 ∧ r = 0) ∨ (0 ≤ (p0 : Int64).toInt ∧ 1 < (p0 : Int64).toInt ∧ r = 0) ∨ (0 ≤ (p0 : Int64).toInt ∧ (p0 : Int64).toInt ≤ 1 ∧ r = 1)) (zPost g (fun _ : Nat => []) (va_A [] sz)) (va_A [] sz)) 0 0 (va_A [] sz) := by
  refine zMetI rfl (Nat.le_of_ble_eq_true rfl) ?_
  intro p e s m args below meth c A ls hx hb hml hr hlocks hin hown hts hK hN hZ hP hD hA hS hAe hl
  have hown : s.vm.findClass RX5 = some m.cls := hown
  have hl : lv_has ls 6 [(0, .long p0), (2, .long 0), (4, .long 1)] := hl
  refine lv_lload_n hx hb dX5_in_0 rfl (lv_at hl 0 rfl) ?_
  refine lv_lload_n hx hb dX5_in_1 rfl (lv_at hl 1 rfl) ?_
  refine W.lcmp hx hb dX5_in_2 ?_
  refine lv_if_lt (tgt := 17) hx hb dX5_in_3 (by decide) (fun c_0 => ?_) (fun c_0 => ?_)
  · have i_0 : (p0 : Int64).toInt < 0 := zl_lt (rfl) (rfl) ((lg_cmp_lt _ _).mp c_0)
    refine lv_iconst (v := 0) hx hb dX5_in_17 (by decide) ?_
    have hP9 := hP.sub (ws' := []) [] rfl
    have hD9 := hD.sub (ws' := []) [] (by decide) rfl
    exact W.zret (v := 0) hx hb hr (by decide) (fun t ht hW => ⟨⟨0, 0, rfl, Or.inl ⟨i_0, rfl⟩, by rw [ht]; exact hP9, hD9⟩, hS.F ht⟩) hS.2.2 dX5_in_18
  · have i_0 : 0 ≤ (p0 : Int64).toInt := zl_nlt (rfl) (rfl) (fun h => c_0 ((lg_cmp_lt _ _).mpr h))
    refine lv_lload_n hx hb dX5_in_6 rfl (lv_at hl 0 rfl) ?_
    refine lv_lload hx hb dX5_in_7 (lv_at hl 2 rfl) ?_
    refine W.lcmp hx hb dX5_in_9 ?_
    refine lv_if_gt (tgt := 17) hx hb dX5_in_10 (by decide) (fun c_1 => ?_) (fun c_1 => ?_)
    · have i_1 : 1 < (p0 : Int64).toInt := zl_lt (rfl) (rfl) ((lg_cmp_gt _ _).mp c_1)
      refine lv_iconst (v := 0) hx hb dX5_in_17 (by decide) ?_
      have hP9 := hP.sub (ws' := []) [] rfl
      have hD9 := hD.sub (ws' := []) [] (by decide) rfl
      exact W.zret (v := 0) hx hb hr (by decide) (fun t ht hW => ⟨⟨0, 0, rfl, Or.inr (Or.inl ⟨i_0, i_1, rfl⟩), by rw [ht]; exact hP9, hD9⟩, hS.F ht⟩) hS.2.2 dX5_in_18
    · have i_1 : (p0 : Int64).toInt ≤ 1 := zl_nlt (rfl) (rfl) (fun h => c_1 ((lg_cmp_gt _ _).mpr h))
      refine lv_iconst (v := 1) hx hb dX5_in_13 (by decide) ?_
      refine lv_goto (tgt := 18) hx hb dX5_in_14 (by decide) ?_
      have hP9 := hP.sub (ws' := []) [] rfl
      have hD9 := hD.sub (ws' := []) [] (by decide) rfl
      exact W.zret (v := 1) hx hb hr (by decide) (fun t ht hW => ⟨⟨1, 0, rfl, Or.inr (Or.inr (⟨i_0, i_1, rfl⟩)), by rw [ht]; exact hP9, hD9⟩, hS.F ht⟩) hS.2.2 dX5_in_18
set_option maxHeartbeats 4000000 in
set_option maxRecDepth 100000 in
theorem kX5_bars_5 (l : Launch) (g : zG) (h0 h1 h2 h3 h4 h5 h6 h7 h8 h9 h10 h11 h12 h13 h14 h15 h16 h17 h18 h19 h20 h21 h22 : Nat) (sz : Nat) (p2 : Int32) (p3 : Int32) : Met l yX5_bars (.code yX5_bars cX5_bars 5 (some .int) :: zBig) ({ frames := 0, cells := 0, slots := 0, locals := 0 }) (va_Pc [.ref h0, .int 0, .int p2, .int p3, .int 0] (zPre g [(h0, .inr (5, [.ref h1, .int 0, .ref h2, .int 0, .int 0, .ref h3, .ref h4, .ref h5, .ref h6, .int 0, .ref h7, .ref h8, .ref h9, .int 0, .ref h10, .ref h11, .ref h12, .ref h13, .ref h14, .ref h15, .ref h16, .ref h17, .ref h18, .ref h19, .ref h20, .ref h21, .ref h22])), (h19, .inl (zI g, 4, .inl (upd (upd (upd (upd (fun _ => 0) 0 (-1)) 1 (-1)) 2 (-1)) 3 (-1))))] sz)) (va_Qi (fun (r : Int32) (_ : Nat) => r = (-11)) (zPost g (fun _ : Nat => [(h0, .inr (5, [.ref h1, .int 0, .ref h2, .int 0, .int 0, .ref h3, .ref h4, .ref h5, .ref h6, .int 0, .ref h7, .ref h8, .ref h9, .int 0, .ref h10, .ref h11, .ref h12, .ref h13, .ref h14, .ref h15, .ref h16, .ref h17, .ref h18, .ref h19, .ref h20, .ref h21, .ref h22])), (h19, .inl (zI g, 4, .inl (upd (upd (upd (upd (fun _ => 0) 0 (-1)) 1 (-1)) 2 (-1)) 3 (-1))))]) (va_A [(h0, .inr (5, [.ref h1, .int 0, .ref h2, .int 0, .int 0, .ref h3, .ref h4, .ref h5, .ref h6, .int 0, .ref h7, .ref h8, .ref h9, .int 0, .ref h10, .ref h11, .ref h12, .ref h13, .ref h14, .ref h15, .ref h16, .ref h17, .ref h18, .ref h19, .ref h20, .ref h21, .ref h22])), (h19, .inl (zI g, 4, .inl (upd (upd (upd (upd (fun _ => 0) 0 (-1)) 1 (-1)) 2 (-1)) 3 (-1))))] sz)) (va_A [(h0, .inr (5, [.ref h1, .int 0, .ref h2, .int 0, .int 0, .ref h3, .ref h4, .ref h5, .ref h6, .int 0, .ref h7, .ref h8, .ref h9, .int 0, .ref h10, .ref h11, .ref h12, .ref h13, .ref h14, .ref h15, .ref h16, .ref h17, .ref h18, .ref h19, .ref h20, .ref h21, .ref h22])), (h19, .inl (zI g, 4, .inl (upd (upd (upd (upd (fun _ => 0) 0 (-1)) 1 (-1)) 2 (-1)) 3 (-1))))] sz)) 0 0 (va_A [(h0, .inr (5, [.ref h1, .int 0, .ref h2, .int 0, .int 0, .ref h3, .ref h4, .ref h5, .ref h6, .int 0, .ref h7, .ref h8, .ref h9, .int 0, .ref h10, .ref h11, .ref h12, .ref h13, .ref h14, .ref h15, .ref h16, .ref h17, .ref h18, .ref h19, .ref h20, .ref h21, .ref h22])), (h19, .inl (zI g, 4, .inl (upd (upd (upd (upd (fun _ => 0) 0 (-1)) 1 (-1)) 2 (-1)) 3 (-1))))] sz) := by
  refine zMetI rfl (Nat.le_of_ble_eq_true rfl) ?_
  intro p e s m args below meth c A ls hx hb hml hr hlocks hin hown hts hK hN hZ hP hD hA hS hAe hl
  have hown : s.vm.findClass RX5 = some m.cls := hown
  have hl : lv_has ls 5 [(0, .ref h0), (1, .int 0), (2, .int p2), (3, .int p3), (4, .int 0)] := hl
  refine lv_aload_n hx hb dX5_bars_0 rfl (lv_at hl 0 rfl) ?_
  refine va_get (D := g.1) (ci := 5) (v := .ref h19) (C := RX5) (T := TX5) (N := 27) hx hb hts zl_X5 hown hK hP 0 rfl rfl 23 (by decide) (hts _ m_f_RX5_64) (fun _ h => h) rfl dX5_bars_1 ?_
  refine lv_iload_n hx hb dX5_bars_4 rfl (lv_at hl 1 rfl) ?_
  refine va_iald (D := g.1) hx hb hK hP 1 0 rfl rfl (vp_in_iff.mpr (by decide +kernel)) dX5_bars_5 ?_
  refine lv_topi (nm_r (e' := (-1)) (by rfl) ?_)
  refine lv_if_ge (tgt := 14) hx hb dX5_bars_6 (by decide) (fun h => absurd h (by decide +kernel)) (fun _ => ?_)
  refine lv_bipush (v := (-11)) hx hb dX5_bars_9 (by decide) ?_
  refine lv_goto (tgt := 61) hx hb dX5_bars_11 (by decide) ?_
  have hP9 := hP.sub (ws' := [(h0, .inr (5, [.ref h1, .int 0, .ref h2, .int 0, .int 0, .ref h3, .ref h4, .ref h5, .ref h6, .int 0, .ref h7, .ref h8, .ref h9, .int 0, .ref h10, .ref h11, .ref h12, .ref h13, .ref h14, .ref h15, .ref h16, .ref h17, .ref h18, .ref h19, .ref h20, .ref h21, .ref h22])), (h19, .inl (zI g, 4, .inl (upd (upd (upd (upd (fun _ => 0) 0 (-1)) 1 (-1)) 2 (-1)) 3 (-1))))]) [0, 1] rfl
  have hD9 := hD.sub (ws' := [(h0, .inr (5, [.ref h1, .int 0, .ref h2, .int 0, .int 0, .ref h3, .ref h4, .ref h5, .ref h6, .int 0, .ref h7, .ref h8, .ref h9, .int 0, .ref h10, .ref h11, .ref h12, .ref h13, .ref h14, .ref h15, .ref h16, .ref h17, .ref h18, .ref h19, .ref h20, .ref h21, .ref h22])), (h19, .inl (zI g, 4, .inl (upd (upd (upd (upd (fun _ => 0) 0 (-1)) 1 (-1)) 2 (-1)) 3 (-1))))]) [0, 1] (by decide) rfl
  exact W.iret (v := (-11)) hx hb hr (fun t ht hW => ⟨⟨(-11), 0, rfl, rfl, by rw [ht]; exact hP9, hD9⟩, hS.F ht⟩) hS.2.2 dX5_bars_61
set_option maxHeartbeats 4000000 in
set_option maxRecDepth 100000 in
theorem kX5_bars_6 (l : Launch) (g : zG) (h0 h1 h2 h3 h4 h5 h6 h7 h8 h9 h10 h11 h12 h13 h14 h15 h16 h17 h18 h19 h20 h21 h22 : Nat) (sz : Nat) (p2 : Int32) (p3 : Int32) : Met l yX5_bars (.code yX5_bars cX5_bars 5 (some .int) :: zBig) ({ frames := 0, cells := 0, slots := 0, locals := 0 }) (va_Pc [.ref h0, .int 1, .int p2, .int p3, .int 0] (zPre g [(h0, .inr (5, [.ref h1, .int 0, .ref h2, .int 0, .int 0, .ref h3, .ref h4, .ref h5, .ref h6, .int 0, .ref h7, .ref h8, .ref h9, .int 0, .ref h10, .ref h11, .ref h12, .ref h13, .ref h14, .ref h15, .ref h16, .ref h17, .ref h18, .ref h19, .ref h20, .ref h21, .ref h22])), (h19, .inl (zI g, 4, .inl (upd (upd (upd (upd (fun _ => 0) 0 (-1)) 1 (-1)) 2 (-1)) 3 (-1))))] sz)) (va_Qi (fun (r : Int32) (_ : Nat) => r = (-11)) (zPost g (fun _ : Nat => [(h0, .inr (5, [.ref h1, .int 0, .ref h2, .int 0, .int 0, .ref h3, .ref h4, .ref h5, .ref h6, .int 0, .ref h7, .ref h8, .ref h9, .int 0, .ref h10, .ref h11, .ref h12, .ref h13, .ref h14, .ref h15, .ref h16, .ref h17, .ref h18, .ref h19, .ref h20, .ref h21, .ref h22])), (h19, .inl (zI g, 4, .inl (upd (upd (upd (upd (fun _ => 0) 0 (-1)) 1 (-1)) 2 (-1)) 3 (-1))))]) (va_A [(h0, .inr (5, [.ref h1, .int 0, .ref h2, .int 0, .int 0, .ref h3, .ref h4, .ref h5, .ref h6, .int 0, .ref h7, .ref h8, .ref h9, .int 0, .ref h10, .ref h11, .ref h12, .ref h13, .ref h14, .ref h15, .ref h16, .ref h17, .ref h18, .ref h19, .ref h20, .ref h21, .ref h22])), (h19, .inl (zI g, 4, .inl (upd (upd (upd (upd (fun _ => 0) 0 (-1)) 1 (-1)) 2 (-1)) 3 (-1))))] sz)) (va_A [(h0, .inr (5, [.ref h1, .int 0, .ref h2, .int 0, .int 0, .ref h3, .ref h4, .ref h5, .ref h6, .int 0, .ref h7, .ref h8, .ref h9, .int 0, .ref h10, .ref h11, .ref h12, .ref h13, .ref h14, .ref h15, .ref h16, .ref h17, .ref h18, .ref h19, .ref h20, .ref h21, .ref h22])), (h19, .inl (zI g, 4, .inl (upd (upd (upd (upd (fun _ => 0) 0 (-1)) 1 (-1)) 2 (-1)) 3 (-1))))] sz)) 0 0 (va_A [(h0, .inr (5, [.ref h1, .int 0, .ref h2, .int 0, .int 0, .ref h3, .ref h4, .ref h5, .ref h6, .int 0, .ref h7, .ref h8, .ref h9, .int 0, .ref h10, .ref h11, .ref h12, .ref h13, .ref h14, .ref h15, .ref h16, .ref h17, .ref h18, .ref h19, .ref h20, .ref h21, .ref h22])), (h19, .inl (zI g, 4, .inl (upd (upd (upd (upd (fun _ => 0) 0 (-1)) 1 (-1)) 2 (-1)) 3 (-1))))] sz) := by
  refine zMetI rfl (Nat.le_of_ble_eq_true rfl) ?_
  intro p e s m args below meth c A ls hx hb hml hr hlocks hin hown hts hK hN hZ hP hD hA hS hAe hl
  have hown : s.vm.findClass RX5 = some m.cls := hown
  have hl : lv_has ls 5 [(0, .ref h0), (1, .int 1), (2, .int p2), (3, .int p3), (4, .int 0)] := hl
  refine lv_aload_n hx hb dX5_bars_0 rfl (lv_at hl 0 rfl) ?_
  refine va_get (D := g.1) (ci := 5) (v := .ref h19) (C := RX5) (T := TX5) (N := 27) hx hb hts zl_X5 hown hK hP 0 rfl rfl 23 (by decide) (hts _ m_f_RX5_64) (fun _ h => h) rfl dX5_bars_1 ?_
  refine lv_iload_n hx hb dX5_bars_4 rfl (lv_at hl 1 rfl) ?_
  refine va_iald (D := g.1) hx hb hK hP 1 0 rfl rfl (vp_in_iff.mpr (by decide +kernel)) dX5_bars_5 ?_
  refine lv_topi (nm_r (e' := (-1)) (by rfl) ?_)
  refine lv_if_ge (tgt := 14) hx hb dX5_bars_6 (by decide) (fun h => absurd h (by decide +kernel)) (fun _ => ?_)
  refine lv_bipush (v := (-11)) hx hb dX5_bars_9 (by decide) ?_
  refine lv_goto (tgt := 61) hx hb dX5_bars_11 (by decide) ?_
  have hP9 := hP.sub (ws' := [(h0, .inr (5, [.ref h1, .int 0, .ref h2, .int 0, .int 0, .ref h3, .ref h4, .ref h5, .ref h6, .int 0, .ref h7, .ref h8, .ref h9, .int 0, .ref h10, .ref h11, .ref h12, .ref h13, .ref h14, .ref h15, .ref h16, .ref h17, .ref h18, .ref h19, .ref h20, .ref h21, .ref h22])), (h19, .inl (zI g, 4, .inl (upd (upd (upd (upd (fun _ => 0) 0 (-1)) 1 (-1)) 2 (-1)) 3 (-1))))]) [0, 1] rfl
  have hD9 := hD.sub (ws' := [(h0, .inr (5, [.ref h1, .int 0, .ref h2, .int 0, .int 0, .ref h3, .ref h4, .ref h5, .ref h6, .int 0, .ref h7, .ref h8, .ref h9, .int 0, .ref h10, .ref h11, .ref h12, .ref h13, .ref h14, .ref h15, .ref h16, .ref h17, .ref h18, .ref h19, .ref h20, .ref h21, .ref h22])), (h19, .inl (zI g, 4, .inl (upd (upd (upd (upd (fun _ => 0) 0 (-1)) 1 (-1)) 2 (-1)) 3 (-1))))]) [0, 1] (by decide) rfl
  exact W.iret (v := (-11)) hx hb hr (fun t ht hW => ⟨⟨(-11), 0, rfl, rfl, by rw [ht]; exact hP9, hD9⟩, hS.F ht⟩) hS.2.2 dX5_bars_61
