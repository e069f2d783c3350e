set_option maxHeartbeats 4000000 in
set_option maxRecDepth 100000 in
theorem kX0_widenSpans (l : Launch) (g : zG) (h0 h11 h12 h13 h14 h15 h16 h17 h18 : Nat) (sz : Nat) : Met l yX0_widenSpans (.code yX0_widenSpans cX0_widenSpans 3 (some .int) :: zBig) ({ frames := 0, cells := 0, slots := 0, locals := 0 }) (va_Pc [.ref h0] (zPre g [(h0, .inr (0, [.ref h11, .int 0, .ref h12, .int 0, .ref h13, .ref h14, .ref h15, .ref h16, .ref h17, .ref h18, .int 0])), (h17, .inl (zI g, 20, .inl (fun _ => 0))), (h18, .inl (zI g, 20, .inl (fun _ => 99)))] sz)) (va_Qi (fun (r : Int32) (_ : Nat) => r = 0) (zPost g (fun _ : Nat => [(h0, .inr (0, [.ref h11, .int 0, .ref h12, .int 0, .ref h13, .ref h14, .ref h15, .ref h16, .ref h17, .ref h18, .int 0])), (h17, .inl (zI g, 20, .inl (fun _ => 0))), (h18, .inl (zI g, 20, .inl (fun _ => 99)))]) (va_A [(h0, .inr (0, [.ref h11, .int 0, .ref h12, .int 0, .ref h13, .ref h14, .ref h15, .ref h16, .ref h17, .ref h18, .int 0])), (h17, .inl (zI g, 20, .inl (fun _ => 0))), (h18, .inl (zI g, 20, .inl (fun _ => 99)))] sz)) (va_A [(h0, .inr (0, [.ref h11, .int 0, .ref h12, .int 0, .ref h13, .ref h14, .ref h15, .ref h16, .ref h17, .ref h18, .int 0])), (h17, .inl (zI g, 20, .inl (fun _ => 0))), (h18, .inl (zI g, 20, .inl (fun _ => 99)))] sz)) 0 0 (va_A [(h0, .inr (0, [.ref h11, .int 0, .ref h12, .int 0, .ref h13, .ref h14, .ref h15, .ref h16, .ref h17, .ref h18, .int 0])), (h17, .inl (zI g, 20, .inl (fun _ => 0))), (h18, .inl (zI g, 20, .inl (fun _ => 99)))] sz) := by
  refine zMetI rfl (Nat.le_of_ble_eq_true rfl) ?_
  intro p e s m args below meth c A ls hx hb hml hr hlocks hin hown hts hK hN hZ hP hD hA hS hAe hl
  have hown : s.vm.findClass RX0 = some m.cls := hown
  have hl : lv_has ls 3 [(0, .ref h0)] := hl
  refine lv_iconst (v := 0) hx hb dX0_widenSpans_0 (by decide) ?_
  refine lv_istore_n (lv' := [(1, .int 0), (0, .ref h0)]) hx hb dX0_widenSpans_1 rfl hl (by decide) rfl (fun ls hl => ?_)
  refine lv_iconst (v := 0) hx hb dX0_widenSpans_2 (by decide) ?_
  refine lv_istore_n (lv' := [(2, .int 0), (1, .int 0), (0, .ref h0)]) hx hb dX0_widenSpans_3 rfl hl (by decide) rfl (fun ls hl => ?_)
  refine lv_iload_n hx hb dX0_widenSpans_4 rfl (lv_at hl 0 rfl) ?_
  refine lv_bipush (v := 20) hx hb dX0_widenSpans_5 (by decide) ?_
  refine lv_icmp_ge (tgt := 54) hx hb dX0_widenSpans_7 (by decide) (fun h => absurd h (by decide +kernel)) (fun _ => ?_)
  refine lv_aload_n hx hb dX0_widenSpans_10 rfl (lv_at hl 2 rfl) ?_
  refine va_get (D := g.1) (ci := 0) (v := .ref h17) (C := RX0) (T := TX0) (N := 11) hx hb hts zl_X0 hown hK hP 0 rfl rfl 8 (by decide) (hts _ m_f_RX0_45) (fun _ h => h) rfl dX0_widenSpans_11 ?_
  refine lv_iload_n hx hb dX0_widenSpans_14 rfl (lv_at hl 0 rfl) ?_
  refine va_iald (D := g.1) hx hb hK hP 1 0 rfl rfl (vp_in_iff.mpr (by decide +kernel)) dX0_widenSpans_15 ?_
  refine lv_topi (nm_r (e' := 0) (by rfl) ?_)
  refine lv_if_ne (tgt := 30) hx hb dX0_widenSpans_16 (by decide) (fun h => absurd h (by decide +kernel)) (fun _ => ?_)
  refine lv_aload_n hx hb dX0_widenSpans_19 rfl (lv_at hl 2 rfl) ?_
  refine va_get (D := g.1) (ci := 0) (v := .ref h18) (C := RX0) (T := TX0) (N := 11) hx hb hts zl_X0 hown hK hP 0 rfl rfl 9 (by decide) (hts _ m_f_RX0_48) (fun _ h => h) rfl dX0_widenSpans_20 ?_
  refine lv_iload_n hx hb dX0_widenSpans_23 rfl (lv_at hl 0 rfl) ?_
  refine va_iald (D := g.1) hx hb hK hP 2 0 rfl rfl (vp_in_iff.mpr (by decide +kernel)) dX0_widenSpans_24 ?_
  refine lv_topi (nm_r (e' := 99) (by rfl) ?_)
  refine lv_bipush (v := 99) hx hb dX0_widenSpans_25 (by decide) ?_
  refine lv_icmp_eq (tgt := 33) hx hb dX0_widenSpans_27 (by decide) (fun _ => ?_) (fun h => absurd h (by decide +kernel))
  refine lv_aload_n hx hb dX0_widenSpans_33 rfl (lv_at hl 2 rfl) ?_
  refine va_get (D := g.1) (ci := 0) (v := .ref h17) (C := RX0) (T := TX0) (N := 11) hx hb hts zl_X0 hown hK hP 0 rfl rfl 8 (by decide) (hts _ m_f_RX0_45) (fun _ h => h) rfl dX0_widenSpans_34 ?_
  refine lv_iload_n hx hb dX0_widenSpans_37 rfl (lv_at hl 0 rfl) ?_
  refine lv_iconst (v := 0) hx hb dX0_widenSpans_38 (by decide) ?_
  refine va_iast (D := g.1) hx hb hK hP hD hS 1 0 rfl rfl (vp_in_iff.mpr (by decide +kernel)) dX0_widenSpans_39 (fun H locs hP hD hS => ?_)
  have hP : va_P g.1 vwCl [(h0, .inr (0, [.ref h11, .int 0, .ref h12, .int 0, .ref h13, .ref h14, .ref h15, .ref h16, .ref h17, .ref h18, .int 0])), (h17, .inl (zI g, 20, .inl (upd (fun _ => 0) 0 0))), (h18, .inl (zI g, 20, .inl (fun _ => 99)))] H := hP
  have hD : va_D A [(h0, .inr (0, [.ref h11, .int 0, .ref h12, .int 0, .ref h13, .ref h14, .ref h15, .ref h16, .ref h17, .ref h18, .int 0])), (h17, .inl (zI g, 20, .inl (upd (fun _ => 0) 0 0))), (h18, .inl (zI g, 20, .inl (fun _ => 99)))] := hD
  rw [zc_set] at hP hD
  refine lv_aload_n hx hb dX0_widenSpans_40 rfl (lv_at hl 2 rfl) ?_
  refine va_get (D := g.1) (ci := 0) (v := .ref h18) (C := RX0) (T := TX0) (N := 11) hx hb hts zl_X0 hown hK hP 0 rfl rfl 9 (by decide) (hts _ m_f_RX0_48) (fun _ h => h) rfl dX0_widenSpans_41 ?_
  refine lv_iload_n hx hb dX0_widenSpans_44 rfl (lv_at hl 0 rfl) ?_
  refine lv_bipush (v := 99) hx hb dX0_widenSpans_45 (by decide) ?_
  refine va_iast (D := g.1) hx hb hK hP hD hS 2 0 rfl rfl (vp_in_iff.mpr (by decide +kernel)) dX0_widenSpans_47 (fun H locs hP hD hS => ?_)
  have hP : va_P g.1 vwCl [(h0, .inr (0, [.ref h11, .int 0, .ref h12, .int 0, .ref h13, .ref h14, .ref h15, .ref h16, .ref h17, .ref h18, .int 0])), (h17, .inl (zI g, 20, .inl (fun _ => 0))), (h18, .inl (zI g, 20, .inl (upd (fun _ => 99) 0 99)))] H := hP
  have hD : va_D A [(h0, .inr (0, [.ref h11, .int 0, .ref h12, .int 0, .ref h13, .ref h14, .ref h15, .ref h16, .ref h17, .ref h18, .int 0])), (h17, .inl (zI g, 20, .inl (fun _ => 0))), (h18, .inl (zI g, 20, .inl (upd (fun _ => 99) 0 99)))] := hD
  rw [zc_set] at hP hD
  refine lv_iinc (v := 1) (lv' := [(2, .int 1), (1, .int 0), (0, .ref h0)]) hx hb dX0_widenSpans_48 hl (k := 0) rfl (by decide) (by decide) rfl (fun ls hl => ?_)
  refine lv_goto (tgt := 4) hx hb dX0_widenSpans_51 (by decide) ?_
  refine lv_iload_n hx hb dX0_widenSpans_4 rfl (lv_at hl 0 rfl) ?_
  refine lv_bipush (v := 20) hx hb dX0_widenSpans_5 (by decide) ?_
  refine lv_icmp_ge (tgt := 54) hx hb dX0_widenSpans_7 (by decide) (fun h => absurd h (by decide +kernel)) (fun _ => ?_)
  refine lv_aload_n hx hb dX0_widenSpans_10 rfl (lv_at hl 2 rfl) ?_
  refine va_get (D := g.1) (ci := 0) (v := .ref h17) (C := RX0) (T := TX0) (N := 11) hx hb hts zl_X0 hown hK hP 0 rfl rfl 8 (by decide) (hts _ m_f_RX0_45) (fun _ h => h) rfl dX0_widenSpans_11 ?_
  refine lv_iload_n hx hb dX0_widenSpans_14 rfl (lv_at hl 0 rfl) ?_
  refine va_iald (D := g.1) hx hb hK hP 1 0 rfl rfl (vp_in_iff.mpr (by decide +kernel)) dX0_widenSpans_15 ?_
  refine lv_topi (nm_r (e' := 0) (by rfl) ?_)
  refine lv_if_ne (tgt := 30) hx hb dX0_widenSpans_16 (by decide) (fun h => absurd h (by decide +kernel)) (fun _ => ?_)
  refine lv_aload_n hx hb dX0_widenSpans_19 rfl (lv_at hl 2 rfl) ?_
  refine va_get (D := g.1) (ci := 0) (v := .ref h18) (C := RX0) (T := TX0) (N := 11) hx hb hts zl_X0 hown hK hP 0 rfl rfl 9 (by decide) (hts _ m_f_RX0_48) (fun _ h => h) rfl dX0_widenSpans_20 ?_
  refine lv_iload_n hx hb dX0_widenSpans_23 rfl (lv_at hl 0 rfl) ?_
  refine va_iald (D := g.1) hx hb hK hP 2 0 rfl rfl (vp_in_iff.mpr (by decide +kernel)) dX0_widenSpans_24 ?_
  refine lv_topi (nm_r (e' := 99) (by rfl) ?_)
  refine lv_bipush (v := 99) hx hb dX0_widenSpans_25 (by decide) ?_
  refine lv_icmp_eq (tgt := 33) hx hb dX0_widenSpans_27 (by decide) (fun _ => ?_) (fun h => absurd h (by decide +kernel))
  refine lv_aload_n hx hb dX0_widenSpans_33 rfl (lv_at hl 2 rfl) ?_
  refine va_get (D := g.1) (ci := 0) (v := .ref h17) (C := RX0) (T := TX0) (N := 11) hx hb hts zl_X0 hown hK hP 0 rfl rfl 8 (by decide) (hts _ m_f_RX0_45) (fun _ h => h) rfl dX0_widenSpans_34 ?_
  refine lv_iload_n hx hb dX0_widenSpans_37 rfl (lv_at hl 0 rfl) ?_
  refine lv_iconst (v := 0) hx hb dX0_widenSpans_38 (by decide) ?_
  refine va_iast (D := g.1) hx hb hK hP hD hS 1 0 rfl rfl (vp_in_iff.mpr (by decide +kernel)) dX0_widenSpans_39 (fun H locs hP hD hS => ?_)
  have hP : va_P g.1 vwCl [(h0, .inr (0, [.ref h11, .int 0, .ref h12, .int 0, .ref h13, .ref h14, .ref h15, .ref h16, .ref h17, .ref h18, .int 0])), (h17, .inl (zI g, 20, .inl (upd (fun _ => 0) 1 0))), (h18, .inl (zI g, 20, .inl (fun _ => 99)))] H := hP
  have hD : va_D A [(h0, .inr (0, [.ref h11, .int 0, .ref h12, .int 0, .ref h13, .ref h14, .ref h15, .ref h16, .ref h17, .ref h18, .int 0])), (h17, .inl (zI g, 20, .inl (upd (fun _ => 0) 1 0))), (h18, .inl (zI g, 20, .inl (fun _ => 99)))] := hD
  rw [zc_set] at hP hD
  refine lv_aload_n hx hb dX0_widenSpans_40 rfl (lv_at hl 2 rfl) ?_
  refine va_get (D := g.1) (ci := 0) (v := .ref h18) (C := RX0) (T := TX0) (N := 11) hx hb hts zl_X0 hown hK hP 0 rfl rfl 9 (by decide) (hts _ m_f_RX0_48) (fun _ h => h) rfl dX0_widenSpans_41 ?_
  refine lv_iload_n hx hb dX0_widenSpans_44 rfl (lv_at hl 0 rfl) ?_
  refine lv_bipush (v := 99) hx hb dX0_widenSpans_45 (by decide) ?_
  refine va_iast (D := g.1) hx hb hK hP hD hS 2 0 rfl rfl (vp_in_iff.mpr (by decide +kernel)) dX0_widenSpans_47 (fun H locs hP hD hS => ?_)
  have hP : va_P g.1 vwCl [(h0, .inr (0, [.ref h11, .int 0, .ref h12, .int 0, .ref h13, .ref h14, .ref h15, .ref h16, .ref h17, .ref h18, .int 0])), (h17, .inl (zI g, 20, .inl (fun _ => 0))), (h18, .inl (zI g, 20, .inl (upd (fun _ => 99) 1 99)))] H := hP
  have hD : va_D A [(h0, .inr (0, [.ref h11, .int 0, .ref h12, .int 0, .ref h13, .ref h14, .ref h15, .ref h16, .ref h17, .ref h18, .int 0])), (h17, .inl (zI g, 20, .inl (fun _ => 0))), (h18, .inl (zI g, 20, .inl (upd (fun _ => 99) 1 99)))] := hD
  rw [zc_set] at hP hD
  refine lv_iinc (v := 2) (lv' := [(2, .int 2), (1, .int 0), (0, .ref h0)]) hx hb dX0_widenSpans_48 hl (k := 0) rfl (by decide) (by decide) rfl (fun ls hl => ?_)
  refine lv_goto (tgt := 4) hx hb dX0_widenSpans_51 (by decide) ?_
  refine lv_iload_n hx hb dX0_widenSpans_4 rfl (lv_at hl 0 rfl) ?_
  refine lv_bipush (v := 20) hx hb dX0_widenSpans_5 (by decide) ?_
  refine lv_icmp_ge (tgt := 54) hx hb dX0_widenSpans_7 (by decide) (fun h => absurd h (by decide +kernel)) (fun _ => ?_)
  refine lv_aload_n hx hb dX0_widenSpans_10 rfl (lv_at hl 2 rfl) ?_
  refine va_get (D := g.1) (ci := 0) (v := .ref h17) (C := RX0) (T := TX0) (N := 11) hx hb hts zl_X0 hown hK hP 0 rfl rfl 8 (by decide) (hts _ m_f_RX0_45) (fun _ h => h) rfl dX0_widenSpans_11 ?_
  refine lv_iload_n hx hb dX0_widenSpans_14 rfl (lv_at hl 0 rfl) ?_
  refine va_iald (D := g.1) hx hb hK hP 1 0 rfl rfl (vp_in_iff.mpr (by decide +kernel)) dX0_widenSpans_15 ?_
  refine lv_topi (nm_r (e' := 0) (by rfl) ?_)
  refine lv_if_ne (tgt := 30) hx hb dX0_widenSpans_16 (by decide) (fun h => absurd h (by decide +kernel)) (fun _ => ?_)
  refine lv_aload_n hx hb dX0_widenSpans_19 rfl (lv_at hl 2 rfl) ?_
  refine va_get (D := g.1) (ci := 0) (v := .ref h18) (C := RX0) (T := TX0) (N := 11) hx hb hts zl_X0 hown hK hP 0 rfl rfl 9 (by decide) (hts _ m_f_RX0_48) (fun _ h => h) rfl dX0_widenSpans_20 ?_
  refine lv_iload_n hx hb dX0_widenSpans_23 rfl (lv_at hl 0 rfl) ?_
  refine va_iald (D := g.1) hx hb hK hP 2 0 rfl rfl (vp_in_iff.mpr (by decide +kernel)) dX0_widenSpans_24 ?_
  refine lv_topi (nm_r (e' := 99) (by rfl) ?_)
  refine lv_bipush (v := 99) hx hb dX0_widenSpans_25 (by decide) ?_
  refine lv_icmp_eq (tgt := 33) hx hb dX0_widenSpans_27 (by decide) (fun _ => ?_) (fun h => absurd h (by decide +kernel))
  refine lv_aload_n hx hb dX0_widenSpans_33 rfl (lv_at hl 2 rfl) ?_
  refine va_get (D := g.1) (ci := 0) (v := .ref h17) (C := RX0) (T := TX0) (N := 11) hx hb hts zl_X0 hown hK hP 0 rfl rfl 8 (by decide) (hts _ m_f_RX0_45) (fun _ h => h) rfl dX0_widenSpans_34 ?_
  refine lv_iload_n hx hb dX0_widenSpans_37 rfl (lv_at hl 0 rfl) ?_
  refine lv_iconst (v := 0) hx hb dX0_widenSpans_38 (by decide) ?_
  refine va_iast (D := g.1) hx hb hK hP hD hS 1 0 rfl rfl (vp_in_iff.mpr (by decide +kernel)) dX0_widenSpans_39 (fun H locs hP hD hS => ?_)
  have hP : va_P g.1 vwCl [(h0, .inr (0, [.ref h11, .int 0, .ref h12, .int 0, .ref h13, .ref h14, .ref h15, .ref h16, .ref h17, .ref h18, .int 0])), (h17, .inl (zI g, 20, .inl (upd (fun _ => 0) 2 0))), (h18, .inl (zI g, 20, .inl (fun _ => 99)))] H := hP
  have hD : va_D A [(h0, .inr (0, [.ref h11, .int 0, .ref h12, .int 0, .ref h13, .ref h14, .ref h15, .ref h16, .ref h17, .ref h18, .int 0])), (h17, .inl (zI g, 20, .inl (upd (fun _ => 0) 2 0))), (h18, .inl (zI g, 20, .inl (fun _ => 99)))] := hD
  rw [zc_set] at hP hD
  refine lv_aload_n hx hb dX0_widenSpans_40 rfl (lv_at hl 2 rfl) ?_
  refine va_get (D := g.1) (ci := 0) (v := .ref h18) (C := RX0) (T := TX0) (N := 11) hx hb hts zl_X0 hown hK hP 0 rfl rfl 9 (by decide) (hts _ m_f_RX0_48) (fun _ h => h) rfl dX0_widenSpans_41 ?_
  refine lv_iload_n hx hb dX0_widenSpans_44 rfl (lv_at hl 0 rfl) ?_
  refine lv_bipush (v := 99) hx hb dX0_widenSpans_45 (by decide) ?_
  refine va_iast (D := g.1) hx hb hK hP hD hS 2 0 rfl rfl (vp_in_iff.mpr (by decide +kernel)) dX0_widenSpans_47 (fun H locs hP hD hS => ?_)
  have hP : va_P g.1 vwCl [(h0, .inr (0, [.ref h11, .int 0, .ref h12, .int 0, .ref h13, .ref h14, .ref h15, .ref h16, .ref h17, .ref h18, .int 0])), (h17, .inl (zI g, 20, .inl (fun _ => 0))), (h18, .inl (zI g, 20, .inl (upd (fun _ => 99) 2 99)))] H := hP
  have hD : va_D A [(h0, .inr (0, [.ref h11, .int 0, .ref h12, .int 0, .ref h13, .ref h14, .ref h15, .ref h16, .ref h17, .ref h18, .int 0])), (h17, .inl (zI g, 20, .inl (fun _ => 0))), (h18, .inl (zI g, 20, .inl (upd (fun _ => 99) 2 99)))] := hD
  rw [zc_set] at hP hD
  refine lv_iinc (v := 3) (lv' := [(2, .int 3), (1, .int 0), (0, .ref h0)]) hx hb dX0_widenSpans_48 hl (k := 0) rfl (by decide) (by decide) rfl (fun ls hl => ?_)
  refine lv_goto (tgt := 4) hx hb dX0_widenSpans_51 (by decide) ?_
  refine lv_iload_n hx hb dX0_widenSpans_4 rfl (lv_at hl 0 rfl) ?_
  refine lv_bipush (v := 20) hx hb dX0_widenSpans_5 (by decide) ?_
  refine lv_icmp_ge (tgt := 54) hx hb dX0_widenSpans_7 (by decide) (fun h => absurd h (by decide +kernel)) (fun _ => ?_)
  refine lv_aload_n hx hb dX0_widenSpans_10 rfl (lv_at hl 2 rfl) ?_
  refine va_get (D := g.1) (ci := 0) (v := .ref h17) (C := RX0) (T := TX0) (N := 11) hx hb hts zl_X0 hown hK hP 0 rfl rfl 8 (by decide) (hts _ m_f_RX0_45) (fun _ h => h) rfl dX0_widenSpans_11 ?_
  refine lv_iload_n hx hb dX0_widenSpans_14 rfl (lv_at hl 0 rfl) ?_
  refine va_iald (D := g.1) hx hb hK hP 1 0 rfl rfl (vp_in_iff.mpr (by decide +kernel)) dX0_widenSpans_15 ?_
  refine lv_topi (nm_r (e' := 0) (by rfl) ?_)
  refine lv_if_ne (tgt := 30) hx hb dX0_widenSpans_16 (by decide) (fun h => absurd h (by decide +kernel)) (fun _ => ?_)
  refine lv_aload_n hx hb dX0_widenSpans_19 rfl (lv_at hl 2 rfl) ?_
  refine va_get (D := g.1) (ci := 0) (v := .ref h18) (C := RX0) (T := TX0) (N := 11) hx hb hts zl_X0 hown hK hP 0 rfl rfl 9 (by decide) (hts _ m_f_RX0_48) (fun _ h => h) rfl dX0_widenSpans_20 ?_
  refine lv_iload_n hx hb dX0_widenSpans_23 rfl (lv_at hl 0 rfl) ?_
  refine va_iald (D := g.1) hx hb hK hP 2 0 rfl rfl (vp_in_iff.mpr (by decide +kernel)) dX0_widenSpans_24 ?_
  refine lv_topi (nm_r (e' := 99) (by rfl) ?_)
  refine lv_bipush (v := 99) hx hb dX0_widenSpans_25 (by decide) ?_
  refine lv_icmp_eq (tgt := 33) hx hb dX0_widenSpans_27 (by decide) (fun _ => ?_) (fun h => absurd h (by decide +kernel))
  refine lv_aload_n hx hb dX0_widenSpans_33 rfl (lv_at hl 2 rfl) ?_
  refine va_get (D := g.1) (ci := 0) (v := .ref h17) (C := RX0) (T := TX0) (N := 11) hx hb hts zl_X0 hown hK hP 0 rfl rfl 8 (by decide) (hts _ m_f_RX0_45) (fun _ h => h) rfl dX0_widenSpans_34 ?_
  refine lv_iload_n hx hb dX0_widenSpans_37 rfl (lv_at hl 0 rfl) ?_
  refine lv_iconst (v := 0) hx hb dX0_widenSpans_38 (by decide) ?_
  refine va_iast (D := g.1) hx hb hK hP hD hS 1 0 rfl rfl (vp_in_iff.mpr (by decide +kernel)) dX0_widenSpans_39 (fun H locs hP hD hS => ?_)
  have hP : va_P g.1 vwCl [(h0, .inr (0, [.ref h11, .int 0, .ref h12, .int 0, .ref h13, .ref h14, .ref h15, .ref h16, .ref h17, .ref h18, .int 0])), (h17, .inl (zI g, 20, .inl (upd (fun _ => 0) 3 0))), (h18, .inl (zI g, 20, .inl (fun _ => 99)))] H := hP
  have hD : va_D A [(h0, .inr (0, [.ref h11, .int 0, .ref h12, .int 0, .ref h13, .ref h14, .ref h15, .ref h16, .ref h17, .ref h18, .int 0])), (h17, .inl (zI g, 20, .inl (upd (fun _ => 0) 3 0))), (h18, .inl (zI g, 20, .inl (fun _ => 99)))] := hD
  rw [zc_set] at hP hD
  refine lv_aload_n hx hb dX0_widenSpans_40 rfl (lv_at hl 2 rfl) ?_
  refine va_get (D := g.1) (ci := 0) (v := .ref h18) (C := RX0) (T := TX0) (N := 11) hx hb hts zl_X0 hown hK hP 0 rfl rfl 9 (by decide) (hts _ m_f_RX0_48) (fun _ h => h) rfl dX0_widenSpans_41 ?_
  refine lv_iload_n hx hb dX0_widenSpans_44 rfl (lv_at hl 0 rfl) ?_
  refine lv_bipush (v := 99) hx hb dX0_widenSpans_45 (by decide) ?_
  refine va_iast (D := g.1) hx hb hK hP hD hS 2 0 rfl rfl (vp_in_iff.mpr (by decide +kernel)) dX0_widenSpans_47 (fun H locs hP hD hS => ?_)
  have hP : va_P g.1 vwCl [(h0, .inr (0, [.ref h11, .int 0, .ref h12, .int 0, .ref h13, .ref h14, .ref h15, .ref h16, .ref h17, .ref h18, .int 0])), (h17, .inl (zI g, 20, .inl (fun _ => 0))), (h18, .inl (zI g, 20, .inl (upd (fun _ => 99) 3 99)))] H := hP
  have hD : va_D A [(h0, .inr (0, [.ref h11, .int 0, .ref h12, .int 0, .ref h13, .ref h14, .ref h15, .ref h16, .ref h17, .ref h18, .int 0])), (h17, .inl (zI g, 20, .inl (fun _ => 0))), (h18, .inl (zI g, 20, .inl (upd (fun _ => 99) 3 99)))] := hD
  rw [zc_set] at hP hD
  refine lv_iinc (v := 4) (lv' := [(2, .int 4), (1, .int 0), (0, .ref h0)]) hx hb dX0_widenSpans_48 hl (k := 0) rfl (by decide) (by decide) rfl (fun ls hl => ?_)
  refine lv_goto (tgt := 4) hx hb dX0_widenSpans_51 (by decide) ?_
  refine lv_iload_n hx hb dX0_widenSpans_4 rfl (lv_at hl 0 rfl) ?_
  refine lv_bipush (v := 20) hx hb dX0_widenSpans_5 (by decide) ?_
  refine lv_icmp_ge (tgt := 54) hx hb dX0_widenSpans_7 (by decide) (fun h => absurd h (by decide +kernel)) (fun _ => ?_)
  refine lv_aload_n hx hb dX0_widenSpans_10 rfl (lv_at hl 2 rfl) ?_
  refine va_get (D := g.1) (ci := 0) (v := .ref h17) (C := RX0) (T := TX0) (N := 11) hx hb hts zl_X0 hown hK hP 0 rfl rfl 8 (by decide) (hts _ m_f_RX0_45) (fun _ h => h) rfl dX0_widenSpans_11 ?_
  refine lv_iload_n hx hb dX0_widenSpans_14 rfl (lv_at hl 0 rfl) ?_
  refine va_iald (D := g.1) hx hb hK hP 1 0 rfl rfl (vp_in_iff.mpr (by decide +kernel)) dX0_widenSpans_15 ?_
  refine lv_topi (nm_r (e' := 0) (by rfl) ?_)
  refine lv_if_ne (tgt := 30) hx hb dX0_widenSpans_16 (by decide) (fun h => absurd h (by decide +kernel)) (fun _ => ?_)
  refine lv_aload_n hx hb dX0_widenSpans_19 rfl (lv_at hl 2 rfl) ?_
  refine va_get (D := g.1) (ci := 0) (v := .ref h18) (C := RX0) (T := TX0) (N := 11) hx hb hts zl_X0 hown hK hP 0 rfl rfl 9 (by decide) (hts _ m_f_RX0_48) (fun _ h => h) rfl dX0_widenSpans_20 ?_
  refine lv_iload_n hx hb dX0_widenSpans_23 rfl (lv_at hl 0 rfl) ?_
  refine va_iald (D := g.1) hx hb hK hP 2 0 rfl rfl (vp_in_iff.mpr (by decide +kernel)) dX0_widenSpans_24 ?_
  refine lv_topi (nm_r (e' := 99) (by rfl) ?_)
  refine lv_bipush (v := 99) hx hb dX0_widenSpans_25 (by decide) ?_
  refine lv_icmp_eq (tgt := 33) hx hb dX0_widenSpans_27 (by decide) (fun _ => ?_) (fun h => absurd h (by decide +kernel))
  refine lv_aload_n hx hb dX0_widenSpans_33 rfl (lv_at hl 2 rfl) ?_
  refine va_get (D := g.1) (ci := 0) (v := .ref h17) (C := RX0) (T := TX0) (N := 11) hx hb hts zl_X0 hown hK hP 0 rfl rfl 8 (by decide) (hts _ m_f_RX0_45) (fun _ h => h) rfl dX0_widenSpans_34 ?_
  refine lv_iload_n hx hb dX0_widenSpans_37 rfl (lv_at hl 0 rfl) ?_
  refine lv_iconst (v := 0) hx hb dX0_widenSpans_38 (by decide) ?_
  refine va_iast (D := g.1) hx hb hK hP hD hS 1 0 rfl rfl (vp_in_iff.mpr (by decide +kernel)) dX0_widenSpans_39 (fun H locs hP hD hS => ?_)
  have hP : va_P g.1 vwCl [(h0, .inr (0, [.ref h11, .int 0, .ref h12, .int 0, .ref h13, .ref h14, .ref h15, .ref h16, .ref h17, .ref h18, .int 0])), (h17, .inl (zI g, 20, .inl (upd (fun _ => 0) 4 0))), (h18, .inl (zI g, 20, .inl (fun _ => 99)))] H := hP
  have hD : va_D A [(h0, .inr (0, [.ref h11, .int 0, .ref h12, .int 0, .ref h13, .ref h14, .ref h15, .ref h16, .ref h17, .ref h18, .int 0])), (h17, .inl (zI g, 20, .inl (upd (fun _ => 0) 4 0))), (h18, .inl (zI g, 20, .inl (fun _ => 99)))] := hD
  rw [zc_set] at hP hD
  refine lv_aload_n hx hb dX0_widenSpans_40 rfl (lv_at hl 2 rfl) ?_
  refine va_get (D := g.1) (ci := 0) (v := .ref h18) (C := RX0) (T := TX0) (N := 11) hx hb hts zl_X0 hown hK hP 0 rfl rfl 9 (by decide) (hts _ m_f_RX0_48) (fun _ h => h) rfl dX0_widenSpans_41 ?_
  refine lv_iload_n hx hb dX0_widenSpans_44 rfl (lv_at hl 0 rfl) ?_
  refine lv_bipush (v := 99) hx hb dX0_widenSpans_45 (by decide) ?_
  refine va_iast (D := g.1) hx hb hK hP hD hS 2 0 rfl rfl (vp_in_iff.mpr (by decide +kernel)) dX0_widenSpans_47 (fun H locs hP hD hS => ?_)
  have hP : va_P g.1 vwCl [(h0, .inr (0, [.ref h11, .int 0, .ref h12, .int 0, .ref h13, .ref h14, .ref h15, .ref h16, .ref h17, .ref h18, .int 0])), (h17, .inl (zI g, 20, .inl (fun _ => 0))), (h18, .inl (zI g, 20, .inl (upd (fun _ => 99) 4 99)))] H := hP
  have hD : va_D A [(h0, .inr (0, [.ref h11, .int 0, .ref h12, .int 0, .ref h13, .ref h14, .ref h15, .ref h16, .ref h17, .ref h18, .int 0])), (h17, .inl (zI g, 20, .inl (fun _ => 0))), (h18, .inl (zI g, 20, .inl (upd (fun _ => 99) 4 99)))] := hD
  rw [zc_set] at hP hD
  refine lv_iinc (v := 5) (lv' := [(2, .int 5), (1, .int 0), (0, .ref h0)]) hx hb dX0_widenSpans_48 hl (k := 0) rfl (by decide) (by decide) rfl (fun ls hl => ?_)
  refine lv_goto (tgt := 4) hx hb dX0_widenSpans_51 (by decide) ?_
  refine lv_iload_n hx hb dX0_widenSpans_4 rfl (lv_at hl 0 rfl) ?_
  refine lv_bipush (v := 20) hx hb dX0_widenSpans_5 (by decide) ?_
  refine lv_icmp_ge (tgt := 54) hx hb dX0_widenSpans_7 (by decide) (fun h => absurd h (by decide +kernel)) (fun _ => ?_)
  refine lv_aload_n hx hb dX0_widenSpans_10 rfl (lv_at hl 2 rfl) ?_
  refine va_get (D := g.1) (ci := 0) (v := .ref h17) (C := RX0) (T := TX0) (N := 11) hx hb hts zl_X0 hown hK hP 0 rfl rfl 8 (by decide) (hts _ m_f_RX0_45) (fun _ h => h) rfl dX0_widenSpans_11 ?_
  refine lv_iload_n hx hb dX0_widenSpans_14 rfl (lv_at hl 0 rfl) ?_
  refine va_iald (D := g.1) hx hb hK hP 1 0 rfl rfl (vp_in_iff.mpr (by decide +kernel)) dX0_widenSpans_15 ?_
  refine lv_topi (nm_r (e' := 0) (by rfl) ?_)
  refine lv_if_ne (tgt := 30) hx hb dX0_widenSpans_16 (by decide) (fun h => absurd h (by decide +kernel)) (fun _ => ?_)
  refine lv_aload_n hx hb dX0_widenSpans_19 rfl (lv_at hl 2 rfl) ?_
  refine va_get (D := g.1) (ci := 0) (v := .ref h18) (C := RX0) (T := TX0) (N := 11) hx hb hts zl_X0 hown hK hP 0 rfl rfl 9 (by decide) (hts _ m_f_RX0_48) (fun _ h => h) rfl dX0_widenSpans_20 ?_
  refine lv_iload_n hx hb dX0_widenSpans_23 rfl (lv_at hl 0 rfl) ?_
  refine va_iald (D := g.1) hx hb hK hP 2 0 rfl rfl (vp_in_iff.mpr (by decide +kernel)) dX0_widenSpans_24 ?_
  refine lv_topi (nm_r (e' := 99) (by rfl) ?_)
  refine lv_bipush (v := 99) hx hb dX0_widenSpans_25 (by decide) ?_
  refine lv_icmp_eq (tgt := 33) hx hb dX0_widenSpans_27 (by decide) (fun _ => ?_) (fun h => absurd h (by decide +kernel))
  refine lv_aload_n hx hb dX0_widenSpans_33 rfl (lv_at hl 2 rfl) ?_
  refine va_get (D := g.1) (ci := 0) (v := .ref h17) (C := RX0) (T := TX0) (N := 11) hx hb hts zl_X0 hown hK hP 0 rfl rfl 8 (by decide) (hts _ m_f_RX0_45) (fun _ h => h) rfl dX0_widenSpans_34 ?_
  refine lv_iload_n hx hb dX0_widenSpans_37 rfl (lv_at hl 0 rfl) ?_
  refine lv_iconst (v := 0) hx hb dX0_widenSpans_38 (by decide) ?_
  refine va_iast (D := g.1) hx hb hK hP hD hS 1 0 rfl rfl (vp_in_iff.mpr (by decide +kernel)) dX0_widenSpans_39 (fun H locs hP hD hS => ?_)
  have hP : va_P g.1 vwCl [(h0, .inr (0, [.ref h11, .int 0, .ref h12, .int 0, .ref h13, .ref h14, .ref h15, .ref h16, .ref h17, .ref h18, .int 0])), (h17, .inl (zI g, 20, .inl (upd (fun _ => 0) 5 0))), (h18, .inl (zI g, 20, .inl (fun _ => 99)))] H := hP
  have hD : va_D A [(h0, .inr (0, [.ref h11, .int 0, .ref h12, .int 0, .ref h13, .ref h14, .ref h15, .ref h16, .ref h17, .ref h18, .int 0])), (h17, .inl (zI g, 20, .inl (upd (fun _ => 0) 5 0))), (h18, .inl (zI g, 20, .inl (fun _ => 99)))] := hD
  rw [zc_set] at hP hD
  refine lv_aload_n hx hb dX0_widenSpans_40 rfl (lv_at hl 2 rfl) ?_
  refine va_get (D := g.1) (ci := 0) (v := .ref h18) (C := RX0) (T := TX0) (N := 11) hx hb hts zl_X0 hown hK hP 0 rfl rfl 9 (by decide) (hts _ m_f_RX0_48) (fun _ h => h) rfl dX0_widenSpans_41 ?_
  refine lv_iload_n hx hb dX0_widenSpans_44 rfl (lv_at hl 0 rfl) ?_
  refine lv_bipush (v := 99) hx hb dX0_widenSpans_45 (by decide) ?_
  refine va_iast (D := g.1) hx hb hK hP hD hS 2 0 rfl rfl (vp_in_iff.mpr (by decide +kernel)) dX0_widenSpans_47 (fun H locs hP hD hS => ?_)
  have hP : va_P g.1 vwCl [(h0, .inr (0, [.ref h11, .int 0, .ref h12, .int 0, .ref h13, .ref h14, .ref h15, .ref h16, .ref h17, .ref h18, .int 0])), (h17, .inl (zI g, 20, .inl (fun _ => 0))), (h18, .inl (zI g, 20, .inl (upd (fun _ => 99) 5 99)))] H := hP
  have hD : va_D A [(h0, .inr (0, [.ref h11, .int 0, .ref h12, .int 0, .ref h13, .ref h14, .ref h15, .ref h16, .ref h17, .ref h18, .int 0])), (h17, .inl (zI g, 20, .inl (fun _ => 0))), (h18, .inl (zI g, 20, .inl (upd (fun _ => 99) 5 99)))] := hD
  rw [zc_set] at hP hD
  refine lv_iinc (v := 6) (lv' := [(2, .int 6), (1, .int 0), (0, .ref h0)]) hx hb dX0_widenSpans_48 hl (k := 0) rfl (by decide) (by decide) rfl (fun ls hl => ?_)
  refine lv_goto (tgt := 4) hx hb dX0_widenSpans_51 (by decide) ?_
  refine lv_iload_n hx hb dX0_widenSpans_4 rfl (lv_at hl 0 rfl) ?_
  refine lv_bipush (v := 20) hx hb dX0_widenSpans_5 (by decide) ?_
  refine lv_icmp_ge (tgt := 54) hx hb dX0_widenSpans_7 (by decide) (fun h => absurd h (by decide +kernel)) (fun _ => ?_)
  refine lv_aload_n hx hb dX0_widenSpans_10 rfl (lv_at hl 2 rfl) ?_
  refine va_get (D := g.1) (ci := 0) (v := .ref h17) (C := RX0) (T := TX0) (N := 11) hx hb hts zl_X0 hown hK hP 0 rfl rfl 8 (by decide) (hts _ m_f_RX0_45) (fun _ h => h) rfl dX0_widenSpans_11 ?_
  refine lv_iload_n hx hb dX0_widenSpans_14 rfl (lv_at hl 0 rfl) ?_
  refine va_iald (D := g.1) hx hb hK hP 1 0 rfl rfl (vp_in_iff.mpr (by decide +kernel)) dX0_widenSpans_15 ?_
  refine lv_topi (nm_r (e' := 0) (by rfl) ?_)
  refine lv_if_ne (tgt := 30) hx hb dX0_widenSpans_16 (by decide) (fun h => absurd h (by decide +kernel)) (fun _ => ?_)
  refine lv_aload_n hx hb dX0_widenSpans_19 rfl (lv_at hl 2 rfl) ?_
  refine va_get (D := g.1) (ci := 0) (v := .ref h18) (C := RX0) (T := TX0) (N := 11) hx hb hts zl_X0 hown hK hP 0 rfl rfl 9 (by decide) (hts _ m_f_RX0_48) (fun _ h => h) rfl dX0_widenSpans_20 ?_
  refine lv_iload_n hx hb dX0_widenSpans_23 rfl (lv_at hl 0 rfl) ?_
  refine va_iald (D := g.1) hx hb hK hP 2 0 rfl rfl (vp_in_iff.mpr (by decide +kernel)) dX0_widenSpans_24 ?_
  refine lv_topi (nm_r (e' := 99) (by rfl) ?_)
  refine lv_bipush (v := 99) hx hb dX0_widenSpans_25 (by decide) ?_
  refine lv_icmp_eq (tgt := 33) hx hb dX0_widenSpans_27 (by decide) (fun _ => ?_) (fun h => absurd h (by decide +kernel))
  refine lv_aload_n hx hb dX0_widenSpans_33 rfl (lv_at hl 2 rfl) ?_
  refine va_get (D := g.1) (ci := 0) (v := .ref h17) (C := RX0) (T := TX0) (N := 11) hx hb hts zl_X0 hown hK hP 0 rfl rfl 8 (by decide) (hts _ m_f_RX0_45) (fun _ h => h) rfl dX0_widenSpans_34 ?_
  refine lv_iload_n hx hb dX0_widenSpans_37 rfl (lv_at hl 0 rfl) ?_
  refine lv_iconst (v := 0) hx hb dX0_widenSpans_38 (by decide) ?_
  refine va_iast (D := g.1) hx hb hK hP hD hS 1 0 rfl rfl (vp_in_iff.mpr (by decide +kernel)) dX0_widenSpans_39 (fun H locs hP hD hS => ?_)
  have hP : va_P g.1 vwCl [(h0, .inr (0, [.ref h11, .int 0, .ref h12, .int 0, .ref h13, .ref h14, .ref h15, .ref h16, .ref h17, .ref h18, .int 0])), (h17, .inl (zI g, 20, .inl (upd (fun _ => 0) 6 0))), (h18, .inl (zI g, 20, .inl (fun _ => 99)))] H := hP
  have hD : va_D A [(h0, .inr (0, [.ref h11, .int 0, .ref h12, .int 0, .ref h13, .ref h14, .ref h15, .ref h16, .ref h17, .ref h18, .int 0])), (h17, .inl (zI g, 20, .inl (upd (fun _ => 0) 6 0))), (h18, .inl (zI g, 20, .inl (fun _ => 99)))] := hD
  rw [zc_set] at hP hD
  refine lv_aload_n hx hb dX0_widenSpans_40 rfl (lv_at hl 2 rfl) ?_
  refine va_get (D := g.1) (ci := 0) (v := .ref h18) (C := RX0) (T := TX0) (N := 11) hx hb hts zl_X0 hown hK hP 0 rfl rfl 9 (by decide) (hts _ m_f_RX0_48) (fun _ h => h) rfl dX0_widenSpans_41 ?_
  refine lv_iload_n hx hb dX0_widenSpans_44 rfl (lv_at hl 0 rfl) ?_
  refine lv_bipush (v := 99) hx hb dX0_widenSpans_45 (by decide) ?_
  refine va_iast (D := g.1) hx hb hK hP hD hS 2 0 rfl rfl (vp_in_iff.mpr (by decide +kernel)) dX0_widenSpans_47 (fun H locs hP hD hS => ?_)
  have hP : va_P g.1 vwCl [(h0, .inr (0, [.ref h11, .int 0, .ref h12, .int 0, .ref h13, .ref h14, .ref h15, .ref h16, .ref h17, .ref h18, .int 0])), (h17, .inl (zI g, 20, .inl (fun _ => 0))), (h18, .inl (zI g, 20, .inl (upd (fun _ => 99) 6 99)))] H := hP
  have hD : va_D A [(h0, .inr (0, [.ref h11, .int 0, .ref h12, .int 0, .ref h13, .ref h14, .ref h15, .ref h16, .ref h17, .ref h18, .int 0])), (h17, .inl (zI g, 20, .inl (fun _ => 0))), (h18, .inl (zI g, 20, .inl (upd (fun _ => 99) 6 99)))] := hD
  rw [zc_set] at hP hD
  refine lv_iinc (v := 7) (lv' := [(2, .int 7), (1, .int 0), (0, .ref h0)]) hx hb dX0_widenSpans_48 hl (k := 0) rfl (by decide) (by decide) rfl (fun ls hl => ?_)
  refine lv_goto (tgt := 4) hx hb dX0_widenSpans_51 (by decide) ?_
  refine lv_iload_n hx hb dX0_widenSpans_4 rfl (lv_at hl 0 rfl) ?_
  refine lv_bipush (v := 20) hx hb dX0_widenSpans_5 (by decide) ?_
  refine lv_icmp_ge (tgt := 54) hx hb dX0_widenSpans_7 (by decide) (fun h => absurd h (by decide +kernel)) (fun _ => ?_)
  refine lv_aload_n hx hb dX0_widenSpans_10 rfl (lv_at hl 2 rfl) ?_
  refine va_get (D := g.1) (ci := 0) (v := .ref h17) (C := RX0) (T := TX0) (N := 11) hx hb hts zl_X0 hown hK hP 0 rfl rfl 8 (by decide) (hts _ m_f_RX0_45) (fun _ h => h) rfl dX0_widenSpans_11 ?_
  refine lv_iload_n hx hb dX0_widenSpans_14 rfl (lv_at hl 0 rfl) ?_
  refine va_iald (D := g.1) hx hb hK hP 1 0 rfl rfl (vp_in_iff.mpr (by decide +kernel)) dX0_widenSpans_15 ?_
  refine lv_topi (nm_r (e' := 0) (by rfl) ?_)
  refine lv_if_ne (tgt := 30) hx hb dX0_widenSpans_16 (by decide) (fun h => absurd h (by decide +kernel)) (fun _ => ?_)
  refine lv_aload_n hx hb dX0_widenSpans_19 rfl (lv_at hl 2 rfl) ?_
  refine va_get (D := g.1) (ci := 0) (v := .ref h18) (C := RX0) (T := TX0) (N := 11) hx hb hts zl_X0 hown hK hP 0 rfl rfl 9 (by decide) (hts _ m_f_RX0_48) (fun _ h => h) rfl dX0_widenSpans_20 ?_
  refine lv_iload_n hx hb dX0_widenSpans_23 rfl (lv_at hl 0 rfl) ?_
  refine va_iald (D := g.1) hx hb hK hP 2 0 rfl rfl (vp_in_iff.mpr (by decide +kernel)) dX0_widenSpans_24 ?_
  refine lv_topi (nm_r (e' := 99) (by rfl) ?_)
  refine lv_bipush (v := 99) hx hb dX0_widenSpans_25 (by decide) ?_
  refine lv_icmp_eq (tgt := 33) hx hb dX0_widenSpans_27 (by decide) (fun _ => ?_) (fun h => absurd h (by decide +kernel))
  refine lv_aload_n hx hb dX0_widenSpans_33 rfl (lv_at hl 2 rfl) ?_
  refine va_get (D := g.1) (ci := 0) (v := .ref h17) (C := RX0) (T := TX0) (N := 11) hx hb hts zl_X0 hown hK hP 0 rfl rfl 8 (by decide) (hts _ m_f_RX0_45) (fun _ h => h) rfl dX0_widenSpans_34 ?_
  refine lv_iload_n hx hb dX0_widenSpans_37 rfl (lv_at hl 0 rfl) ?_
  refine lv_iconst (v := 0) hx hb dX0_widenSpans_38 (by decide) ?_
  refine va_iast (D := g.1) hx hb hK hP hD hS 1 0 rfl rfl (vp_in_iff.mpr (by decide +kernel)) dX0_widenSpans_39 (fun H locs hP hD hS => ?_)
  have hP : va_P g.1 vwCl [(h0, .inr (0, [.ref h11, .int 0, .ref h12, .int 0, .ref h13, .ref h14, .ref h15, .ref h16, .ref h17, .ref h18, .int 0])), (h17, .inl (zI g, 20, .inl (upd (fun _ => 0) 7 0))), (h18, .inl (zI g, 20, .inl (fun _ => 99)))] H := hP
  have hD : va_D A [(h0, .inr (0, [.ref h11, .int 0, .ref h12, .int 0, .ref h13, .ref h14, .ref h15, .ref h16, .ref h17, .ref h18, .int 0])), (h17, .inl (zI g, 20, .inl (upd (fun _ => 0) 7 0))), (h18, .inl (zI g, 20, .inl (fun _ => 99)))] := hD
  rw [zc_set] at hP hD
  refine lv_aload_n hx hb dX0_widenSpans_40 rfl (lv_at hl 2 rfl) ?_
  refine va_get (D := g.1) (ci := 0) (v := .ref h18) (C := RX0) (T := TX0) (N := 11) hx hb hts zl_X0 hown hK hP 0 rfl rfl 9 (by decide) (hts _ m_f_RX0_48) (fun _ h => h) rfl dX0_widenSpans_41 ?_
  refine lv_iload_n hx hb dX0_widenSpans_44 rfl (lv_at hl 0 rfl) ?_
  refine lv_bipush (v := 99) hx hb dX0_widenSpans_45 (by decide) ?_
  refine va_iast (D := g.1) hx hb hK hP hD hS 2 0 rfl rfl (vp_in_iff.mpr (by decide +kernel)) dX0_widenSpans_47 (fun H locs hP hD hS => ?_)
  have hP : va_P g.1 vwCl [(h0, .inr (0, [.ref h11, .int 0, .ref h12, .int 0, .ref h13, .ref h14, .ref h15, .ref h16, .ref h17, .ref h18, .int 0])), (h17, .inl (zI g, 20, .inl (fun _ => 0))), (h18, .inl (zI g, 20, .inl (upd (fun _ => 99) 7 99)))] H := hP
  have hD : va_D A [(h0, .inr (0, [.ref h11, .int 0, .ref h12, .int 0, .ref h13, .ref h14, .ref h15, .ref h16, .ref h17, .ref h18, .int 0])), (h17, .inl (zI g, 20, .inl (fun _ => 0))), (h18, .inl (zI g, 20, .inl (upd (fun _ => 99) 7 99)))] := hD
  rw [zc_set] at hP hD
  refine lv_iinc (v := 8) (lv' := [(2, .int 8), (1, .int 0), (0, .ref h0)]) hx hb dX0_widenSpans_48 hl (k := 0) rfl (by decide) (by decide) rfl (fun ls hl => ?_)
  refine lv_goto (tgt := 4) hx hb dX0_widenSpans_51 (by decide) ?_
  refine lv_iload_n hx hb dX0_widenSpans_4 rfl (lv_at hl 0 rfl) ?_
  refine lv_bipush (v := 20) hx hb dX0_widenSpans_5 (by decide) ?_
  refine lv_icmp_ge (tgt := 54) hx hb dX0_widenSpans_7 (by decide) (fun h => absurd h (by decide +kernel)) (fun _ => ?_)
  refine lv_aload_n hx hb dX0_widenSpans_10 rfl (lv_at hl 2 rfl) ?_
  refine va_get (D := g.1) (ci := 0) (v := .ref h17) (C := RX0) (T := TX0) (N := 11) hx hb hts zl_X0 hown hK hP 0 rfl rfl 8 (by decide) (hts _ m_f_RX0_45) (fun _ h => h) rfl dX0_widenSpans_11 ?_
  refine lv_iload_n hx hb dX0_widenSpans_14 rfl (lv_at hl 0 rfl) ?_
  refine va_iald (D := g.1) hx hb hK hP 1 0 rfl rfl (vp_in_iff.mpr (by decide +kernel)) dX0_widenSpans_15 ?_
  refine lv_topi (nm_r (e' := 0) (by rfl) ?_)
  refine lv_if_ne (tgt := 30) hx hb dX0_widenSpans_16 (by decide) (fun h => absurd h (by decide +kernel)) (fun _ => ?_)
  refine lv_aload_n hx hb dX0_widenSpans_19 rfl (lv_at hl 2 rfl) ?_
  refine va_get (D := g.1) (ci := 0) (v := .ref h18) (C := RX0) (T := TX0) (N := 11) hx hb hts zl_X0 hown hK hP 0 rfl rfl 9 (by decide) (hts _ m_f_RX0_48) (fun _ h => h) rfl dX0_widenSpans_20 ?_
  refine lv_iload_n hx hb dX0_widenSpans_23 rfl (lv_at hl 0 rfl) ?_
  refine va_iald (D := g.1) hx hb hK hP 2 0 rfl rfl (vp_in_iff.mpr (by decide +kernel)) dX0_widenSpans_24 ?_
  refine lv_topi (nm_r (e' := 99) (by rfl) ?_)
  refine lv_bipush (v := 99) hx hb dX0_widenSpans_25 (by decide) ?_
  refine lv_icmp_eq (tgt := 33) hx hb dX0_widenSpans_27 (by decide) (fun _ => ?_) (fun h => absurd h (by decide +kernel))
  refine lv_aload_n hx hb dX0_widenSpans_33 rfl (lv_at hl 2 rfl) ?_
  refine va_get (D := g.1) (ci := 0) (v := .ref h17) (C := RX0) (T := TX0) (N := 11) hx hb hts zl_X0 hown hK hP 0 rfl rfl 8 (by decide) (hts _ m_f_RX0_45) (fun _ h => h) rfl dX0_widenSpans_34 ?_
  refine lv_iload_n hx hb dX0_widenSpans_37 rfl (lv_at hl 0 rfl) ?_
  refine lv_iconst (v := 0) hx hb dX0_widenSpans_38 (by decide) ?_
  refine va_iast (D := g.1) hx hb hK hP hD hS 1 0 rfl rfl (vp_in_iff.mpr (by decide +kernel)) dX0_widenSpans_39 (fun H locs hP hD hS => ?_)
  have hP : va_P g.1 vwCl [(h0, .inr (0, [.ref h11, .int 0, .ref h12, .int 0, .ref h13, .ref h14, .ref h15, .ref h16, .ref h17, .ref h18, .int 0])), (h17, .inl (zI g, 20, .inl (upd (fun _ => 0) 8 0))), (h18, .inl (zI g, 20, .inl (fun _ => 99)))] H := hP
  have hD : va_D A [(h0, .inr (0, [.ref h11, .int 0, .ref h12, .int 0, .ref h13, .ref h14, .ref h15, .ref h16, .ref h17, .ref h18, .int 0])), (h17, .inl (zI g, 20, .inl (upd (fun _ => 0) 8 0))), (h18, .inl (zI g, 20, .inl (fun _ => 99)))] := hD
  rw [zc_set] at hP hD
  refine lv_aload_n hx hb dX0_widenSpans_40 rfl (lv_at hl 2 rfl) ?_
  refine va_get (D := g.1) (ci := 0) (v := .ref h18) (C := RX0) (T := TX0) (N := 11) hx hb hts zl_X0 hown hK hP 0 rfl rfl 9 (by decide) (hts _ m_f_RX0_48) (fun _ h => h) rfl dX0_widenSpans_41 ?_
  refine lv_iload_n hx hb dX0_widenSpans_44 rfl (lv_at hl 0 rfl) ?_
  refine lv_bipush (v := 99) hx hb dX0_widenSpans_45 (by decide) ?_
  refine va_iast (D := g.1) hx hb hK hP hD hS 2 0 rfl rfl (vp_in_iff.mpr (by decide +kernel)) dX0_widenSpans_47 (fun H locs hP hD hS => ?_)
  have hP : va_P g.1 vwCl [(h0, .inr (0, [.ref h11, .int 0, .ref h12, .int 0, .ref h13, .ref h14, .ref h15, .ref h16, .ref h17, .ref h18, .int 0])), (h17, .inl (zI g, 20, .inl (fun _ => 0))), (h18, .inl (zI g, 20, .inl (upd (fun _ => 99) 8 99)))] H := hP
  have hD : va_D A [(h0, .inr (0, [.ref h11, .int 0, .ref h12, .int 0, .ref h13, .ref h14, .ref h15, .ref h16, .ref h17, .ref h18, .int 0])), (h17, .inl (zI g, 20, .inl (fun _ => 0))), (h18, .inl (zI g, 20, .inl (upd (fun _ => 99) 8 99)))] := hD
  rw [zc_set] at hP hD
  refine lv_iinc (v := 9) (lv' := [(2, .int 9), (1, .int 0), (0, .ref h0)]) hx hb dX0_widenSpans_48 hl (k := 0) rfl (by decide) (by decide) rfl (fun ls hl => ?_)
  refine lv_goto (tgt := 4) hx hb dX0_widenSpans_51 (by decide) ?_
  refine lv_iload_n hx hb dX0_widenSpans_4 rfl (lv_at hl 0 rfl) ?_
  refine lv_bipush (v := 20) hx hb dX0_widenSpans_5 (by decide) ?_
  refine lv_icmp_ge (tgt := 54) hx hb dX0_widenSpans_7 (by decide) (fun h => absurd h (by decide +kernel)) (fun _ => ?_)
  refine lv_aload_n hx hb dX0_widenSpans_10 rfl (lv_at hl 2 rfl) ?_
  refine va_get (D := g.1) (ci := 0) (v := .ref h17) (C := RX0) (T := TX0) (N := 11) hx hb hts zl_X0 hown hK hP 0 rfl rfl 8 (by decide) (hts _ m_f_RX0_45) (fun _ h => h) rfl dX0_widenSpans_11 ?_
  refine lv_iload_n hx hb dX0_widenSpans_14 rfl (lv_at hl 0 rfl) ?_
  refine va_iald (D := g.1) hx hb hK hP 1 0 rfl rfl (vp_in_iff.mpr (by decide +kernel)) dX0_widenSpans_15 ?_
  refine lv_topi (nm_r (e' := 0) (by rfl) ?_)
  refine lv_if_ne (tgt := 30) hx hb dX0_widenSpans_16 (by decide) (fun h => absurd h (by decide +kernel)) (fun _ => ?_)
  refine lv_aload_n hx hb dX0_widenSpans_19 rfl (lv_at hl 2 rfl) ?_
  refine va_get (D := g.1) (ci := 0) (v := .ref h18) (C := RX0) (T := TX0) (N := 11) hx hb hts zl_X0 hown hK hP 0 rfl rfl 9 (by decide) (hts _ m_f_RX0_48) (fun _ h => h) rfl dX0_widenSpans_20 ?_
  refine lv_iload_n hx hb dX0_widenSpans_23 rfl (lv_at hl 0 rfl) ?_
  refine va_iald (D := g.1) hx hb hK hP 2 0 rfl rfl (vp_in_iff.mpr (by decide +kernel)) dX0_widenSpans_24 ?_
  refine lv_topi (nm_r (e' := 99) (by rfl) ?_)
  refine lv_bipush (v := 99) hx hb dX0_widenSpans_25 (by decide) ?_
  refine lv_icmp_eq (tgt := 33) hx hb dX0_widenSpans_27 (by decide) (fun _ => ?_) (fun h => absurd h (by decide +kernel))
  refine lv_aload_n hx hb dX0_widenSpans_33 rfl (lv_at hl 2 rfl) ?_
  refine va_get (D := g.1) (ci := 0) (v := .ref h17) (C := RX0) (T := TX0) (N := 11) hx hb hts zl_X0 hown hK hP 0 rfl rfl 8 (by decide) (hts _ m_f_RX0_45) (fun _ h => h) rfl dX0_widenSpans_34 ?_
  refine lv_iload_n hx hb dX0_widenSpans_37 rfl (lv_at hl 0 rfl) ?_
  refine lv_iconst (v := 0) hx hb dX0_widenSpans_38 (by decide) ?_
  refine va_iast (D := g.1) hx hb hK hP hD hS 1 0 rfl rfl (vp_in_iff.mpr (by decide +kernel)) dX0_widenSpans_39 (fun H locs hP hD hS => ?_)
  have hP : va_P g.1 vwCl [(h0, .inr (0, [.ref h11, .int 0, .ref h12, .int 0, .ref h13, .ref h14, .ref h15, .ref h16, .ref h17, .ref h18, .int 0])), (h17, .inl (zI g, 20, .inl (upd (fun _ => 0) 9 0))), (h18, .inl (zI g, 20, .inl (fun _ => 99)))] H := hP
  have hD : va_D A [(h0, .inr (0, [.ref h11, .int 0, .ref h12, .int 0, .ref h13, .ref h14, .ref h15, .ref h16, .ref h17, .ref h18, .int 0])), (h17, .inl (zI g, 20, .inl (upd (fun _ => 0) 9 0))), (h18, .inl (zI g, 20, .inl (fun _ => 99)))] := hD
  rw [zc_set] at hP hD
  refine lv_aload_n hx hb dX0_widenSpans_40 rfl (lv_at hl 2 rfl) ?_
  refine va_get (D := g.1) (ci := 0) (v := .ref h18) (C := RX0) (T := TX0) (N := 11) hx hb hts zl_X0 hown hK hP 0 rfl rfl 9 (by decide) (hts _ m_f_RX0_48) (fun _ h => h) rfl dX0_widenSpans_41 ?_
  refine lv_iload_n hx hb dX0_widenSpans_44 rfl (lv_at hl 0 rfl) ?_
  refine lv_bipush (v := 99) hx hb dX0_widenSpans_45 (by decide) ?_
  refine va_iast (D := g.1) hx hb hK hP hD hS 2 0 rfl rfl (vp_in_iff.mpr (by decide +kernel)) dX0_widenSpans_47 (fun H locs hP hD hS => ?_)
  have hP : va_P g.1 vwCl [(h0, .inr (0, [.ref h11, .int 0, .ref h12, .int 0, .ref h13, .ref h14, .ref h15, .ref h16, .ref h17, .ref h18, .int 0])), (h17, .inl (zI g, 20, .inl (fun _ => 0))), (h18, .inl (zI g, 20, .inl (upd (fun _ => 99) 9 99)))] H := hP
  have hD : va_D A [(h0, .inr (0, [.ref h11, .int 0, .ref h12, .int 0, .ref h13, .ref h14, .ref h15, .ref h16, .ref h17, .ref h18, .int 0])), (h17, .inl (zI g, 20, .inl (fun _ => 0))), (h18, .inl (zI g, 20, .inl (upd (fun _ => 99) 9 99)))] := hD
  rw [zc_set] at hP hD
  refine lv_iinc (v := 10) (lv' := [(2, .int 10), (1, .int 0), (0, .ref h0)]) hx hb dX0_widenSpans_48 hl (k := 0) rfl (by decide) (by decide) rfl (fun ls hl => ?_)
  refine lv_goto (tgt := 4) hx hb dX0_widenSpans_51 (by decide) ?_
  refine lv_iload_n hx hb dX0_widenSpans_4 rfl (lv_at hl 0 rfl) ?_
  refine lv_bipush (v := 20) hx hb dX0_widenSpans_5 (by decide) ?_
  refine lv_icmp_ge (tgt := 54) hx hb dX0_widenSpans_7 (by decide) (fun h => absurd h (by decide +kernel)) (fun _ => ?_)
  refine lv_aload_n hx hb dX0_widenSpans_10 rfl (lv_at hl 2 rfl) ?_
  refine va_get (D := g.1) (ci := 0) (v := .ref h17) (C := RX0) (T := TX0) (N := 11) hx hb hts zl_X0 hown hK hP 0 rfl rfl 8 (by decide) (hts _ m_f_RX0_45) (fun _ h => h) rfl dX0_widenSpans_11 ?_
  refine lv_iload_n hx hb dX0_widenSpans_14 rfl (lv_at hl 0 rfl) ?_
  refine va_iald (D := g.1) hx hb hK hP 1 0 rfl rfl (vp_in_iff.mpr (by decide +kernel)) dX0_widenSpans_15 ?_
  refine lv_topi (nm_r (e' := 0) (by rfl) ?_)
  refine lv_if_ne (tgt := 30) hx hb dX0_widenSpans_16 (by decide) (fun h => absurd h (by decide +kernel)) (fun _ => ?_)
  refine lv_aload_n hx hb dX0_widenSpans_19 rfl (lv_at hl 2 rfl) ?_
  refine va_get (D := g.1) (ci := 0) (v := .ref h18) (C := RX0) (T := TX0) (N := 11) hx hb hts zl_X0 hown hK hP 0 rfl rfl 9 (by decide) (hts _ m_f_RX0_48) (fun _ h => h) rfl dX0_widenSpans_20 ?_
  refine lv_iload_n hx hb dX0_widenSpans_23 rfl (lv_at hl 0 rfl) ?_
  refine va_iald (D := g.1) hx hb hK hP 2 0 rfl rfl (vp_in_iff.mpr (by decide +kernel)) dX0_widenSpans_24 ?_
  refine lv_topi (nm_r (e' := 99) (by rfl) ?_)
  refine lv_bipush (v := 99) hx hb dX0_widenSpans_25 (by decide) ?_
  refine lv_icmp_eq (tgt := 33) hx hb dX0_widenSpans_27 (by decide) (fun _ => ?_) (fun h => absurd h (by decide +kernel))
  refine lv_aload_n hx hb dX0_widenSpans_33 rfl (lv_at hl 2 rfl) ?_
  refine va_get (D := g.1) (ci := 0) (v := .ref h17) (C := RX0) (T := TX0) (N := 11) hx hb hts zl_X0 hown hK hP 0 rfl rfl 8 (by decide) (hts _ m_f_RX0_45) (fun _ h => h) rfl dX0_widenSpans_34 ?_
  refine lv_iload_n hx hb dX0_widenSpans_37 rfl (lv_at hl 0 rfl) ?_
  refine lv_iconst (v := 0) hx hb dX0_widenSpans_38 (by decide) ?_
  refine va_iast (D := g.1) hx hb hK hP hD hS 1 0 rfl rfl (vp_in_iff.mpr (by decide +kernel)) dX0_widenSpans_39 (fun H locs hP hD hS => ?_)
  have hP : va_P g.1 vwCl [(h0, .inr (0, [.ref h11, .int 0, .ref h12, .int 0, .ref h13, .ref h14, .ref h15, .ref h16, .ref h17, .ref h18, .int 0])), (h17, .inl (zI g, 20, .inl (upd (fun _ => 0) 10 0))), (h18, .inl (zI g, 20, .inl (fun _ => 99)))] H := hP
  have hD : va_D A [(h0, .inr (0, [.ref h11, .int 0, .ref h12, .int 0, .ref h13, .ref h14, .ref h15, .ref h16, .ref h17, .ref h18, .int 0])), (h17, .inl (zI g, 20, .inl (upd (fun _ => 0) 10 0))), (h18, .inl (zI g, 20, .inl (fun _ => 99)))] := hD
  rw [zc_set] at hP hD
  refine lv_aload_n hx hb dX0_widenSpans_40 rfl (lv_at hl 2 rfl) ?_
  refine va_get (D := g.1) (ci := 0) (v := .ref h18) (C := RX0) (T := TX0) (N := 11) hx hb hts zl_X0 hown hK hP 0 rfl rfl 9 (by decide) (hts _ m_f_RX0_48) (fun _ h => h) rfl dX0_widenSpans_41 ?_
  refine lv_iload_n hx hb dX0_widenSpans_44 rfl (lv_at hl 0 rfl) ?_
  refine lv_bipush (v := 99) hx hb dX0_widenSpans_45 (by decide) ?_
  refine va_iast (D := g.1) hx hb hK hP hD hS 2 0 rfl rfl (vp_in_iff.mpr (by decide +kernel)) dX0_widenSpans_47 (fun H locs hP hD hS => ?_)
  have hP : va_P g.1 vwCl [(h0, .inr (0, [.ref h11, .int 0, .ref h12, .int 0, .ref h13, .ref h14, .ref h15, .ref h16, .ref h17, .ref h18, .int 0])), (h17, .inl (zI g, 20, .inl (fun _ => 0))), (h18, .inl (zI g, 20, .inl (upd (fun _ => 99) 10 99)))] H := hP
  have hD : va_D A [(h0, .inr (0, [.ref h11, .int 0, .ref h12, .int 0, .ref h13, .ref h14, .ref h15, .ref h16, .ref h17, .ref h18, .int 0])), (h17, .inl (zI g, 20, .inl (fun _ => 0))), (h18, .inl (zI g, 20, .inl (upd (fun _ => 99) 10 99)))] := hD
  rw [zc_set] at hP hD
  refine lv_iinc (v := 11) (lv' := [(2, .int 11), (1, .int 0), (0, .ref h0)]) hx hb dX0_widenSpans_48 hl (k := 0) rfl (by decide) (by decide) rfl (fun ls hl => ?_)
  refine lv_goto (tgt := 4) hx hb dX0_widenSpans_51 (by decide) ?_
  refine lv_iload_n hx hb dX0_widenSpans_4 rfl (lv_at hl 0 rfl) ?_
  refine lv_bipush (v := 20) hx hb dX0_widenSpans_5 (by decide) ?_
  refine lv_icmp_ge (tgt := 54) hx hb dX0_widenSpans_7 (by decide) (fun h => absurd h (by decide +kernel)) (fun _ => ?_)
  refine lv_aload_n hx hb dX0_widenSpans_10 rfl (lv_at hl 2 rfl) ?_
  refine va_get (D := g.1) (ci := 0) (v := .ref h17) (C := RX0) (T := TX0) (N := 11) hx hb hts zl_X0 hown hK hP 0 rfl rfl 8 (by decide) (hts _ m_f_RX0_45) (fun _ h => h) rfl dX0_widenSpans_11 ?_
  refine lv_iload_n hx hb dX0_widenSpans_14 rfl (lv_at hl 0 rfl) ?_
  refine va_iald (D := g.1) hx hb hK hP 1 0 rfl rfl (vp_in_iff.mpr (by decide +kernel)) dX0_widenSpans_15 ?_
  refine lv_topi (nm_r (e' := 0) (by rfl) ?_)
  refine lv_if_ne (tgt := 30) hx hb dX0_widenSpans_16 (by decide) (fun h => absurd h (by decide +kernel)) (fun _ => ?_)
  refine lv_aload_n hx hb dX0_widenSpans_19 rfl (lv_at hl 2 rfl) ?_
  refine va_get (D := g.1) (ci := 0) (v := .ref h18) (C := RX0) (T := TX0) (N := 11) hx hb hts zl_X0 hown hK hP 0 rfl rfl 9 (by decide) (hts _ m_f_RX0_48) (fun _ h => h) rfl dX0_widenSpans_20 ?_
  refine lv_iload_n hx hb dX0_widenSpans_23 rfl (lv_at hl 0 rfl) ?_
  refine va_iald (D := g.1) hx hb hK hP 2 0 rfl rfl (vp_in_iff.mpr (by decide +kernel)) dX0_widenSpans_24 ?_
  refine lv_topi (nm_r (e' := 99) (by rfl) ?_)
  refine lv_bipush (v := 99) hx hb dX0_widenSpans_25 (by decide) ?_
  refine lv_icmp_eq (tgt := 33) hx hb dX0_widenSpans_27 (by decide) (fun _ => ?_) (fun h => absurd h (by decide +kernel))
  refine lv_aload_n hx hb dX0_widenSpans_33 rfl (lv_at hl 2 rfl) ?_
  refine va_get (D := g.1) (ci := 0) (v := .ref h17) (C := RX0) (T := TX0) (N := 11) hx hb hts zl_X0 hown hK hP 0 rfl rfl 8 (by decide) (hts _ m_f_RX0_45) (fun _ h => h) rfl dX0_widenSpans_34 ?_
  refine lv_iload_n hx hb dX0_widenSpans_37 rfl (lv_at hl 0 rfl) ?_
  refine lv_iconst (v := 0) hx hb dX0_widenSpans_38 (by decide) ?_
  refine va_iast (D := g.1) hx hb hK hP hD hS 1 0 rfl rfl (vp_in_iff.mpr (by decide +kernel)) dX0_widenSpans_39 (fun H locs hP hD hS => ?_)
  have hP : va_P g.1 vwCl [(h0, .inr (0, [.ref h11, .int 0, .ref h12, .int 0, .ref h13, .ref h14, .ref h15, .ref h16, .ref h17, .ref h18, .int 0])), (h17, .inl (zI g, 20, .inl (upd (fun _ => 0) 11 0))), (h18, .inl (zI g, 20, .inl (fun _ => 99)))] H := hP
  have hD : va_D A [(h0, .inr (0, [.ref h11, .int 0, .ref h12, .int 0, .ref h13, .ref h14, .ref h15, .ref h16, .ref h17, .ref h18, .int 0])), (h17, .inl (zI g, 20, .inl (upd (fun _ => 0) 11 0))), (h18, .inl (zI g, 20, .inl (fun _ => 99)))] := hD
  rw [zc_set] at hP hD
  refine lv_aload_n hx hb dX0_widenSpans_40 rfl (lv_at hl 2 rfl) ?_
  refine va_get (D := g.1) (ci := 0) (v := .ref h18) (C := RX0) (T := TX0) (N := 11) hx hb hts zl_X0 hown hK hP 0 rfl rfl 9 (by decide) (hts _ m_f_RX0_48) (fun _ h => h) rfl dX0_widenSpans_41 ?_
  refine lv_iload_n hx hb dX0_widenSpans_44 rfl (lv_at hl 0 rfl) ?_
  refine lv_bipush (v := 99) hx hb dX0_widenSpans_45 (by decide) ?_
  refine va_iast (D := g.1) hx hb hK hP hD hS 2 0 rfl rfl (vp_in_iff.mpr (by decide +kernel)) dX0_widenSpans_47 (fun H locs hP hD hS => ?_)
  have hP : va_P g.1 vwCl [(h0, .inr (0, [.ref h11, .int 0, .ref h12, .int 0, .ref h13, .ref h14, .ref h15, .ref h16, .ref h17, .ref h18, .int 0])), (h17, .inl (zI g, 20, .inl (fun _ => 0))), (h18, .inl (zI g, 20, .inl (upd (fun _ => 99) 11 99)))] H := hP
  have hD : va_D A [(h0, .inr (0, [.ref h11, .int 0, .ref h12, .int 0, .ref h13, .ref h14, .ref h15, .ref h16, .ref h17, .ref h18, .int 0])), (h17, .inl (zI g, 20, .inl (fun _ => 0))), (h18, .inl (zI g, 20, .inl (upd (fun _ => 99) 11 99)))] := hD
  rw [zc_set] at hP hD
  refine lv_iinc (v := 12) (lv' := [(2, .int 12), (1, .int 0), (0, .ref h0)]) hx hb dX0_widenSpans_48 hl (k := 0) rfl (by decide) (by decide) rfl (fun ls hl => ?_)
  refine lv_goto (tgt := 4) hx hb dX0_widenSpans_51 (by decide) ?_
  refine lv_iload_n hx hb dX0_widenSpans_4 rfl (lv_at hl 0 rfl) ?_
  refine lv_bipush (v := 20) hx hb dX0_widenSpans_5 (by decide) ?_
  refine lv_icmp_ge (tgt := 54) hx hb dX0_widenSpans_7 (by decide) (fun h => absurd h (by decide +kernel)) (fun _ => ?_)
  refine lv_aload_n hx hb dX0_widenSpans_10 rfl (lv_at hl 2 rfl) ?_
  refine va_get (D := g.1) (ci := 0) (v := .ref h17) (C := RX0) (T := TX0) (N := 11) hx hb hts zl_X0 hown hK hP 0 rfl rfl 8 (by decide) (hts _ m_f_RX0_45) (fun _ h => h) rfl dX0_widenSpans_11 ?_
  refine lv_iload_n hx hb dX0_widenSpans_14 rfl (lv_at hl 0 rfl) ?_
  refine va_iald (D := g.1) hx hb hK hP 1 0 rfl rfl (vp_in_iff.mpr (by decide +kernel)) dX0_widenSpans_15 ?_
  refine lv_topi (nm_r (e' := 0) (by rfl) ?_)
  refine lv_if_ne (tgt := 30) hx hb dX0_widenSpans_16 (by decide) (fun h => absurd h (by decide +kernel)) (fun _ => ?_)
  refine lv_aload_n hx hb dX0_widenSpans_19 rfl (lv_at hl 2 rfl) ?_
  refine va_get (D := g.1) (ci := 0) (v := .ref h18) (C := RX0) (T := TX0) (N := 11) hx hb hts zl_X0 hown hK hP 0 rfl rfl 9 (by decide) (hts _ m_f_RX0_48) (fun _ h => h) rfl dX0_widenSpans_20 ?_
  refine lv_iload_n hx hb dX0_widenSpans_23 rfl (lv_at hl 0 rfl) ?_
  refine va_iald (D := g.1) hx hb hK hP 2 0 rfl rfl (vp_in_iff.mpr (by decide +kernel)) dX0_widenSpans_24 ?_
  refine lv_topi (nm_r (e' := 99) (by rfl) ?_)
  refine lv_bipush (v := 99) hx hb dX0_widenSpans_25 (by decide) ?_
  refine lv_icmp_eq (tgt := 33) hx hb dX0_widenSpans_27 (by decide) (fun _ => ?_) (fun h => absurd h (by decide +kernel))
  refine lv_aload_n hx hb dX0_widenSpans_33 rfl (lv_at hl 2 rfl) ?_
  refine va_get (D := g.1) (ci := 0) (v := .ref h17) (C := RX0) (T := TX0) (N := 11) hx hb hts zl_X0 hown hK hP 0 rfl rfl 8 (by decide) (hts _ m_f_RX0_45) (fun _ h => h) rfl dX0_widenSpans_34 ?_
  refine lv_iload_n hx hb dX0_widenSpans_37 rfl (lv_at hl 0 rfl) ?_
  refine lv_iconst (v := 0) hx hb dX0_widenSpans_38 (by decide) ?_
  refine va_iast (D := g.1) hx hb hK hP hD hS 1 0 rfl rfl (vp_in_iff.mpr (by decide +kernel)) dX0_widenSpans_39 (fun H locs hP hD hS => ?_)
  have hP : va_P g.1 vwCl [(h0, .inr (0, [.ref h11, .int 0, .ref h12, .int 0, .ref h13, .ref h14, .ref h15, .ref h16, .ref h17, .ref h18, .int 0])), (h17, .inl (zI g, 20, .inl (upd (fun _ => 0) 12 0))), (h18, .inl (zI g, 20, .inl (fun _ => 99)))] H := hP
  have hD : va_D A [(h0, .inr (0, [.ref h11, .int 0, .ref h12, .int 0, .ref h13, .ref h14, .ref h15, .ref h16, .ref h17, .ref h18, .int 0])), (h17, .inl (zI g, 20, .inl (upd (fun _ => 0) 12 0))), (h18, .inl (zI g, 20, .inl (fun _ => 99)))] := hD
  rw [zc_set] at hP hD
  refine lv_aload_n hx hb dX0_widenSpans_40 rfl (lv_at hl 2 rfl) ?_
  refine va_get (D := g.1) (ci := 0) (v := .ref h18) (C := RX0) (T := TX0) (N := 11) hx hb hts zl_X0 hown hK hP 0 rfl rfl 9 (by decide) (hts _ m_f_RX0_48) (fun _ h => h) rfl dX0_widenSpans_41 ?_
  refine lv_iload_n hx hb dX0_widenSpans_44 rfl (lv_at hl 0 rfl) ?_
  refine lv_bipush (v := 99) hx hb dX0_widenSpans_45 (by decide) ?_
  refine va_iast (D := g.1) hx hb hK hP hD hS 2 0 rfl rfl (vp_in_iff.mpr (by decide +kernel)) dX0_widenSpans_47 (fun H locs hP hD hS => ?_)
  have hP : va_P g.1 vwCl [(h0, .inr (0, [.ref h11, .int 0, .ref h12, .int 0, .ref h13, .ref h14, .ref h15, .ref h16, .ref h17, .ref h18, .int 0])), (h17, .inl (zI g, 20, .inl (fun _ => 0))), (h18, .inl (zI g, 20, .inl (upd (fun _ => 99) 12 99)))] H := hP
  have hD : va_D A [(h0, .inr (0, [.ref h11, .int 0, .ref h12, .int 0, .ref h13, .ref h14, .ref h15, .ref h16, .ref h17, .ref h18, .int 0])), (h17, .inl (zI g, 20, .inl (fun _ => 0))), (h18, .inl (zI g, 20, .inl (upd (fun _ => 99) 12 99)))] := hD
  rw [zc_set] at hP hD
  refine lv_iinc (v := 13) (lv' := [(2, .int 13), (1, .int 0), (0, .ref h0)]) hx hb dX0_widenSpans_48 hl (k := 0) rfl (by decide) (by decide) rfl (fun ls hl => ?_)
  refine lv_goto (tgt := 4) hx hb dX0_widenSpans_51 (by decide) ?_
  refine lv_iload_n hx hb dX0_widenSpans_4 rfl (lv_at hl 0 rfl) ?_
  refine lv_bipush (v := 20) hx hb dX0_widenSpans_5 (by decide) ?_
  refine lv_icmp_ge (tgt := 54) hx hb dX0_widenSpans_7 (by decide) (fun h => absurd h (by decide +kernel)) (fun _ => ?_)
  refine lv_aload_n hx hb dX0_widenSpans_10 rfl (lv_at hl 2 rfl) ?_
  refine va_get (D := g.1) (ci := 0) (v := .ref h17) (C := RX0) (T := TX0) (N := 11) hx hb hts zl_X0 hown hK hP 0 rfl rfl 8 (by decide) (hts _ m_f_RX0_45) (fun _ h => h) rfl dX0_widenSpans_11 ?_
  refine lv_iload_n hx hb dX0_widenSpans_14 rfl (lv_at hl 0 rfl) ?_
  refine va_iald (D := g.1) hx hb hK hP 1 0 rfl rfl (vp_in_iff.mpr (by decide +kernel)) dX0_widenSpans_15 ?_
  refine lv_topi (nm_r (e' := 0) (by rfl) ?_)
  refine lv_if_ne (tgt := 30) hx hb dX0_widenSpans_16 (by decide) (fun h => absurd h (by decide +kernel)) (fun _ => ?_)
  refine lv_aload_n hx hb dX0_widenSpans_19 rfl (lv_at hl 2 rfl) ?_
  refine va_get (D := g.1) (ci := 0) (v := .ref h18) (C := RX0) (T := TX0) (N := 11) hx hb hts zl_X0 hown hK hP 0 rfl rfl 9 (by decide) (hts _ m_f_RX0_48) (fun _ h => h) rfl dX0_widenSpans_20 ?_
  refine lv_iload_n hx hb dX0_widenSpans_23 rfl (lv_at hl 0 rfl) ?_
  refine va_iald (D := g.1) hx hb hK hP 2 0 rfl rfl (vp_in_iff.mpr (by decide +kernel)) dX0_widenSpans_24 ?_
  refine lv_topi (nm_r (e' := 99) (by rfl) ?_)
  refine lv_bipush (v := 99) hx hb dX0_widenSpans_25 (by decide) ?_
  refine lv_icmp_eq (tgt := 33) hx hb dX0_widenSpans_27 (by decide) (fun _ => ?_) (fun h => absurd h (by decide +kernel))
  refine lv_aload_n hx hb dX0_widenSpans_33 rfl (lv_at hl 2 rfl) ?_
  refine va_get (D := g.1) (ci := 0) (v := .ref h17) (C := RX0) (T := TX0) (N := 11) hx hb hts zl_X0 hown hK hP 0 rfl rfl 8 (by decide) (hts _ m_f_RX0_45) (fun _ h => h) rfl dX0_widenSpans_34 ?_
  refine lv_iload_n hx hb dX0_widenSpans_37 rfl (lv_at hl 0 rfl) ?_
  refine lv_iconst (v := 0) hx hb dX0_widenSpans_38 (by decide) ?_
  refine va_iast (D := g.1) hx hb hK hP hD hS 1 0 rfl rfl (vp_in_iff.mpr (by decide +kernel)) dX0_widenSpans_39 (fun H locs hP hD hS => ?_)
  have hP : va_P g.1 vwCl [(h0, .inr (0, [.ref h11, .int 0, .ref h12, .int 0, .ref h13, .ref h14, .ref h15, .ref h16, .ref h17, .ref h18, .int 0])), (h17, .inl (zI g, 20, .inl (upd (fun _ => 0) 13 0))), (h18, .inl (zI g, 20, .inl (fun _ => 99)))] H := hP
  have hD : va_D A [(h0, .inr (0, [.ref h11, .int 0, .ref h12, .int 0, .ref h13, .ref h14, .ref h15, .ref h16, .ref h17, .ref h18, .int 0])), (h17, .inl (zI g, 20, .inl (upd (fun _ => 0) 13 0))), (h18, .inl (zI g, 20, .inl (fun _ => 99)))] := hD
  rw [zc_set] at hP hD
  refine lv_aload_n hx hb dX0_widenSpans_40 rfl (lv_at hl 2 rfl) ?_
  refine va_get (D := g.1) (ci := 0) (v := .ref h18) (C := RX0) (T := TX0) (N := 11) hx hb hts zl_X0 hown hK hP 0 rfl rfl 9 (by decide) (hts _ m_f_RX0_48) (fun _ h => h) rfl dX0_widenSpans_41 ?_
  refine lv_iload_n hx hb dX0_widenSpans_44 rfl (lv_at hl 0 rfl) ?_
  refine lv_bipush (v := 99) hx hb dX0_widenSpans_45 (by decide) ?_
  refine va_iast (D := g.1) hx hb hK hP hD hS 2 0 rfl rfl (vp_in_iff.mpr (by decide +kernel)) dX0_widenSpans_47 (fun H locs hP hD hS => ?_)
  have hP : va_P g.1 vwCl [(h0, .inr (0, [.ref h11, .int 0, .ref h12, .int 0, .ref h13, .ref h14, .ref h15, .ref h16, .ref h17, .ref h18, .int 0])), (h17, .inl (zI g, 20, .inl (fun _ => 0))), (h18, .inl (zI g, 20, .inl (upd (fun _ => 99) 13 99)))] H := hP
  have hD : va_D A [(h0, .inr (0, [.ref h11, .int 0, .ref h12, .int 0, .ref h13, .ref h14, .ref h15, .ref h16, .ref h17, .ref h18, .int 0])), (h17, .inl (zI g, 20, .inl (fun _ => 0))), (h18, .inl (zI g, 20, .inl (upd (fun _ => 99) 13 99)))] := hD
  rw [zc_set] at hP hD
  refine lv_iinc (v := 14) (lv' := [(2, .int 14), (1, .int 0), (0, .ref h0)]) hx hb dX0_widenSpans_48 hl (k := 0) rfl (by decide) (by decide) rfl (fun ls hl => ?_)
  refine lv_goto (tgt := 4) hx hb dX0_widenSpans_51 (by decide) ?_
  refine lv_iload_n hx hb dX0_widenSpans_4 rfl (lv_at hl 0 rfl) ?_
  refine lv_bipush (v := 20) hx hb dX0_widenSpans_5 (by decide) ?_
  refine lv_icmp_ge (tgt := 54) hx hb dX0_widenSpans_7 (by decide) (fun h => absurd h (by decide +kernel)) (fun _ => ?_)
  refine lv_aload_n hx hb dX0_widenSpans_10 rfl (lv_at hl 2 rfl) ?_
  refine va_get (D := g.1) (ci := 0) (v := .ref h17) (C := RX0) (T := TX0) (N := 11) hx hb hts zl_X0 hown hK hP 0 rfl rfl 8 (by decide) (hts _ m_f_RX0_45) (fun _ h => h) rfl dX0_widenSpans_11 ?_
  refine lv_iload_n hx hb dX0_widenSpans_14 rfl (lv_at hl 0 rfl) ?_
  refine va_iald (D := g.1) hx hb hK hP 1 0 rfl rfl (vp_in_iff.mpr (by decide +kernel)) dX0_widenSpans_15 ?_
  refine lv_topi (nm_r (e' := 0) (by rfl) ?_)
  refine lv_if_ne (tgt := 30) hx hb dX0_widenSpans_16 (by decide) (fun h => absurd h (by decide +kernel)) (fun _ => ?_)
  refine lv_aload_n hx hb dX0_widenSpans_19 rfl (lv_at hl 2 rfl) ?_
  refine va_get (D := g.1) (ci := 0) (v := .ref h18) (C := RX0) (T := TX0) (N := 11) hx hb hts zl_X0 hown hK hP 0 rfl rfl 9 (by decide) (hts _ m_f_RX0_48) (fun _ h => h) rfl dX0_widenSpans_20 ?_
  refine lv_iload_n hx hb dX0_widenSpans_23 rfl (lv_at hl 0 rfl) ?_
  refine va_iald (D := g.1) hx hb hK hP 2 0 rfl rfl (vp_in_iff.mpr (by decide +kernel)) dX0_widenSpans_24 ?_
  refine lv_topi (nm_r (e' := 99) (by rfl) ?_)
  refine lv_bipush (v := 99) hx hb dX0_widenSpans_25 (by decide) ?_
  refine lv_icmp_eq (tgt := 33) hx hb dX0_widenSpans_27 (by decide) (fun _ => ?_) (fun h => absurd h (by decide +kernel))
  refine lv_aload_n hx hb dX0_widenSpans_33 rfl (lv_at hl 2 rfl) ?_
  refine va_get (D := g.1) (ci := 0) (v := .ref h17) (C := RX0) (T := TX0) (N := 11) hx hb hts zl_X0 hown hK hP 0 rfl rfl 8 (by decide) (hts _ m_f_RX0_45) (fun _ h => h) rfl dX0_widenSpans_34 ?_
  refine lv_iload_n hx hb dX0_widenSpans_37 rfl (lv_at hl 0 rfl) ?_
  refine lv_iconst (v := 0) hx hb dX0_widenSpans_38 (by decide) ?_
  refine va_iast (D := g.1) hx hb hK hP hD hS 1 0 rfl rfl (vp_in_iff.mpr (by decide +kernel)) dX0_widenSpans_39 (fun H locs hP hD hS => ?_)
  have hP : va_P g.1 vwCl [(h0, .inr (0, [.ref h11, .int 0, .ref h12, .int 0, .ref h13, .ref h14, .ref h15, .ref h16, .ref h17, .ref h18, .int 0])), (h17, .inl (zI g, 20, .inl (upd (fun _ => 0) 14 0))), (h18, .inl (zI g, 20, .inl (fun _ => 99)))] H := hP
  have hD : va_D A [(h0, .inr (0, [.ref h11, .int 0, .ref h12, .int 0, .ref h13, .ref h14, .ref h15, .ref h16, .ref h17, .ref h18, .int 0])), (h17, .inl (zI g, 20, .inl (upd (fun _ => 0) 14 0))), (h18, .inl (zI g, 20, .inl (fun _ => 99)))] := hD
  rw [zc_set] at hP hD
  refine lv_aload_n hx hb dX0_widenSpans_40 rfl (lv_at hl 2 rfl) ?_
  refine va_get (D := g.1) (ci := 0) (v := .ref h18) (C := RX0) (T := TX0) (N := 11) hx hb hts zl_X0 hown hK hP 0 rfl rfl 9 (by decide) (hts _ m_f_RX0_48) (fun _ h => h) rfl dX0_widenSpans_41 ?_
  refine lv_iload_n hx hb dX0_widenSpans_44 rfl (lv_at hl 0 rfl) ?_
  refine lv_bipush (v := 99) hx hb dX0_widenSpans_45 (by decide) ?_
  refine va_iast (D := g.1) hx hb hK hP hD hS 2 0 rfl rfl (vp_in_iff.mpr (by decide +kernel)) dX0_widenSpans_47 (fun H locs hP hD hS => ?_)
  have hP : va_P g.1 vwCl [(h0, .inr (0, [.ref h11, .int 0, .ref h12, .int 0, .ref h13, .ref h14, .ref h15, .ref h16, .ref h17, .ref h18, .int 0])), (h17, .inl (zI g, 20, .inl (fun _ => 0))), (h18, .inl (zI g, 20, .inl (upd (fun _ => 99) 14 99)))] H := hP
  have hD : va_D A [(h0, .inr (0, [.ref h11, .int 0, .ref h12, .int 0, .ref h13, .ref h14, .ref h15, .ref h16, .ref h17, .ref h18, .int 0])), (h17, .inl (zI g, 20, .inl (fun _ => 0))), (h18, .inl (zI g, 20, .inl (upd (fun _ => 99) 14 99)))] := hD
  rw [zc_set] at hP hD
  refine lv_iinc (v := 15) (lv' := [(2, .int 15), (1, .int 0), (0, .ref h0)]) hx hb dX0_widenSpans_48 hl (k := 0) rfl (by decide) (by decide) rfl (fun ls hl => ?_)
  refine lv_goto (tgt := 4) hx hb dX0_widenSpans_51 (by decide) ?_
  refine lv_iload_n hx hb dX0_widenSpans_4 rfl (lv_at hl 0 rfl) ?_
  refine lv_bipush (v := 20) hx hb dX0_widenSpans_5 (by decide) ?_
  refine lv_icmp_ge (tgt := 54) hx hb dX0_widenSpans_7 (by decide) (fun h => absurd h (by decide +kernel)) (fun _ => ?_)
  refine lv_aload_n hx hb dX0_widenSpans_10 rfl (lv_at hl 2 rfl) ?_
  refine va_get (D := g.1) (ci := 0) (v := .ref h17) (C := RX0) (T := TX0) (N := 11) hx hb hts zl_X0 hown hK hP 0 rfl rfl 8 (by decide) (hts _ m_f_RX0_45) (fun _ h => h) rfl dX0_widenSpans_11 ?_
  refine lv_iload_n hx hb dX0_widenSpans_14 rfl (lv_at hl 0 rfl) ?_
  refine va_iald (D := g.1) hx hb hK hP 1 0 rfl rfl (vp_in_iff.mpr (by decide +kernel)) dX0_widenSpans_15 ?_
  refine lv_topi (nm_r (e' := 0) (by rfl) ?_)
  refine lv_if_ne (tgt := 30) hx hb dX0_widenSpans_16 (by decide) (fun h => absurd h (by decide +kernel)) (fun _ => ?_)
  refine lv_aload_n hx hb dX0_widenSpans_19 rfl (lv_at hl 2 rfl) ?_
  refine va_get (D := g.1) (ci := 0) (v := .ref h18) (C := RX0) (T := TX0) (N := 11) hx hb hts zl_X0 hown hK hP 0 rfl rfl 9 (by decide) (hts _ m_f_RX0_48) (fun _ h => h) rfl dX0_widenSpans_20 ?_
  refine lv_iload_n hx hb dX0_widenSpans_23 rfl (lv_at hl 0 rfl) ?_
  refine va_iald (D := g.1) hx hb hK hP 2 0 rfl rfl (vp_in_iff.mpr (by decide +kernel)) dX0_widenSpans_24 ?_
  refine lv_topi (nm_r (e' := 99) (by rfl) ?_)
  refine lv_bipush (v := 99) hx hb dX0_widenSpans_25 (by decide) ?_
  refine lv_icmp_eq (tgt := 33) hx hb dX0_widenSpans_27 (by decide) (fun _ => ?_) (fun h => absurd h (by decide +kernel))
  refine lv_aload_n hx hb dX0_widenSpans_33 rfl (lv_at hl 2 rfl) ?_
  refine va_get (D := g.1) (ci := 0) (v := .ref h17) (C := RX0) (T := TX0) (N := 11) hx hb hts zl_X0 hown hK hP 0 rfl rfl 8 (by decide) (hts _ m_f_RX0_45) (fun _ h => h) rfl dX0_widenSpans_34 ?_
  refine lv_iload_n hx hb dX0_widenSpans_37 rfl (lv_at hl 0 rfl) ?_
  refine lv_iconst (v := 0) hx hb dX0_widenSpans_38 (by decide) ?_
  refine va_iast (D := g.1) hx hb hK hP hD hS 1 0 rfl rfl (vp_in_iff.mpr (by decide +kernel)) dX0_widenSpans_39 (fun H locs hP hD hS => ?_)
  have hP : va_P g.1 vwCl [(h0, .inr (0, [.ref h11, .int 0, .ref h12, .int 0, .ref h13, .ref h14, .ref h15, .ref h16, .ref h17, .ref h18, .int 0])), (h17, .inl (zI g, 20, .inl (upd (fun _ => 0) 15 0))), (h18, .inl (zI g, 20, .inl (fun _ => 99)))] H := hP
  have hD : va_D A [(h0, .inr (0, [.ref h11, .int 0, .ref h12, .int 0, .ref h13, .ref h14, .ref h15, .ref h16, .ref h17, .ref h18, .int 0])), (h17, .inl (zI g, 20, .inl (upd (fun _ => 0) 15 0))), (h18, .inl (zI g, 20, .inl (fun _ => 99)))] := hD
  rw [zc_set] at hP hD
  refine lv_aload_n hx hb dX0_widenSpans_40 rfl (lv_at hl 2 rfl) ?_
  refine va_get (D := g.1) (ci := 0) (v := .ref h18) (C := RX0) (T := TX0) (N := 11) hx hb hts zl_X0 hown hK hP 0 rfl rfl 9 (by decide) (hts _ m_f_RX0_48) (fun _ h => h) rfl dX0_widenSpans_41 ?_
  refine lv_iload_n hx hb dX0_widenSpans_44 rfl (lv_at hl 0 rfl) ?_
  refine lv_bipush (v := 99) hx hb dX0_widenSpans_45 (by decide) ?_
  refine va_iast (D := g.1) hx hb hK hP hD hS 2 0 rfl rfl (vp_in_iff.mpr (by decide +kernel)) dX0_widenSpans_47 (fun H locs hP hD hS => ?_)
  have hP : va_P g.1 vwCl [(h0, .inr (0, [.ref h11, .int 0, .ref h12, .int 0, .ref h13, .ref h14, .ref h15, .ref h16, .ref h17, .ref h18, .int 0])), (h17, .inl (zI g, 20, .inl (fun _ => 0))), (h18, .inl (zI g, 20, .inl (upd (fun _ => 99) 15 99)))] H := hP
  have hD : va_D A [(h0, .inr (0, [.ref h11, .int 0, .ref h12, .int 0, .ref h13, .ref h14, .ref h15, .ref h16, .ref h17, .ref h18, .int 0])), (h17, .inl (zI g, 20, .inl (fun _ => 0))), (h18, .inl (zI g, 20, .inl (upd (fun _ => 99) 15 99)))] := hD
  rw [zc_set] at hP hD
  refine lv_iinc (v := 16) (lv' := [(2, .int 16), (1, .int 0), (0, .ref h0)]) hx hb dX0_widenSpans_48 hl (k := 0) rfl (by decide) (by decide) rfl (fun ls hl => ?_)
  refine lv_goto (tgt := 4) hx hb dX0_widenSpans_51 (by decide) ?_
  refine lv_iload_n hx hb dX0_widenSpans_4 rfl (lv_at hl 0 rfl) ?_
  refine lv_bipush (v := 20) hx hb dX0_widenSpans_5 (by decide) ?_
  refine lv_icmp_ge (tgt := 54) hx hb dX0_widenSpans_7 (by decide) (fun h => absurd h (by decide +kernel)) (fun _ => ?_)
  refine lv_aload_n hx hb dX0_widenSpans_10 rfl (lv_at hl 2 rfl) ?_
  refine va_get (D := g.1) (ci := 0) (v := .ref h17) (C := RX0) (T := TX0) (N := 11) hx hb hts zl_X0 hown hK hP 0 rfl rfl 8 (by decide) (hts _ m_f_RX0_45) (fun _ h => h) rfl dX0_widenSpans_11 ?_
  refine lv_iload_n hx hb dX0_widenSpans_14 rfl (lv_at hl 0 rfl) ?_
  refine va_iald (D := g.1) hx hb hK hP 1 0 rfl rfl (vp_in_iff.mpr (by decide +kernel)) dX0_widenSpans_15 ?_
  refine lv_topi (nm_r (e' := 0) (by rfl) ?_)
  refine lv_if_ne (tgt := 30) hx hb dX0_widenSpans_16 (by decide) (fun h => absurd h (by decide +kernel)) (fun _ => ?_)
  refine lv_aload_n hx hb dX0_widenSpans_19 rfl (lv_at hl 2 rfl) ?_
  refine va_get (D := g.1) (ci := 0) (v := .ref h18) (C := RX0) (T := TX0) (N := 11) hx hb hts zl_X0 hown hK hP 0 rfl rfl 9 (by decide) (hts _ m_f_RX0_48) (fun _ h => h) rfl dX0_widenSpans_20 ?_
  refine lv_iload_n hx hb dX0_widenSpans_23 rfl (lv_at hl 0 rfl) ?_
  refine va_iald (D := g.1) hx hb hK hP 2 0 rfl rfl (vp_in_iff.mpr (by decide +kernel)) dX0_widenSpans_24 ?_
  refine lv_topi (nm_r (e' := 99) (by rfl) ?_)
  refine lv_bipush (v := 99) hx hb dX0_widenSpans_25 (by decide) ?_
  refine lv_icmp_eq (tgt := 33) hx hb dX0_widenSpans_27 (by decide) (fun _ => ?_) (fun h => absurd h (by decide +kernel))
  refine lv_aload_n hx hb dX0_widenSpans_33 rfl (lv_at hl 2 rfl) ?_
  refine va_get (D := g.1) (ci := 0) (v := .ref h17) (C := RX0) (T := TX0) (N := 11) hx hb hts zl_X0 hown hK hP 0 rfl rfl 8 (by decide) (hts _ m_f_RX0_45) (fun _ h => h) rfl dX0_widenSpans_34 ?_
  refine lv_iload_n hx hb dX0_widenSpans_37 rfl (lv_at hl 0 rfl) ?_
  refine lv_iconst (v := 0) hx hb dX0_widenSpans_38 (by decide) ?_
  refine va_iast (D := g.1) hx hb hK hP hD hS 1 0 rfl rfl (vp_in_iff.mpr (by decide +kernel)) dX0_widenSpans_39 (fun H locs hP hD hS => ?_)
  have hP : va_P g.1 vwCl [(h0, .inr (0, [.ref h11, .int 0, .ref h12, .int 0, .ref h13, .ref h14, .ref h15, .ref h16, .ref h17, .ref h18, .int 0])), (h17, .inl (zI g, 20, .inl (upd (fun _ => 0) 16 0))), (h18, .inl (zI g, 20, .inl (fun _ => 99)))] H := hP
  have hD : va_D A [(h0, .inr (0, [.ref h11, .int 0, .ref h12, .int 0, .ref h13, .ref h14, .ref h15, .ref h16, .ref h17, .ref h18, .int 0])), (h17, .inl (zI g, 20, .inl (upd (fun _ => 0) 16 0))), (h18, .inl (zI g, 20, .inl (fun _ => 99)))] := hD
  rw [zc_set] at hP hD
  refine lv_aload_n hx hb dX0_widenSpans_40 rfl (lv_at hl 2 rfl) ?_
  refine va_get (D := g.1) (ci := 0) (v := .ref h18) (C := RX0) (T := TX0) (N := 11) hx hb hts zl_X0 hown hK hP 0 rfl rfl 9 (by decide) (hts _ m_f_RX0_48) (fun _ h => h) rfl dX0_widenSpans_41 ?_
  refine lv_iload_n hx hb dX0_widenSpans_44 rfl (lv_at hl 0 rfl) ?_
  refine lv_bipush (v := 99) hx hb dX0_widenSpans_45 (by decide) ?_
  refine va_iast (D := g.1) hx hb hK hP hD hS 2 0 rfl rfl (vp_in_iff.mpr (by decide +kernel)) dX0_widenSpans_47 (fun H locs hP hD hS => ?_)
  have hP : va_P g.1 vwCl [(h0, .inr (0, [.ref h11, .int 0, .ref h12, .int 0, .ref h13, .ref h14, .ref h15, .ref h16, .ref h17, .ref h18, .int 0])), (h17, .inl (zI g, 20, .inl (fun _ => 0))), (h18, .inl (zI g, 20, .inl (upd (fun _ => 99) 16 99)))] H := hP
  have hD : va_D A [(h0, .inr (0, [.ref h11, .int 0, .ref h12, .int 0, .ref h13, .ref h14, .ref h15, .ref h16, .ref h17, .ref h18, .int 0])), (h17, .inl (zI g, 20, .inl (fun _ => 0))), (h18, .inl (zI g, 20, .inl (upd (fun _ => 99) 16 99)))] := hD
  rw [zc_set] at hP hD
  refine lv_iinc (v := 17) (lv' := [(2, .int 17), (1, .int 0), (0, .ref h0)]) hx hb dX0_widenSpans_48 hl (k := 0) rfl (by decide) (by decide) rfl (fun ls hl => ?_)
  refine lv_goto (tgt := 4) hx hb dX0_widenSpans_51 (by decide) ?_
  refine lv_iload_n hx hb dX0_widenSpans_4 rfl (lv_at hl 0 rfl) ?_
  refine lv_bipush (v := 20) hx hb dX0_widenSpans_5 (by decide) ?_
  refine lv_icmp_ge (tgt := 54) hx hb dX0_widenSpans_7 (by decide) (fun h => absurd h (by decide +kernel)) (fun _ => ?_)
  refine lv_aload_n hx hb dX0_widenSpans_10 rfl (lv_at hl 2 rfl) ?_
  refine va_get (D := g.1) (ci := 0) (v := .ref h17) (C := RX0) (T := TX0) (N := 11) hx hb hts zl_X0 hown hK hP 0 rfl rfl 8 (by decide) (hts _ m_f_RX0_45) (fun _ h => h) rfl dX0_widenSpans_11 ?_
  refine lv_iload_n hx hb dX0_widenSpans_14 rfl (lv_at hl 0 rfl) ?_
  refine va_iald (D := g.1) hx hb hK hP 1 0 rfl rfl (vp_in_iff.mpr (by decide +kernel)) dX0_widenSpans_15 ?_
  refine lv_topi (nm_r (e' := 0) (by rfl) ?_)
  refine lv_if_ne (tgt := 30) hx hb dX0_widenSpans_16 (by decide) (fun h => absurd h (by decide +kernel)) (fun _ => ?_)
  refine lv_aload_n hx hb dX0_widenSpans_19 rfl (lv_at hl 2 rfl) ?_
  refine va_get (D := g.1) (ci := 0) (v := .ref h18) (C := RX0) (T := TX0) (N := 11) hx hb hts zl_X0 hown hK hP 0 rfl rfl 9 (by decide) (hts _ m_f_RX0_48) (fun _ h => h) rfl dX0_widenSpans_20 ?_
  refine lv_iload_n hx hb dX0_widenSpans_23 rfl (lv_at hl 0 rfl) ?_
  refine va_iald (D := g.1) hx hb hK hP 2 0 rfl rfl (vp_in_iff.mpr (by decide +kernel)) dX0_widenSpans_24 ?_
  refine lv_topi (nm_r (e' := 99) (by rfl) ?_)
  refine lv_bipush (v := 99) hx hb dX0_widenSpans_25 (by decide) ?_
  refine lv_icmp_eq (tgt := 33) hx hb dX0_widenSpans_27 (by decide) (fun _ => ?_) (fun h => absurd h (by decide +kernel))
  refine lv_aload_n hx hb dX0_widenSpans_33 rfl (lv_at hl 2 rfl) ?_
  refine va_get (D := g.1) (ci := 0) (v := .ref h17) (C := RX0) (T := TX0) (N := 11) hx hb hts zl_X0 hown hK hP 0 rfl rfl 8 (by decide) (hts _ m_f_RX0_45) (fun _ h => h) rfl dX0_widenSpans_34 ?_
  refine lv_iload_n hx hb dX0_widenSpans_37 rfl (lv_at hl 0 rfl) ?_
  refine lv_iconst (v := 0) hx hb dX0_widenSpans_38 (by decide) ?_
  refine va_iast (D := g.1) hx hb hK hP hD hS 1 0 rfl rfl (vp_in_iff.mpr (by decide +kernel)) dX0_widenSpans_39 (fun H locs hP hD hS => ?_)
  have hP : va_P g.1 vwCl [(h0, .inr (0, [.ref h11, .int 0, .ref h12, .int 0, .ref h13, .ref h14, .ref h15, .ref h16, .ref h17, .ref h18, .int 0])), (h17, .inl (zI g, 20, .inl (upd (fun _ => 0) 17 0))), (h18, .inl (zI g, 20, .inl (fun _ => 99)))] H := hP
  have hD : va_D A [(h0, .inr (0, [.ref h11, .int 0, .ref h12, .int 0, .ref h13, .ref h14, .ref h15, .ref h16, .ref h17, .ref h18, .int 0])), (h17, .inl (zI g, 20, .inl (upd (fun _ => 0) 17 0))), (h18, .inl (zI g, 20, .inl (fun _ => 99)))] := hD
  rw [zc_set] at hP hD
  refine lv_aload_n hx hb dX0_widenSpans_40 rfl (lv_at hl 2 rfl) ?_
  refine va_get (D := g.1) (ci := 0) (v := .ref h18) (C := RX0) (T := TX0) (N := 11) hx hb hts zl_X0 hown hK hP 0 rfl rfl 9 (by decide) (hts _ m_f_RX0_48) (fun _ h => h) rfl dX0_widenSpans_41 ?_
  refine lv_iload_n hx hb dX0_widenSpans_44 rfl (lv_at hl 0 rfl) ?_
  refine lv_bipush (v := 99) hx hb dX0_widenSpans_45 (by decide) ?_
  refine va_iast (D := g.1) hx hb hK hP hD hS 2 0 rfl rfl (vp_in_iff.mpr (by decide +kernel)) dX0_widenSpans_47 (fun H locs hP hD hS => ?_)
  have hP : va_P g.1 vwCl [(h0, .inr (0, [.ref h11, .int 0, .ref h12, .int 0, .ref h13, .ref h14, .ref h15, .ref h16, .ref h17, .ref h18, .int 0])), (h17, .inl (zI g, 20, .inl (fun _ => 0))), (h18, .inl (zI g, 20, .inl (upd (fun _ => 99) 17 99)))] H := hP
  have hD : va_D A [(h0, .inr (0, [.ref h11, .int 0, .ref h12, .int 0, .ref h13, .ref h14, .ref h15, .ref h16, .ref h17, .ref h18, .int 0])), (h17, .inl (zI g, 20, .inl (fun _ => 0))), (h18, .inl (zI g, 20, .inl (upd (fun _ => 99) 17 99)))] := hD
  rw [zc_set] at hP hD
  refine lv_iinc (v := 18) (lv' := [(2, .int 18), (1, .int 0), (0, .ref h0)]) hx hb dX0_widenSpans_48 hl (k := 0) rfl (by decide) (by decide) rfl (fun ls hl => ?_)
  refine lv_goto (tgt := 4) hx hb dX0_widenSpans_51 (by decide) ?_
  refine lv_iload_n hx hb dX0_widenSpans_4 rfl (lv_at hl 0 rfl) ?_
  refine lv_bipush (v := 20) hx hb dX0_widenSpans_5 (by decide) ?_
  refine lv_icmp_ge (tgt := 54) hx hb dX0_widenSpans_7 (by decide) (fun h => absurd h (by decide +kernel)) (fun _ => ?_)
  refine lv_aload_n hx hb dX0_widenSpans_10 rfl (lv_at hl 2 rfl) ?_
  refine va_get (D := g.1) (ci := 0) (v := .ref h17) (C := RX0) (T := TX0) (N := 11) hx hb hts zl_X0 hown hK hP 0 rfl rfl 8 (by decide) (hts _ m_f_RX0_45) (fun _ h => h) rfl dX0_widenSpans_11 ?_
  refine lv_iload_n hx hb dX0_widenSpans_14 rfl (lv_at hl 0 rfl) ?_
  refine va_iald (D := g.1) hx hb hK hP 1 0 rfl rfl (vp_in_iff.mpr (by decide +kernel)) dX0_widenSpans_15 ?_
  refine lv_topi (nm_r (e' := 0) (by rfl) ?_)
  refine lv_if_ne (tgt := 30) hx hb dX0_widenSpans_16 (by decide) (fun h => absurd h (by decide +kernel)) (fun _ => ?_)
  refine lv_aload_n hx hb dX0_widenSpans_19 rfl (lv_at hl 2 rfl) ?_
  refine va_get (D := g.1) (ci := 0) (v := .ref h18) (C := RX0) (T := TX0) (N := 11) hx hb hts zl_X0 hown hK hP 0 rfl rfl 9 (by decide) (hts _ m_f_RX0_48) (fun _ h => h) rfl dX0_widenSpans_20 ?_
  refine lv_iload_n hx hb dX0_widenSpans_23 rfl (lv_at hl 0 rfl) ?_
  refine va_iald (D := g.1) hx hb hK hP 2 0 rfl rfl (vp_in_iff.mpr (by decide +kernel)) dX0_widenSpans_24 ?_
  refine lv_topi (nm_r (e' := 99) (by rfl) ?_)
  refine lv_bipush (v := 99) hx hb dX0_widenSpans_25 (by decide) ?_
  refine lv_icmp_eq (tgt := 33) hx hb dX0_widenSpans_27 (by decide) (fun _ => ?_) (fun h => absurd h (by decide +kernel))
  refine lv_aload_n hx hb dX0_widenSpans_33 rfl (lv_at hl 2 rfl) ?_
  refine va_get (D := g.1) (ci := 0) (v := .ref h17) (C := RX0) (T := TX0) (N := 11) hx hb hts zl_X0 hown hK hP 0 rfl rfl 8 (by decide) (hts _ m_f_RX0_45) (fun _ h => h) rfl dX0_widenSpans_34 ?_
  refine lv_iload_n hx hb dX0_widenSpans_37 rfl (lv_at hl 0 rfl) ?_
  refine lv_iconst (v := 0) hx hb dX0_widenSpans_38 (by decide) ?_
  refine va_iast (D := g.1) hx hb hK hP hD hS 1 0 rfl rfl (vp_in_iff.mpr (by decide +kernel)) dX0_widenSpans_39 (fun H locs hP hD hS => ?_)
  have hP : va_P g.1 vwCl [(h0, .inr (0, [.ref h11, .int 0, .ref h12, .int 0, .ref h13, .ref h14, .ref h15, .ref h16, .ref h17, .ref h18, .int 0])), (h17, .inl (zI g, 20, .inl (upd (fun _ => 0) 18 0))), (h18, .inl (zI g, 20, .inl (fun _ => 99)))] H := hP
  have hD : va_D A [(h0, .inr (0, [.ref h11, .int 0, .ref h12, .int 0, .ref h13, .ref h14, .ref h15, .ref h16, .ref h17, .ref h18, .int 0])), (h17, .inl (zI g, 20, .inl (upd (fun _ => 0) 18 0))), (h18, .inl (zI g, 20, .inl (fun _ => 99)))] := hD
  rw [zc_set] at hP hD
  refine lv_aload_n hx hb dX0_widenSpans_40 rfl (lv_at hl 2 rfl) ?_
  refine va_get (D := g.1) (ci := 0) (v := .ref h18) (C := RX0) (T := TX0) (N := 11) hx hb hts zl_X0 hown hK hP 0 rfl rfl 9 (by decide) (hts _ m_f_RX0_48) (fun _ h => h) rfl dX0_widenSpans_41 ?_
  refine lv_iload_n hx hb dX0_widenSpans_44 rfl (lv_at hl 0 rfl) ?_
  refine lv_bipush (v := 99) hx hb dX0_widenSpans_45 (by decide) ?_
  refine va_iast (D := g.1) hx hb hK hP hD hS 2 0 rfl rfl (vp_in_iff.mpr (by decide +kernel)) dX0_widenSpans_47 (fun H locs hP hD hS => ?_)
  have hP : va_P g.1 vwCl [(h0, .inr (0, [.ref h11, .int 0, .ref h12, .int 0, .ref h13, .ref h14, .ref h15, .ref h16, .ref h17, .ref h18, .int 0])), (h17, .inl (zI g, 20, .inl (fun _ => 0))), (h18, .inl (zI g, 20, .inl (upd (fun _ => 99) 18 99)))] H := hP
  have hD : va_D A [(h0, .inr (0, [.ref h11, .int 0, .ref h12, .int 0, .ref h13, .ref h14, .ref h15, .ref h16, .ref h17, .ref h18, .int 0])), (h17, .inl (zI g, 20, .inl (fun _ => 0))), (h18, .inl (zI g, 20, .inl (upd (fun _ => 99) 18 99)))] := hD
  rw [zc_set] at hP hD
  refine lv_iinc (v := 19) (lv' := [(2, .int 19), (1, .int 0), (0, .ref h0)]) hx hb dX0_widenSpans_48 hl (k := 0) rfl (by decide) (by decide) rfl (fun ls hl => ?_)
  refine lv_goto (tgt := 4) hx hb dX0_widenSpans_51 (by decide) ?_
  refine lv_iload_n hx hb dX0_widenSpans_4 rfl (lv_at hl 0 rfl) ?_
  refine lv_bipush (v := 20) hx hb dX0_widenSpans_5 (by decide) ?_
  refine lv_icmp_ge (tgt := 54) hx hb dX0_widenSpans_7 (by decide) (fun h => absurd h (by decide +kernel)) (fun _ => ?_)
  refine lv_aload_n hx hb dX0_widenSpans_10 rfl (lv_at hl 2 rfl) ?_
  refine va_get (D := g.1) (ci := 0) (v := .ref h17) (C := RX0) (T := TX0) (N := 11) hx hb hts zl_X0 hown hK hP 0 rfl rfl 8 (by decide) (hts _ m_f_RX0_45) (fun _ h => h) rfl dX0_widenSpans_11 ?_
  refine lv_iload_n hx hb dX0_widenSpans_14 rfl (lv_at hl 0 rfl) ?_
  refine va_iald (D := g.1) hx hb hK hP 1 0 rfl rfl (vp_in_iff.mpr (by decide +kernel)) dX0_widenSpans_15 ?_
  refine lv_topi (nm_r (e' := 0) (by rfl) ?_)
  refine lv_if_ne (tgt := 30) hx hb dX0_widenSpans_16 (by decide) (fun h => absurd h (by decide +kernel)) (fun _ => ?_)
  refine lv_aload_n hx hb dX0_widenSpans_19 rfl (lv_at hl 2 rfl) ?_
  refine va_get (D := g.1) (ci := 0) (v := .ref h18) (C := RX0) (T := TX0) (N := 11) hx hb hts zl_X0 hown hK hP 0 rfl rfl 9 (by decide) (hts _ m_f_RX0_48) (fun _ h => h) rfl dX0_widenSpans_20 ?_
  refine lv_iload_n hx hb dX0_widenSpans_23 rfl (lv_at hl 0 rfl) ?_
  refine va_iald (D := g.1) hx hb hK hP 2 0 rfl rfl (vp_in_iff.mpr (by decide +kernel)) dX0_widenSpans_24 ?_
  refine lv_topi (nm_r (e' := 99) (by rfl) ?_)
  refine lv_bipush (v := 99) hx hb dX0_widenSpans_25 (by decide) ?_
  refine lv_icmp_eq (tgt := 33) hx hb dX0_widenSpans_27 (by decide) (fun _ => ?_) (fun h => absurd h (by decide +kernel))
  refine lv_aload_n hx hb dX0_widenSpans_33 rfl (lv_at hl 2 rfl) ?_
  refine va_get (D := g.1) (ci := 0) (v := .ref h17) (C := RX0) (T := TX0) (N := 11) hx hb hts zl_X0 hown hK hP 0 rfl rfl 8 (by decide) (hts _ m_f_RX0_45) (fun _ h => h) rfl dX0_widenSpans_34 ?_
  refine lv_iload_n hx hb dX0_widenSpans_37 rfl (lv_at hl 0 rfl) ?_
  refine lv_iconst (v := 0) hx hb dX0_widenSpans_38 (by decide) ?_
  refine va_iast (D := g.1) hx hb hK hP hD hS 1 0 rfl rfl (vp_in_iff.mpr (by decide +kernel)) dX0_widenSpans_39 (fun H locs hP hD hS => ?_)
  have hP : va_P g.1 vwCl [(h0, .inr (0, [.ref h11, .int 0, .ref h12, .int 0, .ref h13, .ref h14, .ref h15, .ref h16, .ref h17, .ref h18, .int 0])), (h17, .inl (zI g, 20, .inl (upd (fun _ => 0) 19 0))), (h18, .inl (zI g, 20, .inl (fun _ => 99)))] H := hP
  have hD : va_D A [(h0, .inr (0, [.ref h11, .int 0, .ref h12, .int 0, .ref h13, .ref h14, .ref h15, .ref h16, .ref h17, .ref h18, .int 0])), (h17, .inl (zI g, 20, .inl (upd (fun _ => 0) 19 0))), (h18, .inl (zI g, 20, .inl (fun _ => 99)))] := hD
  rw [zc_set] at hP hD
  refine lv_aload_n hx hb dX0_widenSpans_40 rfl (lv_at hl 2 rfl) ?_
  refine va_get (D := g.1) (ci := 0) (v := .ref h18) (C := RX0) (T := TX0) (N := 11) hx hb hts zl_X0 hown hK hP 0 rfl rfl 9 (by decide) (hts _ m_f_RX0_48) (fun _ h => h) rfl dX0_widenSpans_41 ?_
  refine lv_iload_n hx hb dX0_widenSpans_44 rfl (lv_at hl 0 rfl) ?_
  refine lv_bipush (v := 99) hx hb dX0_widenSpans_45 (by decide) ?_
  refine va_iast (D := g.1) hx hb hK hP hD hS 2 0 rfl rfl (vp_in_iff.mpr (by decide +kernel)) dX0_widenSpans_47 (fun H locs hP hD hS => ?_)
  have hP : va_P g.1 vwCl [(h0, .inr (0, [.ref h11, .int 0, .ref h12, .int 0, .ref h13, .ref h14, .ref h15, .ref h16, .ref h17, .ref h18, .int 0])), (h17, .inl (zI g, 20, .inl (fun _ => 0))), (h18, .inl (zI g, 20, .inl (upd (fun _ => 99) 19 99)))] H := hP
  have hD : va_D A [(h0, .inr (0, [.ref h11, .int 0, .ref h12, .int 0, .ref h13, .ref h14, .ref h15, .ref h16, .ref h17, .ref h18, .int 0])), (h17, .inl (zI g, 20, .inl (fun _ => 0))), (h18, .inl (zI g, 20, .inl (upd (fun _ => 99) 19 99)))] := hD
  rw [zc_set] at hP hD
  refine lv_iinc (v := 20) (lv' := [(2, .int 20), (1, .int 0), (0, .ref h0)]) hx hb dX0_widenSpans_48 hl (k := 0) rfl (by decide) (by decide) rfl (fun ls hl => ?_)
  refine lv_goto (tgt := 4) hx hb dX0_widenSpans_51 (by decide) ?_
  refine lv_iload_n hx hb dX0_widenSpans_4 rfl (lv_at hl 0 rfl) ?_
  refine lv_bipush (v := 20) hx hb dX0_widenSpans_5 (by decide) ?_
  refine lv_icmp_ge (tgt := 54) hx hb dX0_widenSpans_7 (by decide) (fun _ => ?_) (fun h => absurd h (by decide +kernel))
  refine lv_iload_n hx hb dX0_widenSpans_54 rfl (lv_at hl 1 rfl) ?_
  have hP9 := hP.sub (ws' := [(h0, .inr (0, [.ref h11, .int 0, .ref h12, .int 0, .ref h13, .ref h14, .ref h15, .ref h16, .ref h17, .ref h18, .int 0])), (h17, .inl (zI g, 20, .inl (fun _ => 0))), (h18, .inl (zI g, 20, .inl (fun _ => 99)))]) [0, 1, 2] rfl
  have hD9 := hD.sub (ws' := [(h0, .inr (0, [.ref h11, .int 0, .ref h12, .int 0, .ref h13, .ref h14, .ref h15, .ref h16, .ref h17, .ref h18, .int 0])), (h17, .inl (zI g, 20, .inl (fun _ => 0))), (h18, .inl (zI g, 20, .inl (fun _ => 99)))]) [0, 1, 2] (by decide) rfl
  exact W.iret (v := 0) hx hb hr (fun t ht hW => ⟨⟨0, 0, rfl, rfl, by rw [ht]; exact hP9, hD9⟩, hS.F ht⟩) hS.2.2 dX0_widenSpans_55
set_option maxHeartbeats 4000000 in
set_option maxRecDepth 100000 in
theorem kX0_widenSpans_2 (l : Launch) (g : zG) (h0 h11 h12 h13 h14 h15 h16 h17 h18 : Nat) (sz : Nat) : Met l yX0_widenSpans (.code yX0_widenSpans cX0_widenSpans 3 (some .int) :: zBig) ({ frames := 0, cells := 0, slots := 0, locals := 0 }) (va_Pc [.ref h0] (zPre g [(h0, .inr (0, [.ref h11, .int 0, .ref h12, .int 0, .ref h13, .ref h14, .ref h15, .ref h16, .ref h17, .ref h18, .int 0])), (h17, .inl (zI g, 20, .inl (fun _ => 0))), (h18, .inl (zI g, 20, .inl (fun _ => 99)))] sz)) (va_Qi (fun (r : Int32) (_ : Nat) => r = 0) (zPost g (fun _ : Nat => [(h0, .inr (0, [.ref h11, .int 0, .ref h12, .int 0, .ref h13, .ref h14, .ref h15, .ref h16, .ref h17, .ref h18, .int 0])), (h17, .inl (zI g, 20, .inl (fun _ => 0))), (h18, .inl (zI g, 20, .inl (fun _ => 99)))]) (va_A [(h0, .inr (0, [.ref h11, .int 0, .ref h12, .int 0, .ref h13, .ref h14, .ref h15, .ref h16, .ref h17, .ref h18, .int 0])), (h17, .inl (zI g, 20, .inl (fun _ => 0))), (h18, .inl (zI g, 20, .inl (fun _ => 99)))] sz)) (va_A [(h0, .inr (0, [.ref h11, .int 0, .ref h12, .int 0, .ref h13, .ref h14, .ref h15, .ref h16, .ref h17, .ref h18, .int 0])), (h17, .inl (zI g, 20, .inl (fun _ => 0))), (h18, .inl (zI g, 20, .inl (fun _ => 99)))] sz)) 0 0 (va_A [(h0, .inr (0, [.ref h11, .int 0, .ref h12, .int 0, .ref h13, .ref h14, .ref h15, .ref h16, .ref h17, .ref h18, .int 0])), (h17, .inl (zI g, 20, .inl (fun _ => 0))), (h18, .inl (zI g, 20, .inl (fun _ => 99)))] sz) := by
  refine zMetI rfl (Nat.le_of_ble_eq_true rfl) ?_
  intro p e s m args below meth c A ls hx hb hml hr hlocks hin hown hts hK hN hZ hP hD hA hS hAe hl
  have hown : s.vm.findClass RX0 = some m.cls := hown
  have hl : lv_has ls 3 [(0, .ref h0)] := hl
  refine lv_iconst (v := 0) hx hb dX0_widenSpans_0 (by decide) ?_
  refine lv_istore_n (lv' := [(1, .int 0), (0, .ref h0)]) hx hb dX0_widenSpans_1 rfl hl (by decide) rfl (fun ls hl => ?_)
  refine lv_iconst (v := 0) hx hb dX0_widenSpans_2 (by decide) ?_
  refine lv_istore_n (lv' := [(2, .int 0), (1, .int 0), (0, .ref h0)]) hx hb dX0_widenSpans_3 rfl hl (by decide) rfl (fun ls hl => ?_)
  refine lv_iload_n hx hb dX0_widenSpans_4 rfl (lv_at hl 0 rfl) ?_
  refine lv_bipush (v := 20) hx hb dX0_widenSpans_5 (by decide) ?_
  refine lv_icmp_ge (tgt := 54) hx hb dX0_widenSpans_7 (by decide) (fun h => absurd h (by decide +kernel)) (fun _ => ?_)
  refine lv_aload_n hx hb dX0_widenSpans_10 rfl (lv_at hl 2 rfl) ?_
  refine va_get (D := g.1) (ci := 0) (v := .ref h17) (C := RX0) (T := TX0) (N := 11) hx hb hts zl_X0 hown hK hP 0 rfl rfl 8 (by decide) (hts _ m_f_RX0_45) (fun _ h => h) rfl dX0_widenSpans_11 ?_
  refine lv_iload_n hx hb dX0_widenSpans_14 rfl (lv_at hl 0 rfl) ?_
  refine va_iald (D := g.1) hx hb hK hP 1 0 rfl rfl (vp_in_iff.mpr (by decide +kernel)) dX0_widenSpans_15 ?_
  refine lv_topi (nm_r (e' := 0) (by rfl) ?_)
  refine lv_if_ne (tgt := 30) hx hb dX0_widenSpans_16 (by decide) (fun h => absurd h (by decide +kernel)) (fun _ => ?_)
  refine lv_aload_n hx hb dX0_widenSpans_19 rfl (lv_at hl 2 rfl) ?_
  refine va_get (D := g.1) (ci := 0) (v := .ref h18) (C := RX0) (T := TX0) (N := 11) hx hb hts zl_X0 hown hK hP 0 rfl rfl 9 (by decide) (hts _ m_f_RX0_48) (fun _ h => h) rfl dX0_widenSpans_20 ?_
  refine lv_iload_n hx hb dX0_widenSpans_23 rfl (lv_at hl 0 rfl) ?_
  refine va_iald (D := g.1) hx hb hK hP 2 0 rfl rfl (vp_in_iff.mpr (by decide +kernel)) dX0_widenSpans_24 ?_
  refine lv_topi (nm_r (e' := 99) (by rfl) ?_)
  refine lv_bipush (v := 99) hx hb dX0_widenSpans_25 (by decide) ?_
  refine lv_icmp_eq (tgt := 33) hx hb dX0_widenSpans_27 (by decide) (fun _ => ?_) (fun h => absurd h (by decide +kernel))
  refine lv_aload_n hx hb dX0_widenSpans_33 rfl (lv_at hl 2 rfl) ?_
  refine va_get (D := g.1) (ci := 0) (v := .ref h17) (C := RX0) (T := TX0) (N := 11) hx hb hts zl_X0 hown hK hP 0 rfl rfl 8 (by decide) (hts _ m_f_RX0_45) (fun _ h => h) rfl dX0_widenSpans_34 ?_
  refine lv_iload_n hx hb dX0_widenSpans_37 rfl (lv_at hl 0 rfl) ?_
  refine lv_iconst (v := 0) hx hb dX0_widenSpans_38 (by decide) ?_
  refine va_iast (D := g.1) hx hb hK hP hD hS 1 0 rfl rfl (vp_in_iff.mpr (by decide +kernel)) dX0_widenSpans_39 (fun H locs hP hD hS => ?_)
  have hP : va_P g.1 vwCl [(h0, .inr (0, [.ref h11, .int 0, .ref h12, .int 0, .ref h13, .ref h14, .ref h15, .ref h16, .ref h17, .ref h18, .int 0])), (h17, .inl (zI g, 20, .inl (upd (fun _ => 0) 0 0))), (h18, .inl (zI g, 20, .inl (fun _ => 99)))] H := hP
  have hD : va_D A [(h0, .inr (0, [.ref h11, .int 0, .ref h12, .int 0, .ref h13, .ref h14, .ref h15, .ref h16, .ref h17, .ref h18, .int 0])), (h17, .inl (zI g, 20, .inl (upd (fun _ => 0) 0 0))), (h18, .inl (zI g, 20, .inl (fun _ => 99)))] := hD
  rw [zc_set] at hP hD
  refine lv_aload_n hx hb dX0_widenSpans_40 rfl (lv_at hl 2 rfl) ?_
  refine va_get (D := g.1) (ci := 0) (v := .ref h18) (C := RX0) (T := TX0) (N := 11) hx hb hts zl_X0 hown hK hP 0 rfl rfl 9 (by decide) (hts _ m_f_RX0_48) (fun _ h => h) rfl dX0_widenSpans_41 ?_
  refine lv_iload_n hx hb dX0_widenSpans_44 rfl (lv_at hl 0 rfl) ?_
  refine lv_bipush (v := 99) hx hb dX0_widenSpans_45 (by decide) ?_
  refine va_iast (D := g.1) hx hb hK hP hD hS 2 0 rfl rfl (vp_in_iff.mpr (by decide +kernel)) dX0_widenSpans_47 (fun H locs hP hD hS => ?_)
  have hP : va_P g.1 vwCl [(h0, .inr (0, [.ref h11, .int 0, .ref h12, .int 0, .ref h13, .ref h14, .ref h15, .ref h16, .ref h17, .ref h18, .int 0])), (h17, .inl (zI g, 20, .inl (fun _ => 0))), (h18, .inl (zI g, 20, .inl (upd (fun _ => 99) 0 99)))] H := hP
  have hD : va_D A [(h0, .inr (0, [.ref h11, .int 0, .ref h12, .int 0, .ref h13, .ref h14, .ref h15, .ref h16, .ref h17, .ref h18, .int 0])), (h17, .inl (zI g, 20, .inl (fun _ => 0))), (h18, .inl (zI g, 20, .inl (upd (fun _ => 99) 0 99)))] := hD
  rw [zc_set] at hP hD
  refine lv_iinc (v := 1) (lv' := [(2, .int 1), (1, .int 0), (0, .ref h0)]) hx hb dX0_widenSpans_48 hl (k := 0) rfl (by decide) (by decide) rfl (fun ls hl => ?_)
  refine lv_goto (tgt := 4) hx hb dX0_widenSpans_51 (by decide) ?_
  refine lv_iload_n hx hb dX0_widenSpans_4 rfl (lv_at hl 0 rfl) ?_
  refine lv_bipush (v := 20) hx hb dX0_widenSpans_5 (by decide) ?_
  refine lv_icmp_ge (tgt := 54) hx hb dX0_widenSpans_7 (by decide) (fun h => absurd h (by decide +kernel)) (fun _ => ?_)
  refine lv_aload_n hx hb dX0_widenSpans_10 rfl (lv_at hl 2 rfl) ?_
  refine va_get (D := g.1) (ci := 0) (v := .ref h17) (C := RX0) (T := TX0) (N := 11) hx hb hts zl_X0 hown hK hP 0 rfl rfl 8 (by decide) (hts _ m_f_RX0_45) (fun _ h => h) rfl dX0_widenSpans_11 ?_
  refine lv_iload_n hx hb dX0_widenSpans_14 rfl (lv_at hl 0 rfl) ?_
  refine va_iald (D := g.1) hx hb hK hP 1 0 rfl rfl (vp_in_iff.mpr (by decide +kernel)) dX0_widenSpans_15 ?_
  refine lv_topi (nm_r (e' := 0) (by rfl) ?_)
  refine lv_if_ne (tgt := 30) hx hb dX0_widenSpans_16 (by decide) (fun h => absurd h (by decide +kernel)) (fun _ => ?_)
  refine lv_aload_n hx hb dX0_widenSpans_19 rfl (lv_at hl 2 rfl) ?_
  refine va_get (D := g.1) (ci := 0) (v := .ref h18) (C := RX0) (T := TX0) (N := 11) hx hb hts zl_X0 hown hK hP 0 rfl rfl 9 (by decide) (hts _ m_f_RX0_48) (fun _ h => h) rfl dX0_widenSpans_20 ?_
  refine lv_iload_n hx hb dX0_widenSpans_23 rfl (lv_at hl 0 rfl) ?_
  refine va_iald (D := g.1) hx hb hK hP 2 0 rfl rfl (vp_in_iff.mpr (by decide +kernel)) dX0_widenSpans_24 ?_
  refine lv_topi (nm_r (e' := 99) (by rfl) ?_)
  refine lv_bipush (v := 99) hx hb dX0_widenSpans_25 (by decide) ?_
  refine lv_icmp_eq (tgt := 33) hx hb dX0_widenSpans_27 (by decide) (fun _ => ?_) (fun h => absurd h (by decide +kernel))
  refine lv_aload_n hx hb dX0_widenSpans_33 rfl (lv_at hl 2 rfl) ?_
  refine va_get (D := g.1) (ci := 0) (v := .ref h17) (C := RX0) (T := TX0) (N := 11) hx hb hts zl_X0 hown hK hP 0 rfl rfl 8 (by decide) (hts _ m_f_RX0_45) (fun _ h => h) rfl dX0_widenSpans_34 ?_
  refine lv_iload_n hx hb dX0_widenSpans_37 rfl (lv_at hl 0 rfl) ?_
  refine lv_iconst (v := 0) hx hb dX0_widenSpans_38 (by decide) ?_
  refine va_iast (D := g.1) hx hb hK hP hD hS 1 0 rfl rfl (vp_in_iff.mpr (by decide +kernel)) dX0_widenSpans_39 (fun H locs hP hD hS => ?_)
  have hP : va_P g.1 vwCl [(h0, .inr (0, [.ref h11, .int 0, .ref h12, .int 0, .ref h13, .ref h14, .ref h15, .ref h16, .ref h17, .ref h18, .int 0])), (h17, .inl (zI g, 20, .inl (upd (fun _ => 0) 1 0))), (h18, .inl (zI g, 20, .inl (fun _ => 99)))] H := hP
  have hD : va_D A [(h0, .inr (0, [.ref h11, .int 0, .ref h12, .int 0, .ref h13, .ref h14, .ref h15, .ref h16, .ref h17, .ref h18, .int 0])), (h17, .inl (zI g, 20, .inl (upd (fun _ => 0) 1 0))), (h18, .inl (zI g, 20, .inl (fun _ => 99)))] := hD
  rw [zc_set] at hP hD
  refine lv_aload_n hx hb dX0_widenSpans_40 rfl (lv_at hl 2 rfl) ?_
  refine va_get (D := g.1) (ci := 0) (v := .ref h18) (C := RX0) (T := TX0) (N := 11) hx hb hts zl_X0 hown hK hP 0 rfl rfl 9 (by decide) (hts _ m_f_RX0_48) (fun _ h => h) rfl dX0_widenSpans_41 ?_
  refine lv_iload_n hx hb dX0_widenSpans_44 rfl (lv_at hl 0 rfl) ?_
  refine lv_bipush (v := 99) hx hb dX0_widenSpans_45 (by decide) ?_
  refine va_iast (D := g.1) hx hb hK hP hD hS 2 0 rfl rfl (vp_in_iff.mpr (by decide +kernel)) dX0_widenSpans_47 (fun H locs hP hD hS => ?_)
  have hP : va_P g.1 vwCl [(h0, .inr (0, [.ref h11, .int 0, .ref h12, .int 0, .ref h13, .ref h14, .ref h15, .ref h16, .ref h17, .ref h18, .int 0])), (h17, .inl (zI g, 20, .inl (fun _ => 0))), (h18, .inl (zI g, 20, .inl (upd (fun _ => 99) 1 99)))] H := hP
  have hD : va_D A [(h0, .inr (0, [.ref h11, .int 0, .ref h12, .int 0, .ref h13, .ref h14, .ref h15, .ref h16, .ref h17, .ref h18, .int 0])), (h17, .inl (zI g, 20, .inl (fun _ => 0))), (h18, .inl (zI g, 20, .inl (upd (fun _ => 99) 1 99)))] := hD
  rw [zc_set] at hP hD
  refine lv_iinc (v := 2) (lv' := [(2, .int 2), (1, .int 0), (0, .ref h0)]) hx hb dX0_widenSpans_48 hl (k := 0) rfl (by decide) (by decide) rfl (fun ls hl => ?_)
  refine lv_goto (tgt := 4) hx hb dX0_widenSpans_51 (by decide) ?_
  refine lv_iload_n hx hb dX0_widenSpans_4 rfl (lv_at hl 0 rfl) ?_
  refine lv_bipush (v := 20) hx hb dX0_widenSpans_5 (by decide) ?_
  refine lv_icmp_ge (tgt := 54) hx hb dX0_widenSpans_7 (by decide) (fun h => absurd h (by decide +kernel)) (fun _ => ?_)
  refine lv_aload_n hx hb dX0_widenSpans_10 rfl (lv_at hl 2 rfl) ?_
  refine va_get (D := g.1) (ci := 0) (v := .ref h17) (C := RX0) (T := TX0) (N := 11) hx hb hts zl_X0 hown hK hP 0 rfl rfl 8 (by decide) (hts _ m_f_RX0_45) (fun _ h => h) rfl dX0_widenSpans_11 ?_
  refine lv_iload_n hx hb dX0_widenSpans_14 rfl (lv_at hl 0 rfl) ?_
  refine va_iald (D := g.1) hx hb hK hP 1 0 rfl rfl (vp_in_iff.mpr (by decide +kernel)) dX0_widenSpans_15 ?_
  refine lv_topi (nm_r (e' := 0) (by rfl) ?_)
  refine lv_if_ne (tgt := 30) hx hb dX0_widenSpans_16 (by decide) (fun h => absurd h (by decide +kernel)) (fun _ => ?_)
  refine lv_aload_n hx hb dX0_widenSpans_19 rfl (lv_at hl 2 rfl) ?_
  refine va_get (D := g.1) (ci := 0) (v := .ref h18) (C := RX0) (T := TX0) (N := 11) hx hb hts zl_X0 hown hK hP 0 rfl rfl 9 (by decide) (hts _ m_f_RX0_48) (fun _ h => h) rfl dX0_widenSpans_20 ?_
  refine lv_iload_n hx hb dX0_widenSpans_23 rfl (lv_at hl 0 rfl) ?_
  refine va_iald (D := g.1) hx hb hK hP 2 0 rfl rfl (vp_in_iff.mpr (by decide +kernel)) dX0_widenSpans_24 ?_
  refine lv_topi (nm_r (e' := 99) (by rfl) ?_)
  refine lv_bipush (v := 99) hx hb dX0_widenSpans_25 (by decide) ?_
  refine lv_icmp_eq (tgt := 33) hx hb dX0_widenSpans_27 (by decide) (fun _ => ?_) (fun h => absurd h (by decide +kernel))
  refine lv_aload_n hx hb dX0_widenSpans_33 rfl (lv_at hl 2 rfl) ?_
  refine va_get (D := g.1) (ci := 0) (v := .ref h17) (C := RX0) (T := TX0) (N := 11) hx hb hts zl_X0 hown hK hP 0 rfl rfl 8 (by decide) (hts _ m_f_RX0_45) (fun _ h => h) rfl dX0_widenSpans_34 ?_
  refine lv_iload_n hx hb dX0_widenSpans_37 rfl (lv_at hl 0 rfl) ?_
  refine lv_iconst (v := 0) hx hb dX0_widenSpans_38 (by decide) ?_
  refine va_iast (D := g.1) hx hb hK hP hD hS 1 0 rfl rfl (vp_in_iff.mpr (by decide +kernel)) dX0_widenSpans_39 (fun H locs hP hD hS => ?_)
  have hP : va_P g.1 vwCl [(h0, .inr (0, [.ref h11, .int 0, .ref h12, .int 0, .ref h13, .ref h14, .ref h15, .ref h16, .ref h17, .ref h18, .int 0])), (h17, .inl (zI g, 20, .inl (upd (fun _ => 0) 2 0))), (h18, .inl (zI g, 20, .inl (fun _ => 99)))] H := hP
  have hD : va_D A [(h0, .inr (0, [.ref h11, .int 0, .ref h12, .int 0, .ref h13, .ref h14, .ref h15, .ref h16, .ref h17, .ref h18, .int 0])), (h17, .inl (zI g, 20, .inl (upd (fun _ => 0) 2 0))), (h18, .inl (zI g, 20, .inl (fun _ => 99)))] := hD
  rw [zc_set] at hP hD
  refine lv_aload_n hx hb dX0_widenSpans_40 rfl (lv_at hl 2 rfl) ?_
  refine va_get (D := g.1) (ci := 0) (v := .ref h18) (C := RX0) (T := TX0) (N := 11) hx hb hts zl_X0 hown hK hP 0 rfl rfl 9 (by decide) (hts _ m_f_RX0_48) (fun _ h => h) rfl dX0_widenSpans_41 ?_
  refine lv_iload_n hx hb dX0_widenSpans_44 rfl (lv_at hl 0 rfl) ?_
  refine lv_bipush (v := 99) hx hb dX0_widenSpans_45 (by decide) ?_
  refine va_iast (D := g.1) hx hb hK hP hD hS 2 0 rfl rfl (vp_in_iff.mpr (by decide +kernel)) dX0_widenSpans_47 (fun H locs hP hD hS => ?_)
  have hP : va_P g.1 vwCl [(h0, .inr (0, [.ref h11, .int 0, .ref h12, .int 0, .ref h13, .ref h14, .ref h15, .ref h16, .ref h17, .ref h18, .int 0])), (h17, .inl (zI g, 20, .inl (fun _ => 0))), (h18, .inl (zI g, 20, .inl (upd (fun _ => 99) 2 99)))] H := hP
  have hD : va_D A [(h0, .inr (0, [.ref h11, .int 0, .ref h12, .int 0, .ref h13, .ref h14, .ref h15, .ref h16, .ref h17, .ref h18, .int 0])), (h17, .inl (zI g, 20, .inl (fun _ => 0))), (h18, .inl (zI g, 20, .inl (upd (fun _ => 99) 2 99)))] := hD
  rw [zc_set] at hP hD
  refine lv_iinc (v := 3) (lv' := [(2, .int 3), (1, .int 0), (0, .ref h0)]) hx hb dX0_widenSpans_48 hl (k := 0) rfl (by decide) (by decide) rfl (fun ls hl => ?_)
  refine lv_goto (tgt := 4) hx hb dX0_widenSpans_51 (by decide) ?_
  refine lv_iload_n hx hb dX0_widenSpans_4 rfl (lv_at hl 0 rfl) ?_
  refine lv_bipush (v := 20) hx hb dX0_widenSpans_5 (by decide) ?_
  refine lv_icmp_ge (tgt := 54) hx hb dX0_widenSpans_7 (by decide) (fun h => absurd h (by decide +kernel)) (fun _ => ?_)
  refine lv_aload_n hx hb dX0_widenSpans_10 rfl (lv_at hl 2 rfl) ?_
  refine va_get (D := g.1) (ci := 0) (v := .ref h17) (C := RX0) (T := TX0) (N := 11) hx hb hts zl_X0 hown hK hP 0 rfl rfl 8 (by decide) (hts _ m_f_RX0_45) (fun _ h => h) rfl dX0_widenSpans_11 ?_
  refine lv_iload_n hx hb dX0_widenSpans_14 rfl (lv_at hl 0 rfl) ?_
  refine va_iald (D := g.1) hx hb hK hP 1 0 rfl rfl (vp_in_iff.mpr (by decide +kernel)) dX0_widenSpans_15 ?_
  refine lv_topi (nm_r (e' := 0) (by rfl) ?_)
  refine lv_if_ne (tgt := 30) hx hb dX0_widenSpans_16 (by decide) (fun h => absurd h (by decide +kernel)) (fun _ => ?_)
  refine lv_aload_n hx hb dX0_widenSpans_19 rfl (lv_at hl 2 rfl) ?_
  refine va_get (D := g.1) (ci := 0) (v := .ref h18) (C := RX0) (T := TX0) (N := 11) hx hb hts zl_X0 hown hK hP 0 rfl rfl 9 (by decide) (hts _ m_f_RX0_48) (fun _ h => h) rfl dX0_widenSpans_20 ?_
  refine lv_iload_n hx hb dX0_widenSpans_23 rfl (lv_at hl 0 rfl) ?_
  refine va_iald (D := g.1) hx hb hK hP 2 0 rfl rfl (vp_in_iff.mpr (by decide +kernel)) dX0_widenSpans_24 ?_
  refine lv_topi (nm_r (e' := 99) (by rfl) ?_)
  refine lv_bipush (v := 99) hx hb dX0_widenSpans_25 (by decide) ?_
  refine lv_icmp_eq (tgt := 33) hx hb dX0_widenSpans_27 (by decide) (fun _ => ?_) (fun h => absurd h (by decide +kernel))
  refine lv_aload_n hx hb dX0_widenSpans_33 rfl (lv_at hl 2 rfl) ?_
  refine va_get (D := g.1) (ci := 0) (v := .ref h17) (C := RX0) (T := TX0) (N := 11) hx hb hts zl_X0 hown hK hP 0 rfl rfl 8 (by decide) (hts _ m_f_RX0_45) (fun _ h => h) rfl dX0_widenSpans_34 ?_
  refine lv_iload_n hx hb dX0_widenSpans_37 rfl (lv_at hl 0 rfl) ?_
  refine lv_iconst (v := 0) hx hb dX0_widenSpans_38 (by decide) ?_
  refine va_iast (D := g.1) hx hb hK hP hD hS 1 0 rfl rfl (vp_in_iff.mpr (by decide +kernel)) dX0_widenSpans_39 (fun H locs hP hD hS => ?_)
  have hP : va_P g.1 vwCl [(h0, .inr (0, [.ref h11, .int 0, .ref h12, .int 0, .ref h13, .ref h14, .ref h15, .ref h16, .ref h17, .ref h18, .int 0])), (h17, .inl (zI g, 20, .inl (upd (fun _ => 0) 3 0))), (h18, .inl (zI g, 20, .inl (fun _ => 99)))] H := hP
  have hD : va_D A [(h0, .inr (0, [.ref h11, .int 0, .ref h12, .int 0, .ref h13, .ref h14, .ref h15, .ref h16, .ref h17, .ref h18, .int 0])), (h17, .inl (zI g, 20, .inl (upd (fun _ => 0) 3 0))), (h18, .inl (zI g, 20, .inl (fun _ => 99)))] := hD
  rw [zc_set] at hP hD
  refine lv_aload_n hx hb dX0_widenSpans_40 rfl (lv_at hl 2 rfl) ?_
  refine va_get (D := g.1) (ci := 0) (v := .ref h18) (C := RX0) (T := TX0) (N := 11) hx hb hts zl_X0 hown hK hP 0 rfl rfl 9 (by decide) (hts _ m_f_RX0_48) (fun _ h => h) rfl dX0_widenSpans_41 ?_
  refine lv_iload_n hx hb dX0_widenSpans_44 rfl (lv_at hl 0 rfl) ?_
  refine lv_bipush (v := 99) hx hb dX0_widenSpans_45 (by decide) ?_
  refine va_iast (D := g.1) hx hb hK hP hD hS 2 0 rfl rfl (vp_in_iff.mpr (by decide +kernel)) dX0_widenSpans_47 (fun H locs hP hD hS => ?_)
  have hP : va_P g.1 vwCl [(h0, .inr (0, [.ref h11, .int 0, .ref h12, .int 0, .ref h13, .ref h14, .ref h15, .ref h16, .ref h17, .ref h18, .int 0])), (h17, .inl (zI g, 20, .inl (fun _ => 0))), (h18, .inl (zI g, 20, .inl (upd (fun _ => 99) 3 99)))] H := hP
  have hD : va_D A [(h0, .inr (0, [.ref h11, .int 0, .ref h12, .int 0, .ref h13, .ref h14, .ref h15, .ref h16, .ref h17, .ref h18, .int 0])), (h17, .inl (zI g, 20, .inl (fun _ => 0))), (h18, .inl (zI g, 20, .inl (upd (fun _ => 99) 3 99)))] := hD
  rw [zc_set] at hP hD
  refine lv_iinc (v := 4) (lv' := [(2, .int 4), (1, .int 0), (0, .ref h0)]) hx hb dX0_widenSpans_48 hl (k := 0) rfl (by decide) (by decide) rfl (fun ls hl => ?_)
  refine lv_goto (tgt := 4) hx hb dX0_widenSpans_51 (by decide) ?_
  refine lv_iload_n hx hb dX0_widenSpans_4 rfl (lv_at hl 0 rfl) ?_
  refine lv_bipush (v := 20) hx hb dX0_widenSpans_5 (by decide) ?_
  refine lv_icmp_ge (tgt := 54) hx hb dX0_widenSpans_7 (by decide) (fun h => absurd h (by decide +kernel)) (fun _ => ?_)
  refine lv_aload_n hx hb dX0_widenSpans_10 rfl (lv_at hl 2 rfl) ?_
  refine va_get (D := g.1) (ci := 0) (v := .ref h17) (C := RX0) (T := TX0) (N := 11) hx hb hts zl_X0 hown hK hP 0 rfl rfl 8 (by decide) (hts _ m_f_RX0_45) (fun _ h => h) rfl dX0_widenSpans_11 ?_
  refine lv_iload_n hx hb dX0_widenSpans_14 rfl (lv_at hl 0 rfl) ?_
  refine va_iald (D := g.1) hx hb hK hP 1 0 rfl rfl (vp_in_iff.mpr (by decide +kernel)) dX0_widenSpans_15 ?_
  refine lv_topi (nm_r (e' := 0) (by rfl) ?_)
  refine lv_if_ne (tgt := 30) hx hb dX0_widenSpans_16 (by decide) (fun h => absurd h (by decide +kernel)) (fun _ => ?_)
  refine lv_aload_n hx hb dX0_widenSpans_19 rfl (lv_at hl 2 rfl) ?_
  refine va_get (D := g.1) (ci := 0) (v := .ref h18) (C := RX0) (T := TX0) (N := 11) hx hb hts zl_X0 hown hK hP 0 rfl rfl 9 (by decide) (hts _ m_f_RX0_48) (fun _ h => h) rfl dX0_widenSpans_20 ?_
  refine lv_iload_n hx hb dX0_widenSpans_23 rfl (lv_at hl 0 rfl) ?_
  refine va_iald (D := g.1) hx hb hK hP 2 0 rfl rfl (vp_in_iff.mpr (by decide +kernel)) dX0_widenSpans_24 ?_
  refine lv_topi (nm_r (e' := 99) (by rfl) ?_)
  refine lv_bipush (v := 99) hx hb dX0_widenSpans_25 (by decide) ?_
  refine lv_icmp_eq (tgt := 33) hx hb dX0_widenSpans_27 (by decide) (fun _ => ?_) (fun h => absurd h (by decide +kernel))
  refine lv_aload_n hx hb dX0_widenSpans_33 rfl (lv_at hl 2 rfl) ?_
  refine va_get (D := g.1) (ci := 0) (v := .ref h17) (C := RX0) (T := TX0) (N := 11) hx hb hts zl_X0 hown hK hP 0 rfl rfl 8 (by decide) (hts _ m_f_RX0_45) (fun _ h => h) rfl dX0_widenSpans_34 ?_
  refine lv_iload_n hx hb dX0_widenSpans_37 rfl (lv_at hl 0 rfl) ?_
  refine lv_iconst (v := 0) hx hb dX0_widenSpans_38 (by decide) ?_
  refine va_iast (D := g.1) hx hb hK hP hD hS 1 0 rfl rfl (vp_in_iff.mpr (by decide +kernel)) dX0_widenSpans_39 (fun H locs hP hD hS => ?_)
  have hP : va_P g.1 vwCl [(h0, .inr (0, [.ref h11, .int 0, .ref h12, .int 0, .ref h13, .ref h14, .ref h15, .ref h16, .ref h17, .ref h18, .int 0])), (h17, .inl (zI g, 20, .inl (upd (fun _ => 0) 4 0))), (h18, .inl (zI g, 20, .inl (fun _ => 99)))] H := hP
  have hD : va_D A [(h0, .inr (0, [.ref h11, .int 0, .ref h12, .int 0, .ref h13, .ref h14, .ref h15, .ref h16, .ref h17, .ref h18, .int 0])), (h17, .inl (zI g, 20, .inl (upd (fun _ => 0) 4 0))), (h18, .inl (zI g, 20, .inl (fun _ => 99)))] := hD
  rw [zc_set] at hP hD
  refine lv_aload_n hx hb dX0_widenSpans_40 rfl (lv_at hl 2 rfl) ?_
  refine va_get (D := g.1) (ci := 0) (v := .ref h18) (C := RX0) (T := TX0) (N := 11) hx hb hts zl_X0 hown hK hP 0 rfl rfl 9 (by decide) (hts _ m_f_RX0_48) (fun _ h => h) rfl dX0_widenSpans_41 ?_
  refine lv_iload_n hx hb dX0_widenSpans_44 rfl (lv_at hl 0 rfl) ?_
  refine lv_bipush (v := 99) hx hb dX0_widenSpans_45 (by decide) ?_
  refine va_iast (D := g.1) hx hb hK hP hD hS 2 0 rfl rfl (vp_in_iff.mpr (by decide +kernel)) dX0_widenSpans_47 (fun H locs hP hD hS => ?_)
  have hP : va_P g.1 vwCl [(h0, .inr (0, [.ref h11, .int 0, .ref h12, .int 0, .ref h13, .ref h14, .ref h15, .ref h16, .ref h17, .ref h18, .int 0])), (h17, .inl (zI g, 20, .inl (fun _ => 0))), (h18, .inl (zI g, 20, .inl (upd (fun _ => 99) 4 99)))] H := hP
  have hD : va_D A [(h0, .inr (0, [.ref h11, .int 0, .ref h12, .int 0, .ref h13, .ref h14, .ref h15, .ref h16, .ref h17, .ref h18, .int 0])), (h17, .inl (zI g, 20, .inl (fun _ => 0))), (h18, .inl (zI g, 20, .inl (upd (fun _ => 99) 4 99)))] := hD
  rw [zc_set] at hP hD
  refine lv_iinc (v := 5) (lv' := [(2, .int 5), (1, .int 0), (0, .ref h0)]) hx hb dX0_widenSpans_48 hl (k := 0) rfl (by decide) (by decide) rfl (fun ls hl => ?_)
  refine lv_goto (tgt := 4) hx hb dX0_widenSpans_51 (by decide) ?_
  refine lv_iload_n hx hb dX0_widenSpans_4 rfl (lv_at hl 0 rfl) ?_
  refine lv_bipush (v := 20) hx hb dX0_widenSpans_5 (by decide) ?_
  refine lv_icmp_ge (tgt := 54) hx hb dX0_widenSpans_7 (by decide) (fun h => absurd h (by decide +kernel)) (fun _ => ?_)
  refine lv_aload_n hx hb dX0_widenSpans_10 rfl (lv_at hl 2 rfl) ?_
  refine va_get (D := g.1) (ci := 0) (v := .ref h17) (C := RX0) (T := TX0) (N := 11) hx hb hts zl_X0 hown hK hP 0 rfl rfl 8 (by decide) (hts _ m_f_RX0_45) (fun _ h => h) rfl dX0_widenSpans_11 ?_
  refine lv_iload_n hx hb dX0_widenSpans_14 rfl (lv_at hl 0 rfl) ?_
  refine va_iald (D := g.1) hx hb hK hP 1 0 rfl rfl (vp_in_iff.mpr (by decide +kernel)) dX0_widenSpans_15 ?_
  refine lv_topi (nm_r (e' := 0) (by rfl) ?_)
  refine lv_if_ne (tgt := 30) hx hb dX0_widenSpans_16 (by decide) (fun h => absurd h (by decide +kernel)) (fun _ => ?_)
  refine lv_aload_n hx hb dX0_widenSpans_19 rfl (lv_at hl 2 rfl) ?_
  refine va_get (D := g.1) (ci := 0) (v := .ref h18) (C := RX0) (T := TX0) (N := 11) hx hb hts zl_X0 hown hK hP 0 rfl rfl 9 (by decide) (hts _ m_f_RX0_48) (fun _ h => h) rfl dX0_widenSpans_20 ?_
  refine lv_iload_n hx hb dX0_widenSpans_23 rfl (lv_at hl 0 rfl) ?_
  refine va_iald (D := g.1) hx hb hK hP 2 0 rfl rfl (vp_in_iff.mpr (by decide +kernel)) dX0_widenSpans_24 ?_
  refine lv_topi (nm_r (e' := 99) (by rfl) ?_)
  refine lv_bipush (v := 99) hx hb dX0_widenSpans_25 (by decide) ?_
  refine lv_icmp_eq (tgt := 33) hx hb dX0_widenSpans_27 (by decide) (fun _ => ?_) (fun h => absurd h (by decide +kernel))
  refine lv_aload_n hx hb dX0_widenSpans_33 rfl (lv_at hl 2 rfl) ?_
  refine va_get (D := g.1) (ci := 0) (v := .ref h17) (C := RX0) (T := TX0) (N := 11) hx hb hts zl_X0 hown hK hP 0 rfl rfl 8 (by decide) (hts _ m_f_RX0_45) (fun _ h => h) rfl dX0_widenSpans_34 ?_
  refine lv_iload_n hx hb dX0_widenSpans_37 rfl (lv_at hl 0 rfl) ?_
  refine lv_iconst (v := 0) hx hb dX0_widenSpans_38 (by decide) ?_
  refine va_iast (D := g.1) hx hb hK hP hD hS 1 0 rfl rfl (vp_in_iff.mpr (by decide +kernel)) dX0_widenSpans_39 (fun H locs hP hD hS => ?_)
  have hP : va_P g.1 vwCl [(h0, .inr (0, [.ref h11, .int 0, .ref h12, .int 0, .ref h13, .ref h14, .ref h15, .ref h16, .ref h17, .ref h18, .int 0])), (h17, .inl (zI g, 20, .inl (upd (fun _ => 0) 5 0))), (h18, .inl (zI g, 20, .inl (fun _ => 99)))] H := hP
  have hD : va_D A [(h0, .inr (0, [.ref h11, .int 0, .ref h12, .int 0, .ref h13, .ref h14, .ref h15, .ref h16, .ref h17, .ref h18, .int 0])), (h17, .inl (zI g, 20, .inl (upd (fun _ => 0) 5 0))), (h18, .inl (zI g, 20, .inl (fun _ => 99)))] := hD
  rw [zc_set] at hP hD
  refine lv_aload_n hx hb dX0_widenSpans_40 rfl (lv_at hl 2 rfl) ?_
  refine va_get (D := g.1) (ci := 0) (v := .ref h18) (C := RX0) (T := TX0) (N := 11) hx hb hts zl_X0 hown hK hP 0 rfl rfl 9 (by decide) (hts _ m_f_RX0_48) (fun _ h => h) rfl dX0_widenSpans_41 ?_
  refine lv_iload_n hx hb dX0_widenSpans_44 rfl (lv_at hl 0 rfl) ?_
  refine lv_bipush (v := 99) hx hb dX0_widenSpans_45 (by decide) ?_
  refine va_iast (D := g.1) hx hb hK hP hD hS 2 0 rfl rfl (vp_in_iff.mpr (by decide +kernel)) dX0_widenSpans_47 (fun H locs hP hD hS => ?_)
  have hP : va_P g.1 vwCl [(h0, .inr (0, [.ref h11, .int 0, .ref h12, .int 0, .ref h13, .ref h14, .ref h15, .ref h16, .ref h17, .ref h18, .int 0])), (h17, .inl (zI g, 20, .inl (fun _ => 0))), (h18, .inl (zI g, 20, .inl (upd (fun _ => 99) 5 99)))] H := hP
  have hD : va_D A [(h0, .inr (0, [.ref h11, .int 0, .ref h12, .int 0, .ref h13, .ref h14, .ref h15, .ref h16, .ref h17, .ref h18, .int 0])), (h17, .inl (zI g, 20, .inl (fun _ => 0))), (h18, .inl (zI g, 20, .inl (upd (fun _ => 99) 5 99)))] := hD
  rw [zc_set] at hP hD
  refine lv_iinc (v := 6) (lv' := [(2, .int 6), (1, .int 0), (0, .ref h0)]) hx hb dX0_widenSpans_48 hl (k := 0) rfl (by decide) (by decide) rfl (fun ls hl => ?_)
  refine lv_goto (tgt := 4) hx hb dX0_widenSpans_51 (by decide) ?_
  refine lv_iload_n hx hb dX0_widenSpans_4 rfl (lv_at hl 0 rfl) ?_
  refine lv_bipush (v := 20) hx hb dX0_widenSpans_5 (by decide) ?_
  refine lv_icmp_ge (tgt := 54) hx hb dX0_widenSpans_7 (by decide) (fun h => absurd h (by decide +kernel)) (fun _ => ?_)
  refine lv_aload_n hx hb dX0_widenSpans_10 rfl (lv_at hl 2 rfl) ?_
  refine va_get (D := g.1) (ci := 0) (v := .ref h17) (C := RX0) (T := TX0) (N := 11) hx hb hts zl_X0 hown hK hP 0 rfl rfl 8 (by decide) (hts _ m_f_RX0_45) (fun _ h => h) rfl dX0_widenSpans_11 ?_
  refine lv_iload_n hx hb dX0_widenSpans_14 rfl (lv_at hl 0 rfl) ?_
  refine va_iald (D := g.1) hx hb hK hP 1 0 rfl rfl (vp_in_iff.mpr (by decide +kernel)) dX0_widenSpans_15 ?_
  refine lv_topi (nm_r (e' := 0) (by rfl) ?_)
  refine lv_if_ne (tgt := 30) hx hb dX0_widenSpans_16 (by decide) (fun h => absurd h (by decide +kernel)) (fun _ => ?_)
  refine lv_aload_n hx hb dX0_widenSpans_19 rfl (lv_at hl 2 rfl) ?_
  refine va_get (D := g.1) (ci := 0) (v := .ref h18) (C := RX0) (T := TX0) (N := 11) hx hb hts zl_X0 hown hK hP 0 rfl rfl 9 (by decide) (hts _ m_f_RX0_48) (fun _ h => h) rfl dX0_widenSpans_20 ?_
  refine lv_iload_n hx hb dX0_widenSpans_23 rfl (lv_at hl 0 rfl) ?_
  refine va_iald (D := g.1) hx hb hK hP 2 0 rfl rfl (vp_in_iff.mpr (by decide +kernel)) dX0_widenSpans_24 ?_
  refine lv_topi (nm_r (e' := 99) (by rfl) ?_)
  refine lv_bipush (v := 99) hx hb dX0_widenSpans_25 (by decide) ?_
  refine lv_icmp_eq (tgt := 33) hx hb dX0_widenSpans_27 (by decide) (fun _ => ?_) (fun h => absurd h (by decide +kernel))
  refine lv_aload_n hx hb dX0_widenSpans_33 rfl (lv_at hl 2 rfl) ?_
  refine va_get (D := g.1) (ci := 0) (v := .ref h17) (C := RX0) (T := TX0) (N := 11) hx hb hts zl_X0 hown hK hP 0 rfl rfl 8 (by decide) (hts _ m_f_RX0_45) (fun _ h => h) rfl dX0_widenSpans_34 ?_
  refine lv_iload_n hx hb dX0_widenSpans_37 rfl (lv_at hl 0 rfl) ?_
  refine lv_iconst (v := 0) hx hb dX0_widenSpans_38 (by decide) ?_
  refine va_iast (D := g.1) hx hb hK hP hD hS 1 0 rfl rfl (vp_in_iff.mpr (by decide +kernel)) dX0_widenSpans_39 (fun H locs hP hD hS => ?_)
  have hP : va_P g.1 vwCl [(h0, .inr (0, [.ref h11, .int 0, .ref h12, .int 0, .ref h13, .ref h14, .ref h15, .ref h16, .ref h17, .ref h18, .int 0])), (h17, .inl (zI g, 20, .inl (upd (fun _ => 0) 6 0))), (h18, .inl (zI g, 20, .inl (fun _ => 99)))] H := hP
  have hD : va_D A [(h0, .inr (0, [.ref h11, .int 0, .ref h12, .int 0, .ref h13, .ref h14, .ref h15, .ref h16, .ref h17, .ref h18, .int 0])), (h17, .inl (zI g, 20, .inl (upd (fun _ => 0) 6 0))), (h18, .inl (zI g, 20, .inl (fun _ => 99)))] := hD
  rw [zc_set] at hP hD
  refine lv_aload_n hx hb dX0_widenSpans_40 rfl (lv_at hl 2 rfl) ?_
  refine va_get (D := g.1) (ci := 0) (v := .ref h18) (C := RX0) (T := TX0) (N := 11) hx hb hts zl_X0 hown hK hP 0 rfl rfl 9 (by decide) (hts _ m_f_RX0_48) (fun _ h => h) rfl dX0_widenSpans_41 ?_
  refine lv_iload_n hx hb dX0_widenSpans_44 rfl (lv_at hl 0 rfl) ?_
  refine lv_bipush (v := 99) hx hb dX0_widenSpans_45 (by decide) ?_
  refine va_iast (D := g.1) hx hb hK hP hD hS 2 0 rfl rfl (vp_in_iff.mpr (by decide +kernel)) dX0_widenSpans_47 (fun H locs hP hD hS => ?_)
  have hP : va_P g.1 vwCl [(h0, .inr (0, [.ref h11, .int 0, .ref h12, .int 0, .ref h13, .ref h14, .ref h15, .ref h16, .ref h17, .ref h18, .int 0])), (h17, .inl (zI g, 20, .inl (fun _ => 0))), (h18, .inl (zI g, 20, .inl (upd (fun _ => 99) 6 99)))] H := hP
  have hD : va_D A [(h0, .inr (0, [.ref h11, .int 0, .ref h12, .int 0, .ref h13, .ref h14, .ref h15, .ref h16, .ref h17, .ref h18, .int 0])), (h17, .inl (zI g, 20, .inl (fun _ => 0))), (h18, .inl (zI g, 20, .inl (upd (fun _ => 99) 6 99)))] := hD
  rw [zc_set] at hP hD
  refine lv_iinc (v := 7) (lv' := [(2, .int 7), (1, .int 0), (0, .ref h0)]) hx hb dX0_widenSpans_48 hl (k := 0) rfl (by decide) (by decide) rfl (fun ls hl => ?_)
  refine lv_goto (tgt := 4) hx hb dX0_widenSpans_51 (by decide) ?_
  refine lv_iload_n hx hb dX0_widenSpans_4 rfl (lv_at hl 0 rfl) ?_
  refine lv_bipush (v := 20) hx hb dX0_widenSpans_5 (by decide) ?_
  refine lv_icmp_ge (tgt := 54) hx hb dX0_widenSpans_7 (by decide) (fun h => absurd h (by decide +kernel)) (fun _ => ?_)
  refine lv_aload_n hx hb dX0_widenSpans_10 rfl (lv_at hl 2 rfl) ?_
  refine va_get (D := g.1) (ci := 0) (v := .ref h17) (C := RX0) (T := TX0) (N := 11) hx hb hts zl_X0 hown hK hP 0 rfl rfl 8 (by decide) (hts _ m_f_RX0_45) (fun _ h => h) rfl dX0_widenSpans_11 ?_
  refine lv_iload_n hx hb dX0_widenSpans_14 rfl (lv_at hl 0 rfl) ?_
  refine va_iald (D := g.1) hx hb hK hP 1 0 rfl rfl (vp_in_iff.mpr (by decide +kernel)) dX0_widenSpans_15 ?_
  refine lv_topi (nm_r (e' := 0) (by rfl) ?_)
  refine lv_if_ne (tgt := 30) hx hb dX0_widenSpans_16 (by decide) (fun h => absurd h (by decide +kernel)) (fun _ => ?_)
  refine lv_aload_n hx hb dX0_widenSpans_19 rfl (lv_at hl 2 rfl) ?_
  refine va_get (D := g.1) (ci := 0) (v := .ref h18) (C := RX0) (T := TX0) (N := 11) hx hb hts zl_X0 hown hK hP 0 rfl rfl 9 (by decide) (hts _ m_f_RX0_48) (fun _ h => h) rfl dX0_widenSpans_20 ?_
  refine lv_iload_n hx hb dX0_widenSpans_23 rfl (lv_at hl 0 rfl) ?_
  refine va_iald (D := g.1) hx hb hK hP 2 0 rfl rfl (vp_in_iff.mpr (by decide +kernel)) dX0_widenSpans_24 ?_
  refine lv_topi (nm_r (e' := 99) (by rfl) ?_)
  refine lv_bipush (v := 99) hx hb dX0_widenSpans_25 (by decide) ?_
  refine lv_icmp_eq (tgt := 33) hx hb dX0_widenSpans_27 (by decide) (fun _ => ?_) (fun h => absurd h (by decide +kernel))
  refine lv_aload_n hx hb dX0_widenSpans_33 rfl (lv_at hl 2 rfl) ?_
  refine va_get (D := g.1) (ci := 0) (v := .ref h17) (C := RX0) (T := TX0) (N := 11) hx hb hts zl_X0 hown hK hP 0 rfl rfl 8 (by decide) (hts _ m_f_RX0_45) (fun _ h => h) rfl dX0_widenSpans_34 ?_
  refine lv_iload_n hx hb dX0_widenSpans_37 rfl (lv_at hl 0 rfl) ?_
  refine lv_iconst (v := 0) hx hb dX0_widenSpans_38 (by decide) ?_
  refine va_iast (D := g.1) hx hb hK hP hD hS 1 0 rfl rfl (vp_in_iff.mpr (by decide +kernel)) dX0_widenSpans_39 (fun H locs hP hD hS => ?_)
  have hP : va_P g.1 vwCl [(h0, .inr (0, [.ref h11, .int 0, .ref h12, .int 0, .ref h13, .ref h14, .ref h15, .ref h16, .ref h17, .ref h18, .int 0])), (h17, .inl (zI g, 20, .inl (upd (fun _ => 0) 7 0))), (h18, .inl (zI g, 20, .inl (fun _ => 99)))] H := hP
  have hD : va_D A [(h0, .inr (0, [.ref h11, .int 0, .ref h12, .int 0, .ref h13, .ref h14, .ref h15, .ref h16, .ref h17, .ref h18, .int 0])), (h17, .inl (zI g, 20, .inl (upd (fun _ => 0) 7 0))), (h18, .inl (zI g, 20, .inl (fun _ => 99)))] := hD
  rw [zc_set] at hP hD
  refine lv_aload_n hx hb dX0_widenSpans_40 rfl (lv_at hl 2 rfl) ?_
  refine va_get (D := g.1) (ci := 0) (v := .ref h18) (C := RX0) (T := TX0) (N := 11) hx hb hts zl_X0 hown hK hP 0 rfl rfl 9 (by decide) (hts _ m_f_RX0_48) (fun _ h => h) rfl dX0_widenSpans_41 ?_
  refine lv_iload_n hx hb dX0_widenSpans_44 rfl (lv_at hl 0 rfl) ?_
  refine lv_bipush (v := 99) hx hb dX0_widenSpans_45 (by decide) ?_
  refine va_iast (D := g.1) hx hb hK hP hD hS 2 0 rfl rfl (vp_in_iff.mpr (by decide +kernel)) dX0_widenSpans_47 (fun H locs hP hD hS => ?_)
  have hP : va_P g.1 vwCl [(h0, .inr (0, [.ref h11, .int 0, .ref h12, .int 0, .ref h13, .ref h14, .ref h15, .ref h16, .ref h17, .ref h18, .int 0])), (h17, .inl (zI g, 20, .inl (fun _ => 0))), (h18, .inl (zI g, 20, .inl (upd (fun _ => 99) 7 99)))] H := hP
  have hD : va_D A [(h0, .inr (0, [.ref h11, .int 0, .ref h12, .int 0, .ref h13, .ref h14, .ref h15, .ref h16, .ref h17, .ref h18, .int 0])), (h17, .inl (zI g, 20, .inl (fun _ => 0))), (h18, .inl (zI g, 20, .inl (upd (fun _ => 99) 7 99)))] := hD
  rw [zc_set] at hP hD
  refine lv_iinc (v := 8) (lv' := [(2, .int 8), (1, .int 0), (0, .ref h0)]) hx hb dX0_widenSpans_48 hl (k := 0) rfl (by decide) (by decide) rfl (fun ls hl => ?_)
  refine lv_goto (tgt := 4) hx hb dX0_widenSpans_51 (by decide) ?_
  refine lv_iload_n hx hb dX0_widenSpans_4 rfl (lv_at hl 0 rfl) ?_
  refine lv_bipush (v := 20) hx hb dX0_widenSpans_5 (by decide) ?_
  refine lv_icmp_ge (tgt := 54) hx hb dX0_widenSpans_7 (by decide) (fun h => absurd h (by decide +kernel)) (fun _ => ?_)
  refine lv_aload_n hx hb dX0_widenSpans_10 rfl (lv_at hl 2 rfl) ?_
  refine va_get (D := g.1) (ci := 0) (v := .ref h17) (C := RX0) (T := TX0) (N := 11) hx hb hts zl_X0 hown hK hP 0 rfl rfl 8 (by decide) (hts _ m_f_RX0_45) (fun _ h => h) rfl dX0_widenSpans_11 ?_
  refine lv_iload_n hx hb dX0_widenSpans_14 rfl (lv_at hl 0 rfl) ?_
  refine va_iald (D := g.1) hx hb hK hP 1 0 rfl rfl (vp_in_iff.mpr (by decide +kernel)) dX0_widenSpans_15 ?_
  refine lv_topi (nm_r (e' := 0) (by rfl) ?_)
  refine lv_if_ne (tgt := 30) hx hb dX0_widenSpans_16 (by decide) (fun h => absurd h (by decide +kernel)) (fun _ => ?_)
  refine lv_aload_n hx hb dX0_widenSpans_19 rfl (lv_at hl 2 rfl) ?_
  refine va_get (D := g.1) (ci := 0) (v := .ref h18) (C := RX0) (T := TX0) (N := 11) hx hb hts zl_X0 hown hK hP 0 rfl rfl 9 (by decide) (hts _ m_f_RX0_48) (fun _ h => h) rfl dX0_widenSpans_20 ?_
  refine lv_iload_n hx hb dX0_widenSpans_23 rfl (lv_at hl 0 rfl) ?_
  refine va_iald (D := g.1) hx hb hK hP 2 0 rfl rfl (vp_in_iff.mpr (by decide +kernel)) dX0_widenSpans_24 ?_
  refine lv_topi (nm_r (e' := 99) (by rfl) ?_)
  refine lv_bipush (v := 99) hx hb dX0_widenSpans_25 (by decide) ?_
  refine lv_icmp_eq (tgt := 33) hx hb dX0_widenSpans_27 (by decide) (fun _ => ?_) (fun h => absurd h (by decide +kernel))
  refine lv_aload_n hx hb dX0_widenSpans_33 rfl (lv_at hl 2 rfl) ?_
  refine va_get (D := g.1) (ci := 0) (v := .ref h17) (C := RX0) (T := TX0) (N := 11) hx hb hts zl_X0 hown hK hP 0 rfl rfl 8 (by decide) (hts _ m_f_RX0_45) (fun _ h => h) rfl dX0_widenSpans_34 ?_
  refine lv_iload_n hx hb dX0_widenSpans_37 rfl (lv_at hl 0 rfl) ?_
  refine lv_iconst (v := 0) hx hb dX0_widenSpans_38 (by decide) ?_
  refine va_iast (D := g.1) hx hb hK hP hD hS 1 0 rfl rfl (vp_in_iff.mpr (by decide +kernel)) dX0_widenSpans_39 (fun H locs hP hD hS => ?_)
  have hP : va_P g.1 vwCl [(h0, .inr (0, [.ref h11, .int 0, .ref h12, .int 0, .ref h13, .ref h14, .ref h15, .ref h16, .ref h17, .ref h18, .int 0])), (h17, .inl (zI g, 20, .inl (upd (fun _ => 0) 8 0))), (h18, .inl (zI g, 20, .inl (fun _ => 99)))] H := hP
  have hD : va_D A [(h0, .inr (0, [.ref h11, .int 0, .ref h12, .int 0, .ref h13, .ref h14, .ref h15, .ref h16, .ref h17, .ref h18, .int 0])), (h17, .inl (zI g, 20, .inl (upd (fun _ => 0) 8 0))), (h18, .inl (zI g, 20, .inl (fun _ => 99)))] := hD
  rw [zc_set] at hP hD
  refine lv_aload_n hx hb dX0_widenSpans_40 rfl (lv_at hl 2 rfl) ?_
  refine va_get (D := g.1) (ci := 0) (v := .ref h18) (C := RX0) (T := TX0) (N := 11) hx hb hts zl_X0 hown hK hP 0 rfl rfl 9 (by decide) (hts _ m_f_RX0_48) (fun _ h => h) rfl dX0_widenSpans_41 ?_
  refine lv_iload_n hx hb dX0_widenSpans_44 rfl (lv_at hl 0 rfl) ?_
  refine lv_bipush (v := 99) hx hb dX0_widenSpans_45 (by decide) ?_
  refine va_iast (D := g.1) hx hb hK hP hD hS 2 0 rfl rfl (vp_in_iff.mpr (by decide +kernel)) dX0_widenSpans_47 (fun H locs hP hD hS => ?_)
  have hP : va_P g.1 vwCl [(h0, .inr (0, [.ref h11, .int 0, .ref h12, .int 0, .ref h13, .ref h14, .ref h15, .ref h16, .ref h17, .ref h18, .int 0])), (h17, .inl (zI g, 20, .inl (fun _ => 0))), (h18, .inl (zI g, 20, .inl (upd (fun _ => 99) 8 99)))] H := hP
  have hD : va_D A [(h0, .inr (0, [.ref h11, .int 0, .ref h12, .int 0, .ref h13, .ref h14, .ref h15, .ref h16, .ref h17, .ref h18, .int 0])), (h17, .inl (zI g, 20, .inl (fun _ => 0))), (h18, .inl (zI g, 20, .inl (upd (fun _ => 99) 8 99)))] := hD
  rw [zc_set] at hP hD
  refine lv_iinc (v := 9) (lv' := [(2, .int 9), (1, .int 0), (0, .ref h0)]) hx hb dX0_widenSpans_48 hl (k := 0) rfl (by decide) (by decide) rfl (fun ls hl => ?_)
  refine lv_goto (tgt := 4) hx hb dX0_widenSpans_51 (by decide) ?_
  refine lv_iload_n hx hb dX0_widenSpans_4 rfl (lv_at hl 0 rfl) ?_
  refine lv_bipush (v := 20) hx hb dX0_widenSpans_5 (by decide) ?_
  refine lv_icmp_ge (tgt := 54) hx hb dX0_widenSpans_7 (by decide) (fun h => absurd h (by decide +kernel)) (fun _ => ?_)
  refine lv_aload_n hx hb dX0_widenSpans_10 rfl (lv_at hl 2 rfl) ?_
  refine va_get (D := g.1) (ci := 0) (v := .ref h17) (C := RX0) (T := TX0) (N := 11) hx hb hts zl_X0 hown hK hP 0 rfl rfl 8 (by decide) (hts _ m_f_RX0_45) (fun _ h => h) rfl dX0_widenSpans_11 ?_
  refine lv_iload_n hx hb dX0_widenSpans_14 rfl (lv_at hl 0 rfl) ?_
  refine va_iald (D := g.1) hx hb hK hP 1 0 rfl rfl (vp_in_iff.mpr (by decide +kernel)) dX0_widenSpans_15 ?_
  refine lv_topi (nm_r (e' := 0) (by rfl) ?_)
  refine lv_if_ne (tgt := 30) hx hb dX0_widenSpans_16 (by decide) (fun h => absurd h (by decide +kernel)) (fun _ => ?_)
  refine lv_aload_n hx hb dX0_widenSpans_19 rfl (lv_at hl 2 rfl) ?_
  refine va_get (D := g.1) (ci := 0) (v := .ref h18) (C := RX0) (T := TX0) (N := 11) hx hb hts zl_X0 hown hK hP 0 rfl rfl 9 (by decide) (hts _ m_f_RX0_48) (fun _ h => h) rfl dX0_widenSpans_20 ?_
  refine lv_iload_n hx hb dX0_widenSpans_23 rfl (lv_at hl 0 rfl) ?_
  refine va_iald (D := g.1) hx hb hK hP 2 0 rfl rfl (vp_in_iff.mpr (by decide +kernel)) dX0_widenSpans_24 ?_
  refine lv_topi (nm_r (e' := 99) (by rfl) ?_)
  refine lv_bipush (v := 99) hx hb dX0_widenSpans_25 (by decide) ?_
  refine lv_icmp_eq (tgt := 33) hx hb dX0_widenSpans_27 (by decide) (fun _ => ?_) (fun h => absurd h (by decide +kernel))
  refine lv_aload_n hx hb dX0_widenSpans_33 rfl (lv_at hl 2 rfl) ?_
  refine va_get (D := g.1) (ci := 0) (v := .ref h17) (C := RX0) (T := TX0) (N := 11) hx hb hts zl_X0 hown hK hP 0 rfl rfl 8 (by decide) (hts _ m_f_RX0_45) (fun _ h => h) rfl dX0_widenSpans_34 ?_
  refine lv_iload_n hx hb dX0_widenSpans_37 rfl (lv_at hl 0 rfl) ?_
  refine lv_iconst (v := 0) hx hb dX0_widenSpans_38 (by decide) ?_
  refine va_iast (D := g.1) hx hb hK hP hD hS 1 0 rfl rfl (vp_in_iff.mpr (by decide +kernel)) dX0_widenSpans_39 (fun H locs hP hD hS => ?_)
  have hP : va_P g.1 vwCl [(h0, .inr (0, [.ref h11, .int 0, .ref h12, .int 0, .ref h13, .ref h14, .ref h15, .ref h16, .ref h17, .ref h18, .int 0])), (h17, .inl (zI g, 20, .inl (upd (fun _ => 0) 9 0))), (h18, .inl (zI g, 20, .inl (fun _ => 99)))] H := hP
  have hD : va_D A [(h0, .inr (0, [.ref h11, .int 0, .ref h12, .int 0, .ref h13, .ref h14, .ref h15, .ref h16, .ref h17, .ref h18, .int 0])), (h17, .inl (zI g, 20, .inl (upd (fun _ => 0) 9 0))), (h18, .inl (zI g, 20, .inl (fun _ => 99)))] := hD
  rw [zc_set] at hP hD
  refine lv_aload_n hx hb dX0_widenSpans_40 rfl (lv_at hl 2 rfl) ?_
  refine va_get (D := g.1) (ci := 0) (v := .ref h18) (C := RX0) (T := TX0) (N := 11) hx hb hts zl_X0 hown hK hP 0 rfl rfl 9 (by decide) (hts _ m_f_RX0_48) (fun _ h => h) rfl dX0_widenSpans_41 ?_
  refine lv_iload_n hx hb dX0_widenSpans_44 rfl (lv_at hl 0 rfl) ?_
  refine lv_bipush (v := 99) hx hb dX0_widenSpans_45 (by decide) ?_
  refine va_iast (D := g.1) hx hb hK hP hD hS 2 0 rfl rfl (vp_in_iff.mpr (by decide +kernel)) dX0_widenSpans_47 (fun H locs hP hD hS => ?_)
  have hP : va_P g.1 vwCl [(h0, .inr (0, [.ref h11, .int 0, .ref h12, .int 0, .ref h13, .ref h14, .ref h15, .ref h16, .ref h17, .ref h18, .int 0])), (h17, .inl (zI g, 20, .inl (fun _ => 0))), (h18, .inl (zI g, 20, .inl (upd (fun _ => 99) 9 99)))] H := hP
  have hD : va_D A [(h0, .inr (0, [.ref h11, .int 0, .ref h12, .int 0, .ref h13, .ref h14, .ref h15, .ref h16, .ref h17, .ref h18, .int 0])), (h17, .inl (zI g, 20, .inl (fun _ => 0))), (h18, .inl (zI g, 20, .inl (upd (fun _ => 99) 9 99)))] := hD
  rw [zc_set] at hP hD
  refine lv_iinc (v := 10) (lv' := [(2, .int 10), (1, .int 0), (0, .ref h0)]) hx hb dX0_widenSpans_48 hl (k := 0) rfl (by decide) (by decide) rfl (fun ls hl => ?_)
  refine lv_goto (tgt := 4) hx hb dX0_widenSpans_51 (by decide) ?_
  refine lv_iload_n hx hb dX0_widenSpans_4 rfl (lv_at hl 0 rfl) ?_
  refine lv_bipush (v := 20) hx hb dX0_widenSpans_5 (by decide) ?_
  refine lv_icmp_ge (tgt := 54) hx hb dX0_widenSpans_7 (by decide) (fun h => absurd h (by decide +kernel)) (fun _ => ?_)
  refine lv_aload_n hx hb dX0_widenSpans_10 rfl (lv_at hl 2 rfl) ?_
  refine va_get (D := g.1) (ci := 0) (v := .ref h17) (C := RX0) (T := TX0) (N := 11) hx hb hts zl_X0 hown hK hP 0 rfl rfl 8 (by decide) (hts _ m_f_RX0_45) (fun _ h => h) rfl dX0_widenSpans_11 ?_
  refine lv_iload_n hx hb dX0_widenSpans_14 rfl (lv_at hl 0 rfl) ?_
  refine va_iald (D := g.1) hx hb hK hP 1 0 rfl rfl (vp_in_iff.mpr (by decide +kernel)) dX0_widenSpans_15 ?_
  refine lv_topi (nm_r (e' := 0) (by rfl) ?_)
  refine lv_if_ne (tgt := 30) hx hb dX0_widenSpans_16 (by decide) (fun h => absurd h (by decide +kernel)) (fun _ => ?_)
  refine lv_aload_n hx hb dX0_widenSpans_19 rfl (lv_at hl 2 rfl) ?_
  refine va_get (D := g.1) (ci := 0) (v := .ref h18) (C := RX0) (T := TX0) (N := 11) hx hb hts zl_X0 hown hK hP 0 rfl rfl 9 (by decide) (hts _ m_f_RX0_48) (fun _ h => h) rfl dX0_widenSpans_20 ?_
  refine lv_iload_n hx hb dX0_widenSpans_23 rfl (lv_at hl 0 rfl) ?_
  refine va_iald (D := g.1) hx hb hK hP 2 0 rfl rfl (vp_in_iff.mpr (by decide +kernel)) dX0_widenSpans_24 ?_
  refine lv_topi (nm_r (e' := 99) (by rfl) ?_)
  refine lv_bipush (v := 99) hx hb dX0_widenSpans_25 (by decide) ?_
  refine lv_icmp_eq (tgt := 33) hx hb dX0_widenSpans_27 (by decide) (fun _ => ?_) (fun h => absurd h (by decide +kernel))
  refine lv_aload_n hx hb dX0_widenSpans_33 rfl (lv_at hl 2 rfl) ?_
  refine va_get (D := g.1) (ci := 0) (v := .ref h17) (C := RX0) (T := TX0) (N := 11) hx hb hts zl_X0 hown hK hP 0 rfl rfl 8 (by decide) (hts _ m_f_RX0_45) (fun _ h => h) rfl dX0_widenSpans_34 ?_
  refine lv_iload_n hx hb dX0_widenSpans_37 rfl (lv_at hl 0 rfl) ?_
  refine lv_iconst (v := 0) hx hb dX0_widenSpans_38 (by decide) ?_
  refine va_iast (D := g.1) hx hb hK hP hD hS 1 0 rfl rfl (vp_in_iff.mpr (by decide +kernel)) dX0_widenSpans_39 (fun H locs hP hD hS => ?_)
  have hP : va_P g.1 vwCl [(h0, .inr (0, [.ref h11, .int 0, .ref h12, .int 0, .ref h13, .ref h14, .ref h15, .ref h16, .ref h17, .ref h18, .int 0])), (h17, .inl (zI g, 20, .inl (upd (fun _ => 0) 10 0))), (h18, .inl (zI g, 20, .inl (fun _ => 99)))] H := hP
  have hD : va_D A [(h0, .inr (0, [.ref h11, .int 0, .ref h12, .int 0, .ref h13, .ref h14, .ref h15, .ref h16, .ref h17, .ref h18, .int 0])), (h17, .inl (zI g, 20, .inl (upd (fun _ => 0) 10 0))), (h18, .inl (zI g, 20, .inl (fun _ => 99)))] := hD
  rw [zc_set] at hP hD
  refine lv_aload_n hx hb dX0_widenSpans_40 rfl (lv_at hl 2 rfl) ?_
  refine va_get (D := g.1) (ci := 0) (v := .ref h18) (C := RX0) (T := TX0) (N := 11) hx hb hts zl_X0 hown hK hP 0 rfl rfl 9 (by decide) (hts _ m_f_RX0_48) (fun _ h => h) rfl dX0_widenSpans_41 ?_
  refine lv_iload_n hx hb dX0_widenSpans_44 rfl (lv_at hl 0 rfl) ?_
  refine lv_bipush (v := 99) hx hb dX0_widenSpans_45 (by decide) ?_
  refine va_iast (D := g.1) hx hb hK hP hD hS 2 0 rfl rfl (vp_in_iff.mpr (by decide +kernel)) dX0_widenSpans_47 (fun H locs hP hD hS => ?_)
  have hP : va_P g.1 vwCl [(h0, .inr (0, [.ref h11, .int 0, .ref h12, .int 0, .ref h13, .ref h14, .ref h15, .ref h16, .ref h17, .ref h18, .int 0])), (h17, .inl (zI g, 20, .inl (fun _ => 0))), (h18, .inl (zI g, 20, .inl (upd (fun _ => 99) 10 99)))] H := hP
  have hD : va_D A [(h0, .inr (0, [.ref h11, .int 0, .ref h12, .int 0, .ref h13, .ref h14, .ref h15, .ref h16, .ref h17, .ref h18, .int 0])), (h17, .inl (zI g, 20, .inl (fun _ => 0))), (h18, .inl (zI g, 20, .inl (upd (fun _ => 99) 10 99)))] := hD
  rw [zc_set] at hP hD
  refine lv_iinc (v := 11) (lv' := [(2, .int 11), (1, .int 0), (0, .ref h0)]) hx hb dX0_widenSpans_48 hl (k := 0) rfl (by decide) (by decide) rfl (fun ls hl => ?_)
  refine lv_goto (tgt := 4) hx hb dX0_widenSpans_51 (by decide) ?_
  refine lv_iload_n hx hb dX0_widenSpans_4 rfl (lv_at hl 0 rfl) ?_
  refine lv_bipush (v := 20) hx hb dX0_widenSpans_5 (by decide) ?_
  refine lv_icmp_ge (tgt := 54) hx hb dX0_widenSpans_7 (by decide) (fun h => absurd h (by decide +kernel)) (fun _ => ?_)
  refine lv_aload_n hx hb dX0_widenSpans_10 rfl (lv_at hl 2 rfl) ?_
  refine va_get (D := g.1) (ci := 0) (v := .ref h17) (C := RX0) (T := TX0) (N := 11) hx hb hts zl_X0 hown hK hP 0 rfl rfl 8 (by decide) (hts _ m_f_RX0_45) (fun _ h => h) rfl dX0_widenSpans_11 ?_
  refine lv_iload_n hx hb dX0_widenSpans_14 rfl (lv_at hl 0 rfl) ?_
  refine va_iald (D := g.1) hx hb hK hP 1 0 rfl rfl (vp_in_iff.mpr (by decide +kernel)) dX0_widenSpans_15 ?_
  refine lv_topi (nm_r (e' := 0) (by rfl) ?_)
  refine lv_if_ne (tgt := 30) hx hb dX0_widenSpans_16 (by decide) (fun h => absurd h (by decide +kernel)) (fun _ => ?_)
  refine lv_aload_n hx hb dX0_widenSpans_19 rfl (lv_at hl 2 rfl) ?_
  refine va_get (D := g.1) (ci := 0) (v := .ref h18) (C := RX0) (T := TX0) (N := 11) hx hb hts zl_X0 hown hK hP 0 rfl rfl 9 (by decide) (hts _ m_f_RX0_48) (fun _ h => h) rfl dX0_widenSpans_20 ?_
  refine lv_iload_n hx hb dX0_widenSpans_23 rfl (lv_at hl 0 rfl) ?_
  refine va_iald (D := g.1) hx hb hK hP 2 0 rfl rfl (vp_in_iff.mpr (by decide +kernel)) dX0_widenSpans_24 ?_
  refine lv_topi (nm_r (e' := 99) (by rfl) ?_)
  refine lv_bipush (v := 99) hx hb dX0_widenSpans_25 (by decide) ?_
  refine lv_icmp_eq (tgt := 33) hx hb dX0_widenSpans_27 (by decide) (fun _ => ?_) (fun h => absurd h (by decide +kernel))
  refine lv_aload_n hx hb dX0_widenSpans_33 rfl (lv_at hl 2 rfl) ?_
  refine va_get (D := g.1) (ci := 0) (v := .ref h17) (C := RX0) (T := TX0) (N := 11) hx hb hts zl_X0 hown hK hP 0 rfl rfl 8 (by decide) (hts _ m_f_RX0_45) (fun _ h => h) rfl dX0_widenSpans_34 ?_
  refine lv_iload_n hx hb dX0_widenSpans_37 rfl (lv_at hl 0 rfl) ?_
  refine lv_iconst (v := 0) hx hb dX0_widenSpans_38 (by decide) ?_
  refine va_iast (D := g.1) hx hb hK hP hD hS 1 0 rfl rfl (vp_in_iff.mpr (by decide +kernel)) dX0_widenSpans_39 (fun H locs hP hD hS => ?_)
  have hP : va_P g.1 vwCl [(h0, .inr (0, [.ref h11, .int 0, .ref h12, .int 0, .ref h13, .ref h14, .ref h15, .ref h16, .ref h17, .ref h18, .int 0])), (h17, .inl (zI g, 20, .inl (upd (fun _ => 0) 11 0))), (h18, .inl (zI g, 20, .inl (fun _ => 99)))] H := hP
  have hD : va_D A [(h0, .inr (0, [.ref h11, .int 0, .ref h12, .int 0, .ref h13, .ref h14, .ref h15, .ref h16, .ref h17, .ref h18, .int 0])), (h17, .inl (zI g, 20, .inl (upd (fun _ => 0) 11 0))), (h18, .inl (zI g, 20, .inl (fun _ => 99)))] := hD
  rw [zc_set] at hP hD
  refine lv_aload_n hx hb dX0_widenSpans_40 rfl (lv_at hl 2 rfl) ?_
  refine va_get (D := g.1) (ci := 0) (v := .ref h18) (C := RX0) (T := TX0) (N := 11) hx hb hts zl_X0 hown hK hP 0 rfl rfl 9 (by decide) (hts _ m_f_RX0_48) (fun _ h => h) rfl dX0_widenSpans_41 ?_
  refine lv_iload_n hx hb dX0_widenSpans_44 rfl (lv_at hl 0 rfl) ?_
  refine lv_bipush (v := 99) hx hb dX0_widenSpans_45 (by decide) ?_
  refine va_iast (D := g.1) hx hb hK hP hD hS 2 0 rfl rfl (vp_in_iff.mpr (by decide +kernel)) dX0_widenSpans_47 (fun H locs hP hD hS => ?_)
  have hP : va_P g.1 vwCl [(h0, .inr (0, [.ref h11, .int 0, .ref h12, .int 0, .ref h13, .ref h14, .ref h15, .ref h16, .ref h17, .ref h18, .int 0])), (h17, .inl (zI g, 20, .inl (fun _ => 0))), (h18, .inl (zI g, 20, .inl (upd (fun _ => 99) 11 99)))] H := hP
  have hD : va_D A [(h0, .inr (0, [.ref h11, .int 0, .ref h12, .int 0, .ref h13, .ref h14, .ref h15, .ref h16, .ref h17, .ref h18, .int 0])), (h17, .inl (zI g, 20, .inl (fun _ => 0))), (h18, .inl (zI g, 20, .inl (upd (fun _ => 99) 11 99)))] := hD
  rw [zc_set] at hP hD
  refine lv_iinc (v := 12) (lv' := [(2, .int 12), (1, .int 0), (0, .ref h0)]) hx hb dX0_widenSpans_48 hl (k := 0) rfl (by decide) (by decide) rfl (fun ls hl => ?_)
  refine lv_goto (tgt := 4) hx hb dX0_widenSpans_51 (by decide) ?_
  refine lv_iload_n hx hb dX0_widenSpans_4 rfl (lv_at hl 0 rfl) ?_
  refine lv_bipush (v := 20) hx hb dX0_widenSpans_5 (by decide) ?_
  refine lv_icmp_ge (tgt := 54) hx hb dX0_widenSpans_7 (by decide) (fun h => absurd h (by decide +kernel)) (fun _ => ?_)
  refine lv_aload_n hx hb dX0_widenSpans_10 rfl (lv_at hl 2 rfl) ?_
  refine va_get (D := g.1) (ci := 0) (v := .ref h17) (C := RX0) (T := TX0) (N := 11) hx hb hts zl_X0 hown hK hP 0 rfl rfl 8 (by decide) (hts _ m_f_RX0_45) (fun _ h => h) rfl dX0_widenSpans_11 ?_
  refine lv_iload_n hx hb dX0_widenSpans_14 rfl (lv_at hl 0 rfl) ?_
  refine va_iald (D := g.1) hx hb hK hP 1 0 rfl rfl (vp_in_iff.mpr (by decide +kernel)) dX0_widenSpans_15 ?_
  refine lv_topi (nm_r (e' := 0) (by rfl) ?_)
  refine lv_if_ne (tgt := 30) hx hb dX0_widenSpans_16 (by decide) (fun h => absurd h (by decide +kernel)) (fun _ => ?_)
  refine lv_aload_n hx hb dX0_widenSpans_19 rfl (lv_at hl 2 rfl) ?_
  refine va_get (D := g.1) (ci := 0) (v := .ref h18) (C := RX0) (T := TX0) (N := 11) hx hb hts zl_X0 hown hK hP 0 rfl rfl 9 (by decide) (hts _ m_f_RX0_48) (fun _ h => h) rfl dX0_widenSpans_20 ?_
  refine lv_iload_n hx hb dX0_widenSpans_23 rfl (lv_at hl 0 rfl) ?_
  refine va_iald (D := g.1) hx hb hK hP 2 0 rfl rfl (vp_in_iff.mpr (by decide +kernel)) dX0_widenSpans_24 ?_
  refine lv_topi (nm_r (e' := 99) (by rfl) ?_)
  refine lv_bipush (v := 99) hx hb dX0_widenSpans_25 (by decide) ?_
  refine lv_icmp_eq (tgt := 33) hx hb dX0_widenSpans_27 (by decide) (fun _ => ?_) (fun h => absurd h (by decide +kernel))
  refine lv_aload_n hx hb dX0_widenSpans_33 rfl (lv_at hl 2 rfl) ?_
  refine va_get (D := g.1) (ci := 0) (v := .ref h17) (C := RX0) (T := TX0) (N := 11) hx hb hts zl_X0 hown hK hP 0 rfl rfl 8 (by decide) (hts _ m_f_RX0_45) (fun _ h => h) rfl dX0_widenSpans_34 ?_
  refine lv_iload_n hx hb dX0_widenSpans_37 rfl (lv_at hl 0 rfl) ?_
  refine lv_iconst (v := 0) hx hb dX0_widenSpans_38 (by decide) ?_
  refine va_iast (D := g.1) hx hb hK hP hD hS 1 0 rfl rfl (vp_in_iff.mpr (by decide +kernel)) dX0_widenSpans_39 (fun H locs hP hD hS => ?_)
  have hP : va_P g.1 vwCl [(h0, .inr (0, [.ref h11, .int 0, .ref h12, .int 0, .ref h13, .ref h14, .ref h15, .ref h16, .ref h17, .ref h18, .int 0])), (h17, .inl (zI g, 20, .inl (upd (fun _ => 0) 12 0))), (h18, .inl (zI g, 20, .inl (fun _ => 99)))] H := hP
  have hD : va_D A [(h0, .inr (0, [.ref h11, .int 0, .ref h12, .int 0, .ref h13, .ref h14, .ref h15, .ref h16, .ref h17, .ref h18, .int 0])), (h17, .inl (zI g, 20, .inl (upd (fun _ => 0) 12 0))), (h18, .inl (zI g, 20, .inl (fun _ => 99)))] := hD
  rw [zc_set] at hP hD
  refine lv_aload_n hx hb dX0_widenSpans_40 rfl (lv_at hl 2 rfl) ?_
  refine va_get (D := g.1) (ci := 0) (v := .ref h18) (C := RX0) (T := TX0) (N := 11) hx hb hts zl_X0 hown hK hP 0 rfl rfl 9 (by decide) (hts _ m_f_RX0_48) (fun _ h => h) rfl dX0_widenSpans_41 ?_
  refine lv_iload_n hx hb dX0_widenSpans_44 rfl (lv_at hl 0 rfl) ?_
  refine lv_bipush (v := 99) hx hb dX0_widenSpans_45 (by decide) ?_
  refine va_iast (D := g.1) hx hb hK hP hD hS 2 0 rfl rfl (vp_in_iff.mpr (by decide +kernel)) dX0_widenSpans_47 (fun H locs hP hD hS => ?_)
  have hP : va_P g.1 vwCl [(h0, .inr (0, [.ref h11, .int 0, .ref h12, .int 0, .ref h13, .ref h14, .ref h15, .ref h16, .ref h17, .ref h18, .int 0])), (h17, .inl (zI g, 20, .inl (fun _ => 0))), (h18, .inl (zI g, 20, .inl (upd (fun _ => 99) 12 99)))] H := hP
  have hD : va_D A [(h0, .inr (0, [.ref h11, .int 0, .ref h12, .int 0, .ref h13, .ref h14, .ref h15, .ref h16, .ref h17, .ref h18, .int 0])), (h17, .inl (zI g, 20, .inl (fun _ => 0))), (h18, .inl (zI g, 20, .inl (upd (fun _ => 99) 12 99)))] := hD
  rw [zc_set] at hP hD
  refine lv_iinc (v := 13) (lv' := [(2, .int 13), (1, .int 0), (0, .ref h0)]) hx hb dX0_widenSpans_48 hl (k := 0) rfl (by decide) (by decide) rfl (fun ls hl => ?_)
  refine lv_goto (tgt := 4) hx hb dX0_widenSpans_51 (by decide) ?_
  refine lv_iload_n hx hb dX0_widenSpans_4 rfl (lv_at hl 0 rfl) ?_
  refine lv_bipush (v := 20) hx hb dX0_widenSpans_5 (by decide) ?_
  refine lv_icmp_ge (tgt := 54) hx hb dX0_widenSpans_7 (by decide) (fun h => absurd h (by decide +kernel)) (fun _ => ?_)
  refine lv_aload_n hx hb dX0_widenSpans_10 rfl (lv_at hl 2 rfl) ?_
  refine va_get (D := g.1) (ci := 0) (v := .ref h17) (C := RX0) (T := TX0) (N := 11) hx hb hts zl_X0 hown hK hP 0 rfl rfl 8 (by decide) (hts _ m_f_RX0_45) (fun _ h => h) rfl dX0_widenSpans_11 ?_
  refine lv_iload_n hx hb dX0_widenSpans_14 rfl (lv_at hl 0 rfl) ?_
  refine va_iald (D := g.1) hx hb hK hP 1 0 rfl rfl (vp_in_iff.mpr (by decide +kernel)) dX0_widenSpans_15 ?_
  refine lv_topi (nm_r (e' := 0) (by rfl) ?_)
  refine lv_if_ne (tgt := 30) hx hb dX0_widenSpans_16 (by decide) (fun h => absurd h (by decide +kernel)) (fun _ => ?_)
  refine lv_aload_n hx hb dX0_widenSpans_19 rfl (lv_at hl 2 rfl) ?_
  refine va_get (D := g.1) (ci := 0) (v := .ref h18) (C := RX0) (T := TX0) (N := 11) hx hb hts zl_X0 hown hK hP 0 rfl rfl 9 (by decide) (hts _ m_f_RX0_48) (fun _ h => h) rfl dX0_widenSpans_20 ?_
  refine lv_iload_n hx hb dX0_widenSpans_23 rfl (lv_at hl 0 rfl) ?_
  refine va_iald (D := g.1) hx hb hK hP 2 0 rfl rfl (vp_in_iff.mpr (by decide +kernel)) dX0_widenSpans_24 ?_
  refine lv_topi (nm_r (e' := 99) (by rfl) ?_)
  refine lv_bipush (v := 99) hx hb dX0_widenSpans_25 (by decide) ?_
  refine lv_icmp_eq (tgt := 33) hx hb dX0_widenSpans_27 (by decide) (fun _ => ?_) (fun h => absurd h (by decide +kernel))
  refine lv_aload_n hx hb dX0_widenSpans_33 rfl (lv_at hl 2 rfl) ?_
  refine va_get (D := g.1) (ci := 0) (v := .ref h17) (C := RX0) (T := TX0) (N := 11) hx hb hts zl_X0 hown hK hP 0 rfl rfl 8 (by decide) (hts _ m_f_RX0_45) (fun _ h => h) rfl dX0_widenSpans_34 ?_
  refine lv_iload_n hx hb dX0_widenSpans_37 rfl (lv_at hl 0 rfl) ?_
  refine lv_iconst (v := 0) hx hb dX0_widenSpans_38 (by decide) ?_
  refine va_iast (D := g.1) hx hb hK hP hD hS 1 0 rfl rfl (vp_in_iff.mpr (by decide +kernel)) dX0_widenSpans_39 (fun H locs hP hD hS => ?_)
  have hP : va_P g.1 vwCl [(h0, .inr (0, [.ref h11, .int 0, .ref h12, .int 0, .ref h13, .ref h14, .ref h15, .ref h16, .ref h17, .ref h18, .int 0])), (h17, .inl (zI g, 20, .inl (upd (fun _ => 0) 13 0))), (h18, .inl (zI g, 20, .inl (fun _ => 99)))] H := hP
  have hD : va_D A [(h0, .inr (0, [.ref h11, .int 0, .ref h12, .int 0, .ref h13, .ref h14, .ref h15, .ref h16, .ref h17, .ref h18, .int 0])), (h17, .inl (zI g, 20, .inl (upd (fun _ => 0) 13 0))), (h18, .inl (zI g, 20, .inl (fun _ => 99)))] := hD
  rw [zc_set] at hP hD
  refine lv_aload_n hx hb dX0_widenSpans_40 rfl (lv_at hl 2 rfl) ?_
  refine va_get (D := g.1) (ci := 0) (v := .ref h18) (C := RX0) (T := TX0) (N := 11) hx hb hts zl_X0 hown hK hP 0 rfl rfl 9 (by decide) (hts _ m_f_RX0_48) (fun _ h => h) rfl dX0_widenSpans_41 ?_
  refine lv_iload_n hx hb dX0_widenSpans_44 rfl (lv_at hl 0 rfl) ?_
  refine lv_bipush (v := 99) hx hb dX0_widenSpans_45 (by decide) ?_
  refine va_iast (D := g.1) hx hb hK hP hD hS 2 0 rfl rfl (vp_in_iff.mpr (by decide +kernel)) dX0_widenSpans_47 (fun H locs hP hD hS => ?_)
  have hP : va_P g.1 vwCl [(h0, .inr (0, [.ref h11, .int 0, .ref h12, .int 0, .ref h13, .ref h14, .ref h15, .ref h16, .ref h17, .ref h18, .int 0])), (h17, .inl (zI g, 20, .inl (fun _ => 0))), (h18, .inl (zI g, 20, .inl (upd (fun _ => 99) 13 99)))] H := hP
  have hD : va_D A [(h0, .inr (0, [.ref h11, .int 0, .ref h12, .int 0, .ref h13, .ref h14, .ref h15, .ref h16, .ref h17, .ref h18, .int 0])), (h17, .inl (zI g, 20, .inl (fun _ => 0))), (h18, .inl (zI g, 20, .inl (upd (fun _ => 99) 13 99)))] := hD
  rw [zc_set] at hP hD
  refine lv_iinc (v := 14) (lv' := [(2, .int 14), (1, .int 0), (0, .ref h0)]) hx hb dX0_widenSpans_48 hl (k := 0) rfl (by decide) (by decide) rfl (fun ls hl => ?_)
  refine lv_goto (tgt := 4) hx hb dX0_widenSpans_51 (by decide) ?_
  refine lv_iload_n hx hb dX0_widenSpans_4 rfl (lv_at hl 0 rfl) ?_
  refine lv_bipush (v := 20) hx hb dX0_widenSpans_5 (by decide) ?_
  refine lv_icmp_ge (tgt := 54) hx hb dX0_widenSpans_7 (by decide) (fun h => absurd h (by decide +kernel)) (fun _ => ?_)
  refine lv_aload_n hx hb dX0_widenSpans_10 rfl (lv_at hl 2 rfl) ?_
  refine va_get (D := g.1) (ci := 0) (v := .ref h17) (C := RX0) (T := TX0) (N := 11) hx hb hts zl_X0 hown hK hP 0 rfl rfl 8 (by decide) (hts _ m_f_RX0_45) (fun _ h => h) rfl dX0_widenSpans_11 ?_
  refine lv_iload_n hx hb dX0_widenSpans_14 rfl (lv_at hl 0 rfl) ?_
  refine va_iald (D := g.1) hx hb hK hP 1 0 rfl rfl (vp_in_iff.mpr (by decide +kernel)) dX0_widenSpans_15 ?_
  refine lv_topi (nm_r (e' := 0) (by rfl) ?_)
  refine lv_if_ne (tgt := 30) hx hb dX0_widenSpans_16 (by decide) (fun h => absurd h (by decide +kernel)) (fun _ => ?_)
  refine lv_aload_n hx hb dX0_widenSpans_19 rfl (lv_at hl 2 rfl) ?_
  refine va_get (D := g.1) (ci := 0) (v := .ref h18) (C := RX0) (T := TX0) (N := 11) hx hb hts zl_X0 hown hK hP 0 rfl rfl 9 (by decide) (hts _ m_f_RX0_48) (fun _ h => h) rfl dX0_widenSpans_20 ?_
  refine lv_iload_n hx hb dX0_widenSpans_23 rfl (lv_at hl 0 rfl) ?_
  refine va_iald (D := g.1) hx hb hK hP 2 0 rfl rfl (vp_in_iff.mpr (by decide +kernel)) dX0_widenSpans_24 ?_
  refine lv_topi (nm_r (e' := 99) (by rfl) ?_)
  refine lv_bipush (v := 99) hx hb dX0_widenSpans_25 (by decide) ?_
  refine lv_icmp_eq (tgt := 33) hx hb dX0_widenSpans_27 (by decide) (fun _ => ?_) (fun h => absurd h (by decide +kernel))
  refine lv_aload_n hx hb dX0_widenSpans_33 rfl (lv_at hl 2 rfl) ?_
  refine va_get (D := g.1) (ci := 0) (v := .ref h17) (C := RX0) (T := TX0) (N := 11) hx hb hts zl_X0 hown hK hP 0 rfl rfl 8 (by decide) (hts _ m_f_RX0_45) (fun _ h => h) rfl dX0_widenSpans_34 ?_
  refine lv_iload_n hx hb dX0_widenSpans_37 rfl (lv_at hl 0 rfl) ?_
  refine lv_iconst (v := 0) hx hb dX0_widenSpans_38 (by decide) ?_
  refine va_iast (D := g.1) hx hb hK hP hD hS 1 0 rfl rfl (vp_in_iff.mpr (by decide +kernel)) dX0_widenSpans_39 (fun H locs hP hD hS => ?_)
  have hP : va_P g.1 vwCl [(h0, .inr (0, [.ref h11, .int 0, .ref h12, .int 0, .ref h13, .ref h14, .ref h15, .ref h16, .ref h17, .ref h18, .int 0])), (h17, .inl (zI g, 20, .inl (upd (fun _ => 0) 14 0))), (h18, .inl (zI g, 20, .inl (fun _ => 99)))] H := hP
  have hD : va_D A [(h0, .inr (0, [.ref h11, .int 0, .ref h12, .int 0, .ref h13, .ref h14, .ref h15, .ref h16, .ref h17, .ref h18, .int 0])), (h17, .inl (zI g, 20, .inl (upd (fun _ => 0) 14 0))), (h18, .inl (zI g, 20, .inl (fun _ => 99)))] := hD
  rw [zc_set] at hP hD
  refine lv_aload_n hx hb dX0_widenSpans_40 rfl (lv_at hl 2 rfl) ?_
  refine va_get (D := g.1) (ci := 0) (v := .ref h18) (C := RX0) (T := TX0) (N := 11) hx hb hts zl_X0 hown hK hP 0 rfl rfl 9 (by decide) (hts _ m_f_RX0_48) (fun _ h => h) rfl dX0_widenSpans_41 ?_
  refine lv_iload_n hx hb dX0_widenSpans_44 rfl (lv_at hl 0 rfl) ?_
  refine lv_bipush (v := 99) hx hb dX0_widenSpans_45 (by decide) ?_
  refine va_iast (D := g.1) hx hb hK hP hD hS 2 0 rfl rfl (vp_in_iff.mpr (by decide +kernel)) dX0_widenSpans_47 (fun H locs hP hD hS => ?_)
  have hP : va_P g.1 vwCl [(h0, .inr (0, [.ref h11, .int 0, .ref h12, .int 0, .ref h13, .ref h14, .ref h15, .ref h16, .ref h17, .ref h18, .int 0])), (h17, .inl (zI g, 20, .inl (fun _ => 0))), (h18, .inl (zI g, 20, .inl (upd (fun _ => 99) 14 99)))] H := hP
  have hD : va_D A [(h0, .inr (0, [.ref h11, .int 0, .ref h12, .int 0, .ref h13, .ref h14, .ref h15, .ref h16, .ref h17, .ref h18, .int 0])), (h17, .inl (zI g, 20, .inl (fun _ => 0))), (h18, .inl (zI g, 20, .inl (upd (fun _ => 99) 14 99)))] := hD
  rw [zc_set] at hP hD
  refine lv_iinc (v := 15) (lv' := [(2, .int 15), (1, .int 0), (0, .ref h0)]) hx hb dX0_widenSpans_48 hl (k := 0) rfl (by decide) (by decide) rfl (fun ls hl => ?_)
  refine lv_goto (tgt := 4) hx hb dX0_widenSpans_51 (by decide) ?_
  refine lv_iload_n hx hb dX0_widenSpans_4 rfl (lv_at hl 0 rfl) ?_
  refine lv_bipush (v := 20) hx hb dX0_widenSpans_5 (by decide) ?_
  refine lv_icmp_ge (tgt := 54) hx hb dX0_widenSpans_7 (by decide) (fun h => absurd h (by decide +kernel)) (fun _ => ?_)
  refine lv_aload_n hx hb dX0_widenSpans_10 rfl (lv_at hl 2 rfl) ?_
  refine va_get (D := g.1) (ci := 0) (v := .ref h17) (C := RX0) (T := TX0) (N := 11) hx hb hts zl_X0 hown hK hP 0 rfl rfl 8 (by decide) (hts _ m_f_RX0_45) (fun _ h => h) rfl dX0_widenSpans_11 ?_
  refine lv_iload_n hx hb dX0_widenSpans_14 rfl (lv_at hl 0 rfl) ?_
  refine va_iald (D := g.1) hx hb hK hP 1 0 rfl rfl (vp_in_iff.mpr (by decide +kernel)) dX0_widenSpans_15 ?_
  refine lv_topi (nm_r (e' := 0) (by rfl) ?_)
  refine lv_if_ne (tgt := 30) hx hb dX0_widenSpans_16 (by decide) (fun h => absurd h (by decide +kernel)) (fun _ => ?_)
  refine lv_aload_n hx hb dX0_widenSpans_19 rfl (lv_at hl 2 rfl) ?_
  refine va_get (D := g.1) (ci := 0) (v := .ref h18) (C := RX0) (T := TX0) (N := 11) hx hb hts zl_X0 hown hK hP 0 rfl rfl 9 (by decide) (hts _ m_f_RX0_48) (fun _ h => h) rfl dX0_widenSpans_20 ?_
  refine lv_iload_n hx hb dX0_widenSpans_23 rfl (lv_at hl 0 rfl) ?_
  refine va_iald (D := g.1) hx hb hK hP 2 0 rfl rfl (vp_in_iff.mpr (by decide +kernel)) dX0_widenSpans_24 ?_
  refine lv_topi (nm_r (e' := 99) (by rfl) ?_)
  refine lv_bipush (v := 99) hx hb dX0_widenSpans_25 (by decide) ?_
  refine lv_icmp_eq (tgt := 33) hx hb dX0_widenSpans_27 (by decide) (fun _ => ?_) (fun h => absurd h (by decide +kernel))
  refine lv_aload_n hx hb dX0_widenSpans_33 rfl (lv_at hl 2 rfl) ?_
  refine va_get (D := g.1) (ci := 0) (v := .ref h17) (C := RX0) (T := TX0) (N := 11) hx hb hts zl_X0 hown hK hP 0 rfl rfl 8 (by decide) (hts _ m_f_RX0_45) (fun _ h => h) rfl dX0_widenSpans_34 ?_
  refine lv_iload_n hx hb dX0_widenSpans_37 rfl (lv_at hl 0 rfl) ?_
  refine lv_iconst (v := 0) hx hb dX0_widenSpans_38 (by decide) ?_
  refine va_iast (D := g.1) hx hb hK hP hD hS 1 0 rfl rfl (vp_in_iff.mpr (by decide +kernel)) dX0_widenSpans_39 (fun H locs hP hD hS => ?_)
  have hP : va_P g.1 vwCl [(h0, .inr (0, [.ref h11, .int 0, .ref h12, .int 0, .ref h13, .ref h14, .ref h15, .ref h16, .ref h17, .ref h18, .int 0])), (h17, .inl (zI g, 20, .inl (upd (fun _ => 0) 15 0))), (h18, .inl (zI g, 20, .inl (fun _ => 99)))] H := hP
  have hD : va_D A [(h0, .inr (0, [.ref h11, .int 0, .ref h12, .int 0, .ref h13, .ref h14, .ref h15, .ref h16, .ref h17, .ref h18, .int 0])), (h17, .inl (zI g, 20, .inl (upd (fun _ => 0) 15 0))), (h18, .inl (zI g, 20, .inl (fun _ => 99)))] := hD
  rw [zc_set] at hP hD
  refine lv_aload_n hx hb dX0_widenSpans_40 rfl (lv_at hl 2 rfl) ?_
  refine va_get (D := g.1) (ci := 0) (v := .ref h18) (C := RX0) (T := TX0) (N := 11) hx hb hts zl_X0 hown hK hP 0 rfl rfl 9 (by decide) (hts _ m_f_RX0_48) (fun _ h => h) rfl dX0_widenSpans_41 ?_
  refine lv_iload_n hx hb dX0_widenSpans_44 rfl (lv_at hl 0 rfl) ?_
  refine lv_bipush (v := 99) hx hb dX0_widenSpans_45 (by decide) ?_
  refine va_iast (D := g.1) hx hb hK hP hD hS 2 0 rfl rfl (vp_in_iff.mpr (by decide +kernel)) dX0_widenSpans_47 (fun H locs hP hD hS => ?_)
  have hP : va_P g.1 vwCl [(h0, .inr (0, [.ref h11, .int 0, .ref h12, .int 0, .ref h13, .ref h14, .ref h15, .ref h16, .ref h17, .ref h18, .int 0])), (h17, .inl (zI g, 20, .inl (fun _ => 0))), (h18, .inl (zI g, 20, .inl (upd (fun _ => 99) 15 99)))] H := hP
  have hD : va_D A [(h0, .inr (0, [.ref h11, .int 0, .ref h12, .int 0, .ref h13, .ref h14, .ref h15, .ref h16, .ref h17, .ref h18, .int 0])), (h17, .inl (zI g, 20, .inl (fun _ => 0))), (h18, .inl (zI g, 20, .inl (upd (fun _ => 99) 15 99)))] := hD
  rw [zc_set] at hP hD
  refine lv_iinc (v := 16) (lv' := [(2, .int 16), (1, .int 0), (0, .ref h0)]) hx hb dX0_widenSpans_48 hl (k := 0) rfl (by decide) (by decide) rfl (fun ls hl => ?_)
  refine lv_goto (tgt := 4) hx hb dX0_widenSpans_51 (by decide) ?_
  refine lv_iload_n hx hb dX0_widenSpans_4 rfl (lv_at hl 0 rfl) ?_
  refine lv_bipush (v := 20) hx hb dX0_widenSpans_5 (by decide) ?_
  refine lv_icmp_ge (tgt := 54) hx hb dX0_widenSpans_7 (by decide) (fun h => absurd h (by decide +kernel)) (fun _ => ?_)
  refine lv_aload_n hx hb dX0_widenSpans_10 rfl (lv_at hl 2 rfl) ?_
  refine va_get (D := g.1) (ci := 0) (v := .ref h17) (C := RX0) (T := TX0) (N := 11) hx hb hts zl_X0 hown hK hP 0 rfl rfl 8 (by decide) (hts _ m_f_RX0_45) (fun _ h => h) rfl dX0_widenSpans_11 ?_
  refine lv_iload_n hx hb dX0_widenSpans_14 rfl (lv_at hl 0 rfl) ?_
  refine va_iald (D := g.1) hx hb hK hP 1 0 rfl rfl (vp_in_iff.mpr (by decide +kernel)) dX0_widenSpans_15 ?_
  refine lv_topi (nm_r (e' := 0) (by rfl) ?_)
  refine lv_if_ne (tgt := 30) hx hb dX0_widenSpans_16 (by decide) (fun h => absurd h (by decide +kernel)) (fun _ => ?_)
  refine lv_aload_n hx hb dX0_widenSpans_19 rfl (lv_at hl 2 rfl) ?_
  refine va_get (D := g.1) (ci := 0) (v := .ref h18) (C := RX0) (T := TX0) (N := 11) hx hb hts zl_X0 hown hK hP 0 rfl rfl 9 (by decide) (hts _ m_f_RX0_48) (fun _ h => h) rfl dX0_widenSpans_20 ?_
  refine lv_iload_n hx hb dX0_widenSpans_23 rfl (lv_at hl 0 rfl) ?_
  refine va_iald (D := g.1) hx hb hK hP 2 0 rfl rfl (vp_in_iff.mpr (by decide +kernel)) dX0_widenSpans_24 ?_
  refine lv_topi (nm_r (e' := 99) (by rfl) ?_)
  refine lv_bipush (v := 99) hx hb dX0_widenSpans_25 (by decide) ?_
  refine lv_icmp_eq (tgt := 33) hx hb dX0_widenSpans_27 (by decide) (fun _ => ?_) (fun h => absurd h (by decide +kernel))
  refine lv_aload_n hx hb dX0_widenSpans_33 rfl (lv_at hl 2 rfl) ?_
  refine va_get (D := g.1) (ci := 0) (v := .ref h17) (C := RX0) (T := TX0) (N := 11) hx hb hts zl_X0 hown hK hP 0 rfl rfl 8 (by decide) (hts _ m_f_RX0_45) (fun _ h => h) rfl dX0_widenSpans_34 ?_
  refine lv_iload_n hx hb dX0_widenSpans_37 rfl (lv_at hl 0 rfl) ?_
  refine lv_iconst (v := 0) hx hb dX0_widenSpans_38 (by decide) ?_
  refine va_iast (D := g.1) hx hb hK hP hD hS 1 0 rfl rfl (vp_in_iff.mpr (by decide +kernel)) dX0_widenSpans_39 (fun H locs hP hD hS => ?_)
  have hP : va_P g.1 vwCl [(h0, .inr (0, [.ref h11, .int 0, .ref h12, .int 0, .ref h13, .ref h14, .ref h15, .ref h16, .ref h17, .ref h18, .int 0])), (h17, .inl (zI g, 20, .inl (upd (fun _ => 0) 16 0))), (h18, .inl (zI g, 20, .inl (fun _ => 99)))] H := hP
  have hD : va_D A [(h0, .inr (0, [.ref h11, .int 0, .ref h12, .int 0, .ref h13, .ref h14, .ref h15, .ref h16, .ref h17, .ref h18, .int 0])), (h17, .inl (zI g, 20, .inl (upd (fun _ => 0) 16 0))), (h18, .inl (zI g, 20, .inl (fun _ => 99)))] := hD
  rw [zc_set] at hP hD
  refine lv_aload_n hx hb dX0_widenSpans_40 rfl (lv_at hl 2 rfl) ?_
  refine va_get (D := g.1) (ci := 0) (v := .ref h18) (C := RX0) (T := TX0) (N := 11) hx hb hts zl_X0 hown hK hP 0 rfl rfl 9 (by decide) (hts _ m_f_RX0_48) (fun _ h => h) rfl dX0_widenSpans_41 ?_
  refine lv_iload_n hx hb dX0_widenSpans_44 rfl (lv_at hl 0 rfl) ?_
  refine lv_bipush (v := 99) hx hb dX0_widenSpans_45 (by decide) ?_
  refine va_iast (D := g.1) hx hb hK hP hD hS 2 0 rfl rfl (vp_in_iff.mpr (by decide +kernel)) dX0_widenSpans_47 (fun H locs hP hD hS => ?_)
  have hP : va_P g.1 vwCl [(h0, .inr (0, [.ref h11, .int 0, .ref h12, .int 0, .ref h13, .ref h14, .ref h15, .ref h16, .ref h17, .ref h18, .int 0])), (h17, .inl (zI g, 20, .inl (fun _ => 0))), (h18, .inl (zI g, 20, .inl (upd (fun _ => 99) 16 99)))] H := hP
  have hD : va_D A [(h0, .inr (0, [.ref h11, .int 0, .ref h12, .int 0, .ref h13, .ref h14, .ref h15, .ref h16, .ref h17, .ref h18, .int 0])), (h17, .inl (zI g, 20, .inl (fun _ => 0))), (h18, .inl (zI g, 20, .inl (upd (fun _ => 99) 16 99)))] := hD
  rw [zc_set] at hP hD
  refine lv_iinc (v := 17) (lv' := [(2, .int 17), (1, .int 0), (0, .ref h0)]) hx hb dX0_widenSpans_48 hl (k := 0) rfl (by decide) (by decide) rfl (fun ls hl => ?_)
  refine lv_goto (tgt := 4) hx hb dX0_widenSpans_51 (by decide) ?_
  refine lv_iload_n hx hb dX0_widenSpans_4 rfl (lv_at hl 0 rfl) ?_
  refine lv_bipush (v := 20) hx hb dX0_widenSpans_5 (by decide) ?_
  refine lv_icmp_ge (tgt := 54) hx hb dX0_widenSpans_7 (by decide) (fun h => absurd h (by decide +kernel)) (fun _ => ?_)
  refine lv_aload_n hx hb dX0_widenSpans_10 rfl (lv_at hl 2 rfl) ?_
  refine va_get (D := g.1) (ci := 0) (v := .ref h17) (C := RX0) (T := TX0) (N := 11) hx hb hts zl_X0 hown hK hP 0 rfl rfl 8 (by decide) (hts _ m_f_RX0_45) (fun _ h => h) rfl dX0_widenSpans_11 ?_
  refine lv_iload_n hx hb dX0_widenSpans_14 rfl (lv_at hl 0 rfl) ?_
  refine va_iald (D := g.1) hx hb hK hP 1 0 rfl rfl (vp_in_iff.mpr (by decide +kernel)) dX0_widenSpans_15 ?_
  refine lv_topi (nm_r (e' := 0) (by rfl) ?_)
  refine lv_if_ne (tgt := 30) hx hb dX0_widenSpans_16 (by decide) (fun h => absurd h (by decide +kernel)) (fun _ => ?_)
  refine lv_aload_n hx hb dX0_widenSpans_19 rfl (lv_at hl 2 rfl) ?_
  refine va_get (D := g.1) (ci := 0) (v := .ref h18) (C := RX0) (T := TX0) (N := 11) hx hb hts zl_X0 hown hK hP 0 rfl rfl 9 (by decide) (hts _ m_f_RX0_48) (fun _ h => h) rfl dX0_widenSpans_20 ?_
  refine lv_iload_n hx hb dX0_widenSpans_23 rfl (lv_at hl 0 rfl) ?_
  refine va_iald (D := g.1) hx hb hK hP 2 0 rfl rfl (vp_in_iff.mpr (by decide +kernel)) dX0_widenSpans_24 ?_
  refine lv_topi (nm_r (e' := 99) (by rfl) ?_)
  refine lv_bipush (v := 99) hx hb dX0_widenSpans_25 (by decide) ?_
  refine lv_icmp_eq (tgt := 33) hx hb dX0_widenSpans_27 (by decide) (fun _ => ?_) (fun h => absurd h (by decide +kernel))
  refine lv_aload_n hx hb dX0_widenSpans_33 rfl (lv_at hl 2 rfl) ?_
  refine va_get (D := g.1) (ci := 0) (v := .ref h17) (C := RX0) (T := TX0) (N := 11) hx hb hts zl_X0 hown hK hP 0 rfl rfl 8 (by decide) (hts _ m_f_RX0_45) (fun _ h => h) rfl dX0_widenSpans_34 ?_
  refine lv_iload_n hx hb dX0_widenSpans_37 rfl (lv_at hl 0 rfl) ?_
  refine lv_iconst (v := 0) hx hb dX0_widenSpans_38 (by decide) ?_
  refine va_iast (D := g.1) hx hb hK hP hD hS 1 0 rfl rfl (vp_in_iff.mpr (by decide +kernel)) dX0_widenSpans_39 (fun H locs hP hD hS => ?_)
  have hP : va_P g.1 vwCl [(h0, .inr (0, [.ref h11, .int 0, .ref h12, .int 0, .ref h13, .ref h14, .ref h15, .ref h16, .ref h17, .ref h18, .int 0])), (h17, .inl (zI g, 20, .inl (upd (fun _ => 0) 17 0))), (h18, .inl (zI g, 20, .inl (fun _ => 99)))] H := hP
  have hD : va_D A [(h0, .inr (0, [.ref h11, .int 0, .ref h12, .int 0, .ref h13, .ref h14, .ref h15, .ref h16, .ref h17, .ref h18, .int 0])), (h17, .inl (zI g, 20, .inl (upd (fun _ => 0) 17 0))), (h18, .inl (zI g, 20, .inl (fun _ => 99)))] := hD
  rw [zc_set] at hP hD
  refine lv_aload_n hx hb dX0_widenSpans_40 rfl (lv_at hl 2 rfl) ?_
  refine va_get (D := g.1) (ci := 0) (v := .ref h18) (C := RX0) (T := TX0) (N := 11) hx hb hts zl_X0 hown hK hP 0 rfl rfl 9 (by decide) (hts _ m_f_RX0_48) (fun _ h => h) rfl dX0_widenSpans_41 ?_
  refine lv_iload_n hx hb dX0_widenSpans_44 rfl (lv_at hl 0 rfl) ?_
  refine lv_bipush (v := 99) hx hb dX0_widenSpans_45 (by decide) ?_
  refine va_iast (D := g.1) hx hb hK hP hD hS 2 0 rfl rfl (vp_in_iff.mpr (by decide +kernel)) dX0_widenSpans_47 (fun H locs hP hD hS => ?_)
  have hP : va_P g.1 vwCl [(h0, .inr (0, [.ref h11, .int 0, .ref h12, .int 0, .ref h13, .ref h14, .ref h15, .ref h16, .ref h17, .ref h18, .int 0])), (h17, .inl (zI g, 20, .inl (fun _ => 0))), (h18, .inl (zI g, 20, .inl (upd (fun _ => 99) 17 99)))] H := hP
  have hD : va_D A [(h0, .inr (0, [.ref h11, .int 0, .ref h12, .int 0, .ref h13, .ref h14, .ref h15, .ref h16, .ref h17, .ref h18, .int 0])), (h17, .inl (zI g, 20, .inl (fun _ => 0))), (h18, .inl (zI g, 20, .inl (upd (fun _ => 99) 17 99)))] := hD
  rw [zc_set] at hP hD
  refine lv_iinc (v := 18) (lv' := [(2, .int 18), (1, .int 0), (0, .ref h0)]) hx hb dX0_widenSpans_48 hl (k := 0) rfl (by decide) (by decide) rfl (fun ls hl => ?_)
  refine lv_goto (tgt := 4) hx hb dX0_widenSpans_51 (by decide) ?_
  refine lv_iload_n hx hb dX0_widenSpans_4 rfl (lv_at hl 0 rfl) ?_
  refine lv_bipush (v := 20) hx hb dX0_widenSpans_5 (by decide) ?_
  refine lv_icmp_ge (tgt := 54) hx hb dX0_widenSpans_7 (by decide) (fun h => absurd h (by decide +kernel)) (fun _ => ?_)
  refine lv_aload_n hx hb dX0_widenSpans_10 rfl (lv_at hl 2 rfl) ?_
  refine va_get (D := g.1) (ci := 0) (v := .ref h17) (C := RX0) (T := TX0) (N := 11) hx hb hts zl_X0 hown hK hP 0 rfl rfl 8 (by decide) (hts _ m_f_RX0_45) (fun _ h => h) rfl dX0_widenSpans_11 ?_
  refine lv_iload_n hx hb dX0_widenSpans_14 rfl (lv_at hl 0 rfl) ?_
  refine va_iald (D := g.1) hx hb hK hP 1 0 rfl rfl (vp_in_iff.mpr (by decide +kernel)) dX0_widenSpans_15 ?_
  refine lv_topi (nm_r (e' := 0) (by rfl) ?_)
  refine lv_if_ne (tgt := 30) hx hb dX0_widenSpans_16 (by decide) (fun h => absurd h (by decide +kernel)) (fun _ => ?_)
  refine lv_aload_n hx hb dX0_widenSpans_19 rfl (lv_at hl 2 rfl) ?_
  refine va_get (D := g.1) (ci := 0) (v := .ref h18) (C := RX0) (T := TX0) (N := 11) hx hb hts zl_X0 hown hK hP 0 rfl rfl 9 (by decide) (hts _ m_f_RX0_48) (fun _ h => h) rfl dX0_widenSpans_20 ?_
  refine lv_iload_n hx hb dX0_widenSpans_23 rfl (lv_at hl 0 rfl) ?_
  refine va_iald (D := g.1) hx hb hK hP 2 0 rfl rfl (vp_in_iff.mpr (by decide +kernel)) dX0_widenSpans_24 ?_
  refine lv_topi (nm_r (e' := 99) (by rfl) ?_)
  refine lv_bipush (v := 99) hx hb dX0_widenSpans_25 (by decide) ?_
  refine lv_icmp_eq (tgt := 33) hx hb dX0_widenSpans_27 (by decide) (fun _ => ?_) (fun h => absurd h (by decide +kernel))
  refine lv_aload_n hx hb dX0_widenSpans_33 rfl (lv_at hl 2 rfl) ?_
  refine va_get (D := g.1) (ci := 0) (v := .ref h17) (C := RX0) (T := TX0) (N := 11) hx hb hts zl_X0 hown hK hP 0 rfl rfl 8 (by decide) (hts _ m_f_RX0_45) (fun _ h => h) rfl dX0_widenSpans_34 ?_
  refine lv_iload_n hx hb dX0_widenSpans_37 rfl (lv_at hl 0 rfl) ?_
  refine lv_iconst (v := 0) hx hb dX0_widenSpans_38 (by decide) ?_
  refine va_iast (D := g.1) hx hb hK hP hD hS 1 0 rfl rfl (vp_in_iff.mpr (by decide +kernel)) dX0_widenSpans_39 (fun H locs hP hD hS => ?_)
  have hP : va_P g.1 vwCl [(h0, .inr (0, [.ref h11, .int 0, .ref h12, .int 0, .ref h13, .ref h14, .ref h15, .ref h16, .ref h17, .ref h18, .int 0])), (h17, .inl (zI g, 20, .inl (upd (fun _ => 0) 18 0))), (h18, .inl (zI g, 20, .inl (fun _ => 99)))] H := hP
  have hD : va_D A [(h0, .inr (0, [.ref h11, .int 0, .ref h12, .int 0, .ref h13, .ref h14, .ref h15, .ref h16, .ref h17, .ref h18, .int 0])), (h17, .inl (zI g, 20, .inl (upd (fun _ => 0) 18 0))), (h18, .inl (zI g, 20, .inl (fun _ => 99)))] := hD
  rw [zc_set] at hP hD
  refine lv_aload_n hx hb dX0_widenSpans_40 rfl (lv_at hl 2 rfl) ?_
  refine va_get (D := g.1) (ci := 0) (v := .ref h18) (C := RX0) (T := TX0) (N := 11) hx hb hts zl_X0 hown hK hP 0 rfl rfl 9 (by decide) (hts _ m_f_RX0_48) (fun _ h => h) rfl dX0_widenSpans_41 ?_
  refine lv_iload_n hx hb dX0_widenSpans_44 rfl (lv_at hl 0 rfl) ?_
  refine lv_bipush (v := 99) hx hb dX0_widenSpans_45 (by decide) ?_
  refine va_iast (D := g.1) hx hb hK hP hD hS 2 0 rfl rfl (vp_in_iff.mpr (by decide +kernel)) dX0_widenSpans_47 (fun H locs hP hD hS => ?_)
  have hP : va_P g.1 vwCl [(h0, .inr (0, [.ref h11, .int 0, .ref h12, .int 0, .ref h13, .ref h14, .ref h15, .ref h16, .ref h17, .ref h18, .int 0])), (h17, .inl (zI g, 20, .inl (fun _ => 0))), (h18, .inl (zI g, 20, .inl (upd (fun _ => 99) 18 99)))] H := hP
  have hD : va_D A [(h0, .inr (0, [.ref h11, .int 0, .ref h12, .int 0, .ref h13, .ref h14, .ref h15, .ref h16, .ref h17, .ref h18, .int 0])), (h17, .inl (zI g, 20, .inl (fun _ => 0))), (h18, .inl (zI g, 20, .inl (upd (fun _ => 99) 18 99)))] := hD
  rw [zc_set] at hP hD
  refine lv_iinc (v := 19) (lv' := [(2, .int 19), (1, .int 0), (0, .ref h0)]) hx hb dX0_widenSpans_48 hl (k := 0) rfl (by decide) (by decide) rfl (fun ls hl => ?_)
  refine lv_goto (tgt := 4) hx hb dX0_widenSpans_51 (by decide) ?_
  refine lv_iload_n hx hb dX0_widenSpans_4 rfl (lv_at hl 0 rfl) ?_
  refine lv_bipush (v := 20) hx hb dX0_widenSpans_5 (by decide) ?_
  refine lv_icmp_ge (tgt := 54) hx hb dX0_widenSpans_7 (by decide) (fun h => absurd h (by decide +kernel)) (fun _ => ?_)
  refine lv_aload_n hx hb dX0_widenSpans_10 rfl (lv_at hl 2 rfl) ?_
  refine va_get (D := g.1) (ci := 0) (v := .ref h17) (C := RX0) (T := TX0) (N := 11) hx hb hts zl_X0 hown hK hP 0 rfl rfl 8 (by decide) (hts _ m_f_RX0_45) (fun _ h => h) rfl dX0_widenSpans_11 ?_
  refine lv_iload_n hx hb dX0_widenSpans_14 rfl (lv_at hl 0 rfl) ?_
  refine va_iald (D := g.1) hx hb hK hP 1 0 rfl rfl (vp_in_iff.mpr (by decide +kernel)) dX0_widenSpans_15 ?_
  refine lv_topi (nm_r (e' := 0) (by rfl) ?_)
  refine lv_if_ne (tgt := 30) hx hb dX0_widenSpans_16 (by decide) (fun h => absurd h (by decide +kernel)) (fun _ => ?_)
  refine lv_aload_n hx hb dX0_widenSpans_19 rfl (lv_at hl 2 rfl) ?_
  refine va_get (D := g.1) (ci := 0) (v := .ref h18) (C := RX0) (T := TX0) (N := 11) hx hb hts zl_X0 hown hK hP 0 rfl rfl 9 (by decide) (hts _ m_f_RX0_48) (fun _ h => h) rfl dX0_widenSpans_20 ?_
  refine lv_iload_n hx hb dX0_widenSpans_23 rfl (lv_at hl 0 rfl) ?_
  refine va_iald (D := g.1) hx hb hK hP 2 0 rfl rfl (vp_in_iff.mpr (by decide +kernel)) dX0_widenSpans_24 ?_
  refine lv_topi (nm_r (e' := 99) (by rfl) ?_)
  refine lv_bipush (v := 99) hx hb dX0_widenSpans_25 (by decide) ?_
  refine lv_icmp_eq (tgt := 33) hx hb dX0_widenSpans_27 (by decide) (fun _ => ?_) (fun h => absurd h (by decide +kernel))
  refine lv_aload_n hx hb dX0_widenSpans_33 rfl (lv_at hl 2 rfl) ?_
  refine va_get (D := g.1) (ci := 0) (v := .ref h17) (C := RX0) (T := TX0) (N := 11) hx hb hts zl_X0 hown hK hP 0 rfl rfl 8 (by decide) (hts _ m_f_RX0_45) (fun _ h => h) rfl dX0_widenSpans_34 ?_
  refine lv_iload_n hx hb dX0_widenSpans_37 rfl (lv_at hl 0 rfl) ?_
  refine lv_iconst (v := 0) hx hb dX0_widenSpans_38 (by decide) ?_
  refine va_iast (D := g.1) hx hb hK hP hD hS 1 0 rfl rfl (vp_in_iff.mpr (by decide +kernel)) dX0_widenSpans_39 (fun H locs hP hD hS => ?_)
  have hP : va_P g.1 vwCl [(h0, .inr (0, [.ref h11, .int 0, .ref h12, .int 0, .ref h13, .ref h14, .ref h15, .ref h16, .ref h17, .ref h18, .int 0])), (h17, .inl (zI g, 20, .inl (upd (fun _ => 0) 19 0))), (h18, .inl (zI g, 20, .inl (fun _ => 99)))] H := hP
  have hD : va_D A [(h0, .inr (0, [.ref h11, .int 0, .ref h12, .int 0, .ref h13, .ref h14, .ref h15, .ref h16, .ref h17, .ref h18, .int 0])), (h17, .inl (zI g, 20, .inl (upd (fun _ => 0) 19 0))), (h18, .inl (zI g, 20, .inl (fun _ => 99)))] := hD
  rw [zc_set] at hP hD
  refine lv_aload_n hx hb dX0_widenSpans_40 rfl (lv_at hl 2 rfl) ?_
  refine va_get (D := g.1) (ci := 0) (v := .ref h18) (C := RX0) (T := TX0) (N := 11) hx hb hts zl_X0 hown hK hP 0 rfl rfl 9 (by decide) (hts _ m_f_RX0_48) (fun _ h => h) rfl dX0_widenSpans_41 ?_
  refine lv_iload_n hx hb dX0_widenSpans_44 rfl (lv_at hl 0 rfl) ?_
  refine lv_bipush (v := 99) hx hb dX0_widenSpans_45 (by decide) ?_
  refine va_iast (D := g.1) hx hb hK hP hD hS 2 0 rfl rfl (vp_in_iff.mpr (by decide +kernel)) dX0_widenSpans_47 (fun H locs hP hD hS => ?_)
  have hP : va_P g.1 vwCl [(h0, .inr (0, [.ref h11, .int 0, .ref h12, .int 0, .ref h13, .ref h14, .ref h15, .ref h16, .ref h17, .ref h18, .int 0])), (h17, .inl (zI g, 20, .inl (fun _ => 0))), (h18, .inl (zI g, 20, .inl (upd (fun _ => 99) 19 99)))] H := hP
  have hD : va_D A [(h0, .inr (0, [.ref h11, .int 0, .ref h12, .int 0, .ref h13, .ref h14, .ref h15, .ref h16, .ref h17, .ref h18, .int 0])), (h17, .inl (zI g, 20, .inl (fun _ => 0))), (h18, .inl (zI g, 20, .inl (upd (fun _ => 99) 19 99)))] := hD
  rw [zc_set] at hP hD
  refine lv_iinc (v := 20) (lv' := [(2, .int 20), (1, .int 0), (0, .ref h0)]) hx hb dX0_widenSpans_48 hl (k := 0) rfl (by decide) (by decide) rfl (fun ls hl => ?_)
  refine lv_goto (tgt := 4) hx hb dX0_widenSpans_51 (by decide) ?_
  refine lv_iload_n hx hb dX0_widenSpans_4 rfl (lv_at hl 0 rfl) ?_
  refine lv_bipush (v := 20) hx hb dX0_widenSpans_5 (by decide) ?_
  refine lv_icmp_ge (tgt := 54) hx hb dX0_widenSpans_7 (by decide) (fun _ => ?_) (fun h => absurd h (by decide +kernel))
  refine lv_iload_n hx hb dX0_widenSpans_54 rfl (lv_at hl 1 rfl) ?_
  have hP9 := hP.sub (ws' := [(h0, .inr (0, [.ref h11, .int 0, .ref h12, .int 0, .ref h13, .ref h14, .ref h15, .ref h16, .ref h17, .ref h18, .int 0])), (h17, .inl (zI g, 20, .inl (fun _ => 0))), (h18, .inl (zI g, 20, .inl (fun _ => 99)))]) [0, 1, 2] rfl
  have hD9 := hD.sub (ws' := [(h0, .inr (0, [.ref h11, .int 0, .ref h12, .int 0, .ref h13, .ref h14, .ref h15, .ref h16, .ref h17, .ref h18, .int 0])), (h17, .inl (zI g, 20, .inl (fun _ => 0))), (h18, .inl (zI g, 20, .inl (fun _ => 99)))]) [0, 1, 2] (by decide) rfl
  exact W.iret (v := 0) hx hb hr (fun t ht hW => ⟨⟨0, 0, rfl, rfl, by rw [ht]; exact hP9, hD9⟩, hS.F ht⟩) hS.2.2 dX0_widenSpans_55
set_option maxHeartbeats 4000000 in
set_option maxRecDepth 100000 in
theorem kX4_hush (l : Launch) (g : zG) (h0 h1 h2 h3 h4 h5 h6 h7 h8 h9 h10 h11 h12 h13 h14 h15 h16 h17 h18 : Nat) (sz : Nat) : Met l yX4_hush (.code yX4_hush cX4_hush 1 (some .int) :: zBig) ({ frames := 1, cells := 0, slots := 0, locals := 22 }) (va_Pc [.ref h0] (zPre g [(h0, .inr (4, [.ref h1, .ref h2, .int 0, .ref h3, .ref h4, .ref h5, .ref h6, .int (-1), .ref h7, .ref h8, .ref h9, .ref h10])), (h1, .inr (0, [.ref h11, .int 0, .ref h12, .int 0, .ref h13, .ref h14, .ref h15, .ref h16, .ref h17, .ref h18, .int 0])), (h17, .inl (zI g, 20, .inl (fun _ => 0))), (h18, .inl (zI g, 20, .inl (fun _ => 99)))] sz)) (va_Qi (fun (r : Int32) (_ : Nat) => r = 0) (zPost g (fun _ : Nat => []) (va_A [(h0, .inr (4, [.ref h1, .ref h2, .int 0, .ref h3, .ref h4, .ref h5, .ref h6, .int (-1), .ref h7, .ref h8, .ref h9, .ref h10])), (h1, .inr (0, [.ref h11, .int 0, .ref h12, .int 0, .ref h13, .ref h14, .ref h15, .ref h16, .ref h17, .ref h18, .int 0])), (h17, .inl (zI g, 20, .inl (fun _ => 0))), (h18, .inl (zI g, 20, .inl (fun _ => 99)))] sz)) (va_A [(h0, .inr (4, [.ref h1, .ref h2, .int 0, .ref h3, .ref h4, .ref h5, .ref h6, .int (-1), .ref h7, .ref h8, .ref h9, .ref h10])), (h1, .inr (0, [.ref h11, .int 0, .ref h12, .int 0, .ref h13, .ref h14, .ref h15, .ref h16, .ref h17, .ref h18, .int 0])), (h17, .inl (zI g, 20, .inl (fun _ => 0))), (h18, .inl (zI g, 20, .inl (fun _ => 99)))] sz)) 0 0 (va_A [(h0, .inr (4, [.ref h1, .ref h2, .int 0, .ref h3, .ref h4, .ref h5, .ref h6, .int (-1), .ref h7, .ref h8, .ref h9, .ref h10])), (h1, .inr (0, [.ref h11, .int 0, .ref h12, .int 0, .ref h13, .ref h14, .ref h15, .ref h16, .ref h17, .ref h18, .int 0])), (h17, .inl (zI g, 20, .inl (fun _ => 0))), (h18, .inl (zI g, 20, .inl (fun _ => 99)))] sz) := by
  refine zMetI rfl (Nat.le_of_ble_eq_true rfl) ?_
  intro p e s m args below meth c A ls hx hb hml hr hlocks hin hown hts hK hN hZ hP hD hA hS hAe hl
  have hown : s.vm.findClass RX4 = some m.cls := hown
  have hl : lv_has ls 1 [(0, .ref h0)] := hl
  refine lv_aload_n hx hb dX4_hush_0 rfl (lv_at hl 0 rfl) ?_
  refine va_get (D := g.1) (ci := 4) (v := .ref h1) (C := RX4) (T := TX4) (N := 12) hx hb hts zl_X4 hown hK hP 0 rfl rfl 0 (by decide) (hts _ m_f_RX4_10) (fun _ h => h) rfl dX4_hush_1 ?_
  refine z_calli (wr := [(h0, .inr (4, [.ref h1, .ref h2, .int 0, .ref h3, .ref h4, .ref h5, .ref h6, .int (-1), .ref h7, .ref h8, .ref h9, .ref h10]))]) hP hD hS hA [1, 2, 3] [0] (by decide) rfl rfl (by decide) (va_runVN (As := []) (rest := []) ⟨hx, hb, hml, hown, hts⟩ (kX0_widenSpans_2 l g h1 h11 h12 h13 h14 h15 h16 h17 h18 s.heap.size) ⟨va_cnB 0 hts (zGood m_o_yX0_widenSpans) rfl rfl rfl (hN.m 23 (q := (RX4, 182, yX0_widenSpans)) rfl) (hts _ m_z_RX0) ⟨by decide +kernel, by decide +kernel, by decide +kernel⟩ ⟨Nat.le_of_ble_eq_true rfl, Nat.le_of_ble_eq_true rfl⟩, hts _ m_i_yX0_widenSpans, hts _ m_e_yX0_widenSpans⟩ (zPreV hK hN hZ hP hD hS hA [1, 2, 3] (by decide) rfl rfl 0 1 rfl rfl) rfl rfl hl.1 rfl (lv_room (Nat.le_of_ble_eq_true rfl)) dX4_hush_4 ⟨Nat.le_of_ble_eq_true rfl, Nat.le_of_ble_eq_true rfl⟩) (fun r u H locs hw hP hD hS => ?_)
  obtain rfl := hw
  have hP : va_P g.1 vwCl [(h0, .inr (4, [.ref h1, .ref h2, .int 0, .ref h3, .ref h4, .ref h5, .ref h6, .int (-1), .ref h7, .ref h8, .ref h9, .ref h10])), (h1, .inr (0, [.ref h11, .int 0, .ref h12, .int 0, .ref h13, .ref h14, .ref h15, .ref h16, .ref h17, .ref h18, .int 0])), (h17, .inl (zI g, 20, .inl (fun _ => 0))), (h18, .inl (zI g, 20, .inl (fun _ => 99)))] H := hP
  have hD : va_D A [(h0, .inr (4, [.ref h1, .ref h2, .int 0, .ref h3, .ref h4, .ref h5, .ref h6, .int (-1), .ref h7, .ref h8, .ref h9, .ref h10])), (h1, .inr (0, [.ref h11, .int 0, .ref h12, .int 0, .ref h13, .ref h14, .ref h15, .ref h16, .ref h17, .ref h18, .int 0])), (h17, .inl (zI g, 20, .inl (fun _ => 0))), (h18, .inl (zI g, 20, .inl (fun _ => 99)))] := hD
  have hP9 := hP.sub (ws' := []) [] rfl
  have hD9 := hD.sub (ws' := []) [] (by decide) rfl
  exact W.iret (v := 0) hx hb hr (fun t ht hW => ⟨⟨0, 0, rfl, rfl, by rw [ht]; exact hP9, hD9⟩, hS.F ht⟩) hS.2.2 dX4_hush_7
set_option maxHeartbeats 4000000 in
set_option maxRecDepth 100000 in
theorem kX4_best (l : Launch) (g : zG) (h0 h1 h2 h3 h4 h5 h6 h7 h8 h9 h10 h11 h12 h13 h14 h15 h16 h17 h18 : Nat) (sz : Nat) (p1 : Int32) : Met l yX4_best (.code yX4_best cX4_best 6 (some .int) :: zBig) ({ frames := 1, cells := 0, slots := 0, locals := 21 }) (va_Pc [.ref h0, .int p1] (zPre g [(h0, .inr (4, [.ref h1, .ref h2, .int 0, .ref h3, .ref h4, .ref h5, .ref h6, .int (-1), .ref h7, .ref h8, .ref h9, .ref h10])), (h1, .inr (0, [.ref h11, .int 0, .ref h12, .int 0, .ref h13, .ref h14, .ref h15, .ref h16, .ref h17, .ref h18, .int 0]))] sz)) (va_Qi (fun (r : Int32) (_ : Nat) => (p1.toInt < 0 ∧ r = (-1)) ∨ (0 ≤ p1.toInt ∧ 5 ≤ p1.toInt ∧ r = (-1)) ∨ (0 ≤ p1.toInt ∧ p1.toInt < 5 ∧ r = (-1))) (zPost g (fun _ : Nat => []) (va_A [(h0, .inr (4, [.ref h1, .ref h2, .int 0, .ref h3, .ref h4, .ref h5, .ref h6, .int (-1), .ref h7, .ref h8, .ref h9, .ref h10])), (h1, .inr (0, [.ref h11, .int 0, .ref h12, .int 0, .ref h13, .ref h14, .ref h15, .ref h16, .ref h17, .ref h18, .int 0]))] sz)) (va_A [(h0, .inr (4, [.ref h1, .ref h2, .int 0, .ref h3, .ref h4, .ref h5, .ref h6, .int (-1), .ref h7, .ref h8, .ref h9, .ref h10])), (h1, .inr (0, [.ref h11, .int 0, .ref h12, .int 0, .ref h13, .ref h14, .ref h15, .ref h16, .ref h17, .ref h18, .int 0]))] sz)) 0 0 (va_A [(h0, .inr (4, [.ref h1, .ref h2, .int 0, .ref h3, .ref h4, .ref h5, .ref h6, .int (-1), .ref h7, .ref h8, .ref h9, .ref h10])), (h1, .inr (0, [.ref h11, .int 0, .ref h12, .int 0, .ref h13, .ref h14, .ref h15, .ref h16, .ref h17, .ref h18, .int 0]))] sz) := by
  refine zMetI rfl (Nat.le_of_ble_eq_true rfl) ?_
  intro p e s m args below meth c A ls hx hb hml hr hlocks hin hown hts hK hN hZ hP hD hA hS hAe hl
  have hown : s.vm.findClass RX4 = some m.cls := hown
  have hl : lv_has ls 6 [(0, .ref h0), (1, .int p1)] := hl
  refine lv_aload_n hx hb dX4_best_0 rfl (lv_at hl 0 rfl) ?_
  refine va_get (D := g.1) (ci := 4) (v := .ref h1) (C := RX4) (T := TX4) (N := 12) hx hb hts zl_X4 hown hK hP 0 rfl rfl 0 (by decide) (hts _ m_f_RX4_10) (fun _ h => h) rfl dX4_best_1 ?_
  refine lv_iload_n hx hb dX4_best_4 rfl (lv_at hl 1 rfl) ?_
  refine z_calli (wr := [(h0, .inr (4, [.ref h1, .ref h2, .int 0, .ref h3, .ref h4, .ref h5, .ref h6, .int (-1), .ref h7, .ref h8, .ref h9, .ref h10]))]) hP hD hS hA [1] [0] (by decide) rfl rfl (by decide) (va_runVN (As := [.int p1]) (rest := []) ⟨hx, hb, hml, hown, hts⟩ (kX0_isThere_2 l g h1 h11 h12 h13 h14 h15 h16 h17 h18 s.heap.size p1) ⟨va_cnB 1 hts (zGood m_o_yX0_isThere) rfl rfl rfl (hN.m 4 (q := (RX4, 80, yX0_isThere)) rfl) (hts _ m_z_RX0) ⟨by decide +kernel, by decide +kernel, by decide +kernel⟩ ⟨Nat.le_of_ble_eq_true rfl, Nat.le_of_ble_eq_true rfl⟩, hts _ m_i_yX0_isThere, hts _ m_e_yX0_isThere⟩ (zPreV hK hN hZ hP hD hS hA [1] (by decide) rfl rfl 0 1 rfl rfl) rfl rfl hl.1 rfl (lv_room (Nat.le_of_ble_eq_true rfl)) dX4_best_5 ⟨Nat.le_of_ble_eq_true rfl, Nat.le_of_ble_eq_true rfl⟩) (fun r u H locs hw hP hD hS => ?_)
  rcases hw with ⟨i_0, rfl⟩ | ⟨i_1, i_2, rfl⟩ | ⟨i_3, i_4, rfl⟩
  · skip
    have i_0 : p1.toInt < 0 := i_0
    have hP : va_P g.1 vwCl [(h0, .inr (4, [.ref h1, .ref h2, .int 0, .ref h3, .ref h4, .ref h5, .ref h6, .int (-1), .ref h7, .ref h8, .ref h9, .ref h10])), (h1, .inr (0, [.ref h11, .int 0, .ref h12, .int 0, .ref h13, .ref h14, .ref h15, .ref h16, .ref h17, .ref h18, .int 0]))] H := hP
    have hD : va_D A [(h0, .inr (4, [.ref h1, .ref h2, .int 0, .ref h3, .ref h4, .ref h5, .ref h6, .int (-1), .ref h7, .ref h8, .ref h9, .ref h10])), (h1, .inr (0, [.ref h11, .int 0, .ref h12, .int 0, .ref h13, .ref h14, .ref h15, .ref h16, .ref h17, .ref h18, .int 0]))] := hD
    refine lv_if_ne (tgt := 13) hx hb dX4_best_8 (by decide) (fun h => absurd h (by decide +kernel)) (fun _ => ?_)
    refine lv_iconst (v := (-1)) hx hb dX4_best_11 (by decide) ?_
    have hP9 := hP.sub (ws' := []) [] rfl
    have hD9 := hD.sub (ws' := []) [] (by decide) rfl
    exact W.iret (v := (-1)) hx hb hr (fun t ht hW => ⟨⟨(-1), 0, rfl, Or.inl ⟨i_0, rfl⟩, by rw [ht]; exact hP9, hD9⟩, hS.F ht⟩) hS.2.2 dX4_best_12
  · skip
    have i_1 : 0 ≤ p1.toInt := i_1
    have i_2 : 5 ≤ p1.toInt := i_2
    have hP : va_P g.1 vwCl [(h0, .inr (4, [.ref h1, .ref h2, .int 0, .ref h3, .ref h4, .ref h5, .ref h6, .int (-1), .ref h7, .ref h8, .ref h9, .ref h10])), (h1, .inr (0, [.ref h11, .int 0, .ref h12, .int 0, .ref h13, .ref h14, .ref h15, .ref h16, .ref h17, .ref h18, .int 0]))] H := hP
    have hD : va_D A [(h0, .inr (4, [.ref h1, .ref h2, .int 0, .ref h3, .ref h4, .ref h5, .ref h6, .int (-1), .ref h7, .ref h8, .ref h9, .ref h10])), (h1, .inr (0, [.ref h11, .int 0, .ref h12, .int 0, .ref h13, .ref h14, .ref h15, .ref h16, .ref h17, .ref h18, .int 0]))] := hD
    refine lv_if_ne (tgt := 13) hx hb dX4_best_8 (by decide) (fun h => absurd h (by decide +kernel)) (fun _ => ?_)
    refine lv_iconst (v := (-1)) hx hb dX4_best_11 (by decide) ?_
    have hP9 := hP.sub (ws' := []) [] rfl
    have hD9 := hD.sub (ws' := []) [] (by decide) rfl
    exact W.iret (v := (-1)) hx hb hr (fun t ht hW => ⟨⟨(-1), 0, rfl, Or.inr (Or.inl ⟨i_1, i_2, rfl⟩), by rw [ht]; exact hP9, hD9⟩, hS.F ht⟩) hS.2.2 dX4_best_12
  · skip
    have i_3 : 0 ≤ p1.toInt := i_3
    have i_4 : p1.toInt < 5 := i_4
    have hP : va_P g.1 vwCl [(h0, .inr (4, [.ref h1, .ref h2, .int 0, .ref h3, .ref h4, .ref h5, .ref h6, .int (-1), .ref h7, .ref h8, .ref h9, .ref h10])), (h1, .inr (0, [.ref h11, .int 0, .ref h12, .int 0, .ref h13, .ref h14, .ref h15, .ref h16, .ref h17, .ref h18, .int 0]))] H := hP
    have hD : va_D A [(h0, .inr (4, [.ref h1, .ref h2, .int 0, .ref h3, .ref h4, .ref h5, .ref h6, .int (-1), .ref h7, .ref h8, .ref h9, .ref h10])), (h1, .inr (0, [.ref h11, .int 0, .ref h12, .int 0, .ref h13, .ref h14, .ref h15, .ref h16, .ref h17, .ref h18, .int 0]))] := hD
    refine lv_if_ne (tgt := 13) hx hb dX4_best_8 (by decide) (fun h => absurd h (by decide +kernel)) (fun _ => ?_)
    refine lv_iconst (v := (-1)) hx hb dX4_best_11 (by decide) ?_
    have hP9 := hP.sub (ws' := []) [] rfl
    have hD9 := hD.sub (ws' := []) [] (by decide) rfl
    exact W.iret (v := (-1)) hx hb hr (fun t ht hW => ⟨⟨(-1), 0, rfl, Or.inr (Or.inr (⟨i_3, i_4, rfl⟩)), by rw [ht]; exact hP9, hD9⟩, hS.F ht⟩) hS.2.2 dX4_best_12
set_option maxHeartbeats 4000000 in
set_option maxRecDepth 100000 in
theorem kX4_rests (l : Launch) (g : zG) (h0 h1 h2 h3 h4 h5 h6 h7 h8 h9 h10 h11 h12 h13 h14 h15 h16 h17 h18 : Nat) (sz : Nat) (p1 : Int32) : Met l yX4_rests (.code yX4_rests cX4_rests 3 (some .int) :: zBig) ({ frames := 0, cells := 0, slots := 0, locals := 0 }) (va_Pc [.ref h0, .int p1] (zPre g [(h0, .inr (4, [.ref h1, .ref h2, .int 0, .ref h3, .ref h4, .ref h5, .ref h6, .int (-1), .ref h7, .ref h8, .ref h9, .ref h10])), (h1, .inr (0, [.ref h11, .int 0, .ref h12, .int 0, .ref h13, .ref h14, .ref h15, .ref h16, .ref h17, .ref h18, .int 0]))] sz)) (va_Qi (fun (r : Int32) (_ : Nat) => (p1.toInt < (-1) ∧ r = (-1)) ∨ ((-1) ≤ p1.toInt ∧ p1.toInt < 5 ∧ r = (-2)) ∨ ((-1) ≤ p1.toInt ∧ 5 ≤ p1.toInt ∧ r = (-1))) (zPost g (fun _ : Nat => []) (va_A [(h0, .inr (4, [.ref h1, .ref h2, .int 0, .ref h3, .ref h4, .ref h5, .ref h6, .int (-1), .ref h7, .ref h8, .ref h9, .ref h10])), (h1, .inr (0, [.ref h11, .int 0, .ref h12, .int 0, .ref h13, .ref h14, .ref h15, .ref h16, .ref h17, .ref h18, .int 0]))] sz)) (va_A [(h0, .inr (4, [.ref h1, .ref h2, .int 0, .ref h3, .ref h4, .ref h5, .ref h6, .int (-1), .ref h7, .ref h8, .ref h9, .ref h10])), (h1, .inr (0, [.ref h11, .int 0, .ref h12, .int 0, .ref h13, .ref h14, .ref h15, .ref h16, .ref h17, .ref h18, .int 0]))] sz)) 0 0 (va_A [(h0, .inr (4, [.ref h1, .ref h2, .int 0, .ref h3, .ref h4, .ref h5, .ref h6, .int (-1), .ref h7, .ref h8, .ref h9, .ref h10])), (h1, .inr (0, [.ref h11, .int 0, .ref h12, .int 0, .ref h13, .ref h14, .ref h15, .ref h16, .ref h17, .ref h18, .int 0]))] sz) := by
  refine zMetI rfl (Nat.le_of_ble_eq_true rfl) ?_
  intro p e s m args below meth c A ls hx hb hml hr hlocks hin hown hts hK hN hZ hP hD hA hS hAe hl
  have hown : s.vm.findClass RX4 = some m.cls := hown
  have hl : lv_has ls 3 [(0, .ref h0), (1, .int p1)] := hl
  refine lv_iload_n hx hb dX4_rests_0 rfl (lv_at hl 1 rfl) ?_
  refine lv_iconst (v := (-1)) hx hb dX4_rests_1 (by decide) ?_
  refine lv_icmp_lt (tgt := 10) hx hb dX4_rests_2 (by decide) (fun c_0 => ?_) (fun c_0 => ?_)
  · have i_0 : p1.toInt < (-1) := z_lt (rfl) (rfl) c_0
    refine lv_iconst (v := (-1)) hx hb dX4_rests_10 (by decide) ?_
    have hP9 := hP.sub (ws' := []) [] rfl
    have hD9 := hD.sub (ws' := []) [] (by decide) rfl
    exact W.iret (v := (-1)) hx hb hr (fun t ht hW => ⟨⟨(-1), 0, rfl, Or.inl ⟨i_0, rfl⟩, by rw [ht]; exact hP9, hD9⟩, hS.F ht⟩) hS.2.2 dX4_rests_11
  · have i_0 : (-1) ≤ p1.toInt := z_nlt (rfl) (rfl) c_0
    refine lv_iload_n hx hb dX4_rests_5 rfl (lv_at hl 1 rfl) ?_
    refine lv_iconst (v := 5) hx hb dX4_rests_6 (by decide) ?_
    refine lv_icmp_lt (tgt := 12) hx hb dX4_rests_7 (by decide) (fun c_1 => ?_) (fun c_1 => ?_)
    · have i_1 : p1.toInt < 5 := z_lt (rfl) (rfl) c_1
      refine lv_aload_n hx hb dX4_rests_12 rfl (lv_at hl 0 rfl) ?_
      refine va_get (D := g.1) (ci := 4) (v := .ref h1) (C := RX4) (T := TX4) (N := 12) hx hb hts zl_X4 hown hK hP 0 rfl rfl 0 (by decide) (hts _ m_f_RX4_10) (fun _ h => h) rfl dX4_rests_13 ?_
      refine va_getN (D := g.1) (ci := 0) (v := .int 0) (C := RX0) (T := TX0) (N := 11) hx hb hts zl_X0 hown hK hP 1 rfl rfl 3 (by decide) (hN.f 7 (q := (RX4, 71, "FishSteps$Books", "buyers", "I")) rfl) (fun _ h => h) rfl dX4_rests_16 ?_
      refine lv_if_gt (tgt := 25) hx hb dX4_rests_19 (by decide) (fun h => absurd h (by decide +kernel)) (fun _ => ?_)
      refine lv_bipush (v := (-2)) hx hb dX4_rests_22 (by decide) ?_
      have hP9 := hP.sub (ws' := []) [] rfl
      have hD9 := hD.sub (ws' := []) [] (by decide) rfl
      exact W.iret (v := (-2)) hx hb hr (fun t ht hW => ⟨⟨(-2), 0, rfl, Or.inr (Or.inl ⟨i_0, i_1, rfl⟩), by rw [ht]; exact hP9, hD9⟩, hS.F ht⟩) hS.2.2 dX4_rests_24
    · have i_1 : 5 ≤ p1.toInt := z_nlt (rfl) (rfl) c_1
      refine lv_iconst (v := (-1)) hx hb dX4_rests_10 (by decide) ?_
      have hP9 := hP.sub (ws' := []) [] rfl
      have hD9 := hD.sub (ws' := []) [] (by decide) rfl
      exact W.iret (v := (-1)) hx hb hr (fun t ht hW => ⟨⟨(-1), 0, rfl, Or.inr (Or.inr (⟨i_0, i_1, rfl⟩)), by rw [ht]; exact hP9, hD9⟩, hS.F ht⟩) hS.2.2 dX4_rests_11
set_option maxHeartbeats 4000000 in
set_option maxRecDepth 100000 in
theorem kX4_order (l : Launch) (g : zG) (h0 h1 h2 h3 h4 h5 h6 h7 h8 h9 h10 h11 h12 h13 h14 h15 h16 h17 h18 : Nat) (sz : Nat) (p1 : Int32) : Met l yX4_order (.code yX4_order cX4_order 3 (some .int) :: zBig) ({ frames := 0, cells := 0, slots := 0, locals := 0 }) (va_Pc [.ref h0, .int p1] (zPre g [(h0, .inr (4, [.ref h1, .ref h2, .int 0, .ref h3, .ref h4, .ref h5, .ref h6, .int (-1), .ref h7, .ref h8, .ref h9, .ref h10])), (h1, .inr (0, [.ref h11, .int 0, .ref h12, .int 0, .ref h13, .ref h14, .ref h15, .ref h16, .ref h17, .ref h18, .int 0]))] sz)) (va_Qi (fun (r : Int32) (_ : Nat) => (p1.toInt < (-1) ∧ r = (-1)) ∨ ((-1) ≤ p1.toInt ∧ p1.toInt < 6 ∧ r = (-2)) ∨ ((-1) ≤ p1.toInt ∧ 6 ≤ p1.toInt ∧ r = (-1))) (zPost g (fun _ : Nat => []) (va_A [(h0, .inr (4, [.ref h1, .ref h2, .int 0, .ref h3, .ref h4, .ref h5, .ref h6, .int (-1), .ref h7, .ref h8, .ref h9, .ref h10])), (h1, .inr (0, [.ref h11, .int 0, .ref h12, .int 0, .ref h13, .ref h14, .ref h15, .ref h16, .ref h17, .ref h18, .int 0]))] sz)) (va_A [(h0, .inr (4, [.ref h1, .ref h2, .int 0, .ref h3, .ref h4, .ref h5, .ref h6, .int (-1), .ref h7, .ref h8, .ref h9, .ref h10])), (h1, .inr (0, [.ref h11, .int 0, .ref h12, .int 0, .ref h13, .ref h14, .ref h15, .ref h16, .ref h17, .ref h18, .int 0]))] sz)) 0 0 (va_A [(h0, .inr (4, [.ref h1, .ref h2, .int 0, .ref h3, .ref h4, .ref h5, .ref h6, .int (-1), .ref h7, .ref h8, .ref h9, .ref h10])), (h1, .inr (0, [.ref h11, .int 0, .ref h12, .int 0, .ref h13, .ref h14, .ref h15, .ref h16, .ref h17, .ref h18, .int 0]))] sz) := by
  refine zMetI rfl (Nat.le_of_ble_eq_true rfl) ?_
  intro p e s m args below meth c A ls hx hb hml hr hlocks hin hown hts hK hN hZ hP hD hA hS hAe hl
  have hown : s.vm.findClass RX4 = some m.cls := hown
  have hl : lv_has ls 3 [(0, .ref h0), (1, .int p1)] := hl
  refine lv_iload_n hx hb dX4_order_0 rfl (lv_at hl 1 rfl) ?_
  refine lv_iconst (v := (-1)) hx hb dX4_order_1 (by decide) ?_
  refine lv_icmp_lt (tgt := 11) hx hb dX4_order_2 (by decide) (fun c_0 => ?_) (fun c_0 => ?_)
  · have i_0 : p1.toInt < (-1) := z_lt (rfl) (rfl) c_0
    refine lv_iconst (v := (-1)) hx hb dX4_order_11 (by decide) ?_
    have hP9 := hP.sub (ws' := []) [] rfl
    have hD9 := hD.sub (ws' := []) [] (by decide) rfl
    exact W.iret (v := (-1)) hx hb hr (fun t ht hW => ⟨⟨(-1), 0, rfl, Or.inl ⟨i_0, rfl⟩, by rw [ht]; exact hP9, hD9⟩, hS.F ht⟩) hS.2.2 dX4_order_12
  · have i_0 : (-1) ≤ p1.toInt := z_nlt (rfl) (rfl) c_0
    refine lv_iload_n hx hb dX4_order_5 rfl (lv_at hl 1 rfl) ?_
    refine lv_bipush (v := 6) hx hb dX4_order_6 (by decide) ?_
    refine lv_icmp_lt (tgt := 13) hx hb dX4_order_8 (by decide) (fun c_1 => ?_) (fun c_1 => ?_)
    · have i_1 : p1.toInt < 6 := z_lt (rfl) (rfl) c_1
      refine lv_aload_n hx hb dX4_order_13 rfl (lv_at hl 0 rfl) ?_
      refine va_get (D := g.1) (ci := 4) (v := .ref h1) (C := RX4) (T := TX4) (N := 12) hx hb hts zl_X4 hown hK hP 0 rfl rfl 0 (by decide) (hts _ m_f_RX4_10) (fun _ h => h) rfl dX4_order_14 ?_
      refine va_getN (D := g.1) (ci := 0) (v := .int 0) (C := RX0) (T := TX0) (N := 11) hx hb hts zl_X0 hown hK hP 1 rfl rfl 1 (by decide) (hN.f 4 (q := (RX4, 122, "FishSteps$Books", "lots", "I")) rfl) (fun _ h => h) rfl dX4_order_17 ?_
      refine lv_if_gt (tgt := 26) hx hb dX4_order_20 (by decide) (fun h => absurd h (by decide +kernel)) (fun _ => ?_)
      refine lv_bipush (v := (-2)) hx hb dX4_order_23 (by decide) ?_
      have hP9 := hP.sub (ws' := []) [] rfl
      have hD9 := hD.sub (ws' := []) [] (by decide) rfl
      exact W.iret (v := (-2)) hx hb hr (fun t ht hW => ⟨⟨(-2), 0, rfl, Or.inr (Or.inl ⟨i_0, i_1, rfl⟩), by rw [ht]; exact hP9, hD9⟩, hS.F ht⟩) hS.2.2 dX4_order_25
    · have i_1 : 6 ≤ p1.toInt := z_nlt (rfl) (rfl) c_1
      refine lv_iconst (v := (-1)) hx hb dX4_order_11 (by decide) ?_
      have hP9 := hP.sub (ws' := []) [] rfl
      have hD9 := hD.sub (ws' := []) [] (by decide) rfl
      exact W.iret (v := (-1)) hx hb hr (fun t ht hW => ⟨⟨(-1), 0, rfl, Or.inr (Or.inr (⟨i_0, i_1, rfl⟩)), by rw [ht]; exact hP9, hD9⟩, hS.F ht⟩) hS.2.2 dX4_order_12
set_option maxHeartbeats 4000000 in
set_option maxRecDepth 100000 in
theorem kX4_isRing (l : Launch) (g : zG) (h0 h1 h2 h3 h4 h5 h6 h7 h8 h9 h10 h11 h12 h13 h14 h15 h16 h17 h18 : Nat) (sz : Nat) (p1 : Int32) : Met l yX4_isRing (.code yX4_isRing cX4_isRing 2 (some .boolean) :: zBig) ({ frames := 1, cells := 0, slots := 0, locals := 20 }) (va_Pc [.ref h0, .int p1] (zPre g [(h0, .inr (4, [.ref h1, .ref h2, .int 0, .ref h3, .ref h4, .ref h5, .ref h6, .int (-1), .ref h7, .ref h8, .ref h9, .ref h10])), (h1, .inr (0, [.ref h11, .int 0, .ref h12, .int 0, .ref h13, .ref h14, .ref h15, .ref h16, .ref h17, .ref h18, .int 0]))] sz)) (va_Qi (fun (r : Int32) (_ : Nat) => (p1.toInt < 0 ∧ r = 0) ∨ (0 ≤ p1.toInt ∧ 1 ≤ p1.toInt ∧ r = 0) ∨ (0 ≤ p1.toInt ∧ p1.toInt < 1 ∧ r = 0)) (zPost g (fun _ : Nat => [(h0, .inr (4, [.ref h1, .ref h2, .int 0, .ref h3, .ref h4, .ref h5, .ref h6, .int (-1), .ref h7, .ref h8, .ref h9, .ref h10])), (h1, .inr (0, [.ref h11, .int 0, .ref h12, .int 0, .ref h13, .ref h14, .ref h15, .ref h16, .ref h17, .ref h18, .int 0]))]) (va_A [(h0, .inr (4, [.ref h1, .ref h2, .int 0, .ref h3, .ref h4, .ref h5, .ref h6, .int (-1), .ref h7, .ref h8, .ref h9, .ref h10])), (h1, .inr (0, [.ref h11, .int 0, .ref h12, .int 0, .ref h13, .ref h14, .ref h15, .ref h16, .ref h17, .ref h18, .int 0]))] sz)) (va_A [(h0, .inr (4, [.ref h1, .ref h2, .int 0, .ref h3, .ref h4, .ref h5, .ref h6, .int (-1), .ref h7, .ref h8, .ref h9, .ref h10])), (h1, .inr (0, [.ref h11, .int 0, .ref h12, .int 0, .ref h13, .ref h14, .ref h15, .ref h16, .ref h17, .ref h18, .int 0]))] sz)) 0 0 (va_A [(h0, .inr (4, [.ref h1, .ref h2, .int 0, .ref h3, .ref h4, .ref h5, .ref h6, .int (-1), .ref h7, .ref h8, .ref h9, .ref h10])), (h1, .inr (0, [.ref h11, .int 0, .ref h12, .int 0, .ref h13, .ref h14, .ref h15, .ref h16, .ref h17, .ref h18, .int 0]))] sz) := by
  refine zMetI rfl (Nat.le_of_ble_eq_true rfl) ?_
  intro p e s m args below meth c A ls hx hb hml hr hlocks hin hown hts hK hN hZ hP hD hA hS hAe hl
  have hown : s.vm.findClass RX4 = some m.cls := hown
  have hl : lv_has ls 2 [(0, .ref h0), (1, .int p1)] := hl
  refine lv_iload_n hx hb dX4_isRing_0 rfl (lv_at hl 1 rfl) ?_
  refine lv_if_lt (tgt := 29) hx hb dX4_isRing_1 (by decide) (fun c_0 => ?_) (fun c_0 => ?_)
  · have i_0 : p1.toInt < 0 := z_lt (rfl) (rfl) c_0
    refine lv_iconst (v := 0) hx hb dX4_isRing_29 (by decide) ?_
    have hP9 := hP.sub (ws' := [(h0, .inr (4, [.ref h1, .ref h2, .int 0, .ref h3, .ref h4, .ref h5, .ref h6, .int (-1), .ref h7, .ref h8, .ref h9, .ref h10])), (h1, .inr (0, [.ref h11, .int 0, .ref h12, .int 0, .ref h13, .ref h14, .ref h15, .ref h16, .ref h17, .ref h18, .int 0]))]) [0, 1] rfl
    have hD9 := hD.sub (ws' := [(h0, .inr (4, [.ref h1, .ref h2, .int 0, .ref h3, .ref h4, .ref h5, .ref h6, .int (-1), .ref h7, .ref h8, .ref h9, .ref h10])), (h1, .inr (0, [.ref h11, .int 0, .ref h12, .int 0, .ref h13, .ref h14, .ref h15, .ref h16, .ref h17, .ref h18, .int 0]))]) [0, 1] (by decide) rfl
    exact W.zret (v := 0) hx hb hr (by decide) (fun t ht hW => ⟨⟨0, 0, rfl, Or.inl ⟨i_0, rfl⟩, by rw [ht]; exact hP9, hD9⟩, hS.F ht⟩) hS.2.2 dX4_isRing_30
  · have i_0 : 0 ≤ p1.toInt := z_nlt (rfl) (rfl) c_0
    refine lv_iload_n hx hb dX4_isRing_4 rfl (lv_at hl 1 rfl) ?_
    refine lv_iconst (v := 1) hx hb dX4_isRing_5 (by decide) ?_
    refine lv_aload_n hx hb dX4_isRing_6 rfl (lv_at hl 0 rfl) ?_
    refine va_get (D := g.1) (ci := 4) (v := .ref h1) (C := RX4) (T := TX4) (N := 12) hx hb hts zl_X4 hown hK hP 0 rfl rfl 0 (by decide) (hts _ m_f_RX4_10) (fun _ h => h) rfl dX4_isRing_7 ?_
    refine va_getN (D := g.1) (ci := 0) (v := .int 0) (C := RX0) (T := TX0) (N := 11) hx hb hts zl_X0 hown hK hP 1 rfl rfl 3 (by decide) (hN.f 7 (q := (RX4, 71, "FishSteps$Books", "buyers", "I")) rfl) (fun _ h => h) rfl dX4_isRing_10 ?_
    refine lv_ishl hx hb dX4_isRing_13 ?_
    refine lv_topi (nm_r (e' := 1) (by decide +kernel) ?_)
    refine lv_icmp_ge (tgt := 29) hx hb dX4_isRing_14 (by decide) (fun c_1 => ?_) (fun c_1 => ?_)
    · have i_1 : 1 ≤ p1.toInt := z_le (rfl) (rfl) c_1
      refine lv_iconst (v := 0) hx hb dX4_isRing_29 (by decide) ?_
      have hP9 := hP.sub (ws' := [(h0, .inr (4, [.ref h1, .ref h2, .int 0, .ref h3, .ref h4, .ref h5, .ref h6, .int (-1), .ref h7, .ref h8, .ref h9, .ref h10])), (h1, .inr (0, [.ref h11, .int 0, .ref h12, .int 0, .ref h13, .ref h14, .ref h15, .ref h16, .ref h17, .ref h18, .int 0]))]) [0, 1] rfl
      have hD9 := hD.sub (ws' := [(h0, .inr (4, [.ref h1, .ref h2, .int 0, .ref h3, .ref h4, .ref h5, .ref h6, .int (-1), .ref h7, .ref h8, .ref h9, .ref h10])), (h1, .inr (0, [.ref h11, .int 0, .ref h12, .int 0, .ref h13, .ref h14, .ref h15, .ref h16, .ref h17, .ref h18, .int 0]))]) [0, 1] (by decide) rfl
      exact W.zret (v := 0) hx hb hr (by decide) (fun t ht hW => ⟨⟨0, 0, rfl, Or.inr (Or.inl ⟨i_0, i_1, rfl⟩), by rw [ht]; exact hP9, hD9⟩, hS.F ht⟩) hS.2.2 dX4_isRing_30
    · have i_1 : p1.toInt < 1 := z_nle (rfl) (rfl) c_1
      refine lv_iload_n hx hb dX4_isRing_17 rfl (lv_at hl 1 rfl) ?_
      obtain rfl : p1 = 0 := Int32.toInt_inj.mp (show p1.toInt = (0 : Int32).toInt from (show p1.toInt = 0 by omega).trans rfl)
      refine z_calli (wr := [(h0, .inr (4, [.ref h1, .ref h2, .int 0, .ref h3, .ref h4, .ref h5, .ref h6, .int (-1), .ref h7, .ref h8, .ref h9, .ref h10])), (h1, .inr (0, [.ref h11, .int 0, .ref h12, .int 0, .ref h13, .ref h14, .ref h15, .ref h16, .ref h17, .ref h18, .int 0]))]) hP hD hS hA [] [0, 1] (by decide) rfl rfl (by decide) (va_runS (As := [.int 0]) (rest := []) ⟨hx, hb, hml, hown, hts⟩ (kJ6_bitCount_0f7a4_3 l g  s.heap.size) ⟨callB_of 1 hts (zGood m_o_yJ6_bitCount_0f7a4) rfl rfl rfl (hts _ m_z_RJ6) (hts _ m_m_RX4_251) ⟨by decide +kernel, by decide +kernel, by decide +kernel⟩ ⟨Nat.le_of_ble_eq_true rfl, Nat.le_of_ble_eq_true rfl⟩, hts _ m_s_yJ6_bitCount_0f7a4⟩ (zPreS hK hN hZ hP hD hS hA [] (by decide) rfl rfl) rfl rfl hl.1 rfl (lv_room (Nat.le_of_ble_eq_true rfl)) dX4_isRing_18 ⟨Nat.le_of_ble_eq_true rfl, Nat.le_of_ble_eq_true rfl⟩) (fun r u H locs hw hP hD hS => ?_)
      obtain rfl := hw
      have hP : va_P g.1 vwCl [(h0, .inr (4, [.ref h1, .ref h2, .int 0, .ref h3, .ref h4, .ref h5, .ref h6, .int (-1), .ref h7, .ref h8, .ref h9, .ref h10])), (h1, .inr (0, [.ref h11, .int 0, .ref h12, .int 0, .ref h13, .ref h14, .ref h15, .ref h16, .ref h17, .ref h18, .int 0]))] H := hP
      have hD : va_D A [(h0, .inr (4, [.ref h1, .ref h2, .int 0, .ref h3, .ref h4, .ref h5, .ref h6, .int (-1), .ref h7, .ref h8, .ref h9, .ref h10])), (h1, .inr (0, [.ref h11, .int 0, .ref h12, .int 0, .ref h13, .ref h14, .ref h15, .ref h16, .ref h17, .ref h18, .int 0]))] := hD
      refine lv_iconst (v := 2) hx hb dX4_isRing_21 (by decide) ?_
      refine lv_icmp_lt (tgt := 29) hx hb dX4_isRing_22 (by decide) (fun _ => ?_) (fun h => absurd h (by decide +kernel))
      refine lv_iconst (v := 0) hx hb dX4_isRing_29 (by decide) ?_
      have hP9 := hP.sub (ws' := [(h0, .inr (4, [.ref h1, .ref h2, .int 0, .ref h3, .ref h4, .ref h5, .ref h6, .int (-1), .ref h7, .ref h8, .ref h9, .ref h10])), (h1, .inr (0, [.ref h11, .int 0, .ref h12, .int 0, .ref h13, .ref h14, .ref h15, .ref h16, .ref h17, .ref h18, .int 0]))]) [0, 1] rfl
      have hD9 := hD.sub (ws' := [(h0, .inr (4, [.ref h1, .ref h2, .int 0, .ref h3, .ref h4, .ref h5, .ref h6, .int (-1), .ref h7, .ref h8, .ref h9, .ref h10])), (h1, .inr (0, [.ref h11, .int 0, .ref h12, .int 0, .ref h13, .ref h14, .ref h15, .ref h16, .ref h17, .ref h18, .int 0]))]) [0, 1] (by decide) rfl
      exact W.zret (v := 0) hx hb hr (by decide) (fun t ht hW => ⟨⟨0, 0, rfl, Or.inr (Or.inr (⟨i_0, i_1, rfl⟩)), by rw [ht]; exact hP9, hD9⟩, hS.F ht⟩) hS.2.2 dX4_isRing_30
set_option maxHeartbeats 4000000 in
set_option maxRecDepth 100000 in
theorem kX4_isRing_2 (l : Launch) (g : zG) (h0 h1 h2 h3 h4 h5 h6 h7 h8 h9 h10 h11 h12 h13 h14 h15 h16 h17 h18 : Nat) (sz : Nat) (p1 : Int32) : Met l yX4_isRing (.code yX4_isRing cX4_isRing 2 (some .boolean) :: zBig) ({ frames := 1, cells := 0, slots := 0, locals := 20 }) (va_Pc [.ref h0, .int p1] (zPre g [(h0, .inr (4, [.ref h1, .ref h2, .int 0, .ref h3, .ref h4, .ref h5, .ref h6, .int (-1), .ref h7, .ref h8, .ref h9, .ref h10])), (h1, .inr (0, [.ref h11, .int 0, .ref h12, .int 0, .ref h13, .ref h14, .ref h15, .ref h16, .ref h17, .ref h18, .int 0]))] sz)) (va_Qi (fun (r : Int32) (_ : Nat) => (p1.toInt < 0 ∧ r = 0) ∨ (0 ≤ p1.toInt ∧ 1 ≤ p1.toInt ∧ r = 0) ∨ (0 ≤ p1.toInt ∧ p1.toInt < 1 ∧ r = 0)) (zPost g (fun _ : Nat => [(h0, .inr (4, [.ref h1, .ref h2, .int 0, .ref h3, .ref h4, .ref h5, .ref h6, .int (-1), .ref h7, .ref h8, .ref h9, .ref h10])), (h1, .inr (0, [.ref h11, .int 0, .ref h12, .int 0, .ref h13, .ref h14, .ref h15, .ref h16, .ref h17, .ref h18, .int 0]))]) (va_A [(h0, .inr (4, [.ref h1, .ref h2, .int 0, .ref h3, .ref h4, .ref h5, .ref h6, .int (-1), .ref h7, .ref h8, .ref h9, .ref h10])), (h1, .inr (0, [.ref h11, .int 0, .ref h12, .int 0, .ref h13, .ref h14, .ref h15, .ref h16, .ref h17, .ref h18, .int 0]))] sz)) (va_A [(h0, .inr (4, [.ref h1, .ref h2, .int 0, .ref h3, .ref h4, .ref h5, .ref h6, .int (-1), .ref h7, .ref h8, .ref h9, .ref h10])), (h1, .inr (0, [.ref h11, .int 0, .ref h12, .int 0, .ref h13, .ref h14, .ref h15, .ref h16, .ref h17, .ref h18, .int 0]))] sz)) 0 0 (va_A [(h0, .inr (4, [.ref h1, .ref h2, .int 0, .ref h3, .ref h4, .ref h5, .ref h6, .int (-1), .ref h7, .ref h8, .ref h9, .ref h10])), (h1, .inr (0, [.ref h11, .int 0, .ref h12, .int 0, .ref h13, .ref h14, .ref h15, .ref h16, .ref h17, .ref h18, .int 0]))] sz) := by
  refine zMetI rfl (Nat.le_of_ble_eq_true rfl) ?_
  intro p e s m args below meth c A ls hx hb hml hr hlocks hin hown hts hK hN hZ hP hD hA hS hAe hl
  have hown : s.vm.findClass RX4 = some m.cls := hown
  have hl : lv_has ls 2 [(0, .ref h0), (1, .int p1)] := hl
  refine lv_iload_n hx hb dX4_isRing_0 rfl (lv_at hl 1 rfl) ?_
  refine lv_if_lt (tgt := 29) hx hb dX4_isRing_1 (by decide) (fun c_0 => ?_) (fun c_0 => ?_)
  · have i_0 : p1.toInt < 0 := z_lt (rfl) (rfl) c_0
    refine lv_iconst (v := 0) hx hb dX4_isRing_29 (by decide) ?_
    have hP9 := hP.sub (ws' := [(h0, .inr (4, [.ref h1, .ref h2, .int 0, .ref h3, .ref h4, .ref h5, .ref h6, .int (-1), .ref h7, .ref h8, .ref h9, .ref h10])), (h1, .inr (0, [.ref h11, .int 0, .ref h12, .int 0, .ref h13, .ref h14, .ref h15, .ref h16, .ref h17, .ref h18, .int 0]))]) [0, 1] rfl
    have hD9 := hD.sub (ws' := [(h0, .inr (4, [.ref h1, .ref h2, .int 0, .ref h3, .ref h4, .ref h5, .ref h6, .int (-1), .ref h7, .ref h8, .ref h9, .ref h10])), (h1, .inr (0, [.ref h11, .int 0, .ref h12, .int 0, .ref h13, .ref h14, .ref h15, .ref h16, .ref h17, .ref h18, .int 0]))]) [0, 1] (by decide) rfl
    exact W.zret (v := 0) hx hb hr (by decide) (fun t ht hW => ⟨⟨0, 0, rfl, Or.inl ⟨i_0, rfl⟩, by rw [ht]; exact hP9, hD9⟩, hS.F ht⟩) hS.2.2 dX4_isRing_30
  · have i_0 : 0 ≤ p1.toInt := z_nlt (rfl) (rfl) c_0
    refine lv_iload_n hx hb dX4_isRing_4 rfl (lv_at hl 1 rfl) ?_
    refine lv_iconst (v := 1) hx hb dX4_isRing_5 (by decide) ?_
    refine lv_aload_n hx hb dX4_isRing_6 rfl (lv_at hl 0 rfl) ?_
    refine va_get (D := g.1) (ci := 4) (v := .ref h1) (C := RX4) (T := TX4) (N := 12) hx hb hts zl_X4 hown hK hP 0 rfl rfl 0 (by decide) (hts _ m_f_RX4_10) (fun _ h => h) rfl dX4_isRing_7 ?_
    refine va_getN (D := g.1) (ci := 0) (v := .int 0) (C := RX0) (T := TX0) (N := 11) hx hb hts zl_X0 hown hK hP 1 rfl rfl 3 (by decide) (hN.f 7 (q := (RX4, 71, "FishSteps$Books", "buyers", "I")) rfl) (fun _ h => h) rfl dX4_isRing_10 ?_
    refine lv_ishl hx hb dX4_isRing_13 ?_
    refine lv_topi (nm_r (e' := 1) (by decide +kernel) ?_)
    refine lv_icmp_ge (tgt := 29) hx hb dX4_isRing_14 (by decide) (fun c_1 => ?_) (fun c_1 => ?_)
    · have i_1 : 1 ≤ p1.toInt := z_le (rfl) (rfl) c_1
      refine lv_iconst (v := 0) hx hb dX4_isRing_29 (by decide) ?_
      have hP9 := hP.sub (ws' := [(h0, .inr (4, [.ref h1, .ref h2, .int 0, .ref h3, .ref h4, .ref h5, .ref h6, .int (-1), .ref h7, .ref h8, .ref h9, .ref h10])), (h1, .inr (0, [.ref h11, .int 0, .ref h12, .int 0, .ref h13, .ref h14, .ref h15, .ref h16, .ref h17, .ref h18, .int 0]))]) [0, 1] rfl
      have hD9 := hD.sub (ws' := [(h0, .inr (4, [.ref h1, .ref h2, .int 0, .ref h3, .ref h4, .ref h5, .ref h6, .int (-1), .ref h7, .ref h8, .ref h9, .ref h10])), (h1, .inr (0, [.ref h11, .int 0, .ref h12, .int 0, .ref h13, .ref h14, .ref h15, .ref h16, .ref h17, .ref h18, .int 0]))]) [0, 1] (by decide) rfl
      exact W.zret (v := 0) hx hb hr (by decide) (fun t ht hW => ⟨⟨0, 0, rfl, Or.inr (Or.inl ⟨i_0, i_1, rfl⟩), by rw [ht]; exact hP9, hD9⟩, hS.F ht⟩) hS.2.2 dX4_isRing_30
    · have i_1 : p1.toInt < 1 := z_nle (rfl) (rfl) c_1
      refine lv_iload_n hx hb dX4_isRing_17 rfl (lv_at hl 1 rfl) ?_
      obtain rfl : p1 = 0 := Int32.toInt_inj.mp (show p1.toInt = (0 : Int32).toInt from (show p1.toInt = 0 by omega).trans rfl)
      refine z_calli (wr := [(h0, .inr (4, [.ref h1, .ref h2, .int 0, .ref h3, .ref h4, .ref h5, .ref h6, .int (-1), .ref h7, .ref h8, .ref h9, .ref h10])), (h1, .inr (0, [.ref h11, .int 0, .ref h12, .int 0, .ref h13, .ref h14, .ref h15, .ref h16, .ref h17, .ref h18, .int 0]))]) hP hD hS hA [] [0, 1] (by decide) rfl rfl (by decide) (va_runS (As := [.int 0]) (rest := []) ⟨hx, hb, hml, hown, hts⟩ (kJ6_bitCount_0f7a4_3 l g  s.heap.size) ⟨callB_of 1 hts (zGood m_o_yJ6_bitCount_0f7a4) rfl rfl rfl (hts _ m_z_RJ6) (hts _ m_m_RX4_251) ⟨by decide +kernel, by decide +kernel, by decide +kernel⟩ ⟨Nat.le_of_ble_eq_true rfl, Nat.le_of_ble_eq_true rfl⟩, hts _ m_s_yJ6_bitCount_0f7a4⟩ (zPreS hK hN hZ hP hD hS hA [] (by decide) rfl rfl) rfl rfl hl.1 rfl (lv_room (Nat.le_of_ble_eq_true rfl)) dX4_isRing_18 ⟨Nat.le_of_ble_eq_true rfl, Nat.le_of_ble_eq_true rfl⟩) (fun r u H locs hw hP hD hS => ?_)
      obtain rfl := hw
      have hP : va_P g.1 vwCl [(h0, .inr (4, [.ref h1, .ref h2, .int 0, .ref h3, .ref h4, .ref h5, .ref h6, .int (-1), .ref h7, .ref h8, .ref h9, .ref h10])), (h1, .inr (0, [.ref h11, .int 0, .ref h12, .int 0, .ref h13, .ref h14, .ref h15, .ref h16, .ref h17, .ref h18, .int 0]))] H := hP
      have hD : va_D A [(h0, .inr (4, [.ref h1, .ref h2, .int 0, .ref h3, .ref h4, .ref h5, .ref h6, .int (-1), .ref h7, .ref h8, .ref h9, .ref h10])), (h1, .inr (0, [.ref h11, .int 0, .ref h12, .int 0, .ref h13, .ref h14, .ref h15, .ref h16, .ref h17, .ref h18, .int 0]))] := hD
      refine lv_iconst (v := 2) hx hb dX4_isRing_21 (by decide) ?_
      refine lv_icmp_lt (tgt := 29) hx hb dX4_isRing_22 (by decide) (fun _ => ?_) (fun h => absurd h (by decide +kernel))
      refine lv_iconst (v := 0) hx hb dX4_isRing_29 (by decide) ?_
      have hP9 := hP.sub (ws' := [(h0, .inr (4, [.ref h1, .ref h2, .int 0, .ref h3, .ref h4, .ref h5, .ref h6, .int (-1), .ref h7, .ref h8, .ref h9, .ref h10])), (h1, .inr (0, [.ref h11, .int 0, .ref h12, .int 0, .ref h13, .ref h14, .ref h15, .ref h16, .ref h17, .ref h18, .int 0]))]) [0, 1] rfl
      have hD9 := hD.sub (ws' := [(h0, .inr (4, [.ref h1, .ref h2, .int 0, .ref h3, .ref h4, .ref h5, .ref h6, .int (-1), .ref h7, .ref h8, .ref h9, .ref h10])), (h1, .inr (0, [.ref h11, .int 0, .ref h12, .int 0, .ref h13, .ref h14, .ref h15, .ref h16, .ref h17, .ref h18, .int 0]))]) [0, 1] (by decide) rfl
      exact W.zret (v := 0) hx hb hr (by decide) (fun t ht hW => ⟨⟨0, 0, rfl, Or.inr (Or.inr (⟨i_0, i_1, rfl⟩)), by rw [ht]; exact hP9, hD9⟩, hS.F ht⟩) hS.2.2 dX4_isRing_30
set_option maxHeartbeats 4000000 in
set_option maxRecDepth 100000 in
theorem kX4_ring (l : Launch) (g : zG) (h0 h1 h2 h3 h4 h5 h6 h7 h8 h9 h10 h11 h12 h13 h14 h15 h16 h17 h18 : Nat) (sz : Nat) (p1 : Int32) : Met l yX4_ring (.code yX4_ring cX4_ring 3 (some .int) :: zBig) ({ frames := 2, cells := 0, slots := 0, locals := 41 }) (va_Pc [.ref h0, .int p1] (zPre g [(h0, .inr (4, [.ref h1, .ref h2, .int 0, .ref h3, .ref h4, .ref h5, .ref h6, .int (-1), .ref h7, .ref h8, .ref h9, .ref h10])), (h1, .inr (0, [.ref h11, .int 0, .ref h12, .int 0, .ref h13, .ref h14, .ref h15, .ref h16, .ref h17, .ref h18, .int 0]))] sz)) (va_Qi (fun (r : Int32) (_ : Nat) => (p1.toInt < 0 ∧ r = (-100001)) ∨ (0 ≤ p1.toInt ∧ 1 ≤ p1.toInt ∧ r = (-100001)) ∨ (0 ≤ p1.toInt ∧ p1.toInt < 1 ∧ r = (-100001))) (zPost g (fun _ : Nat => []) (va_A [(h0, .inr (4, [.ref h1, .ref h2, .int 0, .ref h3, .ref h4, .ref h5, .ref h6, .int (-1), .ref h7, .ref h8, .ref h9, .ref h10])), (h1, .inr (0, [.ref h11, .int 0, .ref h12, .int 0, .ref h13, .ref h14, .ref h15, .ref h16, .ref h17, .ref h18, .int 0]))] sz)) (va_A [(h0, .inr (4, [.ref h1, .ref h2, .int 0, .ref h3, .ref h4, .ref h5, .ref h6, .int (-1), .ref h7, .ref h8, .ref h9, .ref h10])), (h1, .inr (0, [.ref h11, .int 0, .ref h12, .int 0, .ref h13, .ref h14, .ref h15, .ref h16, .ref h17, .ref h18, .int 0]))] sz)) 0 0 (va_A [(h0, .inr (4, [.ref h1, .ref h2, .int 0, .ref h3, .ref h4, .ref h5, .ref h6, .int (-1), .ref h7, .ref h8, .ref h9, .ref h10])), (h1, .inr (0, [.ref h11, .int 0, .ref h12, .int 0, .ref h13, .ref h14, .ref h15, .ref h16, .ref h17, .ref h18, .int 0]))] sz) := by
  refine zMetI rfl (Nat.le_of_ble_eq_true rfl) ?_
  intro p e s m args below meth c A ls hx hb hml hr hlocks hin hown hts hK hN hZ hP hD hA hS hAe hl
  have hown : s.vm.findClass RX4 = some m.cls := hown
  have hl : lv_has ls 3 [(0, .ref h0), (1, .int p1)] := hl
  refine lv_aload_n hx hb dX4_ring_0 rfl (lv_at hl 0 rfl) ?_
  refine lv_iload_n hx hb dX4_ring_1 rfl (lv_at hl 1 rfl) ?_
  refine z_calli (wr := []) hP hD hS hA [0, 1] [] (by decide) rfl rfl (by decide) (va_runV (As := [.int p1]) (rest := []) ⟨hx, hb, hml, hown, hts⟩ (kX4_isRing_2 l g h0 h1 h2 h3 h4 h5 h6 h7 h8 h9 h10 h11 h12 h13 h14 h15 h16 h17 h18 s.heap.size p1) ⟨callB_of 1 hts (zGood m_o_yX4_isRing) rfl rfl rfl (hts _ m_z_RX4) (hts _ m_m_RX4_198) ⟨by decide +kernel, by decide +kernel, by decide +kernel⟩ ⟨Nat.le_of_ble_eq_true rfl, Nat.le_of_ble_eq_true rfl⟩, hts _ m_i_yX4_isRing, hts _ m_e_yX4_isRing⟩ (zPreV hK hN hZ hP hD hS hA [0, 1] (by decide) rfl rfl 4 0 rfl rfl) rfl rfl hl.1 rfl (lv_room (Nat.le_of_ble_eq_true rfl)) dX4_ring_2 ⟨Nat.le_of_ble_eq_true rfl, Nat.le_of_ble_eq_true rfl⟩) (fun r u H locs hw hP hD hS => ?_)
  rcases hw with ⟨i_0, rfl⟩ | ⟨i_1, i_2, rfl⟩ | ⟨i_3, i_4, rfl⟩
  · skip
    have i_0 : p1.toInt < 0 := i_0
    have hP : va_P g.1 vwCl [(h0, .inr (4, [.ref h1, .ref h2, .int 0, .ref h3, .ref h4, .ref h5, .ref h6, .int (-1), .ref h7, .ref h8, .ref h9, .ref h10])), (h1, .inr (0, [.ref h11, .int 0, .ref h12, .int 0, .ref h13, .ref h14, .ref h15, .ref h16, .ref h17, .ref h18, .int 0]))] H := hP
    have hD : va_D A [(h0, .inr (4, [.ref h1, .ref h2, .int 0, .ref h3, .ref h4, .ref h5, .ref h6, .int (-1), .ref h7, .ref h8, .ref h9, .ref h10])), (h1, .inr (0, [.ref h11, .int 0, .ref h12, .int 0, .ref h13, .ref h14, .ref h15, .ref h16, .ref h17, .ref h18, .int 0]))] := hD
    refine lv_if_ne (tgt := 11) hx hb dX4_ring_5 (by decide) (fun h => absurd h (by decide +kernel)) (fun _ => ?_)
    refine lv_ldc (v := (-100001)) hx hb hown (hts _ m_k_RX4_93) dX4_ring_8 ?_
    have hP9 := hP.sub (ws' := []) [] rfl
    have hD9 := hD.sub (ws' := []) [] (by decide) rfl
    exact W.iret (v := (-100001)) hx hb hr (fun t ht hW => ⟨⟨(-100001), 0, rfl, Or.inl ⟨i_0, rfl⟩, by rw [ht]; exact hP9, hD9⟩, hS.F ht⟩) hS.2.2 dX4_ring_10
  · skip
    have i_1 : 0 ≤ p1.toInt := i_1
    have i_2 : 1 ≤ p1.toInt := i_2
    have hP : va_P g.1 vwCl [(h0, .inr (4, [.ref h1, .ref h2, .int 0, .ref h3, .ref h4, .ref h5, .ref h6, .int (-1), .ref h7, .ref h8, .ref h9, .ref h10])), (h1, .inr (0, [.ref h11, .int 0, .ref h12, .int 0, .ref h13, .ref h14, .ref h15, .ref h16, .ref h17, .ref h18, .int 0]))] H := hP
    have hD : va_D A [(h0, .inr (4, [.ref h1, .ref h2, .int 0, .ref h3, .ref h4, .ref h5, .ref h6, .int (-1), .ref h7, .ref h8, .ref h9, .ref h10])), (h1, .inr (0, [.ref h11, .int 0, .ref h12, .int 0, .ref h13, .ref h14, .ref h15, .ref h16, .ref h17, .ref h18, .int 0]))] := hD
    refine lv_if_ne (tgt := 11) hx hb dX4_ring_5 (by decide) (fun h => absurd h (by decide +kernel)) (fun _ => ?_)
    refine lv_ldc (v := (-100001)) hx hb hown (hts _ m_k_RX4_93) dX4_ring_8 ?_
    have hP9 := hP.sub (ws' := []) [] rfl
    have hD9 := hD.sub (ws' := []) [] (by decide) rfl
    exact W.iret (v := (-100001)) hx hb hr (fun t ht hW => ⟨⟨(-100001), 0, rfl, Or.inr (Or.inl ⟨i_1, i_2, rfl⟩), by rw [ht]; exact hP9, hD9⟩, hS.F ht⟩) hS.2.2 dX4_ring_10
  · skip
    have i_3 : 0 ≤ p1.toInt := i_3
    have i_4 : p1.toInt < 1 := i_4
    have hP : va_P g.1 vwCl [(h0, .inr (4, [.ref h1, .ref h2, .int 0, .ref h3, .ref h4, .ref h5, .ref h6, .int (-1), .ref h7, .ref h8, .ref h9, .ref h10])), (h1, .inr (0, [.ref h11, .int 0, .ref h12, .int 0, .ref h13, .ref h14, .ref h15, .ref h16, .ref h17, .ref h18, .int 0]))] H := hP
    have hD : va_D A [(h0, .inr (4, [.ref h1, .ref h2, .int 0, .ref h3, .ref h4, .ref h5, .ref h6, .int (-1), .ref h7, .ref h8, .ref h9, .ref h10])), (h1, .inr (0, [.ref h11, .int 0, .ref h12, .int 0, .ref h13, .ref h14, .ref h15, .ref h16, .ref h17, .ref h18, .int 0]))] := hD
    refine lv_if_ne (tgt := 11) hx hb dX4_ring_5 (by decide) (fun h => absurd h (by decide +kernel)) (fun _ => ?_)
    refine lv_ldc (v := (-100001)) hx hb hown (hts _ m_k_RX4_93) dX4_ring_8 ?_
    have hP9 := hP.sub (ws' := []) [] rfl
    have hD9 := hD.sub (ws' := []) [] (by decide) rfl
    exact W.iret (v := (-100001)) hx hb hr (fun t ht hW => ⟨⟨(-100001), 0, rfl, Or.inr (Or.inr (⟨i_3, i_4, rfl⟩)), by rw [ht]; exact hP9, hD9⟩, hS.F ht⟩) hS.2.2 dX4_ring_10
set_option maxHeartbeats 4000000 in
set_option maxRecDepth 100000 in
theorem kX0_take (l : Launch) (g : zG) (h0 h1 h11 h12 h13 h14 h15 h16 h17 h18 h19 h20 h21 h22 h23 h24 h25 h26 : Nat) (sz : Nat) : Met l yX0_take (.code yX0_take cX0_take 2 none :: zBig) ({ frames := 1, cells := 0, slots := 0, locals := 60 }) (va_Pc [.ref h0, .ref h1] (zPre g [(h1, .inr (0, [.ref h11, .int 0, .ref h12, .int 0, .ref h13, .ref h14, .ref h15, .ref h16, .ref h17, .ref h18, .int 0])), (h11, .inl (zI g, 5, .inl (zA [60, 1, 1, 0, 0]))), (h12, .inl (zI g, 6, .inl (fun _ => 0))), (h13, .inl (zI g, 5, .inl (fun _ => 0))), (h14, .inl (zI g, 5, .inl (fun _ => 0))), (h15, .inl (zI g, 5, .inl (fun _ => 0))), (h16, .inl (zI g, 20, .inl (fun _ => 0))), (h17, .inl (zI g, 20, .inl (fun _ => 0))), (h18, .inl (zI g, 20, .inl (fun _ => 99))), (h0, .inr (0, [.ref h19, .int 0, .ref h20, .int 0, .ref h21, .ref h22, .ref h23, .ref h24, .ref h25, .ref h26, .int 0])), (h19, .inl (zI g, 5, .inl (zA [60, 1, 1, 0, 0]))), (h20, .inl (zI g, 6, .inl (fun _ => 0))), (h21, .inl (zI g, 5, .inl (fun _ => 0))), (h22, .inl (zI g, 5, .inl (fun _ => 0))), (h23, .inl (zI g, 5, .inl (fun _ => 0))), (h24, .inl (zI g, 20, .inl (fun _ => 0))), (h25, .inl (zI g, 20, .inl (fun _ => 0))), (h26, .inl (zI g, 20, .inl (fun _ => 99)))] sz)) (va_Qv (fun _ : Nat => True) (zPost g (fun _ : Nat => [(h1, .inr (0, [.ref h11, .int 0, .ref h12, .int 0, .ref h13, .ref h14, .ref h15, .ref h16, .ref h17, .ref h18, .int 0])), (h11, .inl (zI g, 5, .inl (zA [60, 1, 1, 0, 0]))), (h12, .inl (zI g, 6, .inl (fun _ => 0))), (h13, .inl (zI g, 5, .inl (fun _ => 0))), (h14, .inl (zI g, 5, .inl (fun _ => 0))), (h15, .inl (zI g, 5, .inl (fun _ => 0))), (h16, .inl (zI g, 20, .inl (fun _ => 0))), (h17, .inl (zI g, 20, .inl (fun _ => 0))), (h18, .inl (zI g, 20, .inl (fun _ => 99))), (h0, .inr (0, [.ref h19, .int 0, .ref h20, .int 0, .ref h21, .ref h22, .ref h23, .ref h24, .ref h25, .ref h26, .int 0])), (h19, .inl (zI g, 5, .inl (zA [60, 1, 1, 0, 0]))), (h20, .inl (zI g, 6, .inl (fun _ => 0))), (h21, .inl (zI g, 5, .inl (fun _ => 0))), (h22, .inl (zI g, 5, .inl (fun _ => 0))), (h23, .inl (zI g, 5, .inl (fun _ => 0))), (h24, .inl (zI g, 20, .inl (fun _ => 0))), (h25, .inl (zI g, 20, .inl (fun _ => 0))), (h26, .inl (zI g, 20, .inl (fun _ => 99)))]) (va_A [(h1, .inr (0, [.ref h11, .int 0, .ref h12, .int 0, .ref h13, .ref h14, .ref h15, .ref h16, .ref h17, .ref h18, .int 0])), (h11, .inl (zI g, 5, .inl (zA [60, 1, 1, 0, 0]))), (h12, .inl (zI g, 6, .inl (fun _ => 0))), (h13, .inl (zI g, 5, .inl (fun _ => 0))), (h14, .inl (zI g, 5, .inl (fun _ => 0))), (h15, .inl (zI g, 5, .inl (fun _ => 0))), (h16, .inl (zI g, 20, .inl (fun _ => 0))), (h17, .inl (zI g, 20, .inl (fun _ => 0))), (h18, .inl (zI g, 20, .inl (fun _ => 99))), (h0, .inr (0, [.ref h19, .int 0, .ref h20, .int 0, .ref h21, .ref h22, .ref h23, .ref h24, .ref h25, .ref h26, .int 0])), (h19, .inl (zI g, 5, .inl (zA [60, 1, 1, 0, 0]))), (h20, .inl (zI g, 6, .inl (fun _ => 0))), (h21, .inl (zI g, 5, .inl (fun _ => 0))), (h22, .inl (zI g, 5, .inl (fun _ => 0))), (h23, .inl (zI g, 5, .inl (fun _ => 0))), (h24, .inl (zI g, 20, .inl (fun _ => 0))), (h25, .inl (zI g, 20, .inl (fun _ => 0))), (h26, .inl (zI g, 20, .inl (fun _ => 99)))] sz)) (va_A [(h1, .inr (0, [.ref h11, .int 0, .ref h12, .int 0, .ref h13, .ref h14, .ref h15, .ref h16, .ref h17, .ref h18, .int 0])), (h11, .inl (zI g, 5, .inl (zA [60, 1, 1, 0, 0]))), (h12, .inl (zI g, 6, .inl (fun _ => 0))), (h13, .inl (zI g, 5, .inl (fun _ => 0))), (h14, .inl (zI g, 5, .inl (fun _ => 0))), (h15, .inl (zI g, 5, .inl (fun _ => 0))), (h16, .inl (zI g, 20, .inl (fun _ => 0))), (h17, .inl (zI g, 20, .inl (fun _ => 0))), (h18, .inl (zI g, 20, .inl (fun _ => 99))), (h0, .inr (0, [.ref h19, .int 0, .ref h20, .int 0, .ref h21, .ref h22, .ref h23, .ref h24, .ref h25, .ref h26, .int 0])), (h19, .inl (zI g, 5, .inl (zA [60, 1, 1, 0, 0]))), (h20, .inl (zI g, 6, .inl (fun _ => 0))), (h21, .inl (zI g, 5, .inl (fun _ => 0))), (h22, .inl (zI g, 5, .inl (fun _ => 0))), (h23, .inl (zI g, 5, .inl (fun _ => 0))), (h24, .inl (zI g, 20, .inl (fun _ => 0))), (h25, .inl (zI g, 20, .inl (fun _ => 0))), (h26, .inl (zI g, 20, .inl (fun _ => 99)))] sz)) 0 0 (va_A [(h1, .inr (0, [.ref h11, .int 0, .ref h12, .int 0, .ref h13, .ref h14, .ref h15, .ref h16, .ref h17, .ref h18, .int 0])), (h11, .inl (zI g, 5, .inl (zA [60, 1, 1, 0, 0]))), (h12, .inl (zI g, 6, .inl (fun _ => 0))), (h13, .inl (zI g, 5, .inl (fun _ => 0))), (h14, .inl (zI g, 5, .inl (fun _ => 0))), (h15, .inl (zI g, 5, .inl (fun _ => 0))), (h16, .inl (zI g, 20, .inl (fun _ => 0))), (h17, .inl (zI g, 20, .inl (fun _ => 0))), (h18, .inl (zI g, 20, .inl (fun _ => 99))), (h0, .inr (0, [.ref h19, .int 0, .ref h20, .int 0, .ref h21, .ref h22, .ref h23, .ref h24, .ref h25, .ref h26, .int 0])), (h19, .inl (zI g, 5, .inl (zA [60, 1, 1, 0, 0]))), (h20, .inl (zI g, 6, .inl (fun _ => 0))), (h21, .inl (zI g, 5, .inl (fun _ => 0))), (h22, .inl (zI g, 5, .inl (fun _ => 0))), (h23, .inl (zI g, 5, .inl (fun _ => 0))), (h24, .inl (zI g, 20, .inl (fun _ => 0))), (h25, .inl (zI g, 20, .inl (fun _ => 0))), (h26, .inl (zI g, 20, .inl (fun _ => 99)))] sz) := by
  refine zMetV rfl (Nat.le_of_ble_eq_true rfl) ?_
  intro p e s m args below meth c A ls hx hb hml hr hlocks hin hown hts hK hN hZ hP hD hA hS hAe hl
  have hown : s.vm.findClass RX0 = some m.cls := hown
  have hl : lv_has ls 2 [(0, .ref h0), (1, .ref h1)] := hl
  refine lv_aload_n hx hb dX0_take_0 rfl (lv_at hl 1 rfl) ?_
  refine va_get (D := g.1) (ci := 0) (v := .ref h11) (C := RX0) (T := TX0) (N := 11) hx hb hts zl_X0 hown hK hP 0 rfl rfl 0 (by decide) (hts _ m_f_RX0_18) (fun _ h => h) rfl dX0_take_1 ?_
  refine lv_iconst (v := 0) hx hb dX0_take_4 (by decide) ?_
  refine lv_aload_n hx hb dX0_take_5 rfl (lv_at hl 0 rfl) ?_
  refine va_get (D := g.1) (ci := 0) (v := .ref h19) (C := RX0) (T := TX0) (N := 11) hx hb hts zl_X0 hown hK hP 9 rfl rfl 0 (by decide) (hts _ m_f_RX0_18) (fun _ h => h) rfl dX0_take_6 ?_
  refine lv_iconst (v := 0) hx hb dX0_take_9 (by decide) ?_
  refine lv_iconst (v := 5) hx hb dX0_take_10 (by decide) ?_
  refine va_copyi (D := g.1) (ty := .int) (sp := 0) (dp := 0) (n := 5) hx hb (hml.trans hl.1.symm) hown (hts _ m_m_RX0_60) (hts _ m_n_arraycopyName) (hts _ m_s_arraycopyName) (hts _ m_z_RJ10) hK hP hD hS 1 10 0 0 rfl rfl rfl rfl rfl (by decide) (by decide) (by decide) (by decide) (by decide) (fun _ _ => rfl) (Nat.le_of_ble_eq_true rfl) (Nat.le_of_ble_eq_true rfl) dX0_take_11 (fun H locs hP hD hS => ?_)
  have hP : va_P g.1 vwCl [(h1, .inr (0, [.ref h11, .int 0, .ref h12, .int 0, .ref h13, .ref h14, .ref h15, .ref h16, .ref h17, .ref h18, .int 0])), (h11, .inl (zI g, 5, .inl (zA [60, 1, 1, 0, 0]))), (h12, .inl (zI g, 6, .inl (fun _ => 0))), (h13, .inl (zI g, 5, .inl (fun _ => 0))), (h14, .inl (zI g, 5, .inl (fun _ => 0))), (h15, .inl (zI g, 5, .inl (fun _ => 0))), (h16, .inl (zI g, 20, .inl (fun _ => 0))), (h17, .inl (zI g, 20, .inl (fun _ => 0))), (h18, .inl (zI g, 20, .inl (fun _ => 99))), (h0, .inr (0, [.ref h19, .int 0, .ref h20, .int 0, .ref h21, .ref h22, .ref h23, .ref h24, .ref h25, .ref h26, .int 0])), (h19, .inl (zI g, 5, .inl (va_cpy (zA [60, 1, 1, 0, 0]) (zA [60, 1, 1, 0, 0]) 0 0 5))), (h20, .inl (zI g, 6, .inl (fun _ => 0))), (h21, .inl (zI g, 5, .inl (fun _ => 0))), (h22, .inl (zI g, 5, .inl (fun _ => 0))), (h23, .inl (zI g, 5, .inl (fun _ => 0))), (h24, .inl (zI g, 20, .inl (fun _ => 0))), (h25, .inl (zI g, 20, .inl (fun _ => 0))), (h26, .inl (zI g, 20, .inl (fun _ => 99)))] H := hP
  have hD : va_D A [(h1, .inr (0, [.ref h11, .int 0, .ref h12, .int 0, .ref h13, .ref h14, .ref h15, .ref h16, .ref h17, .ref h18, .int 0])), (h11, .inl (zI g, 5, .inl (zA [60, 1, 1, 0, 0]))), (h12, .inl (zI g, 6, .inl (fun _ => 0))), (h13, .inl (zI g, 5, .inl (fun _ => 0))), (h14, .inl (zI g, 5, .inl (fun _ => 0))), (h15, .inl (zI g, 5, .inl (fun _ => 0))), (h16, .inl (zI g, 20, .inl (fun _ => 0))), (h17, .inl (zI g, 20, .inl (fun _ => 0))), (h18, .inl (zI g, 20, .inl (fun _ => 99))), (h0, .inr (0, [.ref h19, .int 0, .ref h20, .int 0, .ref h21, .ref h22, .ref h23, .ref h24, .ref h25, .ref h26, .int 0])), (h19, .inl (zI g, 5, .inl (va_cpy (zA [60, 1, 1, 0, 0]) (zA [60, 1, 1, 0, 0]) 0 0 5))), (h20, .inl (zI g, 6, .inl (fun _ => 0))), (h21, .inl (zI g, 5, .inl (fun _ => 0))), (h22, .inl (zI g, 5, .inl (fun _ => 0))), (h23, .inl (zI g, 5, .inl (fun _ => 0))), (h24, .inl (zI g, 20, .inl (fun _ => 0))), (h25, .inl (zI g, 20, .inl (fun _ => 0))), (h26, .inl (zI g, 20, .inl (fun _ => 99)))] := hD
  rw [zc_cpy] at hP hD
  refine lv_aload_n hx hb dX0_take_14 rfl (lv_at hl 0 rfl) ?_
  refine lv_aload_n hx hb dX0_take_15 rfl (lv_at hl 1 rfl) ?_
  refine va_get (D := g.1) (ci := 0) (v := .int 0) (C := RX0) (T := TX0) (N := 11) hx hb hts zl_X0 hown hK hP 0 rfl rfl 1 (by decide) (hts _ m_f_RX0_23) (fun _ h => h) rfl dX0_take_16 ?_
  refine va_put (D := g.1) (ci := 0) (v := .int 0) (ty := .int) (C := RX0) (T := TX0) (N := 11) hx hb hts zl_X0 tyX0 tyX0_ok nmX0 hown hK hP hD hS 9 rfl rfl 1 (by decide) (hts _ m_f_RX0_23) (fun _ h => h) rfl (by decide +kernel) rfl rfl (Nat.le_of_ble_eq_true rfl) dX0_take_19 (fun H locs hP hD hS => ?_)
  have hP : va_P g.1 vwCl [(h1, .inr (0, [.ref h11, .int 0, .ref h12, .int 0, .ref h13, .ref h14, .ref h15, .ref h16, .ref h17, .ref h18, .int 0])), (h11, .inl (zI g, 5, .inl (zA [60, 1, 1, 0, 0]))), (h12, .inl (zI g, 6, .inl (fun _ => 0))), (h13, .inl (zI g, 5, .inl (fun _ => 0))), (h14, .inl (zI g, 5, .inl (fun _ => 0))), (h15, .inl (zI g, 5, .inl (fun _ => 0))), (h16, .inl (zI g, 20, .inl (fun _ => 0))), (h17, .inl (zI g, 20, .inl (fun _ => 0))), (h18, .inl (zI g, 20, .inl (fun _ => 99))), (h0, .inr (0, [.ref h19, .int 0, .ref h20, .int 0, .ref h21, .ref h22, .ref h23, .ref h24, .ref h25, .ref h26, .int 0])), (h19, .inl (zI g, 5, .inl (zA [60, 1, 1, 0, 0]))), (h20, .inl (zI g, 6, .inl (fun _ => 0))), (h21, .inl (zI g, 5, .inl (fun _ => 0))), (h22, .inl (zI g, 5, .inl (fun _ => 0))), (h23, .inl (zI g, 5, .inl (fun _ => 0))), (h24, .inl (zI g, 20, .inl (fun _ => 0))), (h25, .inl (zI g, 20, .inl (fun _ => 0))), (h26, .inl (zI g, 20, .inl (fun _ => 99)))] H := hP
  have hD : va_D A [(h1, .inr (0, [.ref h11, .int 0, .ref h12, .int 0, .ref h13, .ref h14, .ref h15, .ref h16, .ref h17, .ref h18, .int 0])), (h11, .inl (zI g, 5, .inl (zA [60, 1, 1, 0, 0]))), (h12, .inl (zI g, 6, .inl (fun _ => 0))), (h13, .inl (zI g, 5, .inl (fun _ => 0))), (h14, .inl (zI g, 5, .inl (fun _ => 0))), (h15, .inl (zI g, 5, .inl (fun _ => 0))), (h16, .inl (zI g, 20, .inl (fun _ => 0))), (h17, .inl (zI g, 20, .inl (fun _ => 0))), (h18, .inl (zI g, 20, .inl (fun _ => 99))), (h0, .inr (0, [.ref h19, .int 0, .ref h20, .int 0, .ref h21, .ref h22, .ref h23, .ref h24, .ref h25, .ref h26, .int 0])), (h19, .inl (zI g, 5, .inl (zA [60, 1, 1, 0, 0]))), (h20, .inl (zI g, 6, .inl (fun _ => 0))), (h21, .inl (zI g, 5, .inl (fun _ => 0))), (h22, .inl (zI g, 5, .inl (fun _ => 0))), (h23, .inl (zI g, 5, .inl (fun _ => 0))), (h24, .inl (zI g, 20, .inl (fun _ => 0))), (h25, .inl (zI g, 20, .inl (fun _ => 0))), (h26, .inl (zI g, 20, .inl (fun _ => 99)))] := hD
  refine lv_aload_n hx hb dX0_take_22 rfl (lv_at hl 1 rfl) ?_
  refine va_get (D := g.1) (ci := 0) (v := .ref h12) (C := RX0) (T := TX0) (N := 11) hx hb hts zl_X0 hown hK hP 0 rfl rfl 2 (by decide) (hts _ m_f_RX0_27) (fun _ h => h) rfl dX0_take_23 ?_
  refine lv_iconst (v := 0) hx hb dX0_take_26 (by decide) ?_
  refine lv_aload_n hx hb dX0_take_27 rfl (lv_at hl 0 rfl) ?_
  refine va_get (D := g.1) (ci := 0) (v := .ref h20) (C := RX0) (T := TX0) (N := 11) hx hb hts zl_X0 hown hK hP 9 rfl rfl 2 (by decide) (hts _ m_f_RX0_27) (fun _ h => h) rfl dX0_take_28 ?_
  refine lv_iconst (v := 0) hx hb dX0_take_31 (by decide) ?_
  refine lv_bipush (v := 6) hx hb dX0_take_32 (by decide) ?_
  refine va_copyi (D := g.1) (ty := .int) (sp := 0) (dp := 0) (n := 6) hx hb (hml.trans hl.1.symm) hown (hts _ m_m_RX0_60) (hts _ m_n_arraycopyName) (hts _ m_s_arraycopyName) (hts _ m_z_RJ10) hK hP hD hS 2 11 0 0 rfl rfl rfl rfl rfl (by decide) (by decide) (by decide) (by decide) (by decide) (fun _ _ => rfl) (Nat.le_of_ble_eq_true rfl) (Nat.le_of_ble_eq_true rfl) dX0_take_34 (fun H locs hP hD hS => ?_)
  have hP : va_P g.1 vwCl [(h1, .inr (0, [.ref h11, .int 0, .ref h12, .int 0, .ref h13, .ref h14, .ref h15, .ref h16, .ref h17, .ref h18, .int 0])), (h11, .inl (zI g, 5, .inl (zA [60, 1, 1, 0, 0]))), (h12, .inl (zI g, 6, .inl (fun _ => 0))), (h13, .inl (zI g, 5, .inl (fun _ => 0))), (h14, .inl (zI g, 5, .inl (fun _ => 0))), (h15, .inl (zI g, 5, .inl (fun _ => 0))), (h16, .inl (zI g, 20, .inl (fun _ => 0))), (h17, .inl (zI g, 20, .inl (fun _ => 0))), (h18, .inl (zI g, 20, .inl (fun _ => 99))), (h0, .inr (0, [.ref h19, .int 0, .ref h20, .int 0, .ref h21, .ref h22, .ref h23, .ref h24, .ref h25, .ref h26, .int 0])), (h19, .inl (zI g, 5, .inl (zA [60, 1, 1, 0, 0]))), (h20, .inl (zI g, 6, .inl (va_cpy (fun _ => 0) (fun _ => 0) 0 0 6))), (h21, .inl (zI g, 5, .inl (fun _ => 0))), (h22, .inl (zI g, 5, .inl (fun _ => 0))), (h23, .inl (zI g, 5, .inl (fun _ => 0))), (h24, .inl (zI g, 20, .inl (fun _ => 0))), (h25, .inl (zI g, 20, .inl (fun _ => 0))), (h26, .inl (zI g, 20, .inl (fun _ => 99)))] H := hP
  have hD : va_D A [(h1, .inr (0, [.ref h11, .int 0, .ref h12, .int 0, .ref h13, .ref h14, .ref h15, .ref h16, .ref h17, .ref h18, .int 0])), (h11, .inl (zI g, 5, .inl (zA [60, 1, 1, 0, 0]))), (h12, .inl (zI g, 6, .inl (fun _ => 0))), (h13, .inl (zI g, 5, .inl (fun _ => 0))), (h14, .inl (zI g, 5, .inl (fun _ => 0))), (h15, .inl (zI g, 5, .inl (fun _ => 0))), (h16, .inl (zI g, 20, .inl (fun _ => 0))), (h17, .inl (zI g, 20, .inl (fun _ => 0))), (h18, .inl (zI g, 20, .inl (fun _ => 99))), (h0, .inr (0, [.ref h19, .int 0, .ref h20, .int 0, .ref h21, .ref h22, .ref h23, .ref h24, .ref h25, .ref h26, .int 0])), (h19, .inl (zI g, 5, .inl (zA [60, 1, 1, 0, 0]))), (h20, .inl (zI g, 6, .inl (va_cpy (fun _ => 0) (fun _ => 0) 0 0 6))), (h21, .inl (zI g, 5, .inl (fun _ => 0))), (h22, .inl (zI g, 5, .inl (fun _ => 0))), (h23, .inl (zI g, 5, .inl (fun _ => 0))), (h24, .inl (zI g, 20, .inl (fun _ => 0))), (h25, .inl (zI g, 20, .inl (fun _ => 0))), (h26, .inl (zI g, 20, .inl (fun _ => 99)))] := hD
  rw [zc_cpy] at hP hD
  refine lv_aload_n hx hb dX0_take_37 rfl (lv_at hl 0 rfl) ?_
  refine lv_aload_n hx hb dX0_take_38 rfl (lv_at hl 1 rfl) ?_
  refine va_get (D := g.1) (ci := 0) (v := .int 0) (C := RX0) (T := TX0) (N := 11) hx hb hts zl_X0 hown hK hP 0 rfl rfl 3 (by decide) (hts _ m_f_RX0_30) (fun _ h => h) rfl dX0_take_39 ?_
  refine va_put (D := g.1) (ci := 0) (v := .int 0) (ty := .int) (C := RX0) (T := TX0) (N := 11) hx hb hts zl_X0 tyX0 tyX0_ok nmX0 hown hK hP hD hS 9 rfl rfl 3 (by decide) (hts _ m_f_RX0_30) (fun _ h => h) rfl (by decide +kernel) rfl rfl (Nat.le_of_ble_eq_true rfl) dX0_take_42 (fun H locs hP hD hS => ?_)
  have hP : va_P g.1 vwCl [(h1, .inr (0, [.ref h11, .int 0, .ref h12, .int 0, .ref h13, .ref h14, .ref h15, .ref h16, .ref h17, .ref h18, .int 0])), (h11, .inl (zI g, 5, .inl (zA [60, 1, 1, 0, 0]))), (h12, .inl (zI g, 6, .inl (fun _ => 0))), (h13, .inl (zI g, 5, .inl (fun _ => 0))), (h14, .inl (zI g, 5, .inl (fun _ => 0))), (h15, .inl (zI g, 5, .inl (fun _ => 0))), (h16, .inl (zI g, 20, .inl (fun _ => 0))), (h17, .inl (zI g, 20, .inl (fun _ => 0))), (h18, .inl (zI g, 20, .inl (fun _ => 99))), (h0, .inr (0, [.ref h19, .int 0, .ref h20, .int 0, .ref h21, .ref h22, .ref h23, .ref h24, .ref h25, .ref h26, .int 0])), (h19, .inl (zI g, 5, .inl (zA [60, 1, 1, 0, 0]))), (h20, .inl (zI g, 6, .inl (fun _ => 0))), (h21, .inl (zI g, 5, .inl (fun _ => 0))), (h22, .inl (zI g, 5, .inl (fun _ => 0))), (h23, .inl (zI g, 5, .inl (fun _ => 0))), (h24, .inl (zI g, 20, .inl (fun _ => 0))), (h25, .inl (zI g, 20, .inl (fun _ => 0))), (h26, .inl (zI g, 20, .inl (fun _ => 99)))] H := hP
  have hD : va_D A [(h1, .inr (0, [.ref h11, .int 0, .ref h12, .int 0, .ref h13, .ref h14, .ref h15, .ref h16, .ref h17, .ref h18, .int 0])), (h11, .inl (zI g, 5, .inl (zA [60, 1, 1, 0, 0]))), (h12, .inl (zI g, 6, .inl (fun _ => 0))), (h13, .inl (zI g, 5, .inl (fun _ => 0))), (h14, .inl (zI g, 5, .inl (fun _ => 0))), (h15, .inl (zI g, 5, .inl (fun _ => 0))), (h16, .inl (zI g, 20, .inl (fun _ => 0))), (h17, .inl (zI g, 20, .inl (fun _ => 0))), (h18, .inl (zI g, 20, .inl (fun _ => 99))), (h0, .inr (0, [.ref h19, .int 0, .ref h20, .int 0, .ref h21, .ref h22, .ref h23, .ref h24, .ref h25, .ref h26, .int 0])), (h19, .inl (zI g, 5, .inl (zA [60, 1, 1, 0, 0]))), (h20, .inl (zI g, 6, .inl (fun _ => 0))), (h21, .inl (zI g, 5, .inl (fun _ => 0))), (h22, .inl (zI g, 5, .inl (fun _ => 0))), (h23, .inl (zI g, 5, .inl (fun _ => 0))), (h24, .inl (zI g, 20, .inl (fun _ => 0))), (h25, .inl (zI g, 20, .inl (fun _ => 0))), (h26, .inl (zI g, 20, .inl (fun _ => 99)))] := hD
  refine lv_aload_n hx hb dX0_take_45 rfl (lv_at hl 1 rfl) ?_
  refine va_get (D := g.1) (ci := 0) (v := .ref h13) (C := RX0) (T := TX0) (N := 11) hx hb hts zl_X0 hown hK hP 0 rfl rfl 4 (by decide) (hts _ m_f_RX0_33) (fun _ h => h) rfl dX0_take_46 ?_
  refine lv_iconst (v := 0) hx hb dX0_take_49 (by decide) ?_
  refine lv_aload_n hx hb dX0_take_50 rfl (lv_at hl 0 rfl) ?_
  refine va_get (D := g.1) (ci := 0) (v := .ref h21) (C := RX0) (T := TX0) (N := 11) hx hb hts zl_X0 hown hK hP 9 rfl rfl 4 (by decide) (hts _ m_f_RX0_33) (fun _ h => h) rfl dX0_take_51 ?_
  refine lv_iconst (v := 0) hx hb dX0_take_54 (by decide) ?_
  refine lv_iconst (v := 5) hx hb dX0_take_55 (by decide) ?_
  refine va_copyi (D := g.1) (ty := .int) (sp := 0) (dp := 0) (n := 5) hx hb (hml.trans hl.1.symm) hown (hts _ m_m_RX0_60) (hts _ m_n_arraycopyName) (hts _ m_s_arraycopyName) (hts _ m_z_RJ10) hK hP hD hS 3 12 0 0 rfl rfl rfl rfl rfl (by decide) (by decide) (by decide) (by decide) (by decide) (fun _ _ => rfl) (Nat.le_of_ble_eq_true rfl) (Nat.le_of_ble_eq_true rfl) dX0_take_56 (fun H locs hP hD hS => ?_)
  have hP : va_P g.1 vwCl [(h1, .inr (0, [.ref h11, .int 0, .ref h12, .int 0, .ref h13, .ref h14, .ref h15, .ref h16, .ref h17, .ref h18, .int 0])), (h11, .inl (zI g, 5, .inl (zA [60, 1, 1, 0, 0]))), (h12, .inl (zI g, 6, .inl (fun _ => 0))), (h13, .inl (zI g, 5, .inl (fun _ => 0))), (h14, .inl (zI g, 5, .inl (fun _ => 0))), (h15, .inl (zI g, 5, .inl (fun _ => 0))), (h16, .inl (zI g, 20, .inl (fun _ => 0))), (h17, .inl (zI g, 20, .inl (fun _ => 0))), (h18, .inl (zI g, 20, .inl (fun _ => 99))), (h0, .inr (0, [.ref h19, .int 0, .ref h20, .int 0, .ref h21, .ref h22, .ref h23, .ref h24, .ref h25, .ref h26, .int 0])), (h19, .inl (zI g, 5, .inl (zA [60, 1, 1, 0, 0]))), (h20, .inl (zI g, 6, .inl (fun _ => 0))), (h21, .inl (zI g, 5, .inl (va_cpy (fun _ => 0) (fun _ => 0) 0 0 5))), (h22, .inl (zI g, 5, .inl (fun _ => 0))), (h23, .inl (zI g, 5, .inl (fun _ => 0))), (h24, .inl (zI g, 20, .inl (fun _ => 0))), (h25, .inl (zI g, 20, .inl (fun _ => 0))), (h26, .inl (zI g, 20, .inl (fun _ => 99)))] H := hP
  have hD : va_D A [(h1, .inr (0, [.ref h11, .int 0, .ref h12, .int 0, .ref h13, .ref h14, .ref h15, .ref h16, .ref h17, .ref h18, .int 0])), (h11, .inl (zI g, 5, .inl (zA [60, 1, 1, 0, 0]))), (h12, .inl (zI g, 6, .inl (fun _ => 0))), (h13, .inl (zI g, 5, .inl (fun _ => 0))), (h14, .inl (zI g, 5, .inl (fun _ => 0))), (h15, .inl (zI g, 5, .inl (fun _ => 0))), (h16, .inl (zI g, 20, .inl (fun _ => 0))), (h17, .inl (zI g, 20, .inl (fun _ => 0))), (h18, .inl (zI g, 20, .inl (fun _ => 99))), (h0, .inr (0, [.ref h19, .int 0, .ref h20, .int 0, .ref h21, .ref h22, .ref h23, .ref h24, .ref h25, .ref h26, .int 0])), (h19, .inl (zI g, 5, .inl (zA [60, 1, 1, 0, 0]))), (h20, .inl (zI g, 6, .inl (fun _ => 0))), (h21, .inl (zI g, 5, .inl (va_cpy (fun _ => 0) (fun _ => 0) 0 0 5))), (h22, .inl (zI g, 5, .inl (fun _ => 0))), (h23, .inl (zI g, 5, .inl (fun _ => 0))), (h24, .inl (zI g, 20, .inl (fun _ => 0))), (h25, .inl (zI g, 20, .inl (fun _ => 0))), (h26, .inl (zI g, 20, .inl (fun _ => 99)))] := hD
  rw [zc_cpy] at hP hD
  refine lv_aload_n hx hb dX0_take_59 rfl (lv_at hl 1 rfl) ?_
  refine va_get (D := g.1) (ci := 0) (v := .ref h14) (C := RX0) (T := TX0) (N := 11) hx hb hts zl_X0 hown hK hP 0 rfl rfl 5 (by decide) (hts _ m_f_RX0_36) (fun _ h => h) rfl dX0_take_60 ?_
  refine lv_iconst (v := 0) hx hb dX0_take_63 (by decide) ?_
  refine lv_aload_n hx hb dX0_take_64 rfl (lv_at hl 0 rfl) ?_
  refine va_get (D := g.1) (ci := 0) (v := .ref h22) (C := RX0) (T := TX0) (N := 11) hx hb hts zl_X0 hown hK hP 9 rfl rfl 5 (by decide) (hts _ m_f_RX0_36) (fun _ h => h) rfl dX0_take_65 ?_
  refine lv_iconst (v := 0) hx hb dX0_take_68 (by decide) ?_
  refine lv_iconst (v := 5) hx hb dX0_take_69 (by decide) ?_
  refine va_copyi (D := g.1) (ty := .int) (sp := 0) (dp := 0) (n := 5) hx hb (hml.trans hl.1.symm) hown (hts _ m_m_RX0_60) (hts _ m_n_arraycopyName) (hts _ m_s_arraycopyName) (hts _ m_z_RJ10) hK hP hD hS 4 13 0 0 rfl rfl rfl rfl rfl (by decide) (by decide) (by decide) (by decide) (by decide) (fun _ _ => rfl) (Nat.le_of_ble_eq_true rfl) (Nat.le_of_ble_eq_true rfl) dX0_take_70 (fun H locs hP hD hS => ?_)
  have hP : va_P g.1 vwCl [(h1, .inr (0, [.ref h11, .int 0, .ref h12, .int 0, .ref h13, .ref h14, .ref h15, .ref h16, .ref h17, .ref h18, .int 0])), (h11, .inl (zI g, 5, .inl (zA [60, 1, 1, 0, 0]))), (h12, .inl (zI g, 6, .inl (fun _ => 0))), (h13, .inl (zI g, 5, .inl (fun _ => 0))), (h14, .inl (zI g, 5, .inl (fun _ => 0))), (h15, .inl (zI g, 5, .inl (fun _ => 0))), (h16, .inl (zI g, 20, .inl (fun _ => 0))), (h17, .inl (zI g, 20, .inl (fun _ => 0))), (h18, .inl (zI g, 20, .inl (fun _ => 99))), (h0, .inr (0, [.ref h19, .int 0, .ref h20, .int 0, .ref h21, .ref h22, .ref h23, .ref h24, .ref h25, .ref h26, .int 0])), (h19, .inl (zI g, 5, .inl (zA [60, 1, 1, 0, 0]))), (h20, .inl (zI g, 6, .inl (fun _ => 0))), (h21, .inl (zI g, 5, .inl (fun _ => 0))), (h22, .inl (zI g, 5, .inl (va_cpy (fun _ => 0) (fun _ => 0) 0 0 5))), (h23, .inl (zI g, 5, .inl (fun _ => 0))), (h24, .inl (zI g, 20, .inl (fun _ => 0))), (h25, .inl (zI g, 20, .inl (fun _ => 0))), (h26, .inl (zI g, 20, .inl (fun _ => 99)))] H := hP
  have hD : va_D A [(h1, .inr (0, [.ref h11, .int 0, .ref h12, .int 0, .ref h13, .ref h14, .ref h15, .ref h16, .ref h17, .ref h18, .int 0])), (h11, .inl (zI g, 5, .inl (zA [60, 1, 1, 0, 0]))), (h12, .inl (zI g, 6, .inl (fun _ => 0))), (h13, .inl (zI g, 5, .inl (fun _ => 0))), (h14, .inl (zI g, 5, .inl (fun _ => 0))), (h15, .inl (zI g, 5, .inl (fun _ => 0))), (h16, .inl (zI g, 20, .inl (fun _ => 0))), (h17, .inl (zI g, 20, .inl (fun _ => 0))), (h18, .inl (zI g, 20, .inl (fun _ => 99))), (h0, .inr (0, [.ref h19, .int 0, .ref h20, .int 0, .ref h21, .ref h22, .ref h23, .ref h24, .ref h25, .ref h26, .int 0])), (h19, .inl (zI g, 5, .inl (zA [60, 1, 1, 0, 0]))), (h20, .inl (zI g, 6, .inl (fun _ => 0))), (h21, .inl (zI g, 5, .inl (fun _ => 0))), (h22, .inl (zI g, 5, .inl (va_cpy (fun _ => 0) (fun _ => 0) 0 0 5))), (h23, .inl (zI g, 5, .inl (fun _ => 0))), (h24, .inl (zI g, 20, .inl (fun _ => 0))), (h25, .inl (zI g, 20, .inl (fun _ => 0))), (h26, .inl (zI g, 20, .inl (fun _ => 99)))] := hD
  rw [zc_cpy] at hP hD
  refine lv_aload_n hx hb dX0_take_73 rfl (lv_at hl 1 rfl) ?_
  refine va_get (D := g.1) (ci := 0) (v := .ref h15) (C := RX0) (T := TX0) (N := 11) hx hb hts zl_X0 hown hK hP 0 rfl rfl 6 (by decide) (hts _ m_f_RX0_39) (fun _ h => h) rfl dX0_take_74 ?_
  refine lv_iconst (v := 0) hx hb dX0_take_77 (by decide) ?_
  refine lv_aload_n hx hb dX0_take_78 rfl (lv_at hl 0 rfl) ?_
  refine va_get (D := g.1) (ci := 0) (v := .ref h23) (C := RX0) (T := TX0) (N := 11) hx hb hts zl_X0 hown hK hP 9 rfl rfl 6 (by decide) (hts _ m_f_RX0_39) (fun _ h => h) rfl dX0_take_79 ?_
  refine lv_iconst (v := 0) hx hb dX0_take_82 (by decide) ?_
  refine lv_iconst (v := 5) hx hb dX0_take_83 (by decide) ?_
  refine va_copyi (D := g.1) (ty := .int) (sp := 0) (dp := 0) (n := 5) hx hb (hml.trans hl.1.symm) hown (hts _ m_m_RX0_60) (hts _ m_n_arraycopyName) (hts _ m_s_arraycopyName) (hts _ m_z_RJ10) hK hP hD hS 5 14 0 0 rfl rfl rfl rfl rfl (by decide) (by decide) (by decide) (by decide) (by decide) (fun _ _ => rfl) (Nat.le_of_ble_eq_true rfl) (Nat.le_of_ble_eq_true rfl) dX0_take_84 (fun H locs hP hD hS => ?_)
  have hP : va_P g.1 vwCl [(h1, .inr (0, [.ref h11, .int 0, .ref h12, .int 0, .ref h13, .ref h14, .ref h15, .ref h16, .ref h17, .ref h18, .int 0])), (h11, .inl (zI g, 5, .inl (zA [60, 1, 1, 0, 0]))), (h12, .inl (zI g, 6, .inl (fun _ => 0))), (h13, .inl (zI g, 5, .inl (fun _ => 0))), (h14, .inl (zI g, 5, .inl (fun _ => 0))), (h15, .inl (zI g, 5, .inl (fun _ => 0))), (h16, .inl (zI g, 20, .inl (fun _ => 0))), (h17, .inl (zI g, 20, .inl (fun _ => 0))), (h18, .inl (zI g, 20, .inl (fun _ => 99))), (h0, .inr (0, [.ref h19, .int 0, .ref h20, .int 0, .ref h21, .ref h22, .ref h23, .ref h24, .ref h25, .ref h26, .int 0])), (h19, .inl (zI g, 5, .inl (zA [60, 1, 1, 0, 0]))), (h20, .inl (zI g, 6, .inl (fun _ => 0))), (h21, .inl (zI g, 5, .inl (fun _ => 0))), (h22, .inl (zI g, 5, .inl (fun _ => 0))), (h23, .inl (zI g, 5, .inl (va_cpy (fun _ => 0) (fun _ => 0) 0 0 5))), (h24, .inl (zI g, 20, .inl (fun _ => 0))), (h25, .inl (zI g, 20, .inl (fun _ => 0))), (h26, .inl (zI g, 20, .inl (fun _ => 99)))] H := hP
  have hD : va_D A [(h1, .inr (0, [.ref h11, .int 0, .ref h12, .int 0, .ref h13, .ref h14, .ref h15, .ref h16, .ref h17, .ref h18, .int 0])), (h11, .inl (zI g, 5, .inl (zA [60, 1, 1, 0, 0]))), (h12, .inl (zI g, 6, .inl (fun _ => 0))), (h13, .inl (zI g, 5, .inl (fun _ => 0))), (h14, .inl (zI g, 5, .inl (fun _ => 0))), (h15, .inl (zI g, 5, .inl (fun _ => 0))), (h16, .inl (zI g, 20, .inl (fun _ => 0))), (h17, .inl (zI g, 20, .inl (fun _ => 0))), (h18, .inl (zI g, 20, .inl (fun _ => 99))), (h0, .inr (0, [.ref h19, .int 0, .ref h20, .int 0, .ref h21, .ref h22, .ref h23, .ref h24, .ref h25, .ref h26, .int 0])), (h19, .inl (zI g, 5, .inl (zA [60, 1, 1, 0, 0]))), (h20, .inl (zI g, 6, .inl (fun _ => 0))), (h21, .inl (zI g, 5, .inl (fun _ => 0))), (h22, .inl (zI g, 5, .inl (fun _ => 0))), (h23, .inl (zI g, 5, .inl (va_cpy (fun _ => 0) (fun _ => 0) 0 0 5))), (h24, .inl (zI g, 20, .inl (fun _ => 0))), (h25, .inl (zI g, 20, .inl (fun _ => 0))), (h26, .inl (zI g, 20, .inl (fun _ => 99)))] := hD
  rw [zc_cpy] at hP hD
  refine lv_aload_n hx hb dX0_take_87 rfl (lv_at hl 1 rfl) ?_
  refine va_get (D := g.1) (ci := 0) (v := .ref h16) (C := RX0) (T := TX0) (N := 11) hx hb hts zl_X0 hown hK hP 0 rfl rfl 7 (by decide) (hts _ m_f_RX0_42) (fun _ h => h) rfl dX0_take_88 ?_
  refine lv_iconst (v := 0) hx hb dX0_take_91 (by decide) ?_
  refine lv_aload_n hx hb dX0_take_92 rfl (lv_at hl 0 rfl) ?_
  refine va_get (D := g.1) (ci := 0) (v := .ref h24) (C := RX0) (T := TX0) (N := 11) hx hb hts zl_X0 hown hK hP 9 rfl rfl 7 (by decide) (hts _ m_f_RX0_42) (fun _ h => h) rfl dX0_take_93 ?_
  refine lv_iconst (v := 0) hx hb dX0_take_96 (by decide) ?_
  refine lv_bipush (v := 20) hx hb dX0_take_97 (by decide) ?_
  refine va_copyi (D := g.1) (ty := .int) (sp := 0) (dp := 0) (n := 20) hx hb (hml.trans hl.1.symm) hown (hts _ m_m_RX0_60) (hts _ m_n_arraycopyName) (hts _ m_s_arraycopyName) (hts _ m_z_RJ10) hK hP hD hS 6 15 0 0 rfl rfl rfl rfl rfl (by decide) (by decide) (by decide) (by decide) (by decide) (fun _ _ => rfl) (Nat.le_of_ble_eq_true rfl) (Nat.le_of_ble_eq_true rfl) dX0_take_99 (fun H locs hP hD hS => ?_)
  have hP : va_P g.1 vwCl [(h1, .inr (0, [.ref h11, .int 0, .ref h12, .int 0, .ref h13, .ref h14, .ref h15, .ref h16, .ref h17, .ref h18, .int 0])), (h11, .inl (zI g, 5, .inl (zA [60, 1, 1, 0, 0]))), (h12, .inl (zI g, 6, .inl (fun _ => 0))), (h13, .inl (zI g, 5, .inl (fun _ => 0))), (h14, .inl (zI g, 5, .inl (fun _ => 0))), (h15, .inl (zI g, 5, .inl (fun _ => 0))), (h16, .inl (zI g, 20, .inl (fun _ => 0))), (h17, .inl (zI g, 20, .inl (fun _ => 0))), (h18, .inl (zI g, 20, .inl (fun _ => 99))), (h0, .inr (0, [.ref h19, .int 0, .ref h20, .int 0, .ref h21, .ref h22, .ref h23, .ref h24, .ref h25, .ref h26, .int 0])), (h19, .inl (zI g, 5, .inl (zA [60, 1, 1, 0, 0]))), (h20, .inl (zI g, 6, .inl (fun _ => 0))), (h21, .inl (zI g, 5, .inl (fun _ => 0))), (h22, .inl (zI g, 5, .inl (fun _ => 0))), (h23, .inl (zI g, 5, .inl (fun _ => 0))), (h24, .inl (zI g, 20, .inl (va_cpy (fun _ => 0) (fun _ => 0) 0 0 20))), (h25, .inl (zI g, 20, .inl (fun _ => 0))), (h26, .inl (zI g, 20, .inl (fun _ => 99)))] H := hP
  have hD : va_D A [(h1, .inr (0, [.ref h11, .int 0, .ref h12, .int 0, .ref h13, .ref h14, .ref h15, .ref h16, .ref h17, .ref h18, .int 0])), (h11, .inl (zI g, 5, .inl (zA [60, 1, 1, 0, 0]))), (h12, .inl (zI g, 6, .inl (fun _ => 0))), (h13, .inl (zI g, 5, .inl (fun _ => 0))), (h14, .inl (zI g, 5, .inl (fun _ => 0))), (h15, .inl (zI g, 5, .inl (fun _ => 0))), (h16, .inl (zI g, 20, .inl (fun _ => 0))), (h17, .inl (zI g, 20, .inl (fun _ => 0))), (h18, .inl (zI g, 20, .inl (fun _ => 99))), (h0, .inr (0, [.ref h19, .int 0, .ref h20, .int 0, .ref h21, .ref h22, .ref h23, .ref h24, .ref h25, .ref h26, .int 0])), (h19, .inl (zI g, 5, .inl (zA [60, 1, 1, 0, 0]))), (h20, .inl (zI g, 6, .inl (fun _ => 0))), (h21, .inl (zI g, 5, .inl (fun _ => 0))), (h22, .inl (zI g, 5, .inl (fun _ => 0))), (h23, .inl (zI g, 5, .inl (fun _ => 0))), (h24, .inl (zI g, 20, .inl (va_cpy (fun _ => 0) (fun _ => 0) 0 0 20))), (h25, .inl (zI g, 20, .inl (fun _ => 0))), (h26, .inl (zI g, 20, .inl (fun _ => 99)))] := hD
  rw [zc_cpy] at hP hD
  refine lv_aload_n hx hb dX0_take_102 rfl (lv_at hl 1 rfl) ?_
  refine va_get (D := g.1) (ci := 0) (v := .ref h17) (C := RX0) (T := TX0) (N := 11) hx hb hts zl_X0 hown hK hP 0 rfl rfl 8 (by decide) (hts _ m_f_RX0_45) (fun _ h => h) rfl dX0_take_103 ?_
  refine lv_iconst (v := 0) hx hb dX0_take_106 (by decide) ?_
  refine lv_aload_n hx hb dX0_take_107 rfl (lv_at hl 0 rfl) ?_
  refine va_get (D := g.1) (ci := 0) (v := .ref h25) (C := RX0) (T := TX0) (N := 11) hx hb hts zl_X0 hown hK hP 9 rfl rfl 8 (by decide) (hts _ m_f_RX0_45) (fun _ h => h) rfl dX0_take_108 ?_
  refine lv_iconst (v := 0) hx hb dX0_take_111 (by decide) ?_
  refine lv_bipush (v := 20) hx hb dX0_take_112 (by decide) ?_
  refine va_copyi (D := g.1) (ty := .int) (sp := 0) (dp := 0) (n := 20) hx hb (hml.trans hl.1.symm) hown (hts _ m_m_RX0_60) (hts _ m_n_arraycopyName) (hts _ m_s_arraycopyName) (hts _ m_z_RJ10) hK hP hD hS 7 16 0 0 rfl rfl rfl rfl rfl (by decide) (by decide) (by decide) (by decide) (by decide) (fun _ _ => rfl) (Nat.le_of_ble_eq_true rfl) (Nat.le_of_ble_eq_true rfl) dX0_take_114 (fun H locs hP hD hS => ?_)
  have hP : va_P g.1 vwCl [(h1, .inr (0, [.ref h11, .int 0, .ref h12, .int 0, .ref h13, .ref h14, .ref h15, .ref h16, .ref h17, .ref h18, .int 0])), (h11, .inl (zI g, 5, .inl (zA [60, 1, 1, 0, 0]))), (h12, .inl (zI g, 6, .inl (fun _ => 0))), (h13, .inl (zI g, 5, .inl (fun _ => 0))), (h14, .inl (zI g, 5, .inl (fun _ => 0))), (h15, .inl (zI g, 5, .inl (fun _ => 0))), (h16, .inl (zI g, 20, .inl (fun _ => 0))), (h17, .inl (zI g, 20, .inl (fun _ => 0))), (h18, .inl (zI g, 20, .inl (fun _ => 99))), (h0, .inr (0, [.ref h19, .int 0, .ref h20, .int 0, .ref h21, .ref h22, .ref h23, .ref h24, .ref h25, .ref h26, .int 0])), (h19, .inl (zI g, 5, .inl (zA [60, 1, 1, 0, 0]))), (h20, .inl (zI g, 6, .inl (fun _ => 0))), (h21, .inl (zI g, 5, .inl (fun _ => 0))), (h22, .inl (zI g, 5, .inl (fun _ => 0))), (h23, .inl (zI g, 5, .inl (fun _ => 0))), (h24, .inl (zI g, 20, .inl (fun _ => 0))), (h25, .inl (zI g, 20, .inl (va_cpy (fun _ => 0) (fun _ => 0) 0 0 20))), (h26, .inl (zI g, 20, .inl (fun _ => 99)))] H := hP
  have hD : va_D A [(h1, .inr (0, [.ref h11, .int 0, .ref h12, .int 0, .ref h13, .ref h14, .ref h15, .ref h16, .ref h17, .ref h18, .int 0])), (h11, .inl (zI g, 5, .inl (zA [60, 1, 1, 0, 0]))), (h12, .inl (zI g, 6, .inl (fun _ => 0))), (h13, .inl (zI g, 5, .inl (fun _ => 0))), (h14, .inl (zI g, 5, .inl (fun _ => 0))), (h15, .inl (zI g, 5, .inl (fun _ => 0))), (h16, .inl (zI g, 20, .inl (fun _ => 0))), (h17, .inl (zI g, 20, .inl (fun _ => 0))), (h18, .inl (zI g, 20, .inl (fun _ => 99))), (h0, .inr (0, [.ref h19, .int 0, .ref h20, .int 0, .ref h21, .ref h22, .ref h23, .ref h24, .ref h25, .ref h26, .int 0])), (h19, .inl (zI g, 5, .inl (zA [60, 1, 1, 0, 0]))), (h20, .inl (zI g, 6, .inl (fun _ => 0))), (h21, .inl (zI g, 5, .inl (fun _ => 0))), (h22, .inl (zI g, 5, .inl (fun _ => 0))), (h23, .inl (zI g, 5, .inl (fun _ => 0))), (h24, .inl (zI g, 20, .inl (fun _ => 0))), (h25, .inl (zI g, 20, .inl (va_cpy (fun _ => 0) (fun _ => 0) 0 0 20))), (h26, .inl (zI g, 20, .inl (fun _ => 99)))] := hD
  rw [zc_cpy] at hP hD
  refine lv_aload_n hx hb dX0_take_117 rfl (lv_at hl 1 rfl) ?_
  refine va_get (D := g.1) (ci := 0) (v := .ref h18) (C := RX0) (T := TX0) (N := 11) hx hb hts zl_X0 hown hK hP 0 rfl rfl 9 (by decide) (hts _ m_f_RX0_48) (fun _ h => h) rfl dX0_take_118 ?_
  refine lv_iconst (v := 0) hx hb dX0_take_121 (by decide) ?_
  refine lv_aload_n hx hb dX0_take_122 rfl (lv_at hl 0 rfl) ?_
  refine va_get (D := g.1) (ci := 0) (v := .ref h26) (C := RX0) (T := TX0) (N := 11) hx hb hts zl_X0 hown hK hP 9 rfl rfl 9 (by decide) (hts _ m_f_RX0_48) (fun _ h => h) rfl dX0_take_123 ?_
  refine lv_iconst (v := 0) hx hb dX0_take_126 (by decide) ?_
  refine lv_bipush (v := 20) hx hb dX0_take_127 (by decide) ?_
  refine va_copyi (D := g.1) (ty := .int) (sp := 0) (dp := 0) (n := 20) hx hb (hml.trans hl.1.symm) hown (hts _ m_m_RX0_60) (hts _ m_n_arraycopyName) (hts _ m_s_arraycopyName) (hts _ m_z_RJ10) hK hP hD hS 8 17 0 0 rfl rfl rfl rfl rfl (by decide) (by decide) (by decide) (by decide) (by decide) (fun _ _ => rfl) (Nat.le_of_ble_eq_true rfl) (Nat.le_of_ble_eq_true rfl) dX0_take_129 (fun H locs hP hD hS => ?_)
  have hP : va_P g.1 vwCl [(h1, .inr (0, [.ref h11, .int 0, .ref h12, .int 0, .ref h13, .ref h14, .ref h15, .ref h16, .ref h17, .ref h18, .int 0])), (h11, .inl (zI g, 5, .inl (zA [60, 1, 1, 0, 0]))), (h12, .inl (zI g, 6, .inl (fun _ => 0))), (h13, .inl (zI g, 5, .inl (fun _ => 0))), (h14, .inl (zI g, 5, .inl (fun _ => 0))), (h15, .inl (zI g, 5, .inl (fun _ => 0))), (h16, .inl (zI g, 20, .inl (fun _ => 0))), (h17, .inl (zI g, 20, .inl (fun _ => 0))), (h18, .inl (zI g, 20, .inl (fun _ => 99))), (h0, .inr (0, [.ref h19, .int 0, .ref h20, .int 0, .ref h21, .ref h22, .ref h23, .ref h24, .ref h25, .ref h26, .int 0])), (h19, .inl (zI g, 5, .inl (zA [60, 1, 1, 0, 0]))), (h20, .inl (zI g, 6, .inl (fun _ => 0))), (h21, .inl (zI g, 5, .inl (fun _ => 0))), (h22, .inl (zI g, 5, .inl (fun _ => 0))), (h23, .inl (zI g, 5, .inl (fun _ => 0))), (h24, .inl (zI g, 20, .inl (fun _ => 0))), (h25, .inl (zI g, 20, .inl (fun _ => 0))), (h26, .inl (zI g, 20, .inl (va_cpy (fun _ => 99) (fun _ => 99) 0 0 20)))] H := hP
  have hD : va_D A [(h1, .inr (0, [.ref h11, .int 0, .ref h12, .int 0, .ref h13, .ref h14, .ref h15, .ref h16, .ref h17, .ref h18, .int 0])), (h11, .inl (zI g, 5, .inl (zA [60, 1, 1, 0, 0]))), (h12, .inl (zI g, 6, .inl (fun _ => 0))), (h13, .inl (zI g, 5, .inl (fun _ => 0))), (h14, .inl (zI g, 5, .inl (fun _ => 0))), (h15, .inl (zI g, 5, .inl (fun _ => 0))), (h16, .inl (zI g, 20, .inl (fun _ => 0))), (h17, .inl (zI g, 20, .inl (fun _ => 0))), (h18, .inl (zI g, 20, .inl (fun _ => 99))), (h0, .inr (0, [.ref h19, .int 0, .ref h20, .int 0, .ref h21, .ref h22, .ref h23, .ref h24, .ref h25, .ref h26, .int 0])), (h19, .inl (zI g, 5, .inl (zA [60, 1, 1, 0, 0]))), (h20, .inl (zI g, 6, .inl (fun _ => 0))), (h21, .inl (zI g, 5, .inl (fun _ => 0))), (h22, .inl (zI g, 5, .inl (fun _ => 0))), (h23, .inl (zI g, 5, .inl (fun _ => 0))), (h24, .inl (zI g, 20, .inl (fun _ => 0))), (h25, .inl (zI g, 20, .inl (fun _ => 0))), (h26, .inl (zI g, 20, .inl (va_cpy (fun _ => 99) (fun _ => 99) 0 0 20)))] := hD
  rw [zc_cpy] at hP hD
  refine lv_aload_n hx hb dX0_take_132 rfl (lv_at hl 0 rfl) ?_
  refine lv_aload_n hx hb dX0_take_133 rfl (lv_at hl 1 rfl) ?_
  refine va_get (D := g.1) (ci := 0) (v := .int 0) (C := RX0) (T := TX0) (N := 11) hx hb hts zl_X0 hown hK hP 0 rfl rfl 10 (by decide) (hts _ m_f_RX0_51) (fun _ h => h) rfl dX0_take_134 ?_
  refine va_put (D := g.1) (ci := 0) (v := .int 0) (ty := .int) (C := RX0) (T := TX0) (N := 11) hx hb hts zl_X0 tyX0 tyX0_ok nmX0 hown hK hP hD hS 9 rfl rfl 10 (by decide) (hts _ m_f_RX0_51) (fun _ h => h) rfl (by decide +kernel) rfl rfl (Nat.le_of_ble_eq_true rfl) dX0_take_137 (fun H locs hP hD hS => ?_)
  have hP : va_P g.1 vwCl [(h1, .inr (0, [.ref h11, .int 0, .ref h12, .int 0, .ref h13, .ref h14, .ref h15, .ref h16, .ref h17, .ref h18, .int 0])), (h11, .inl (zI g, 5, .inl (zA [60, 1, 1, 0, 0]))), (h12, .inl (zI g, 6, .inl (fun _ => 0))), (h13, .inl (zI g, 5, .inl (fun _ => 0))), (h14, .inl (zI g, 5, .inl (fun _ => 0))), (h15, .inl (zI g, 5, .inl (fun _ => 0))), (h16, .inl (zI g, 20, .inl (fun _ => 0))), (h17, .inl (zI g, 20, .inl (fun _ => 0))), (h18, .inl (zI g, 20, .inl (fun _ => 99))), (h0, .inr (0, [.ref h19, .int 0, .ref h20, .int 0, .ref h21, .ref h22, .ref h23, .ref h24, .ref h25, .ref h26, .int 0])), (h19, .inl (zI g, 5, .inl (zA [60, 1, 1, 0, 0]))), (h20, .inl (zI g, 6, .inl (fun _ => 0))), (h21, .inl (zI g, 5, .inl (fun _ => 0))), (h22, .inl (zI g, 5, .inl (fun _ => 0))), (h23, .inl (zI g, 5, .inl (fun _ => 0))), (h24, .inl (zI g, 20, .inl (fun _ => 0))), (h25, .inl (zI g, 20, .inl (fun _ => 0))), (h26, .inl (zI g, 20, .inl (fun _ => 99)))] H := hP
  have hD : va_D A [(h1, .inr (0, [.ref h11, .int 0, .ref h12, .int 0, .ref h13, .ref h14, .ref h15, .ref h16, .ref h17, .ref h18, .int 0])), (h11, .inl (zI g, 5, .inl (zA [60, 1, 1, 0, 0]))), (h12, .inl (zI g, 6, .inl (fun _ => 0))), (h13, .inl (zI g, 5, .inl (fun _ => 0))), (h14, .inl (zI g, 5, .inl (fun _ => 0))), (h15, .inl (zI g, 5, .inl (fun _ => 0))), (h16, .inl (zI g, 20, .inl (fun _ => 0))), (h17, .inl (zI g, 20, .inl (fun _ => 0))), (h18, .inl (zI g, 20, .inl (fun _ => 99))), (h0, .inr (0, [.ref h19, .int 0, .ref h20, .int 0, .ref h21, .ref h22, .ref h23, .ref h24, .ref h25, .ref h26, .int 0])), (h19, .inl (zI g, 5, .inl (zA [60, 1, 1, 0, 0]))), (h20, .inl (zI g, 6, .inl (fun _ => 0))), (h21, .inl (zI g, 5, .inl (fun _ => 0))), (h22, .inl (zI g, 5, .inl (fun _ => 0))), (h23, .inl (zI g, 5, .inl (fun _ => 0))), (h24, .inl (zI g, 20, .inl (fun _ => 0))), (h25, .inl (zI g, 20, .inl (fun _ => 0))), (h26, .inl (zI g, 20, .inl (fun _ => 99)))] := hD
  have hP9 := hP.sub (ws' := [(h1, .inr (0, [.ref h11, .int 0, .ref h12, .int 0, .ref h13, .ref h14, .ref h15, .ref h16, .ref h17, .ref h18, .int 0])), (h11, .inl (zI g, 5, .inl (zA [60, 1, 1, 0, 0]))), (h12, .inl (zI g, 6, .inl (fun _ => 0))), (h13, .inl (zI g, 5, .inl (fun _ => 0))), (h14, .inl (zI g, 5, .inl (fun _ => 0))), (h15, .inl (zI g, 5, .inl (fun _ => 0))), (h16, .inl (zI g, 20, .inl (fun _ => 0))), (h17, .inl (zI g, 20, .inl (fun _ => 0))), (h18, .inl (zI g, 20, .inl (fun _ => 99))), (h0, .inr (0, [.ref h19, .int 0, .ref h20, .int 0, .ref h21, .ref h22, .ref h23, .ref h24, .ref h25, .ref h26, .int 0])), (h19, .inl (zI g, 5, .inl (zA [60, 1, 1, 0, 0]))), (h20, .inl (zI g, 6, .inl (fun _ => 0))), (h21, .inl (zI g, 5, .inl (fun _ => 0))), (h22, .inl (zI g, 5, .inl (fun _ => 0))), (h23, .inl (zI g, 5, .inl (fun _ => 0))), (h24, .inl (zI g, 20, .inl (fun _ => 0))), (h25, .inl (zI g, 20, .inl (fun _ => 0))), (h26, .inl (zI g, 20, .inl (fun _ => 99)))]) [0, 1, 2, 3, 4, 5, 6, 7, 8, 9, 10, 11, 12, 13, 14, 15, 16, 17] rfl
  have hD9 := hD.sub (ws' := [(h1, .inr (0, [.ref h11, .int 0, .ref h12, .int 0, .ref h13, .ref h14, .ref h15, .ref h16, .ref h17, .ref h18, .int 0])), (h11, .inl (zI g, 5, .inl (zA [60, 1, 1, 0, 0]))), (h12, .inl (zI g, 6, .inl (fun _ => 0))), (h13, .inl (zI g, 5, .inl (fun _ => 0))), (h14, .inl (zI g, 5, .inl (fun _ => 0))), (h15, .inl (zI g, 5, .inl (fun _ => 0))), (h16, .inl (zI g, 20, .inl (fun _ => 0))), (h17, .inl (zI g, 20, .inl (fun _ => 0))), (h18, .inl (zI g, 20, .inl (fun _ => 99))), (h0, .inr (0, [.ref h19, .int 0, .ref h20, .int 0, .ref h21, .ref h22, .ref h23, .ref h24, .ref h25, .ref h26, .int 0])), (h19, .inl (zI g, 5, .inl (zA [60, 1, 1, 0, 0]))), (h20, .inl (zI g, 6, .inl (fun _ => 0))), (h21, .inl (zI g, 5, .inl (fun _ => 0))), (h22, .inl (zI g, 5, .inl (fun _ => 0))), (h23, .inl (zI g, 5, .inl (fun _ => 0))), (h24, .inl (zI g, 20, .inl (fun _ => 0))), (h25, .inl (zI g, 20, .inl (fun _ => 0))), (h26, .inl (zI g, 20, .inl (fun _ => 99)))]) [0, 1, 2, 3, 4, 5, 6, 7, 8, 9, 10, 11, 12, 13, 14, 15, 16, 17] (by decide) rfl
  exact W.vret hx hb hr (fun t ht hW => ⟨⟨0, rfl, trivial, by rw [ht]; exact hP9, hD9⟩, hS.F ht⟩) hS.2.2 dX0_take_140
set_option maxHeartbeats 4000000 in
set_option maxRecDepth 100000 in
theorem kX0_take_2 (l : Launch) (g : zG) (h0 h1 h11 h12 h13 h14 h15 h16 h17 h18 h19 h20 h21 h22 h23 h24 h25 h26 : Nat) (sz : Nat) : Met l yX0_take (.code yX0_take cX0_take 2 none :: zBig) ({ frames := 1, cells := 0, slots := 0, locals := 60 }) (va_Pc [.ref h0, .ref h1] (zPre g [(h1, .inr (0, [.ref h11, .int 0, .ref h12, .int 0, .ref h13, .ref h14, .ref h15, .ref h16, .ref h17, .ref h18, .int 0])), (h11, .inl (zI g, 5, .inl (zA [60, 1, 1, 0, 0]))), (h12, .inl (zI g, 6, .inl (fun _ => 0))), (h13, .inl (zI g, 5, .inl (fun _ => 0))), (h14, .inl (zI g, 5, .inl (fun _ => 0))), (h15, .inl (zI g, 5, .inl (fun _ => 0))), (h16, .inl (zI g, 20, .inl (fun _ => 0))), (h17, .inl (zI g, 20, .inl (fun _ => 0))), (h18, .inl (zI g, 20, .inl (fun _ => 99))), (h0, .inr (0, [.ref h19, .int 0, .ref h20, .int 0, .ref h21, .ref h22, .ref h23, .ref h24, .ref h25, .ref h26, .int 0])), (h19, .inl (zI g, 5, .inl (zA [60, 1, 1, 0, 0]))), (h20, .inl (zI g, 6, .inl (fun _ => 0))), (h21, .inl (zI g, 5, .inl (fun _ => 0))), (h22, .inl (zI g, 5, .inl (fun _ => 0))), (h23, .inl (zI g, 5, .inl (fun _ => 0))), (h24, .inl (zI g, 20, .inl (fun _ => 0))), (h25, .inl (zI g, 20, .inl (fun _ => 0))), (h26, .inl (zI g, 20, .inl (fun _ => 99)))] sz)) (va_Qv (fun _ : Nat => True) (zPost g (fun _ : Nat => [(h1, .inr (0, [.ref h11, .int 0, .ref h12, .int 0, .ref h13, .ref h14, .ref h15, .ref h16, .ref h17, .ref h18, .int 0])), (h11, .inl (zI g, 5, .inl (zA [60, 1, 1, 0, 0]))), (h12, .inl (zI g, 6, .inl (fun _ => 0))), (h13, .inl (zI g, 5, .inl (fun _ => 0))), (h14, .inl (zI g, 5, .inl (fun _ => 0))), (h15, .inl (zI g, 5, .inl (fun _ => 0))), (h16, .inl (zI g, 20, .inl (fun _ => 0))), (h17, .inl (zI g, 20, .inl (fun _ => 0))), (h18, .inl (zI g, 20, .inl (fun _ => 99))), (h0, .inr (0, [.ref h19, .int 0, .ref h20, .int 0, .ref h21, .ref h22, .ref h23, .ref h24, .ref h25, .ref h26, .int 0])), (h19, .inl (zI g, 5, .inl (zA [60, 1, 1, 0, 0]))), (h20, .inl (zI g, 6, .inl (fun _ => 0))), (h21, .inl (zI g, 5, .inl (fun _ => 0))), (h22, .inl (zI g, 5, .inl (fun _ => 0))), (h23, .inl (zI g, 5, .inl (fun _ => 0))), (h24, .inl (zI g, 20, .inl (fun _ => 0))), (h25, .inl (zI g, 20, .inl (fun _ => 0))), (h26, .inl (zI g, 20, .inl (fun _ => 99)))]) (va_A [(h1, .inr (0, [.ref h11, .int 0, .ref h12, .int 0, .ref h13, .ref h14, .ref h15, .ref h16, .ref h17, .ref h18, .int 0])), (h11, .inl (zI g, 5, .inl (zA [60, 1, 1, 0, 0]))), (h12, .inl (zI g, 6, .inl (fun _ => 0))), (h13, .inl (zI g, 5, .inl (fun _ => 0))), (h14, .inl (zI g, 5, .inl (fun _ => 0))), (h15, .inl (zI g, 5, .inl (fun _ => 0))), (h16, .inl (zI g, 20, .inl (fun _ => 0))), (h17, .inl (zI g, 20, .inl (fun _ => 0))), (h18, .inl (zI g, 20, .inl (fun _ => 99))), (h0, .inr (0, [.ref h19, .int 0, .ref h20, .int 0, .ref h21, .ref h22, .ref h23, .ref h24, .ref h25, .ref h26, .int 0])), (h19, .inl (zI g, 5, .inl (zA [60, 1, 1, 0, 0]))), (h20, .inl (zI g, 6, .inl (fun _ => 0))), (h21, .inl (zI g, 5, .inl (fun _ => 0))), (h22, .inl (zI g, 5, .inl (fun _ => 0))), (h23, .inl (zI g, 5, .inl (fun _ => 0))), (h24, .inl (zI g, 20, .inl (fun _ => 0))), (h25, .inl (zI g, 20, .inl (fun _ => 0))), (h26, .inl (zI g, 20, .inl (fun _ => 99)))] sz)) (va_A [(h1, .inr (0, [.ref h11, .int 0, .ref h12, .int 0, .ref h13, .ref h14, .ref h15, .ref h16, .ref h17, .ref h18, .int 0])), (h11, .inl (zI g, 5, .inl (zA [60, 1, 1, 0, 0]))), (h12, .inl (zI g, 6, .inl (fun _ => 0))), (h13, .inl (zI g, 5, .inl (fun _ => 0))), (h14, .inl (zI g, 5, .inl (fun _ => 0))), (h15, .inl (zI g, 5, .inl (fun _ => 0))), (h16, .inl (zI g, 20, .inl (fun _ => 0))), (h17, .inl (zI g, 20, .inl (fun _ => 0))), (h18, .inl (zI g, 20, .inl (fun _ => 99))), (h0, .inr (0, [.ref h19, .int 0, .ref h20, .int 0, .ref h21, .ref h22, .ref h23, .ref h24, .ref h25, .ref h26, .int 0])), (h19, .inl (zI g, 5, .inl (zA [60, 1, 1, 0, 0]))), (h20, .inl (zI g, 6, .inl (fun _ => 0))), (h21, .inl (zI g, 5, .inl (fun _ => 0))), (h22, .inl (zI g, 5, .inl (fun _ => 0))), (h23, .inl (zI g, 5, .inl (fun _ => 0))), (h24, .inl (zI g, 20, .inl (fun _ => 0))), (h25, .inl (zI g, 20, .inl (fun _ => 0))), (h26, .inl (zI g, 20, .inl (fun _ => 99)))] sz)) 0 0 (va_A [(h1, .inr (0, [.ref h11, .int 0, .ref h12, .int 0, .ref h13, .ref h14, .ref h15, .ref h16, .ref h17, .ref h18, .int 0])), (h11, .inl (zI g, 5, .inl (zA [60, 1, 1, 0, 0]))), (h12, .inl (zI g, 6, .inl (fun _ => 0))), (h13, .inl (zI g, 5, .inl (fun _ => 0))), (h14, .inl (zI g, 5, .inl (fun _ => 0))), (h15, .inl (zI g, 5, .inl (fun _ => 0))), (h16, .inl (zI g, 20, .inl (fun _ => 0))), (h17, .inl (zI g, 20, .inl (fun _ => 0))), (h18, .inl (zI g, 20, .inl (fun _ => 99))), (h0, .inr (0, [.ref h19, .int 0, .ref h20, .int 0, .ref h21, .ref h22, .ref h23, .ref h24, .ref h25, .ref h26, .int 0])), (h19, .inl (zI g, 5, .inl (zA [60, 1, 1, 0, 0]))), (h20, .inl (zI g, 6, .inl (fun _ => 0))), (h21, .inl (zI g, 5, .inl (fun _ => 0))), (h22, .inl (zI g, 5, .inl (fun _ => 0))), (h23, .inl (zI g, 5, .inl (fun _ => 0))), (h24, .inl (zI g, 20, .inl (fun _ => 0))), (h25, .inl (zI g, 20, .inl (fun _ => 0))), (h26, .inl (zI g, 20, .inl (fun _ => 99)))] sz) := by
  refine zMetV rfl (Nat.le_of_ble_eq_true rfl) ?_
  intro p e s m args below meth c A ls hx hb hml hr hlocks hin hown hts hK hN hZ hP hD hA hS hAe hl
  have hown : s.vm.findClass RX0 = some m.cls := hown
  have hl : lv_has ls 2 [(0, .ref h0), (1, .ref h1)] := hl
  refine lv_aload_n hx hb dX0_take_0 rfl (lv_at hl 1 rfl) ?_
  refine va_get (D := g.1) (ci := 0) (v := .ref h11) (C := RX0) (T := TX0) (N := 11) hx hb hts zl_X0 hown hK hP 0 rfl rfl 0 (by decide) (hts _ m_f_RX0_18) (fun _ h => h) rfl dX0_take_1 ?_
  refine lv_iconst (v := 0) hx hb dX0_take_4 (by decide) ?_
  refine lv_aload_n hx hb dX0_take_5 rfl (lv_at hl 0 rfl) ?_
  refine va_get (D := g.1) (ci := 0) (v := .ref h19) (C := RX0) (T := TX0) (N := 11) hx hb hts zl_X0 hown hK hP 9 rfl rfl 0 (by decide) (hts _ m_f_RX0_18) (fun _ h => h) rfl dX0_take_6 ?_
  refine lv_iconst (v := 0) hx hb dX0_take_9 (by decide) ?_
  refine lv_iconst (v := 5) hx hb dX0_take_10 (by decide) ?_
  refine va_copyi (D := g.1) (ty := .int) (sp := 0) (dp := 0) (n := 5) hx hb (hml.trans hl.1.symm) hown (hts _ m_m_RX0_60) (hts _ m_n_arraycopyName) (hts _ m_s_arraycopyName) (hts _ m_z_RJ10) hK hP hD hS 1 10 0 0 rfl rfl rfl rfl rfl (by decide) (by decide) (by decide) (by decide) (by decide) (fun _ _ => rfl) (Nat.le_of_ble_eq_true rfl) (Nat.le_of_ble_eq_true rfl) dX0_take_11 (fun H locs hP hD hS => ?_)
  have hP : va_P g.1 vwCl [(h1, .inr (0, [.ref h11, .int 0, .ref h12, .int 0, .ref h13, .ref h14, .ref h15, .ref h16, .ref h17, .ref h18, .int 0])), (h11, .inl (zI g, 5, .inl (zA [60, 1, 1, 0, 0]))), (h12, .inl (zI g, 6, .inl (fun _ => 0))), (h13, .inl (zI g, 5, .inl (fun _ => 0))), (h14, .inl (zI g, 5, .inl (fun _ => 0))), (h15, .inl (zI g, 5, .inl (fun _ => 0))), (h16, .inl (zI g, 20, .inl (fun _ => 0))), (h17, .inl (zI g, 20, .inl (fun _ => 0))), (h18, .inl (zI g, 20, .inl (fun _ => 99))), (h0, .inr (0, [.ref h19, .int 0, .ref h20, .int 0, .ref h21, .ref h22, .ref h23, .ref h24, .ref h25, .ref h26, .int 0])), (h19, .inl (zI g, 5, .inl (va_cpy (zA [60, 1, 1, 0, 0]) (zA [60, 1, 1, 0, 0]) 0 0 5))), (h20, .inl (zI g, 6, .inl (fun _ => 0))), (h21, .inl (zI g, 5, .inl (fun _ => 0))), (h22, .inl (zI g, 5, .inl (fun _ => 0))), (h23, .inl (zI g, 5, .inl (fun _ => 0))), (h24, .inl (zI g, 20, .inl (fun _ => 0))), (h25, .inl (zI g, 20, .inl (fun _ => 0))), (h26, .inl (zI g, 20, .inl (fun _ => 99)))] H := hP
  have hD : va_D A [(h1, .inr (0, [.ref h11, .int 0, .ref h12, .int 0, .ref h13, .ref h14, .ref h15, .ref h16, .ref h17, .ref h18, .int 0])), (h11, .inl (zI g, 5, .inl (zA [60, 1, 1, 0, 0]))), (h12, .inl (zI g, 6, .inl (fun _ => 0))), (h13, .inl (zI g, 5, .inl (fun _ => 0))), (h14, .inl (zI g, 5, .inl (fun _ => 0))), (h15, .inl (zI g, 5, .inl (fun _ => 0))), (h16, .inl (zI g, 20, .inl (fun _ => 0))), (h17, .inl (zI g, 20, .inl (fun _ => 0))), (h18, .inl (zI g, 20, .inl (fun _ => 99))), (h0, .inr (0, [.ref h19, .int 0, .ref h20, .int 0, .ref h21, .ref h22, .ref h23, .ref h24, .ref h25, .ref h26, .int 0])), (h19, .inl (zI g, 5, .inl (va_cpy (zA [60, 1, 1, 0, 0]) (zA [60, 1, 1, 0, 0]) 0 0 5))), (h20, .inl (zI g, 6, .inl (fun _ => 0))), (h21, .inl (zI g, 5, .inl (fun _ => 0))), (h22, .inl (zI g, 5, .inl (fun _ => 0))), (h23, .inl (zI g, 5, .inl (fun _ => 0))), (h24, .inl (zI g, 20, .inl (fun _ => 0))), (h25, .inl (zI g, 20, .inl (fun _ => 0))), (h26, .inl (zI g, 20, .inl (fun _ => 99)))] := hD
  rw [zc_cpy] at hP hD
  refine lv_aload_n hx hb dX0_take_14 rfl (lv_at hl 0 rfl) ?_
  refine lv_aload_n hx hb dX0_take_15 rfl (lv_at hl 1 rfl) ?_
  refine va_get (D := g.1) (ci := 0) (v := .int 0) (C := RX0) (T := TX0) (N := 11) hx hb hts zl_X0 hown hK hP 0 rfl rfl 1 (by decide) (hts _ m_f_RX0_23) (fun _ h => h) rfl dX0_take_16 ?_
  refine va_put (D := g.1) (ci := 0) (v := .int 0) (ty := .int) (C := RX0) (T := TX0) (N := 11) hx hb hts zl_X0 tyX0 tyX0_ok nmX0 hown hK hP hD hS 9 rfl rfl 1 (by decide) (hts _ m_f_RX0_23) (fun _ h => h) rfl (by decide +kernel) rfl rfl (Nat.le_of_ble_eq_true rfl) dX0_take_19 (fun H locs hP hD hS => ?_)
  have hP : va_P g.1 vwCl [(h1, .inr (0, [.ref h11, .int 0, .ref h12, .int 0, .ref h13, .ref h14, .ref h15, .ref h16, .ref h17, .ref h18, .int 0])), (h11, .inl (zI g, 5, .inl (zA [60, 1, 1, 0, 0]))), (h12, .inl (zI g, 6, .inl (fun _ => 0))), (h13, .inl (zI g, 5, .inl (fun _ => 0))), (h14, .inl (zI g, 5, .inl (fun _ => 0))), (h15, .inl (zI g, 5, .inl (fun _ => 0))), (h16, .inl (zI g, 20, .inl (fun _ => 0))), (h17, .inl (zI g, 20, .inl (fun _ => 0))), (h18, .inl (zI g, 20, .inl (fun _ => 99))), (h0, .inr (0, [.ref h19, .int 0, .ref h20, .int 0, .ref h21, .ref h22, .ref h23, .ref h24, .ref h25, .ref h26, .int 0])), (h19, .inl (zI g, 5, .inl (zA [60, 1, 1, 0, 0]))), (h20, .inl (zI g, 6, .inl (fun _ => 0))), (h21, .inl (zI g, 5, .inl (fun _ => 0))), (h22, .inl (zI g, 5, .inl (fun _ => 0))), (h23, .inl (zI g, 5, .inl (fun _ => 0))), (h24, .inl (zI g, 20, .inl (fun _ => 0))), (h25, .inl (zI g, 20, .inl (fun _ => 0))), (h26, .inl (zI g, 20, .inl (fun _ => 99)))] H := hP
  have hD : va_D A [(h1, .inr (0, [.ref h11, .int 0, .ref h12, .int 0, .ref h13, .ref h14, .ref h15, .ref h16, .ref h17, .ref h18, .int 0])), (h11, .inl (zI g, 5, .inl (zA [60, 1, 1, 0, 0]))), (h12, .inl (zI g, 6, .inl (fun _ => 0))), (h13, .inl (zI g, 5, .inl (fun _ => 0))), (h14, .inl (zI g, 5, .inl (fun _ => 0))), (h15, .inl (zI g, 5, .inl (fun _ => 0))), (h16, .inl (zI g, 20, .inl (fun _ => 0))), (h17, .inl (zI g, 20, .inl (fun _ => 0))), (h18, .inl (zI g, 20, .inl (fun _ => 99))), (h0, .inr (0, [.ref h19, .int 0, .ref h20, .int 0, .ref h21, .ref h22, .ref h23, .ref h24, .ref h25, .ref h26, .int 0])), (h19, .inl (zI g, 5, .inl (zA [60, 1, 1, 0, 0]))), (h20, .inl (zI g, 6, .inl (fun _ => 0))), (h21, .inl (zI g, 5, .inl (fun _ => 0))), (h22, .inl (zI g, 5, .inl (fun _ => 0))), (h23, .inl (zI g, 5, .inl (fun _ => 0))), (h24, .inl (zI g, 20, .inl (fun _ => 0))), (h25, .inl (zI g, 20, .inl (fun _ => 0))), (h26, .inl (zI g, 20, .inl (fun _ => 99)))] := hD
  refine lv_aload_n hx hb dX0_take_22 rfl (lv_at hl 1 rfl) ?_
  refine va_get (D := g.1) (ci := 0) (v := .ref h12) (C := RX0) (T := TX0) (N := 11) hx hb hts zl_X0 hown hK hP 0 rfl rfl 2 (by decide) (hts _ m_f_RX0_27) (fun _ h => h) rfl dX0_take_23 ?_
  refine lv_iconst (v := 0) hx hb dX0_take_26 (by decide) ?_
  refine lv_aload_n hx hb dX0_take_27 rfl (lv_at hl 0 rfl) ?_
  refine va_get (D := g.1) (ci := 0) (v := .ref h20) (C := RX0) (T := TX0) (N := 11) hx hb hts zl_X0 hown hK hP 9 rfl rfl 2 (by decide) (hts _ m_f_RX0_27) (fun _ h => h) rfl dX0_take_28 ?_
  refine lv_iconst (v := 0) hx hb dX0_take_31 (by decide) ?_
  refine lv_bipush (v := 6) hx hb dX0_take_32 (by decide) ?_
  refine va_copyi (D := g.1) (ty := .int) (sp := 0) (dp := 0) (n := 6) hx hb (hml.trans hl.1.symm) hown (hts _ m_m_RX0_60) (hts _ m_n_arraycopyName) (hts _ m_s_arraycopyName) (hts _ m_z_RJ10) hK hP hD hS 2 11 0 0 rfl rfl rfl rfl rfl (by decide) (by decide) (by decide) (by decide) (by decide) (fun _ _ => rfl) (Nat.le_of_ble_eq_true rfl) (Nat.le_of_ble_eq_true rfl) dX0_take_34 (fun H locs hP hD hS => ?_)
  have hP : va_P g.1 vwCl [(h1, .inr (0, [.ref h11, .int 0, .ref h12, .int 0, .ref h13, .ref h14, .ref h15, .ref h16, .ref h17, .ref h18, .int 0])), (h11, .inl (zI g, 5, .inl (zA [60, 1, 1, 0, 0]))), (h12, .inl (zI g, 6, .inl (fun _ => 0))), (h13, .inl (zI g, 5, .inl (fun _ => 0))), (h14, .inl (zI g, 5, .inl (fun _ => 0))), (h15, .inl (zI g, 5, .inl (fun _ => 0))), (h16, .inl (zI g, 20, .inl (fun _ => 0))), (h17, .inl (zI g, 20, .inl (fun _ => 0))), (h18, .inl (zI g, 20, .inl (fun _ => 99))), (h0, .inr (0, [.ref h19, .int 0, .ref h20, .int 0, .ref h21, .ref h22, .ref h23, .ref h24, .ref h25, .ref h26, .int 0])), (h19, .inl (zI g, 5, .inl (zA [60, 1, 1, 0, 0]))), (h20, .inl (zI g, 6, .inl (va_cpy (fun _ => 0) (fun _ => 0) 0 0 6))), (h21, .inl (zI g, 5, .inl (fun _ => 0))), (h22, .inl (zI g, 5, .inl (fun _ => 0))), (h23, .inl (zI g, 5, .inl (fun _ => 0))), (h24, .inl (zI g, 20, .inl (fun _ => 0))), (h25, .inl (zI g, 20, .inl (fun _ => 0))), (h26, .inl (zI g, 20, .inl (fun _ => 99)))] H := hP
  have hD : va_D A [(h1, .inr (0, [.ref h11, .int 0, .ref h12, .int 0, .ref h13, .ref h14, .ref h15, .ref h16, .ref h17, .ref h18, .int 0])), (h11, .inl (zI g, 5, .inl (zA [60, 1, 1, 0, 0]))), (h12, .inl (zI g, 6, .inl (fun _ => 0))), (h13, .inl (zI g, 5, .inl (fun _ => 0))), (h14, .inl (zI g, 5, .inl (fun _ => 0))), (h15, .inl (zI g, 5, .inl (fun _ => 0))), (h16, .inl (zI g, 20, .inl (fun _ => 0))), (h17, .inl (zI g, 20, .inl (fun _ => 0))), (h18, .inl (zI g, 20, .inl (fun _ => 99))), (h0, .inr (0, [.ref h19, .int 0, .ref h20, .int 0, .ref h21, .ref h22, .ref h23, .ref h24, .ref h25, .ref h26, .int 0])), (h19, .inl (zI g, 5, .inl (zA [60, 1, 1, 0, 0]))), (h20, .inl (zI g, 6, .inl (va_cpy (fun _ => 0) (fun _ => 0) 0 0 6))), (h21, .inl (zI g, 5, .inl (fun _ => 0))), (h22, .inl (zI g, 5, .inl (fun _ => 0))), (h23, .inl (zI g, 5, .inl (fun _ => 0))), (h24, .inl (zI g, 20, .inl (fun _ => 0))), (h25, .inl (zI g, 20, .inl (fun _ => 0))), (h26, .inl (zI g, 20, .inl (fun _ => 99)))] := hD
  rw [zc_cpy] at hP hD
  refine lv_aload_n hx hb dX0_take_37 rfl (lv_at hl 0 rfl) ?_
  refine lv_aload_n hx hb dX0_take_38 rfl (lv_at hl 1 rfl) ?_
  refine va_get (D := g.1) (ci := 0) (v := .int 0) (C := RX0) (T := TX0) (N := 11) hx hb hts zl_X0 hown hK hP 0 rfl rfl 3 (by decide) (hts _ m_f_RX0_30) (fun _ h => h) rfl dX0_take_39 ?_
  refine va_put (D := g.1) (ci := 0) (v := .int 0) (ty := .int) (C := RX0) (T := TX0) (N := 11) hx hb hts zl_X0 tyX0 tyX0_ok nmX0 hown hK hP hD hS 9 rfl rfl 3 (by decide) (hts _ m_f_RX0_30) (fun _ h => h) rfl (by decide +kernel) rfl rfl (Nat.le_of_ble_eq_true rfl) dX0_take_42 (fun H locs hP hD hS => ?_)
  have hP : va_P g.1 vwCl [(h1, .inr (0, [.ref h11, .int 0, .ref h12, .int 0, .ref h13, .ref h14, .ref h15, .ref h16, .ref h17, .ref h18, .int 0])), (h11, .inl (zI g, 5, .inl (zA [60, 1, 1, 0, 0]))), (h12, .inl (zI g, 6, .inl (fun _ => 0))), (h13, .inl (zI g, 5, .inl (fun _ => 0))), (h14, .inl (zI g, 5, .inl (fun _ => 0))), (h15, .inl (zI g, 5, .inl (fun _ => 0))), (h16, .inl (zI g, 20, .inl (fun _ => 0))), (h17, .inl (zI g, 20, .inl (fun _ => 0))), (h18, .inl (zI g, 20, .inl (fun _ => 99))), (h0, .inr (0, [.ref h19, .int 0, .ref h20, .int 0, .ref h21, .ref h22, .ref h23, .ref h24, .ref h25, .ref h26, .int 0])), (h19, .inl (zI g, 5, .inl (zA [60, 1, 1, 0, 0]))), (h20, .inl (zI g, 6, .inl (fun _ => 0))), (h21, .inl (zI g, 5, .inl (fun _ => 0))), (h22, .inl (zI g, 5, .inl (fun _ => 0))), (h23, .inl (zI g, 5, .inl (fun _ => 0))), (h24, .inl (zI g, 20, .inl (fun _ => 0))), (h25, .inl (zI g, 20, .inl (fun _ => 0))), (h26, .inl (zI g, 20, .inl (fun _ => 99)))] H := hP
  have hD : va_D A [(h1, .inr (0, [.ref h11, .int 0, .ref h12, .int 0, .ref h13, .ref h14, .ref h15, .ref h16, .ref h17, .ref h18, .int 0])), (h11, .inl (zI g, 5, .inl (zA [60, 1, 1, 0, 0]))), (h12, .inl (zI g, 6, .inl (fun _ => 0))), (h13, .inl (zI g, 5, .inl (fun _ => 0))), (h14, .inl (zI g, 5, .inl (fun _ => 0))), (h15, .inl (zI g, 5, .inl (fun _ => 0))), (h16, .inl (zI g, 20, .inl (fun _ => 0))), (h17, .inl (zI g, 20, .inl (fun _ => 0))), (h18, .inl (zI g, 20, .inl (fun _ => 99))), (h0, .inr (0, [.ref h19, .int 0, .ref h20, .int 0, .ref h21, .ref h22, .ref h23, .ref h24, .ref h25, .ref h26, .int 0])), (h19, .inl (zI g, 5, .inl (zA [60, 1, 1, 0, 0]))), (h20, .inl (zI g, 6, .inl (fun _ => 0))), (h21, .inl (zI g, 5, .inl (fun _ => 0))), (h22, .inl (zI g, 5, .inl (fun _ => 0))), (h23, .inl (zI g, 5, .inl (fun _ => 0))), (h24, .inl (zI g, 20, .inl (fun _ => 0))), (h25, .inl (zI g, 20, .inl (fun _ => 0))), (h26, .inl (zI g, 20, .inl (fun _ => 99)))] := hD
  refine lv_aload_n hx hb dX0_take_45 rfl (lv_at hl 1 rfl) ?_
  refine va_get (D := g.1) (ci := 0) (v := .ref h13) (C := RX0) (T := TX0) (N := 11) hx hb hts zl_X0 hown hK hP 0 rfl rfl 4 (by decide) (hts _ m_f_RX0_33) (fun _ h => h) rfl dX0_take_46 ?_
  refine lv_iconst (v := 0) hx hb dX0_take_49 (by decide) ?_
  refine lv_aload_n hx hb dX0_take_50 rfl (lv_at hl 0 rfl) ?_
  refine va_get (D := g.1) (ci := 0) (v := .ref h21) (C := RX0) (T := TX0) (N := 11) hx hb hts zl_X0 hown hK hP 9 rfl rfl 4 (by decide) (hts _ m_f_RX0_33) (fun _ h => h) rfl dX0_take_51 ?_
  refine lv_iconst (v := 0) hx hb dX0_take_54 (by decide) ?_
  refine lv_iconst (v := 5) hx hb dX0_take_55 (by decide) ?_
  refine va_copyi (D := g.1) (ty := .int) (sp := 0) (dp := 0) (n := 5) hx hb (hml.trans hl.1.symm) hown (hts _ m_m_RX0_60) (hts _ m_n_arraycopyName) (hts _ m_s_arraycopyName) (hts _ m_z_RJ10) hK hP hD hS 3 12 0 0 rfl rfl rfl rfl rfl (by decide) (by decide) (by decide) (by decide) (by decide) (fun _ _ => rfl) (Nat.le_of_ble_eq_true rfl) (Nat.le_of_ble_eq_true rfl) dX0_take_56 (fun H locs hP hD hS => ?_)
  have hP : va_P g.1 vwCl [(h1, .inr (0, [.ref h11, .int 0, .ref h12, .int 0, .ref h13, .ref h14, .ref h15, .ref h16, .ref h17, .ref h18, .int 0])), (h11, .inl (zI g, 5, .inl (zA [60, 1, 1, 0, 0]))), (h12, .inl (zI g, 6, .inl (fun _ => 0))), (h13, .inl (zI g, 5, .inl (fun _ => 0))), (h14, .inl (zI g, 5, .inl (fun _ => 0))), (h15, .inl (zI g, 5, .inl (fun _ => 0))), (h16, .inl (zI g, 20, .inl (fun _ => 0))), (h17, .inl (zI g, 20, .inl (fun _ => 0))), (h18, .inl (zI g, 20, .inl (fun _ => 99))), (h0, .inr (0, [.ref h19, .int 0, .ref h20, .int 0, .ref h21, .ref h22, .ref h23, .ref h24, .ref h25, .ref h26, .int 0])), (h19, .inl (zI g, 5, .inl (zA [60, 1, 1, 0, 0]))), (h20, .inl (zI g, 6, .inl (fun _ => 0))), (h21, .inl (zI g, 5, .inl (va_cpy (fun _ => 0) (fun _ => 0) 0 0 5))), (h22, .inl (zI g, 5, .inl (fun _ => 0))), (h23, .inl (zI g, 5, .inl (fun _ => 0))), (h24, .inl (zI g, 20, .inl (fun _ => 0))), (h25, .inl (zI g, 20, .inl (fun _ => 0))), (h26, .inl (zI g, 20, .inl (fun _ => 99)))] H := hP
  have hD : va_D A [(h1, .inr (0, [.ref h11, .int 0, .ref h12, .int 0, .ref h13, .ref h14, .ref h15, .ref h16, .ref h17, .ref h18, .int 0])), (h11, .inl (zI g, 5, .inl (zA [60, 1, 1, 0, 0]))), (h12, .inl (zI g, 6, .inl (fun _ => 0))), (h13, .inl (zI g, 5, .inl (fun _ => 0))), (h14, .inl (zI g, 5, .inl (fun _ => 0))), (h15, .inl (zI g, 5, .inl (fun _ => 0))), (h16, .inl (zI g, 20, .inl (fun _ => 0))), (h17, .inl (zI g, 20, .inl (fun _ => 0))), (h18, .inl (zI g, 20, .inl (fun _ => 99))), (h0, .inr (0, [.ref h19, .int 0, .ref h20, .int 0, .ref h21, .ref h22, .ref h23, .ref h24, .ref h25, .ref h26, .int 0])), (h19, .inl (zI g, 5, .inl (zA [60, 1, 1, 0, 0]))), (h20, .inl (zI g, 6, .inl (fun _ => 0))), (h21, .inl (zI g, 5, .inl (va_cpy (fun _ => 0) (fun _ => 0) 0 0 5))), (h22, .inl (zI g, 5, .inl (fun _ => 0))), (h23, .inl (zI g, 5, .inl (fun _ => 0))), (h24, .inl (zI g, 20, .inl (fun _ => 0))), (h25, .inl (zI g, 20, .inl (fun _ => 0))), (h26, .inl (zI g, 20, .inl (fun _ => 99)))] := hD
  rw [zc_cpy] at hP hD
  refine lv_aload_n hx hb dX0_take_59 rfl (lv_at hl 1 rfl) ?_
  refine va_get (D := g.1) (ci := 0) (v := .ref h14) (C := RX0) (T := TX0) (N := 11) hx hb hts zl_X0 hown hK hP 0 rfl rfl 5 (by decide) (hts _ m_f_RX0_36) (fun _ h => h) rfl dX0_take_60 ?_
  refine lv_iconst (v := 0) hx hb dX0_take_63 (by decide) ?_
  refine lv_aload_n hx hb dX0_take_64 rfl (lv_at hl 0 rfl) ?_
  refine va_get (D := g.1) (ci := 0) (v := .ref h22) (C := RX0) (T := TX0) (N := 11) hx hb hts zl_X0 hown hK hP 9 rfl rfl 5 (by decide) (hts _ m_f_RX0_36) (fun _ h => h) rfl dX0_take_65 ?_
  refine lv_iconst (v := 0) hx hb dX0_take_68 (by decide) ?_
  refine lv_iconst (v := 5) hx hb dX0_take_69 (by decide) ?_
  refine va_copyi (D := g.1) (ty := .int) (sp := 0) (dp := 0) (n := 5) hx hb (hml.trans hl.1.symm) hown (hts _ m_m_RX0_60) (hts _ m_n_arraycopyName) (hts _ m_s_arraycopyName) (hts _ m_z_RJ10) hK hP hD hS 4 13 0 0 rfl rfl rfl rfl rfl (by decide) (by decide) (by decide) (by decide) (by decide) (fun _ _ => rfl) (Nat.le_of_ble_eq_true rfl) (Nat.le_of_ble_eq_true rfl) dX0_take_70 (fun H locs hP hD hS => ?_)
  have hP : va_P g.1 vwCl [(h1, .inr (0, [.ref h11, .int 0, .ref h12, .int 0, .ref h13, .ref h14, .ref h15, .ref h16, .ref h17, .ref h18, .int 0])), (h11, .inl (zI g, 5, .inl (zA [60, 1, 1, 0, 0]))), (h12, .inl (zI g, 6, .inl (fun _ => 0))), (h13, .inl (zI g, 5, .inl (fun _ => 0))), (h14, .inl (zI g, 5, .inl (fun _ => 0))), (h15, .inl (zI g, 5, .inl (fun _ => 0))), (h16, .inl (zI g, 20, .inl (fun _ => 0))), (h17, .inl (zI g, 20, .inl (fun _ => 0))), (h18, .inl (zI g, 20, .inl (fun _ => 99))), (h0, .inr (0, [.ref h19, .int 0, .ref h20, .int 0, .ref h21, .ref h22, .ref h23, .ref h24, .ref h25, .ref h26, .int 0])), (h19, .inl (zI g, 5, .inl (zA [60, 1, 1, 0, 0]))), (h20, .inl (zI g, 6, .inl (fun _ => 0))), (h21, .inl (zI g, 5, .inl (fun _ => 0))), (h22, .inl (zI g, 5, .inl (va_cpy (fun _ => 0) (fun _ => 0) 0 0 5))), (h23, .inl (zI g, 5, .inl (fun _ => 0))), (h24, .inl (zI g, 20, .inl (fun _ => 0))), (h25, .inl (zI g, 20, .inl (fun _ => 0))), (h26, .inl (zI g, 20, .inl (fun _ => 99)))] H := hP
  have hD : va_D A [(h1, .inr (0, [.ref h11, .int 0, .ref h12, .int 0, .ref h13, .ref h14, .ref h15, .ref h16, .ref h17, .ref h18, .int 0])), (h11, .inl (zI g, 5, .inl (zA [60, 1, 1, 0, 0]))), (h12, .inl (zI g, 6, .inl (fun _ => 0))), (h13, .inl (zI g, 5, .inl (fun _ => 0))), (h14, .inl (zI g, 5, .inl (fun _ => 0))), (h15, .inl (zI g, 5, .inl (fun _ => 0))), (h16, .inl (zI g, 20, .inl (fun _ => 0))), (h17, .inl (zI g, 20, .inl (fun _ => 0))), (h18, .inl (zI g, 20, .inl (fun _ => 99))), (h0, .inr (0, [.ref h19, .int 0, .ref h20, .int 0, .ref h21, .ref h22, .ref h23, .ref h24, .ref h25, .ref h26, .int 0])), (h19, .inl (zI g, 5, .inl (zA [60, 1, 1, 0, 0]))), (h20, .inl (zI g, 6, .inl (fun _ => 0))), (h21, .inl (zI g, 5, .inl (fun _ => 0))), (h22, .inl (zI g, 5, .inl (va_cpy (fun _ => 0) (fun _ => 0) 0 0 5))), (h23, .inl (zI g, 5, .inl (fun _ => 0))), (h24, .inl (zI g, 20, .inl (fun _ => 0))), (h25, .inl (zI g, 20, .inl (fun _ => 0))), (h26, .inl (zI g, 20, .inl (fun _ => 99)))] := hD
  rw [zc_cpy] at hP hD
  refine lv_aload_n hx hb dX0_take_73 rfl (lv_at hl 1 rfl) ?_
  refine va_get (D := g.1) (ci := 0) (v := .ref h15) (C := RX0) (T := TX0) (N := 11) hx hb hts zl_X0 hown hK hP 0 rfl rfl 6 (by decide) (hts _ m_f_RX0_39) (fun _ h => h) rfl dX0_take_74 ?_
  refine lv_iconst (v := 0) hx hb dX0_take_77 (by decide) ?_
  refine lv_aload_n hx hb dX0_take_78 rfl (lv_at hl 0 rfl) ?_
  refine va_get (D := g.1) (ci := 0) (v := .ref h23) (C := RX0) (T := TX0) (N := 11) hx hb hts zl_X0 hown hK hP 9 rfl rfl 6 (by decide) (hts _ m_f_RX0_39) (fun _ h => h) rfl dX0_take_79 ?_
  refine lv_iconst (v := 0) hx hb dX0_take_82 (by decide) ?_
  refine lv_iconst (v := 5) hx hb dX0_take_83 (by decide) ?_
  refine va_copyi (D := g.1) (ty := .int) (sp := 0) (dp := 0) (n := 5) hx hb (hml.trans hl.1.symm) hown (hts _ m_m_RX0_60) (hts _ m_n_arraycopyName) (hts _ m_s_arraycopyName) (hts _ m_z_RJ10) hK hP hD hS 5 14 0 0 rfl rfl rfl rfl rfl (by decide) (by decide) (by decide) (by decide) (by decide) (fun _ _ => rfl) (Nat.le_of_ble_eq_true rfl) (Nat.le_of_ble_eq_true rfl) dX0_take_84 (fun H locs hP hD hS => ?_)
  have hP : va_P g.1 vwCl [(h1, .inr (0, [.ref h11, .int 0, .ref h12, .int 0, .ref h13, .ref h14, .ref h15, .ref h16, .ref h17, .ref h18, .int 0])), (h11, .inl (zI g, 5, .inl (zA [60, 1, 1, 0, 0]))), (h12, .inl (zI g, 6, .inl (fun _ => 0))), (h13, .inl (zI g, 5, .inl (fun _ => 0))), (h14, .inl (zI g, 5, .inl (fun _ => 0))), (h15, .inl (zI g, 5, .inl (fun _ => 0))), (h16, .inl (zI g, 20, .inl (fun _ => 0))), (h17, .inl (zI g, 20, .inl (fun _ => 0))), (h18, .inl (zI g, 20, .inl (fun _ => 99))), (h0, .inr (0, [.ref h19, .int 0, .ref h20, .int 0, .ref h21, .ref h22, .ref h23, .ref h24, .ref h25, .ref h26, .int 0])), (h19, .inl (zI g, 5, .inl (zA [60, 1, 1, 0, 0]))), (h20, .inl (zI g, 6, .inl (fun _ => 0))), (h21, .inl (zI g, 5, .inl (fun _ => 0))), (h22, .inl (zI g, 5, .inl (fun _ => 0))), (h23, .inl (zI g, 5, .inl (va_cpy (fun _ => 0) (fun _ => 0) 0 0 5))), (h24, .inl (zI g, 20, .inl (fun _ => 0))), (h25, .inl (zI g, 20, .inl (fun _ => 0))), (h26, .inl (zI g, 20, .inl (fun _ => 99)))] H := hP
  have hD : va_D A [(h1, .inr (0, [.ref h11, .int 0, .ref h12, .int 0, .ref h13, .ref h14, .ref h15, .ref h16, .ref h17, .ref h18, .int 0])), (h11, .inl (zI g, 5, .inl (zA [60, 1, 1, 0, 0]))), (h12, .inl (zI g, 6, .inl (fun _ => 0))), (h13, .inl (zI g, 5, .inl (fun _ => 0))), (h14, .inl (zI g, 5, .inl (fun _ => 0))), (h15, .inl (zI g, 5, .inl (fun _ => 0))), (h16, .inl (zI g, 20, .inl (fun _ => 0))), (h17, .inl (zI g, 20, .inl (fun _ => 0))), (h18, .inl (zI g, 20, .inl (fun _ => 99))), (h0, .inr (0, [.ref h19, .int 0, .ref h20, .int 0, .ref h21, .ref h22, .ref h23, .ref h24, .ref h25, .ref h26, .int 0])), (h19, .inl (zI g, 5, .inl (zA [60, 1, 1, 0, 0]))), (h20, .inl (zI g, 6, .inl (fun _ => 0))), (h21, .inl (zI g, 5, .inl (fun _ => 0))), (h22, .inl (zI g, 5, .inl (fun _ => 0))), (h23, .inl (zI g, 5, .inl (va_cpy (fun _ => 0) (fun _ => 0) 0 0 5))), (h24, .inl (zI g, 20, .inl (fun _ => 0))), (h25, .inl (zI g, 20, .inl (fun _ => 0))), (h26, .inl (zI g, 20, .inl (fun _ => 99)))] := hD
  rw [zc_cpy] at hP hD
  refine lv_aload_n hx hb dX0_take_87 rfl (lv_at hl 1 rfl) ?_
  refine va_get (D := g.1) (ci := 0) (v := .ref h16) (C := RX0) (T := TX0) (N := 11) hx hb hts zl_X0 hown hK hP 0 rfl rfl 7 (by decide) (hts _ m_f_RX0_42) (fun _ h => h) rfl dX0_take_88 ?_
  refine lv_iconst (v := 0) hx hb dX0_take_91 (by decide) ?_
  refine lv_aload_n hx hb dX0_take_92 rfl (lv_at hl 0 rfl) ?_
  refine va_get (D := g.1) (ci := 0) (v := .ref h24) (C := RX0) (T := TX0) (N := 11) hx hb hts zl_X0 hown hK hP 9 rfl rfl 7 (by decide) (hts _ m_f_RX0_42) (fun _ h => h) rfl dX0_take_93 ?_
  refine lv_iconst (v := 0) hx hb dX0_take_96 (by decide) ?_
  refine lv_bipush (v := 20) hx hb dX0_take_97 (by decide) ?_
  refine va_copyi (D := g.1) (ty := .int) (sp := 0) (dp := 0) (n := 20) hx hb (hml.trans hl.1.symm) hown (hts _ m_m_RX0_60) (hts _ m_n_arraycopyName) (hts _ m_s_arraycopyName) (hts _ m_z_RJ10) hK hP hD hS 6 15 0 0 rfl rfl rfl rfl rfl (by decide) (by decide) (by decide) (by decide) (by decide) (fun _ _ => rfl) (Nat.le_of_ble_eq_true rfl) (Nat.le_of_ble_eq_true rfl) dX0_take_99 (fun H locs hP hD hS => ?_)
  have hP : va_P g.1 vwCl [(h1, .inr (0, [.ref h11, .int 0, .ref h12, .int 0, .ref h13, .ref h14, .ref h15, .ref h16, .ref h17, .ref h18, .int 0])), (h11, .inl (zI g, 5, .inl (zA [60, 1, 1, 0, 0]))), (h12, .inl (zI g, 6, .inl (fun _ => 0))), (h13, .inl (zI g, 5, .inl (fun _ => 0))), (h14, .inl (zI g, 5, .inl (fun _ => 0))), (h15, .inl (zI g, 5, .inl (fun _ => 0))), (h16, .inl (zI g, 20, .inl (fun _ => 0))), (h17, .inl (zI g, 20, .inl (fun _ => 0))), (h18, .inl (zI g, 20, .inl (fun _ => 99))), (h0, .inr (0, [.ref h19, .int 0, .ref h20, .int 0, .ref h21, .ref h22, .ref h23, .ref h24, .ref h25, .ref h26, .int 0])), (h19, .inl (zI g, 5, .inl (zA [60, 1, 1, 0, 0]))), (h20, .inl (zI g, 6, .inl (fun _ => 0))), (h21, .inl (zI g, 5, .inl (fun _ => 0))), (h22, .inl (zI g, 5, .inl (fun _ => 0))), (h23, .inl (zI g, 5, .inl (fun _ => 0))), (h24, .inl (zI g, 20, .inl (va_cpy (fun _ => 0) (fun _ => 0) 0 0 20))), (h25, .inl (zI g, 20, .inl (fun _ => 0))), (h26, .inl (zI g, 20, .inl (fun _ => 99)))] H := hP
  have hD : va_D A [(h1, .inr (0, [.ref h11, .int 0, .ref h12, .int 0, .ref h13, .ref h14, .ref h15, .ref h16, .ref h17, .ref h18, .int 0])), (h11, .inl (zI g, 5, .inl (zA [60, 1, 1, 0, 0]))), (h12, .inl (zI g, 6, .inl (fun _ => 0))), (h13, .inl (zI g, 5, .inl (fun _ => 0))), (h14, .inl (zI g, 5, .inl (fun _ => 0))), (h15, .inl (zI g, 5, .inl (fun _ => 0))), (h16, .inl (zI g, 20, .inl (fun _ => 0))), (h17, .inl (zI g, 20, .inl (fun _ => 0))), (h18, .inl (zI g, 20, .inl (fun _ => 99))), (h0, .inr (0, [.ref h19, .int 0, .ref h20, .int 0, .ref h21, .ref h22, .ref h23, .ref h24, .ref h25, .ref h26, .int 0])), (h19, .inl (zI g, 5, .inl (zA [60, 1, 1, 0, 0]))), (h20, .inl (zI g, 6, .inl (fun _ => 0))), (h21, .inl (zI g, 5, .inl (fun _ => 0))), (h22, .inl (zI g, 5, .inl (fun _ => 0))), (h23, .inl (zI g, 5, .inl (fun _ => 0))), (h24, .inl (zI g, 20, .inl (va_cpy (fun _ => 0) (fun _ => 0) 0 0 20))), (h25, .inl (zI g, 20, .inl (fun _ => 0))), (h26, .inl (zI g, 20, .inl (fun _ => 99)))] := hD
  rw [zc_cpy] at hP hD
  refine lv_aload_n hx hb dX0_take_102 rfl (lv_at hl 1 rfl) ?_
  refine va_get (D := g.1) (ci := 0) (v := .ref h17) (C := RX0) (T := TX0) (N := 11) hx hb hts zl_X0 hown hK hP 0 rfl rfl 8 (by decide) (hts _ m_f_RX0_45) (fun _ h => h) rfl dX0_take_103 ?_
  refine lv_iconst (v := 0) hx hb dX0_take_106 (by decide) ?_
  refine lv_aload_n hx hb dX0_take_107 rfl (lv_at hl 0 rfl) ?_
  refine va_get (D := g.1) (ci := 0) (v := .ref h25) (C := RX0) (T := TX0) (N := 11) hx hb hts zl_X0 hown hK hP 9 rfl rfl 8 (by decide) (hts _ m_f_RX0_45) (fun _ h => h) rfl dX0_take_108 ?_
  refine lv_iconst (v := 0) hx hb dX0_take_111 (by decide) ?_
  refine lv_bipush (v := 20) hx hb dX0_take_112 (by decide) ?_
  refine va_copyi (D := g.1) (ty := .int) (sp := 0) (dp := 0) (n := 20) hx hb (hml.trans hl.1.symm) hown (hts _ m_m_RX0_60) (hts _ m_n_arraycopyName) (hts _ m_s_arraycopyName) (hts _ m_z_RJ10) hK hP hD hS 7 16 0 0 rfl rfl rfl rfl rfl (by decide) (by decide) (by decide) (by decide) (by decide) (fun _ _ => rfl) (Nat.le_of_ble_eq_true rfl) (Nat.le_of_ble_eq_true rfl) dX0_take_114 (fun H locs hP hD hS => ?_)
  have hP : va_P g.1 vwCl [(h1, .inr (0, [.ref h11, .int 0, .ref h12, .int 0, .ref h13, .ref h14, .ref h15, .ref h16, .ref h17, .ref h18, .int 0])), (h11, .inl (zI g, 5, .inl (zA [60, 1, 1, 0, 0]))), (h12, .inl (zI g, 6, .inl (fun _ => 0))), (h13, .inl (zI g, 5, .inl (fun _ => 0))), (h14, .inl (zI g, 5, .inl (fun _ => 0))), (h15, .inl (zI g, 5, .inl (fun _ => 0))), (h16, .inl (zI g, 20, .inl (fun _ => 0))), (h17, .inl (zI g, 20, .inl (fun _ => 0))), (h18, .inl (zI g, 20, .inl (fun _ => 99))), (h0, .inr (0, [.ref h19, .int 0, .ref h20, .int 0, .ref h21, .ref h22, .ref h23, .ref h24, .ref h25, .ref h26, .int 0])), (h19, .inl (zI g, 5, .inl (zA [60, 1, 1, 0, 0]))), (h20, .inl (zI g, 6, .inl (fun _ => 0))), (h21, .inl (zI g, 5, .inl (fun _ => 0))), (h22, .inl (zI g, 5, .inl (fun _ => 0))), (h23, .inl (zI g, 5, .inl (fun _ => 0))), (h24, .inl (zI g, 20, .inl (fun _ => 0))), (h25, .inl (zI g, 20, .inl (va_cpy (fun _ => 0) (fun _ => 0) 0 0 20))), (h26, .inl (zI g, 20, .inl (fun _ => 99)))] H := hP
  have hD : va_D A [(h1, .inr (0, [.ref h11, .int 0, .ref h12, .int 0, .ref h13, .ref h14, .ref h15, .ref h16, .ref h17, .ref h18, .int 0])), (h11, .inl (zI g, 5, .inl (zA [60, 1, 1, 0, 0]))), (h12, .inl (zI g, 6, .inl (fun _ => 0))), (h13, .inl (zI g, 5, .inl (fun _ => 0))), (h14, .inl (zI g, 5, .inl (fun _ => 0))), (h15, .inl (zI g, 5, .inl (fun _ => 0))), (h16, .inl (zI g, 20, .inl (fun _ => 0))), (h17, .inl (zI g, 20, .inl (fun _ => 0))), (h18, .inl (zI g, 20, .inl (fun _ => 99))), (h0, .inr (0, [.ref h19, .int 0, .ref h20, .int 0, .ref h21, .ref h22, .ref h23, .ref h24, .ref h25, .ref h26, .int 0])), (h19, .inl (zI g, 5, .inl (zA [60, 1, 1, 0, 0]))), (h20, .inl (zI g, 6, .inl (fun _ => 0))), (h21, .inl (zI g, 5, .inl (fun _ => 0))), (h22, .inl (zI g, 5, .inl (fun _ => 0))), (h23, .inl (zI g, 5, .inl (fun _ => 0))), (h24, .inl (zI g, 20, .inl (fun _ => 0))), (h25, .inl (zI g, 20, .inl (va_cpy (fun _ => 0) (fun _ => 0) 0 0 20))), (h26, .inl (zI g, 20, .inl (fun _ => 99)))] := hD
  rw [zc_cpy] at hP hD
  refine lv_aload_n hx hb dX0_take_117 rfl (lv_at hl 1 rfl) ?_
  refine va_get (D := g.1) (ci := 0) (v := .ref h18) (C := RX0) (T := TX0) (N := 11) hx hb hts zl_X0 hown hK hP 0 rfl rfl 9 (by decide) (hts _ m_f_RX0_48) (fun _ h => h) rfl dX0_take_118 ?_
  refine lv_iconst (v := 0) hx hb dX0_take_121 (by decide) ?_
  refine lv_aload_n hx hb dX0_take_122 rfl (lv_at hl 0 rfl) ?_
  refine va_get (D := g.1) (ci := 0) (v := .ref h26) (C := RX0) (T := TX0) (N := 11) hx hb hts zl_X0 hown hK hP 9 rfl rfl 9 (by decide) (hts _ m_f_RX0_48) (fun _ h => h) rfl dX0_take_123 ?_
  refine lv_iconst (v := 0) hx hb dX0_take_126 (by decide) ?_
  refine lv_bipush (v := 20) hx hb dX0_take_127 (by decide) ?_
  refine va_copyi (D := g.1) (ty := .int) (sp := 0) (dp := 0) (n := 20) hx hb (hml.trans hl.1.symm) hown (hts _ m_m_RX0_60) (hts _ m_n_arraycopyName) (hts _ m_s_arraycopyName) (hts _ m_z_RJ10) hK hP hD hS 8 17 0 0 rfl rfl rfl rfl rfl (by decide) (by decide) (by decide) (by decide) (by decide) (fun _ _ => rfl) (Nat.le_of_ble_eq_true rfl) (Nat.le_of_ble_eq_true rfl) dX0_take_129 (fun H locs hP hD hS => ?_)
  have hP : va_P g.1 vwCl [(h1, .inr (0, [.ref h11, .int 0, .ref h12, .int 0, .ref h13, .ref h14, .ref h15, .ref h16, .ref h17, .ref h18, .int 0])), (h11, .inl (zI g, 5, .inl (zA [60, 1, 1, 0, 0]))), (h12, .inl (zI g, 6, .inl (fun _ => 0))), (h13, .inl (zI g, 5, .inl (fun _ => 0))), (h14, .inl (zI g, 5, .inl (fun _ => 0))), (h15, .inl (zI g, 5, .inl (fun _ => 0))), (h16, .inl (zI g, 20, .inl (fun _ => 0))), (h17, .inl (zI g, 20, .inl (fun _ => 0))), (h18, .inl (zI g, 20, .inl (fun _ => 99))), (h0, .inr (0, [.ref h19, .int 0, .ref h20, .int 0, .ref h21, .ref h22, .ref h23, .ref h24, .ref h25, .ref h26, .int 0])), (h19, .inl (zI g, 5, .inl (zA [60, 1, 1, 0, 0]))), (h20, .inl (zI g, 6, .inl (fun _ => 0))), (h21, .inl (zI g, 5, .inl (fun _ => 0))), (h22, .inl (zI g, 5, .inl (fun _ => 0))), (h23, .inl (zI g, 5, .inl (fun _ => 0))), (h24, .inl (zI g, 20, .inl (fun _ => 0))), (h25, .inl (zI g, 20, .inl (fun _ => 0))), (h26, .inl (zI g, 20, .inl (va_cpy (fun _ => 99) (fun _ => 99) 0 0 20)))] H := hP
  have hD : va_D A [(h1, .inr (0, [.ref h11, .int 0, .ref h12, .int 0, .ref h13, .ref h14, .ref h15, .ref h16, .ref h17, .ref h18, .int 0])), (h11, .inl (zI g, 5, .inl (zA [60, 1, 1, 0, 0]))), (h12, .inl (zI g, 6, .inl (fun _ => 0))), (h13, .inl (zI g, 5, .inl (fun _ => 0))), (h14, .inl (zI g, 5, .inl (fun _ => 0))), (h15, .inl (zI g, 5, .inl (fun _ => 0))), (h16, .inl (zI g, 20, .inl (fun _ => 0))), (h17, .inl (zI g, 20, .inl (fun _ => 0))), (h18, .inl (zI g, 20, .inl (fun _ => 99))), (h0, .inr (0, [.ref h19, .int 0, .ref h20, .int 0, .ref h21, .ref h22, .ref h23, .ref h24, .ref h25, .ref h26, .int 0])), (h19, .inl (zI g, 5, .inl (zA [60, 1, 1, 0, 0]))), (h20, .inl (zI g, 6, .inl (fun _ => 0))), (h21, .inl (zI g, 5, .inl (fun _ => 0))), (h22, .inl (zI g, 5, .inl (fun _ => 0))), (h23, .inl (zI g, 5, .inl (fun _ => 0))), (h24, .inl (zI g, 20, .inl (fun _ => 0))), (h25, .inl (zI g, 20, .inl (fun _ => 0))), (h26, .inl (zI g, 20, .inl (va_cpy (fun _ => 99) (fun _ => 99) 0 0 20)))] := hD
  rw [zc_cpy] at hP hD
  refine lv_aload_n hx hb dX0_take_132 rfl (lv_at hl 0 rfl) ?_
  refine lv_aload_n hx hb dX0_take_133 rfl (lv_at hl 1 rfl) ?_
  refine va_get (D := g.1) (ci := 0) (v := .int 0) (C := RX0) (T := TX0) (N := 11) hx hb hts zl_X0 hown hK hP 0 rfl rfl 10 (by decide) (hts _ m_f_RX0_51) (fun _ h => h) rfl dX0_take_134 ?_
  refine va_put (D := g.1) (ci := 0) (v := .int 0) (ty := .int) (C := RX0) (T := TX0) (N := 11) hx hb hts zl_X0 tyX0 tyX0_ok nmX0 hown hK hP hD hS 9 rfl rfl 10 (by decide) (hts _ m_f_RX0_51) (fun _ h => h) rfl (by decide +kernel) rfl rfl (Nat.le_of_ble_eq_true rfl) dX0_take_137 (fun H locs hP hD hS => ?_)
  have hP : va_P g.1 vwCl [(h1, .inr (0, [.ref h11, .int 0, .ref h12, .int 0, .ref h13, .ref h14, .ref h15, .ref h16, .ref h17, .ref h18, .int 0])), (h11, .inl (zI g, 5, .inl (zA [60, 1, 1, 0, 0]))), (h12, .inl (zI g, 6, .inl (fun _ => 0))), (h13, .inl (zI g, 5, .inl (fun _ => 0))), (h14, .inl (zI g, 5, .inl (fun _ => 0))), (h15, .inl (zI g, 5, .inl (fun _ => 0))), (h16, .inl (zI g, 20, .inl (fun _ => 0))), (h17, .inl (zI g, 20, .inl (fun _ => 0))), (h18, .inl (zI g, 20, .inl (fun _ => 99))), (h0, .inr (0, [.ref h19, .int 0, .ref h20, .int 0, .ref h21, .ref h22, .ref h23, .ref h24, .ref h25, .ref h26, .int 0])), (h19, .inl (zI g, 5, .inl (zA [60, 1, 1, 0, 0]))), (h20, .inl (zI g, 6, .inl (fun _ => 0))), (h21, .inl (zI g, 5, .inl (fun _ => 0))), (h22, .inl (zI g, 5, .inl (fun _ => 0))), (h23, .inl (zI g, 5, .inl (fun _ => 0))), (h24, .inl (zI g, 20, .inl (fun _ => 0))), (h25, .inl (zI g, 20, .inl (fun _ => 0))), (h26, .inl (zI g, 20, .inl (fun _ => 99)))] H := hP
  have hD : va_D A [(h1, .inr (0, [.ref h11, .int 0, .ref h12, .int 0, .ref h13, .ref h14, .ref h15, .ref h16, .ref h17, .ref h18, .int 0])), (h11, .inl (zI g, 5, .inl (zA [60, 1, 1, 0, 0]))), (h12, .inl (zI g, 6, .inl (fun _ => 0))), (h13, .inl (zI g, 5, .inl (fun _ => 0))), (h14, .inl (zI g, 5, .inl (fun _ => 0))), (h15, .inl (zI g, 5, .inl (fun _ => 0))), (h16, .inl (zI g, 20, .inl (fun _ => 0))), (h17, .inl (zI g, 20, .inl (fun _ => 0))), (h18, .inl (zI g, 20, .inl (fun _ => 99))), (h0, .inr (0, [.ref h19, .int 0, .ref h20, .int 0, .ref h21, .ref h22, .ref h23, .ref h24, .ref h25, .ref h26, .int 0])), (h19, .inl (zI g, 5, .inl (zA [60, 1, 1, 0, 0]))), (h20, .inl (zI g, 6, .inl (fun _ => 0))), (h21, .inl (zI g, 5, .inl (fun _ => 0))), (h22, .inl (zI g, 5, .inl (fun _ => 0))), (h23, .inl (zI g, 5, .inl (fun _ => 0))), (h24, .inl (zI g, 20, .inl (fun _ => 0))), (h25, .inl (zI g, 20, .inl (fun _ => 0))), (h26, .inl (zI g, 20, .inl (fun _ => 99)))] := hD
  have hP9 := hP.sub (ws' := [(h1, .inr (0, [.ref h11, .int 0, .ref h12, .int 0, .ref h13, .ref h14, .ref h15, .ref h16, .ref h17, .ref h18, .int 0])), (h11, .inl (zI g, 5, .inl (zA [60, 1, 1, 0, 0]))), (h12, .inl (zI g, 6, .inl (fun _ => 0))), (h13, .inl (zI g, 5, .inl (fun _ => 0))), (h14, .inl (zI g, 5, .inl (fun _ => 0))), (h15, .inl (zI g, 5, .inl (fun _ => 0))), (h16, .inl (zI g, 20, .inl (fun _ => 0))), (h17, .inl (zI g, 20, .inl (fun _ => 0))), (h18, .inl (zI g, 20, .inl (fun _ => 99))), (h0, .inr (0, [.ref h19, .int 0, .ref h20, .int 0, .ref h21, .ref h22, .ref h23, .ref h24, .ref h25, .ref h26, .int 0])), (h19, .inl (zI g, 5, .inl (zA [60, 1, 1, 0, 0]))), (h20, .inl (zI g, 6, .inl (fun _ => 0))), (h21, .inl (zI g, 5, .inl (fun _ => 0))), (h22, .inl (zI g, 5, .inl (fun _ => 0))), (h23, .inl (zI g, 5, .inl (fun _ => 0))), (h24, .inl (zI g, 20, .inl (fun _ => 0))), (h25, .inl (zI g, 20, .inl (fun _ => 0))), (h26, .inl (zI g, 20, .inl (fun _ => 99)))]) [0, 1, 2, 3, 4, 5, 6, 7, 8, 9, 10, 11, 12, 13, 14, 15, 16, 17] rfl
  have hD9 := hD.sub (ws' := [(h1, .inr (0, [.ref h11, .int 0, .ref h12, .int 0, .ref h13, .ref h14, .ref h15, .ref h16, .ref h17, .ref h18, .int 0])), (h11, .inl (zI g, 5, .inl (zA [60, 1, 1, 0, 0]))), (h12, .inl (zI g, 6, .inl (fun _ => 0))), (h13, .inl (zI g, 5, .inl (fun _ => 0))), (h14, .inl (zI g, 5, .inl (fun _ => 0))), (h15, .inl (zI g, 5, .inl (fun _ => 0))), (h16, .inl (zI g, 20, .inl (fun _ => 0))), (h17, .inl (zI g, 20, .inl (fun _ => 0))), (h18, .inl (zI g, 20, .inl (fun _ => 99))), (h0, .inr (0, [.ref h19, .int 0, .ref h20, .int 0, .ref h21, .ref h22, .ref h23, .ref h24, .ref h25, .ref h26, .int 0])), (h19, .inl (zI g, 5, .inl (zA [60, 1, 1, 0, 0]))), (h20, .inl (zI g, 6, .inl (fun _ => 0))), (h21, .inl (zI g, 5, .inl (fun _ => 0))), (h22, .inl (zI g, 5, .inl (fun _ => 0))), (h23, .inl (zI g, 5, .inl (fun _ => 0))), (h24, .inl (zI g, 20, .inl (fun _ => 0))), (h25, .inl (zI g, 20, .inl (fun _ => 0))), (h26, .inl (zI g, 20, .inl (fun _ => 99)))]) [0, 1, 2, 3, 4, 5, 6, 7, 8, 9, 10, 11, 12, 13, 14, 15, 16, 17] (by decide) rfl
  exact W.vret hx hb hr (fun t ht hW => ⟨⟨0, rfl, trivial, by rw [ht]; exact hP9, hD9⟩, hS.F ht⟩) hS.2.2 dX0_take_140
set_option maxHeartbeats 4000000 in
set_option maxRecDepth 100000 in
theorem kX4_image (l : Launch) (g : zG) (h0 h1 h2 h3 h4 h5 h6 h7 h8 h9 h10 h11 h12 h13 h14 h15 h16 h17 h18 h19 h20 h21 h22 h23 h24 h25 h26 : Nat) (sz : Nat) : Met l yX4_image (.code yX4_image cX4_image 1 (some .int) :: zBig) ({ frames := 2, cells := 0, slots := 0, locals := 81 }) (va_Pc [.ref h0] (zPre g [(h0, .inr (4, [.ref h1, .ref h2, .int 0, .ref h3, .ref h4, .ref h5, .ref h6, .int (-1), .ref h7, .ref h8, .ref h9, .ref h10])), (h1, .inr (0, [.ref h11, .int 0, .ref h12, .int 0, .ref h13, .ref h14, .ref h15, .ref h16, .ref h17, .ref h18, .int 0])), (h11, .inl (zI g, 5, .inl (zA [60, 1, 1, 0, 0]))), (h12, .inl (zI g, 6, .inl (fun _ => 0))), (h13, .inl (zI g, 5, .inl (fun _ => 0))), (h14, .inl (zI g, 5, .inl (fun _ => 0))), (h15, .inl (zI g, 5, .inl (fun _ => 0))), (h16, .inl (zI g, 20, .inl (fun _ => 0))), (h17, .inl (zI g, 20, .inl (fun _ => 0))), (h18, .inl (zI g, 20, .inl (fun _ => 99))), (h2, .inr (0, [.ref h19, .int 0, .ref h20, .int 0, .ref h21, .ref h22, .ref h23, .ref h24, .ref h25, .ref h26, .int 0])), (h19, .inl (zI g, 5, .inl (zA [60, 1, 1, 0, 0]))), (h20, .inl (zI g, 6, .inl (fun _ => 0))), (h21, .inl (zI g, 5, .inl (fun _ => 0))), (h22, .inl (zI g, 5, .inl (fun _ => 0))), (h23, .inl (zI g, 5, .inl (fun _ => 0))), (h24, .inl (zI g, 20, .inl (fun _ => 0))), (h25, .inl (zI g, 20, .inl (fun _ => 0))), (h26, .inl (zI g, 20, .inl (fun _ => 99)))] sz)) (va_Qi (fun (r : Int32) (_ : Nat) => r = 1) (zPost g (fun _ : Nat => []) (va_A [(h0, .inr (4, [.ref h1, .ref h2, .int 0, .ref h3, .ref h4, .ref h5, .ref h6, .int (-1), .ref h7, .ref h8, .ref h9, .ref h10])), (h1, .inr (0, [.ref h11, .int 0, .ref h12, .int 0, .ref h13, .ref h14, .ref h15, .ref h16, .ref h17, .ref h18, .int 0])), (h11, .inl (zI g, 5, .inl (zA [60, 1, 1, 0, 0]))), (h12, .inl (zI g, 6, .inl (fun _ => 0))), (h13, .inl (zI g, 5, .inl (fun _ => 0))), (h14, .inl (zI g, 5, .inl (fun _ => 0))), (h15, .inl (zI g, 5, .inl (fun _ => 0))), (h16, .inl (zI g, 20, .inl (fun _ => 0))), (h17, .inl (zI g, 20, .inl (fun _ => 0))), (h18, .inl (zI g, 20, .inl (fun _ => 99))), (h2, .inr (0, [.ref h19, .int 0, .ref h20, .int 0, .ref h21, .ref h22, .ref h23, .ref h24, .ref h25, .ref h26, .int 0])), (h19, .inl (zI g, 5, .inl (zA [60, 1, 1, 0, 0]))), (h20, .inl (zI g, 6, .inl (fun _ => 0))), (h21, .inl (zI g, 5, .inl (fun _ => 0))), (h22, .inl (zI g, 5, .inl (fun _ => 0))), (h23, .inl (zI g, 5, .inl (fun _ => 0))), (h24, .inl (zI g, 20, .inl (fun _ => 0))), (h25, .inl (zI g, 20, .inl (fun _ => 0))), (h26, .inl (zI g, 20, .inl (fun _ => 99)))] sz)) (va_A [(h0, .inr (4, [.ref h1, .ref h2, .int 0, .ref h3, .ref h4, .ref h5, .ref h6, .int (-1), .ref h7, .ref h8, .ref h9, .ref h10])), (h1, .inr (0, [.ref h11, .int 0, .ref h12, .int 0, .ref h13, .ref h14, .ref h15, .ref h16, .ref h17, .ref h18, .int 0])), (h11, .inl (zI g, 5, .inl (zA [60, 1, 1, 0, 0]))), (h12, .inl (zI g, 6, .inl (fun _ => 0))), (h13, .inl (zI g, 5, .inl (fun _ => 0))), (h14, .inl (zI g, 5, .inl (fun _ => 0))), (h15, .inl (zI g, 5, .inl (fun _ => 0))), (h16, .inl (zI g, 20, .inl (fun _ => 0))), (h17, .inl (zI g, 20, .inl (fun _ => 0))), (h18, .inl (zI g, 20, .inl (fun _ => 99))), (h2, .inr (0, [.ref h19, .int 0, .ref h20, .int 0, .ref h21, .ref h22, .ref h23, .ref h24, .ref h25, .ref h26, .int 0])), (h19, .inl (zI g, 5, .inl (zA [60, 1, 1, 0, 0]))), (h20, .inl (zI g, 6, .inl (fun _ => 0))), (h21, .inl (zI g, 5, .inl (fun _ => 0))), (h22, .inl (zI g, 5, .inl (fun _ => 0))), (h23, .inl (zI g, 5, .inl (fun _ => 0))), (h24, .inl (zI g, 20, .inl (fun _ => 0))), (h25, .inl (zI g, 20, .inl (fun _ => 0))), (h26, .inl (zI g, 20, .inl (fun _ => 99)))] sz)) 0 0 (va_A [(h0, .inr (4, [.ref h1, .ref h2, .int 0, .ref h3, .ref h4, .ref h5, .ref h6, .int (-1), .ref h7, .ref h8, .ref h9, .ref h10])), (h1, .inr (0, [.ref h11, .int 0, .ref h12, .int 0, .ref h13, .ref h14, .ref h15, .ref h16, .ref h17, .ref h18, .int 0])), (h11, .inl (zI g, 5, .inl (zA [60, 1, 1, 0, 0]))), (h12, .inl (zI g, 6, .inl (fun _ => 0))), (h13, .inl (zI g, 5, .inl (fun _ => 0))), (h14, .inl (zI g, 5, .inl (fun _ => 0))), (h15, .inl (zI g, 5, .inl (fun _ => 0))), (h16, .inl (zI g, 20, .inl (fun _ => 0))), (h17, .inl (zI g, 20, .inl (fun _ => 0))), (h18, .inl (zI g, 20, .inl (fun _ => 99))), (h2, .inr (0, [.ref h19, .int 0, .ref h20, .int 0, .ref h21, .ref h22, .ref h23, .ref h24, .ref h25, .ref h26, .int 0])), (h19, .inl (zI g, 5, .inl (zA [60, 1, 1, 0, 0]))), (h20, .inl (zI g, 6, .inl (fun _ => 0))), (h21, .inl (zI g, 5, .inl (fun _ => 0))), (h22, .inl (zI g, 5, .inl (fun _ => 0))), (h23, .inl (zI g, 5, .inl (fun _ => 0))), (h24, .inl (zI g, 20, .inl (fun _ => 0))), (h25, .inl (zI g, 20, .inl (fun _ => 0))), (h26, .inl (zI g, 20, .inl (fun _ => 99)))] sz) := by
  refine zMetI rfl (Nat.le_of_ble_eq_true rfl) ?_
  intro p e s m args below meth c A ls hx hb hml hr hlocks hin hown hts hK hN hZ hP hD hA hS hAe hl
  have hown : s.vm.findClass RX4 = some m.cls := hown
  have hl : lv_has ls 1 [(0, .ref h0)] := hl
  refine lv_aload_n hx hb dX4_image_0 rfl (lv_at hl 0 rfl) ?_
  refine va_get (D := g.1) (ci := 4) (v := .ref h2) (C := RX4) (T := TX4) (N := 12) hx hb hts zl_X4 hown hK hP 0 rfl rfl 1 (by decide) (hts _ m_f_RX4_16) (fun _ h => h) rfl dX4_image_1 ?_
  refine lv_aload_n hx hb dX4_image_4 rfl (lv_at hl 0 rfl) ?_
  refine va_get (D := g.1) (ci := 4) (v := .ref h1) (C := RX4) (T := TX4) (N := 12) hx hb hts zl_X4 hown hK hP 0 rfl rfl 0 (by decide) (hts _ m_f_RX4_10) (fun _ h => h) rfl dX4_image_5 ?_
  refine z_callv (wr := [(h0, .inr (4, [.ref h1, .ref h2, .int 0, .ref h3, .ref h4, .ref h5, .ref h6, .int (-1), .ref h7, .ref h8, .ref h9, .ref h10]))]) hP hD hS hA [1, 2, 3, 4, 5, 6, 7, 8, 9, 10, 11, 12, 13, 14, 15, 16, 17, 18] [0] (by decide) rfl rfl (by decide) (va_runVN (As := [.ref h1]) (rest := []) ⟨hx, hb, hml, hown, hts⟩ (kX0_take_2 l g h2 h1 h11 h12 h13 h14 h15 h16 h17 h18 h19 h20 h21 h22 h23 h24 h25 h26 s.heap.size) ⟨va_cnB 1 hts (zGood m_o_yX0_take) rfl rfl rfl (hN.m 27 (q := (RX4, 205, yX0_take)) rfl) (hts _ m_z_RX0) ⟨by decide +kernel, by decide +kernel, by decide +kernel⟩ ⟨Nat.le_of_ble_eq_true rfl, Nat.le_of_ble_eq_true rfl⟩, hts _ m_i_yX0_take, hts _ m_e_yX0_take⟩ (zPreV hK hN hZ hP hD hS hA [1, 2, 3, 4, 5, 6, 7, 8, 9, 10, 11, 12, 13, 14, 15, 16, 17, 18] (by decide) rfl rfl 0 10 rfl rfl) rfl rfl hl.1 rfl (lv_room (Nat.le_of_ble_eq_true rfl)) dX4_image_8 ⟨Nat.le_of_ble_eq_true rfl, Nat.le_of_ble_eq_true rfl⟩) (fun u H locs hw hP hD hS => ?_)
  have hP : va_P g.1 vwCl [(h0, .inr (4, [.ref h1, .ref h2, .int 0, .ref h3, .ref h4, .ref h5, .ref h6, .int (-1), .ref h7, .ref h8, .ref h9, .ref h10])), (h1, .inr (0, [.ref h11, .int 0, .ref h12, .int 0, .ref h13, .ref h14, .ref h15, .ref h16, .ref h17, .ref h18, .int 0])), (h11, .inl (zI g, 5, .inl (zA [60, 1, 1, 0, 0]))), (h12, .inl (zI g, 6, .inl (fun _ => 0))), (h13, .inl (zI g, 5, .inl (fun _ => 0))), (h14, .inl (zI g, 5, .inl (fun _ => 0))), (h15, .inl (zI g, 5, .inl (fun _ => 0))), (h16, .inl (zI g, 20, .inl (fun _ => 0))), (h17, .inl (zI g, 20, .inl (fun _ => 0))), (h18, .inl (zI g, 20, .inl (fun _ => 99))), (h2, .inr (0, [.ref h19, .int 0, .ref h20, .int 0, .ref h21, .ref h22, .ref h23, .ref h24, .ref h25, .ref h26, .int 0])), (h19, .inl (zI g, 5, .inl (zA [60, 1, 1, 0, 0]))), (h20, .inl (zI g, 6, .inl (fun _ => 0))), (h21, .inl (zI g, 5, .inl (fun _ => 0))), (h22, .inl (zI g, 5, .inl (fun _ => 0))), (h23, .inl (zI g, 5, .inl (fun _ => 0))), (h24, .inl (zI g, 20, .inl (fun _ => 0))), (h25, .inl (zI g, 20, .inl (fun _ => 0))), (h26, .inl (zI g, 20, .inl (fun _ => 99)))] H := hP
  have hD : va_D A [(h0, .inr (4, [.ref h1, .ref h2, .int 0, .ref h3, .ref h4, .ref h5, .ref h6, .int (-1), .ref h7, .ref h8, .ref h9, .ref h10])), (h1, .inr (0, [.ref h11, .int 0, .ref h12, .int 0, .ref h13, .ref h14, .ref h15, .ref h16, .ref h17, .ref h18, .int 0])), (h11, .inl (zI g, 5, .inl (zA [60, 1, 1, 0, 0]))), (h12, .inl (zI g, 6, .inl (fun _ => 0))), (h13, .inl (zI g, 5, .inl (fun _ => 0))), (h14, .inl (zI g, 5, .inl (fun _ => 0))), (h15, .inl (zI g, 5, .inl (fun _ => 0))), (h16, .inl (zI g, 20, .inl (fun _ => 0))), (h17, .inl (zI g, 20, .inl (fun _ => 0))), (h18, .inl (zI g, 20, .inl (fun _ => 99))), (h2, .inr (0, [.ref h19, .int 0, .ref h20, .int 0, .ref h21, .ref h22, .ref h23, .ref h24, .ref h25, .ref h26, .int 0])), (h19, .inl (zI g, 5, .inl (zA [60, 1, 1, 0, 0]))), (h20, .inl (zI g, 6, .inl (fun _ => 0))), (h21, .inl (zI g, 5, .inl (fun _ => 0))), (h22, .inl (zI g, 5, .inl (fun _ => 0))), (h23, .inl (zI g, 5, .inl (fun _ => 0))), (h24, .inl (zI g, 20, .inl (fun _ => 0))), (h25, .inl (zI g, 20, .inl (fun _ => 0))), (h26, .inl (zI g, 20, .inl (fun _ => 99)))] := hD
  refine lv_aload_n hx hb dX4_image_11 rfl (lv_at hl 0 rfl) ?_
  refine lv_iconst (v := 1) hx hb dX4_image_12 (by decide) ?_
  refine va_put (D := g.1) (ci := 4) (v := .int 1) (ty := .boolean) (C := RX4) (T := TX4) (N := 12) hx hb hts zl_X4 tyX4 tyX4_ok nmX4 hown hK hP hD hS 0 rfl rfl 2 (by decide) (hts _ m_f_RX4_19) (fun _ h => h) rfl (by decide +kernel) rfl rfl (Nat.le_of_ble_eq_true rfl) dX4_image_13 (fun H locs hP hD hS => ?_)
  have hP : va_P g.1 vwCl [(h0, .inr (4, [.ref h1, .ref h2, .int 1, .ref h3, .ref h4, .ref h5, .ref h6, .int (-1), .ref h7, .ref h8, .ref h9, .ref h10])), (h1, .inr (0, [.ref h11, .int 0, .ref h12, .int 0, .ref h13, .ref h14, .ref h15, .ref h16, .ref h17, .ref h18, .int 0])), (h11, .inl (zI g, 5, .inl (zA [60, 1, 1, 0, 0]))), (h12, .inl (zI g, 6, .inl (fun _ => 0))), (h13, .inl (zI g, 5, .inl (fun _ => 0))), (h14, .inl (zI g, 5, .inl (fun _ => 0))), (h15, .inl (zI g, 5, .inl (fun _ => 0))), (h16, .inl (zI g, 20, .inl (fun _ => 0))), (h17, .inl (zI g, 20, .inl (fun _ => 0))), (h18, .inl (zI g, 20, .inl (fun _ => 99))), (h2, .inr (0, [.ref h19, .int 0, .ref h20, .int 0, .ref h21, .ref h22, .ref h23, .ref h24, .ref h25, .ref h26, .int 0])), (h19, .inl (zI g, 5, .inl (zA [60, 1, 1, 0, 0]))), (h20, .inl (zI g, 6, .inl (fun _ => 0))), (h21, .inl (zI g, 5, .inl (fun _ => 0))), (h22, .inl (zI g, 5, .inl (fun _ => 0))), (h23, .inl (zI g, 5, .inl (fun _ => 0))), (h24, .inl (zI g, 20, .inl (fun _ => 0))), (h25, .inl (zI g, 20, .inl (fun _ => 0))), (h26, .inl (zI g, 20, .inl (fun _ => 99)))] H := hP
  have hD : va_D A [(h0, .inr (4, [.ref h1, .ref h2, .int 1, .ref h3, .ref h4, .ref h5, .ref h6, .int (-1), .ref h7, .ref h8, .ref h9, .ref h10])), (h1, .inr (0, [.ref h11, .int 0, .ref h12, .int 0, .ref h13, .ref h14, .ref h15, .ref h16, .ref h17, .ref h18, .int 0])), (h11, .inl (zI g, 5, .inl (zA [60, 1, 1, 0, 0]))), (h12, .inl (zI g, 6, .inl (fun _ => 0))), (h13, .inl (zI g, 5, .inl (fun _ => 0))), (h14, .inl (zI g, 5, .inl (fun _ => 0))), (h15, .inl (zI g, 5, .inl (fun _ => 0))), (h16, .inl (zI g, 20, .inl (fun _ => 0))), (h17, .inl (zI g, 20, .inl (fun _ => 0))), (h18, .inl (zI g, 20, .inl (fun _ => 99))), (h2, .inr (0, [.ref h19, .int 0, .ref h20, .int 0, .ref h21, .ref h22, .ref h23, .ref h24, .ref h25, .ref h26, .int 0])), (h19, .inl (zI g, 5, .inl (zA [60, 1, 1, 0, 0]))), (h20, .inl (zI g, 6, .inl (fun _ => 0))), (h21, .inl (zI g, 5, .inl (fun _ => 0))), (h22, .inl (zI g, 5, .inl (fun _ => 0))), (h23, .inl (zI g, 5, .inl (fun _ => 0))), (h24, .inl (zI g, 20, .inl (fun _ => 0))), (h25, .inl (zI g, 20, .inl (fun _ => 0))), (h26, .inl (zI g, 20, .inl (fun _ => 99)))] := hD
  refine lv_iconst (v := 1) hx hb dX4_image_16 (by decide) ?_
  have hP9 := hP.sub (ws' := []) [] rfl
  have hD9 := hD.sub (ws' := []) [] (by decide) rfl
  exact W.iret (v := 1) hx hb hr (fun t ht hW => ⟨⟨1, 0, rfl, rfl, by rw [ht]; exact hP9, hD9⟩, hS.F ht⟩) hS.2.2 dX4_image_17
set_option maxHeartbeats 4000000 in
set_option maxRecDepth 100000 in
theorem kX4_restore (l : Launch) (g : zG) (h0 h1 h2 h3 h4 h5 h6 h7 h8 h9 h10 : Nat) (sz : Nat) : Met l yX4_restore (.code yX4_restore cX4_restore 1 (some .int) :: zBig) ({ frames := 0, cells := 0, slots := 0, locals := 0 }) (va_Pc [.ref h0] (zPre g [(h0, .inr (4, [.ref h1, .ref h2, .int 0, .ref h3, .ref h4, .ref h5, .ref h6, .int (-1), .ref h7, .ref h8, .ref h9, .ref h10]))] sz)) (va_Qi (fun (r : Int32) (_ : Nat) => r = (-4)) (zPost g (fun _ : Nat => []) (va_A [(h0, .inr (4, [.ref h1, .ref h2, .int 0, .ref h3, .ref h4, .ref h5, .ref h6, .int (-1), .ref h7, .ref h8, .ref h9, .ref h10]))] sz)) (va_A [(h0, .inr (4, [.ref h1, .ref h2, .int 0, .ref h3, .ref h4, .ref h5, .ref h6, .int (-1), .ref h7, .ref h8, .ref h9, .ref h10]))] sz)) 0 0 (va_A [(h0, .inr (4, [.ref h1, .ref h2, .int 0, .ref h3, .ref h4, .ref h5, .ref h6, .int (-1), .ref h7, .ref h8, .ref h9, .ref h10]))] sz) := by
  refine zMetI rfl (Nat.le_of_ble_eq_true rfl) ?_
  intro p e s m args below meth c A ls hx hb hml hr hlocks hin hown hts hK hN hZ hP hD hA hS hAe hl
  have hown : s.vm.findClass RX4 = some m.cls := hown
  have hl : lv_has ls 1 [(0, .ref h0)] := hl
  refine lv_aload_n hx hb dX4_restore_0 rfl (lv_at hl 0 rfl) ?_
  refine va_get (D := g.1) (ci := 4) (v := .int 0) (C := RX4) (T := TX4) (N := 12) hx hb hts zl_X4 hown hK hP 0 rfl rfl 2 (by decide) (hts _ m_f_RX4_19) (fun _ h => h) rfl dX4_restore_1 ?_
  refine lv_if_ne (tgt := 10) hx hb dX4_restore_4 (by decide) (fun h => absurd h (by decide +kernel)) (fun _ => ?_)
  refine lv_bipush (v := (-4)) hx hb dX4_restore_7 (by decide) ?_
  have hP9 := hP.sub (ws' := []) [] rfl
  have hD9 := hD.sub (ws' := []) [] (by decide) rfl
  exact W.iret (v := (-4)) hx hb hr (fun t ht hW => ⟨⟨(-4), 0, rfl, rfl, by rw [ht]; exact hP9, hD9⟩, hS.F ht⟩) hS.2.2 dX4_restore_9
set_option maxHeartbeats 4000000 in
set_option maxRecDepth 100000 in
theorem kX4_isSheet (l : Launch) (g : zG) (sz : Nat) (p0 : Int32) : Met l yX4_isSheet (.code yX4_isSheet cX4_isSheet 1 (some .boolean) :: zBig) ({ frames := 0, cells := 0, slots := 0, locals := 0 }) (va_Pc [.int p0] (zPre g [] sz)) (va_Qi (fun (r : Int32) (_ : Nat) => (p0.toInt < 0 ∧ r = 0) ∨ (0 ≤ p0.toInt ∧ 4 ≤ p0.toInt ∧ r = 0) ∨ (0 ≤ p0.toInt ∧ p0.toInt < 4 ∧ r = 1)) (zPost g (fun _ : Nat => []) (va_A [] sz)) (va_A [] sz)) 0 0 (va_A [] sz) := by
  refine zMetI rfl (Nat.le_of_ble_eq_true rfl) ?_
  intro p e s m args below meth c A ls hx hb hml hr hlocks hin hown hts hK hN hZ hP hD hA hS hAe hl
  have hown : s.vm.findClass RX4 = some m.cls := hown
  have hl : lv_has ls 1 [(0, .int p0)] := hl
  refine lv_iload_n hx hb dX4_isSheet_0 rfl (lv_at hl 0 rfl) ?_
  refine lv_if_lt (tgt := 13) hx hb dX4_isSheet_1 (by decide) (fun c_0 => ?_) (fun c_0 => ?_)
  · have i_0 : p0.toInt < 0 := z_lt (rfl) (rfl) c_0
    refine lv_iconst (v := 0) hx hb dX4_isSheet_13 (by decide) ?_
    have hP9 := hP.sub (ws' := []) [] rfl
    have hD9 := hD.sub (ws' := []) [] (by decide) rfl
    exact W.zret (v := 0) hx hb hr (by decide) (fun t ht hW => ⟨⟨0, 0, rfl, Or.inl ⟨i_0, rfl⟩, by rw [ht]; exact hP9, hD9⟩, hS.F ht⟩) hS.2.2 dX4_isSheet_14
  · have i_0 : 0 ≤ p0.toInt := z_nlt (rfl) (rfl) c_0
    refine lv_iload_n hx hb dX4_isSheet_4 rfl (lv_at hl 0 rfl) ?_
    refine lv_iconst (v := 4) hx hb dX4_isSheet_5 (by decide) ?_
    refine lv_icmp_ge (tgt := 13) hx hb dX4_isSheet_6 (by decide) (fun c_1 => ?_) (fun c_1 => ?_)
    · have i_1 : 4 ≤ p0.toInt := z_le (rfl) (rfl) c_1
      refine lv_iconst (v := 0) hx hb dX4_isSheet_13 (by decide) ?_
      have hP9 := hP.sub (ws' := []) [] rfl
      have hD9 := hD.sub (ws' := []) [] (by decide) rfl
      exact W.zret (v := 0) hx hb hr (by decide) (fun t ht hW => ⟨⟨0, 0, rfl, Or.inr (Or.inl ⟨i_0, i_1, rfl⟩), by rw [ht]; exact hP9, hD9⟩, hS.F ht⟩) hS.2.2 dX4_isSheet_14
    · have i_1 : p0.toInt < 4 := z_nle (rfl) (rfl) c_1
      refine lv_iconst (v := 1) hx hb dX4_isSheet_9 (by decide) ?_
      refine lv_goto (tgt := 14) hx hb dX4_isSheet_10 (by decide) ?_
      have hP9 := hP.sub (ws' := []) [] rfl
      have hD9 := hD.sub (ws' := []) [] (by decide) rfl
      exact W.zret (v := 1) hx hb hr (by decide) (fun t ht hW => ⟨⟨1, 0, rfl, Or.inr (Or.inr (⟨i_0, i_1, rfl⟩)), by rw [ht]; exact hP9, hD9⟩, hS.F ht⟩) hS.2.2 dX4_isSheet_14
set_option maxHeartbeats 4000000 in
set_option maxRecDepth 100000 in
theorem kX4_isLane (l : Launch) (g : zG) (sz : Nat) (p0 : Int32) : Met l yX4_isLane (.code yX4_isLane cX4_isLane 1 (some .boolean) :: zBig) ({ frames := 0, cells := 0, slots := 0, locals := 0 }) (va_Pc [.int p0] (zPre g [] sz)) (va_Qi (fun (r : Int32) (_ : Nat) => (p0.toInt < 0 ∧ r = 0) ∨ (0 ≤ p0.toInt ∧ 3 ≤ p0.toInt ∧ r = 0) ∨ (0 ≤ p0.toInt ∧ p0.toInt < 3 ∧ r = 1)) (zPost g (fun _ : Nat => []) (va_A [] sz)) (va_A [] sz)) 0 0 (va_A [] sz) := by
  refine zMetI rfl (Nat.le_of_ble_eq_true rfl) ?_
  intro p e s m args below meth c A ls hx hb hml hr hlocks hin hown hts hK hN hZ hP hD hA hS hAe hl
  have hown : s.vm.findClass RX4 = some m.cls := hown
  have hl : lv_has ls 1 [(0, .int p0)] := hl
  refine lv_iload_n hx hb dX4_isLane_0 rfl (lv_at hl 0 rfl) ?_
  refine lv_if_lt (tgt := 13) hx hb dX4_isLane_1 (by decide) (fun c_0 => ?_) (fun c_0 => ?_)
  · have i_0 : p0.toInt < 0 := z_lt (rfl) (rfl) c_0
    refine lv_iconst (v := 0) hx hb dX4_isLane_13 (by decide) ?_
    have hP9 := hP.sub (ws' := []) [] rfl
    have hD9 := hD.sub (ws' := []) [] (by decide) rfl
    exact W.zret (v := 0) hx hb hr (by decide) (fun t ht hW => ⟨⟨0, 0, rfl, Or.inl ⟨i_0, rfl⟩, by rw [ht]; exact hP9, hD9⟩, hS.F ht⟩) hS.2.2 dX4_isLane_14
  · have i_0 : 0 ≤ p0.toInt := z_nlt (rfl) (rfl) c_0
    refine lv_iload_n hx hb dX4_isLane_4 rfl (lv_at hl 0 rfl) ?_
    refine lv_iconst (v := 3) hx hb dX4_isLane_5 (by decide) ?_
    refine lv_icmp_ge (tgt := 13) hx hb dX4_isLane_6 (by decide) (fun c_1 => ?_) (fun c_1 => ?_)
    · have i_1 : 3 ≤ p0.toInt := z_le (rfl) (rfl) c_1
      refine lv_iconst (v := 0) hx hb dX4_isLane_13 (by decide) ?_
      have hP9 := hP.sub (ws' := []) [] rfl
      have hD9 := hD.sub (ws' := []) [] (by decide) rfl
      exact W.zret (v := 0) hx hb hr (by decide) (fun t ht hW => ⟨⟨0, 0, rfl, Or.inr (Or.inl ⟨i_0, i_1, rfl⟩), by rw [ht]; exact hP9, hD9⟩, hS.F ht⟩) hS.2.2 dX4_isLane_14
    · have i_1 : p0.toInt < 3 := z_nle (rfl) (rfl) c_1
      refine lv_iconst (v := 1) hx hb dX4_isLane_9 (by decide) ?_
      refine lv_goto (tgt := 14) hx hb dX4_isLane_10 (by decide) ?_
      have hP9 := hP.sub (ws' := []) [] rfl
      have hD9 := hD.sub (ws' := []) [] (by decide) rfl
      exact W.zret (v := 1) hx hb hr (by decide) (fun t ht hW => ⟨⟨1, 0, rfl, Or.inr (Or.inr (⟨i_0, i_1, rfl⟩)), by rw [ht]; exact hP9, hD9⟩, hS.F ht⟩) hS.2.2 dX4_isLane_14
set_option maxHeartbeats 4000000 in
set_option maxRecDepth 100000 in
theorem kX4_isSheet_2 (l : Launch) (g : zG) (sz : Nat) (p0 : Int32) : Met l yX4_isSheet (.code yX4_isSheet cX4_isSheet 1 (some .boolean) :: zBig) ({ frames := 0, cells := 0, slots := 0, locals := 0 }) (va_Pc [.int p0] (zPre g [] sz)) (va_Qi (fun (r : Int32) (_ : Nat) => (p0.toInt < 0 ∧ r = 0) ∨ (0 ≤ p0.toInt ∧ 4 ≤ p0.toInt ∧ r = 0) ∨ (0 ≤ p0.toInt ∧ p0.toInt < 4 ∧ r = 1)) (zPost g (fun _ : Nat => []) (va_A [] sz)) (va_A [] sz)) 0 0 (va_A [] sz) := by
  refine zMetI rfl (Nat.le_of_ble_eq_true rfl) ?_
  intro p e s m args below meth c A ls hx hb hml hr hlocks hin hown hts hK hN hZ hP hD hA hS hAe hl
  have hown : s.vm.findClass RX4 = some m.cls := hown
  have hl : lv_has ls 1 [(0, .int p0)] := hl
  refine lv_iload_n hx hb dX4_isSheet_0 rfl (lv_at hl 0 rfl) ?_
  refine lv_if_lt (tgt := 13) hx hb dX4_isSheet_1 (by decide) (fun c_0 => ?_) (fun c_0 => ?_)
  · have i_0 : p0.toInt < 0 := z_lt (rfl) (rfl) c_0
    refine lv_iconst (v := 0) hx hb dX4_isSheet_13 (by decide) ?_
    have hP9 := hP.sub (ws' := []) [] rfl
    have hD9 := hD.sub (ws' := []) [] (by decide) rfl
    exact W.zret (v := 0) hx hb hr (by decide) (fun t ht hW => ⟨⟨0, 0, rfl, Or.inl ⟨i_0, rfl⟩, by rw [ht]; exact hP9, hD9⟩, hS.F ht⟩) hS.2.2 dX4_isSheet_14
  · have i_0 : 0 ≤ p0.toInt := z_nlt (rfl) (rfl) c_0
    refine lv_iload_n hx hb dX4_isSheet_4 rfl (lv_at hl 0 rfl) ?_
    refine lv_iconst (v := 4) hx hb dX4_isSheet_5 (by decide) ?_
    refine lv_icmp_ge (tgt := 13) hx hb dX4_isSheet_6 (by decide) (fun c_1 => ?_) (fun c_1 => ?_)
    · have i_1 : 4 ≤ p0.toInt := z_le (rfl) (rfl) c_1
      refine lv_iconst (v := 0) hx hb dX4_isSheet_13 (by decide) ?_
      have hP9 := hP.sub (ws' := []) [] rfl
      have hD9 := hD.sub (ws' := []) [] (by decide) rfl
      exact W.zret (v := 0) hx hb hr (by decide) (fun t ht hW => ⟨⟨0, 0, rfl, Or.inr (Or.inl ⟨i_0, i_1, rfl⟩), by rw [ht]; exact hP9, hD9⟩, hS.F ht⟩) hS.2.2 dX4_isSheet_14
    · have i_1 : p0.toInt < 4 := z_nle (rfl) (rfl) c_1
      refine lv_iconst (v := 1) hx hb dX4_isSheet_9 (by decide) ?_
      refine lv_goto (tgt := 14) hx hb dX4_isSheet_10 (by decide) ?_
      have hP9 := hP.sub (ws' := []) [] rfl
      have hD9 := hD.sub (ws' := []) [] (by decide) rfl
      exact W.zret (v := 1) hx hb hr (by decide) (fun t ht hW => ⟨⟨1, 0, rfl, Or.inr (Or.inr (⟨i_0, i_1, rfl⟩)), by rw [ht]; exact hP9, hD9⟩, hS.F ht⟩) hS.2.2 dX4_isSheet_14
