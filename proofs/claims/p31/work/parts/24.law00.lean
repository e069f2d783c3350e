set_option maxHeartbeats 8000000 in
set_option maxRecDepth 100000 in
theorem gL_low (l : Launch) (g : zG) (sz : Nat) (p0 : Int32) (p1 : Int32) (hp0 : 1 ≤ p1.toInt) : Met l yL_low (.code yL_low cL_low 2 (some .int) :: zBig) ({ frames := 0, cells := 0, slots := 0, locals := 0 }) (va_Pc [.int p0, .int p1] (zPre g [] sz)) (va_Qi (fun (r : Int32) (u : Nat) => r = zlow p0 p1 ∧ 0 ≤ r.toInt ∧ r.toInt < p1.toInt) (zPost g (fun u : Nat => []) (va_A [] sz)) (va_A [] sz)) 0 0 (va_A [] sz) := by
  refine zMetI rfl (Nat.le_of_ble_eq_true rfl) ?_
  intro p e s m args below meth c A ls hx hb hml hr hlocks hin hown hts hK hN hZ hP hD hA hS hAe hl
  have hown : s.vm.findClass RL = some m.cls := hown
  have hl : lv_has ls 2 [(0, .int p0), (1, .int p1)] := hl
  refine lv_iload_n hx hb dL_low_0 rfl (lv_at hl 0 rfl) ?_
  refine lv_ldc (v := 2147483647) hx hb hown (hts _ m_k_RL_8) dL_low_1 ?_
  refine lv_iand hx hb dL_low_3 ?_
  refine lv_topi (fun y0 ey0 => ?_)
  refine lv_iload_n hx hb dL_low_4 rfl (lv_at hl 1 rfl) ?_
  refine lv_irem hx hb dL_low_5 (z_nz rfl (by omega)) ?_
  refine lv_topi (fun y1 ey1 => ?_)
  have py1_0 : 0 ≤ y1.toInt := (by rw [ey1, ey0]; exact (z_low (v := p0) (n := p1) rfl hp0).1)
  have py1_1 : y1.toInt < p1.toInt := (by rw [ey1, ey0]; exact (z_low (v := p0) (n := p1) rfl hp0).2)
  have z9 : y1 = zlow p0 p1 := (by rw [ey1, ey0] <;> rfl)
  have hP9 := hP.sub (ws' := []) [] rfl
  have hD9 := hD.sub (ws' := []) [] (by decide) rfl
  exact W.iret (v := y1) hx hb hr (fun t ht hW => ⟨⟨y1, (0 : Nat), rfl, ⟨(show y1 = zlow p0 p1 from by assumption), (by first | omega | decide), (by first | omega | decide)⟩, by rw [ht]; exact hP9, hD9⟩, hS.F ht⟩) hS.2.2 dL_low_6
set_option maxHeartbeats 8000000 in
set_option maxRecDepth 100000 in
theorem gL_cell (l : Launch) (g : zG) (sz : Nat) (b L : Nat) (xs : Nat → Int32) (hL : L ≤ 3072) (p1 : Int32) (hp0 : 0 ≤ p1.toInt) (hp1 : p1.toInt ≤ 2000) : Met l yL_cell (.code yL_cell cL_cell 2 (some .int) :: zBig) ({ frames := 0, cells := 0, slots := 0, locals := 0 }) (va_Pc [.ref b, .int p1] (zPreX g [] sz b L xs)) (va_Qi (fun (r : Int32) (u : Nat) => r = zCell xs L p1) (zPost g (fun u : Nat => []) (va_A [] sz)) (va_A [] sz)) 0 0 (va_A [] sz) := by
  refine zMetIX rfl (Nat.le_of_ble_eq_true rfl) ?_
  intro p e s m args below meth c A ls hx hb hml hr hlocks hin hown hts hK hN hZ hP hD hA hS hAe hl hX hbl hbA
  have hown : s.vm.findClass RL = some m.cls := hown
  have hl : lv_has ls 2 [(0, .ref b), (1, .int p1)] := hl
  refine lv_iload_n hx hb dL_cell_0 rfl (lv_at hl 1 rfl) ?_
  refine lv_aload_n hx hb dL_cell_1 rfl (lv_at hl 0 rfl) ?_
  refine va_slen hx hb hX hbl hbA hS dL_cell_2 ?_
  refine lv_topi (fun y0 ey0 => ?_)
  have qy0_0 : y0.toInt = (L : Int) := z_ofNat ey0 hL
  refine lv_icmp_ge (tgt := 12) hx hb dL_cell_3 (by decide) (fun c_0 => ?_) (fun c_0 => ?_)
  · have i_0 : y0.toInt ≤ p1.toInt := z_le (rfl) (rfl) c_0
    refine lv_ldc (v := 747796405) hx hb hown (hts _ m_k_RL_7) dL_cell_12 ?_
    refine lv_iload_n hx hb dL_cell_14 rfl (lv_at hl 1 rfl) ?_
    refine lv_iconst (v := 1) hx hb dL_cell_15 (by decide) ?_
    refine lv_iadd hx hb dL_cell_16 ?_
    refine lv_topi (fun y1 ey1 => ?_)
    have qy1_0 : y1.toInt = p1.toInt + 1 := zi_add ey1 (rfl) (rfl) (by omega) (by omega)
    refine lv_imul hx hb dL_cell_17 ?_
    refine lv_topi (fun y2 ey2 => ?_)
    have z9 : y2 = zCell xs L p1 := (by rw [ey2, ey1]; unfold zCell; rw [if_neg (by omega)])
    have hP9 := hP.sub (ws' := []) [] rfl
    have hD9 := hD.sub (ws' := []) [] (by decide) rfl
    exact W.iret (v := y2) hx hb hr (fun t ht hW => ⟨⟨y2, (0 : Nat), rfl, (show y2 = zCell xs L p1 from by assumption), by rw [ht]; exact hP9, hD9⟩, hS.F ht⟩) hS.2.2 dL_cell_18
  · have i_0 : p1.toInt < y0.toInt := z_nle (rfl) (rfl) c_0
    refine lv_aload_n hx hb dL_cell_6 rfl (lv_at hl 0 rfl) ?_
    refine lv_iload_n hx hb dL_cell_7 rfl (lv_at hl 1 rfl) ?_
    refine va_sld hx hb hX hbl hbA hS (vp_in_iff.mpr ⟨by omega, by omega⟩) dL_cell_8 ?_
    refine lv_topi (fun y3 ey3 => ?_)
    refine lv_goto (tgt := 18) hx hb dL_cell_9 (by decide) ?_
    have z9 : y3 = zCell xs L p1 := (by rw [ey3]; unfold zCell; rw [if_pos (by omega)])
    have hP9 := hP.sub (ws' := []) [] rfl
    have hD9 := hD.sub (ws' := []) [] (by decide) rfl
    exact W.iret (v := y3) hx hb hr (fun t ht hW => ⟨⟨y3, (0 : Nat), rfl, (show y3 = zCell xs L p1 from by assumption), by rw [ht]; exact hP9, hD9⟩, hS.F ht⟩) hS.2.2 dL_cell_18
