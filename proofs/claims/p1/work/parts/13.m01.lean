set_option maxHeartbeats 4000000 in
set_option maxRecDepth 100000 in
theorem kX3_byteOf_61 (l : Launch) (g : zG) (sz : Nat) (p0 : Int64) : Met l yX3_byteOf (.code yX3_byteOf cX3_byteOf 3 (some .int) :: zBig) ({ frames := 0, cells := 0, slots := 0, locals := 0 }) (va_Pc [.long p0, .int 3] (zPre g [] sz)) (va_Qi (fun (r : Int32) (_ : Nat) => r = ((p0 >>> ((24 : Int32).toInt64 &&& 63)) &&& 255).toInt32) (zPost g (fun _ : Nat => []) (va_A [] sz)) (va_A [] sz)) 0 0 (va_A [] sz) := by
  refine zMetI rfl (Nat.le_of_ble_eq_true rfl) ?_
  intro p e s m args below meth c A ls hx hb hml hr hlocks hin hown hts hK hN hZ hP hD hA hS hAe hl
  have hown : s.vm.findClass RX3 = some m.cls := hown
  have hl : lv_has ls 3 [(0, .long p0), (2, .int 3)] := hl
  refine lv_lload_n hx hb dX3_byteOf_0 rfl (lv_at hl 0 rfl) ?_
  refine lv_bipush (v := 8) hx hb dX3_byteOf_1 (by decide) ?_
  refine lv_iload_n hx hb dX3_byteOf_3 rfl (lv_at hl 1 rfl) ?_
  refine lv_imul hx hb dX3_byteOf_4 ?_
  refine lv_topi (nm_r (e' := 24) (by decide +kernel) ?_)
  refine lv_lshr (v := (p0 >>> ((24 : Int32).toInt64 &&& 63))) hx hb dX3_byteOf_5 rfl ?_
  refine lv_ldc2 (v := 255) hx hb hown (hts _ m_k_RX3_23) dX3_byteOf_6 ?_
  refine lv_land hx hb dX3_byteOf_9 ?_
  refine lv_l2i (v := ((p0 >>> ((24 : Int32).toInt64 &&& 63)) &&& 255).toInt32) hx hb dX3_byteOf_10 rfl ?_
  have hP9 := hP.sub (ws' := []) [] rfl
  have hD9 := hD.sub (ws' := []) [] (by decide) rfl
  exact W.iret (v := ((p0 >>> ((24 : Int32).toInt64 &&& 63)) &&& 255).toInt32) hx hb hr (fun t ht hW => ⟨⟨((p0 >>> ((24 : Int32).toInt64 &&& 63)) &&& 255).toInt32, 0, rfl, rfl, by rw [ht]; exact hP9, hD9⟩, hS.F ht⟩) hS.2.2 dX3_byteOf_11
set_option maxHeartbeats 4000000 in
set_option maxRecDepth 100000 in
theorem kX3_byteOf_62 (l : Launch) (g : zG) (sz : Nat) (p0 : Int64) : Met l yX3_byteOf (.code yX3_byteOf cX3_byteOf 3 (some .int) :: zBig) ({ frames := 0, cells := 0, slots := 0, locals := 0 }) (va_Pc [.long p0, .int 2] (zPre g [] sz)) (va_Qi (fun (r : Int32) (_ : Nat) => r = ((p0 >>> ((16 : Int32).toInt64 &&& 63)) &&& 255).toInt32) (zPost g (fun _ : Nat => []) (va_A [] sz)) (va_A [] sz)) 0 0 (va_A [] sz) := by
  refine zMetI rfl (Nat.le_of_ble_eq_true rfl) ?_
  intro p e s m args below meth c A ls hx hb hml hr hlocks hin hown hts hK hN hZ hP hD hA hS hAe hl
  have hown : s.vm.findClass RX3 = some m.cls := hown
  have hl : lv_has ls 3 [(0, .long p0), (2, .int 2)] := hl
  refine lv_lload_n hx hb dX3_byteOf_0 rfl (lv_at hl 0 rfl) ?_
  refine lv_bipush (v := 8) hx hb dX3_byteOf_1 (by decide) ?_
  refine lv_iload_n hx hb dX3_byteOf_3 rfl (lv_at hl 1 rfl) ?_
  refine lv_imul hx hb dX3_byteOf_4 ?_
  refine lv_topi (nm_r (e' := 16) (by decide +kernel) ?_)
  refine lv_lshr (v := (p0 >>> ((16 : Int32).toInt64 &&& 63))) hx hb dX3_byteOf_5 rfl ?_
  refine lv_ldc2 (v := 255) hx hb hown (hts _ m_k_RX3_23) dX3_byteOf_6 ?_
  refine lv_land hx hb dX3_byteOf_9 ?_
  refine lv_l2i (v := ((p0 >>> ((16 : Int32).toInt64 &&& 63)) &&& 255).toInt32) hx hb dX3_byteOf_10 rfl ?_
  have hP9 := hP.sub (ws' := []) [] rfl
  have hD9 := hD.sub (ws' := []) [] (by decide) rfl
  exact W.iret (v := ((p0 >>> ((16 : Int32).toInt64 &&& 63)) &&& 255).toInt32) hx hb hr (fun t ht hW => ⟨⟨((p0 >>> ((16 : Int32).toInt64 &&& 63)) &&& 255).toInt32, 0, rfl, rfl, by rw [ht]; exact hP9, hD9⟩, hS.F ht⟩) hS.2.2 dX3_byteOf_11
set_option maxHeartbeats 4000000 in
set_option maxRecDepth 100000 in
theorem kX3_byteOf_63 (l : Launch) (g : zG) (sz : Nat) (p0 : Int64) : Met l yX3_byteOf (.code yX3_byteOf cX3_byteOf 3 (some .int) :: zBig) ({ frames := 0, cells := 0, slots := 0, locals := 0 }) (va_Pc [.long p0, .int 1] (zPre g [] sz)) (va_Qi (fun (r : Int32) (_ : Nat) => r = ((p0 >>> ((8 : Int32).toInt64 &&& 63)) &&& 255).toInt32) (zPost g (fun _ : Nat => []) (va_A [] sz)) (va_A [] sz)) 0 0 (va_A [] sz) := by
  refine zMetI rfl (Nat.le_of_ble_eq_true rfl) ?_
  intro p e s m args below meth c A ls hx hb hml hr hlocks hin hown hts hK hN hZ hP hD hA hS hAe hl
  have hown : s.vm.findClass RX3 = some m.cls := hown
  have hl : lv_has ls 3 [(0, .long p0), (2, .int 1)] := hl
  refine lv_lload_n hx hb dX3_byteOf_0 rfl (lv_at hl 0 rfl) ?_
  refine lv_bipush (v := 8) hx hb dX3_byteOf_1 (by decide) ?_
  refine lv_iload_n hx hb dX3_byteOf_3 rfl (lv_at hl 1 rfl) ?_
  refine lv_imul hx hb dX3_byteOf_4 ?_
  refine lv_topi (nm_r (e' := 8) (by decide +kernel) ?_)
  refine lv_lshr (v := (p0 >>> ((8 : Int32).toInt64 &&& 63))) hx hb dX3_byteOf_5 rfl ?_
  refine lv_ldc2 (v := 255) hx hb hown (hts _ m_k_RX3_23) dX3_byteOf_6 ?_
  refine lv_land hx hb dX3_byteOf_9 ?_
  refine lv_l2i (v := ((p0 >>> ((8 : Int32).toInt64 &&& 63)) &&& 255).toInt32) hx hb dX3_byteOf_10 rfl ?_
  have hP9 := hP.sub (ws' := []) [] rfl
  have hD9 := hD.sub (ws' := []) [] (by decide) rfl
  exact W.iret (v := ((p0 >>> ((8 : Int32).toInt64 &&& 63)) &&& 255).toInt32) hx hb hr (fun t ht hW => ⟨⟨((p0 >>> ((8 : Int32).toInt64 &&& 63)) &&& 255).toInt32, 0, rfl, rfl, by rw [ht]; exact hP9, hD9⟩, hS.F ht⟩) hS.2.2 dX3_byteOf_11
set_option maxHeartbeats 4000000 in
set_option maxRecDepth 100000 in
theorem kX3_byteOf_64 (l : Launch) (g : zG) (sz : Nat) (p0 : Int64) : Met l yX3_byteOf (.code yX3_byteOf cX3_byteOf 3 (some .int) :: zBig) ({ frames := 0, cells := 0, slots := 0, locals := 0 }) (va_Pc [.long p0, .int 0] (zPre g [] sz)) (va_Qi (fun (r : Int32) (_ : Nat) => r = ((p0 >>> ((0 : Int32).toInt64 &&& 63)) &&& 255).toInt32) (zPost g (fun _ : Nat => []) (va_A [] sz)) (va_A [] sz)) 0 0 (va_A [] sz) := by
  refine zMetI rfl (Nat.le_of_ble_eq_true rfl) ?_
  intro p e s m args below meth c A ls hx hb hml hr hlocks hin hown hts hK hN hZ hP hD hA hS hAe hl
  have hown : s.vm.findClass RX3 = some m.cls := hown
  have hl : lv_has ls 3 [(0, .long p0), (2, .int 0)] := hl
  refine lv_lload_n hx hb dX3_byteOf_0 rfl (lv_at hl 0 rfl) ?_
  refine lv_bipush (v := 8) hx hb dX3_byteOf_1 (by decide) ?_
  refine lv_iload_n hx hb dX3_byteOf_3 rfl (lv_at hl 1 rfl) ?_
  refine lv_imul hx hb dX3_byteOf_4 ?_
  refine lv_topi (nm_r (e' := 0) (by decide +kernel) ?_)
  refine lv_lshr (v := (p0 >>> ((0 : Int32).toInt64 &&& 63))) hx hb dX3_byteOf_5 rfl ?_
  refine lv_ldc2 (v := 255) hx hb hown (hts _ m_k_RX3_23) dX3_byteOf_6 ?_
  refine lv_land hx hb dX3_byteOf_9 ?_
  refine lv_l2i (v := ((p0 >>> ((0 : Int32).toInt64 &&& 63)) &&& 255).toInt32) hx hb dX3_byteOf_10 rfl ?_
  have hP9 := hP.sub (ws' := []) [] rfl
  have hD9 := hD.sub (ws' := []) [] (by decide) rfl
  exact W.iret (v := ((p0 >>> ((0 : Int32).toInt64 &&& 63)) &&& 255).toInt32) hx hb hr (fun t ht hW => ⟨⟨((p0 >>> ((0 : Int32).toInt64 &&& 63)) &&& 255).toInt32, 0, rfl, rfl, by rw [ht]; exact hP9, hD9⟩, hS.F ht⟩) hS.2.2 dX3_byteOf_11
set_option maxHeartbeats 4000000 in
set_option maxRecDepth 100000 in
theorem kX3_byteOf_65 (l : Launch) (g : zG) (sz : Nat) (p0 : Int64) : Met l yX3_byteOf (.code yX3_byteOf cX3_byteOf 3 (some .int) :: zBig) ({ frames := 0, cells := 0, slots := 0, locals := 0 }) (va_Pc [.long p0, .int 7] (zPre g [] sz)) (va_Qi (fun (r : Int32) (_ : Nat) => r = ((p0 >>> ((56 : Int32).toInt64 &&& 63)) &&& 255).toInt32) (zPost g (fun _ : Nat => []) (va_A [] sz)) (va_A [] sz)) 0 0 (va_A [] sz) := by
  refine zMetI rfl (Nat.le_of_ble_eq_true rfl) ?_
  intro p e s m args below meth c A ls hx hb hml hr hlocks hin hown hts hK hN hZ hP hD hA hS hAe hl
  have hown : s.vm.findClass RX3 = some m.cls := hown
  have hl : lv_has ls 3 [(0, .long p0), (2, .int 7)] := hl
  refine lv_lload_n hx hb dX3_byteOf_0 rfl (lv_at hl 0 rfl) ?_
  refine lv_bipush (v := 8) hx hb dX3_byteOf_1 (by decide) ?_
  refine lv_iload_n hx hb dX3_byteOf_3 rfl (lv_at hl 1 rfl) ?_
  refine lv_imul hx hb dX3_byteOf_4 ?_
  refine lv_topi (nm_r (e' := 56) (by decide +kernel) ?_)
  refine lv_lshr (v := (p0 >>> ((56 : Int32).toInt64 &&& 63))) hx hb dX3_byteOf_5 rfl ?_
  refine lv_ldc2 (v := 255) hx hb hown (hts _ m_k_RX3_23) dX3_byteOf_6 ?_
  refine lv_land hx hb dX3_byteOf_9 ?_
  refine lv_l2i (v := ((p0 >>> ((56 : Int32).toInt64 &&& 63)) &&& 255).toInt32) hx hb dX3_byteOf_10 rfl ?_
  have hP9 := hP.sub (ws' := []) [] rfl
  have hD9 := hD.sub (ws' := []) [] (by decide) rfl
  exact W.iret (v := ((p0 >>> ((56 : Int32).toInt64 &&& 63)) &&& 255).toInt32) hx hb hr (fun t ht hW => ⟨⟨((p0 >>> ((56 : Int32).toInt64 &&& 63)) &&& 255).toInt32, 0, rfl, rfl, by rw [ht]; exact hP9, hD9⟩, hS.F ht⟩) hS.2.2 dX3_byteOf_11
set_option maxHeartbeats 4000000 in
set_option maxRecDepth 100000 in
theorem kX3_byteOf_66 (l : Launch) (g : zG) (sz : Nat) (p0 : Int64) : Met l yX3_byteOf (.code yX3_byteOf cX3_byteOf 3 (some .int) :: zBig) ({ frames := 0, cells := 0, slots := 0, locals := 0 }) (va_Pc [.long p0, .int 6] (zPre g [] sz)) (va_Qi (fun (r : Int32) (_ : Nat) => r = ((p0 >>> ((48 : Int32).toInt64 &&& 63)) &&& 255).toInt32) (zPost g (fun _ : Nat => []) (va_A [] sz)) (va_A [] sz)) 0 0 (va_A [] sz) := by
  refine zMetI rfl (Nat.le_of_ble_eq_true rfl) ?_
  intro p e s m args below meth c A ls hx hb hml hr hlocks hin hown hts hK hN hZ hP hD hA hS hAe hl
  have hown : s.vm.findClass RX3 = some m.cls := hown
  have hl : lv_has ls 3 [(0, .long p0), (2, .int 6)] := hl
  refine lv_lload_n hx hb dX3_byteOf_0 rfl (lv_at hl 0 rfl) ?_
  refine lv_bipush (v := 8) hx hb dX3_byteOf_1 (by decide) ?_
  refine lv_iload_n hx hb dX3_byteOf_3 rfl (lv_at hl 1 rfl) ?_
  refine lv_imul hx hb dX3_byteOf_4 ?_
  refine lv_topi (nm_r (e' := 48) (by decide +kernel) ?_)
  refine lv_lshr (v := (p0 >>> ((48 : Int32).toInt64 &&& 63))) hx hb dX3_byteOf_5 rfl ?_
  refine lv_ldc2 (v := 255) hx hb hown (hts _ m_k_RX3_23) dX3_byteOf_6 ?_
  refine lv_land hx hb dX3_byteOf_9 ?_
  refine lv_l2i (v := ((p0 >>> ((48 : Int32).toInt64 &&& 63)) &&& 255).toInt32) hx hb dX3_byteOf_10 rfl ?_
  have hP9 := hP.sub (ws' := []) [] rfl
  have hD9 := hD.sub (ws' := []) [] (by decide) rfl
  exact W.iret (v := ((p0 >>> ((48 : Int32).toInt64 &&& 63)) &&& 255).toInt32) hx hb hr (fun t ht hW => ⟨⟨((p0 >>> ((48 : Int32).toInt64 &&& 63)) &&& 255).toInt32, 0, rfl, rfl, by rw [ht]; exact hP9, hD9⟩, hS.F ht⟩) hS.2.2 dX3_byteOf_11
set_option maxHeartbeats 4000000 in
set_option maxRecDepth 100000 in
theorem kX3_byteOf_67 (l : Launch) (g : zG) (sz : Nat) (p0 : Int64) : Met l yX3_byteOf (.code yX3_byteOf cX3_byteOf 3 (some .int) :: zBig) ({ frames := 0, cells := 0, slots := 0, locals := 0 }) (va_Pc [.long p0, .int 5] (zPre g [] sz)) (va_Qi (fun (r : Int32) (_ : Nat) => r = ((p0 >>> ((40 : Int32).toInt64 &&& 63)) &&& 255).toInt32) (zPost g (fun _ : Nat => []) (va_A [] sz)) (va_A [] sz)) 0 0 (va_A [] sz) := by
  refine zMetI rfl (Nat.le_of_ble_eq_true rfl) ?_
  intro p e s m args below meth c A ls hx hb hml hr hlocks hin hown hts hK hN hZ hP hD hA hS hAe hl
  have hown : s.vm.findClass RX3 = some m.cls := hown
  have hl : lv_has ls 3 [(0, .long p0), (2, .int 5)] := hl
  refine lv_lload_n hx hb dX3_byteOf_0 rfl (lv_at hl 0 rfl) ?_
  refine lv_bipush (v := 8) hx hb dX3_byteOf_1 (by decide) ?_
  refine lv_iload_n hx hb dX3_byteOf_3 rfl (lv_at hl 1 rfl) ?_
  refine lv_imul hx hb dX3_byteOf_4 ?_
  refine lv_topi (nm_r (e' := 40) (by decide +kernel) ?_)
  refine lv_lshr (v := (p0 >>> ((40 : Int32).toInt64 &&& 63))) hx hb dX3_byteOf_5 rfl ?_
  refine lv_ldc2 (v := 255) hx hb hown (hts _ m_k_RX3_23) dX3_byteOf_6 ?_
  refine lv_land hx hb dX3_byteOf_9 ?_
  refine lv_l2i (v := ((p0 >>> ((40 : Int32).toInt64 &&& 63)) &&& 255).toInt32) hx hb dX3_byteOf_10 rfl ?_
  have hP9 := hP.sub (ws' := []) [] rfl
  have hD9 := hD.sub (ws' := []) [] (by decide) rfl
  exact W.iret (v := ((p0 >>> ((40 : Int32).toInt64 &&& 63)) &&& 255).toInt32) hx hb hr (fun t ht hW => ⟨⟨((p0 >>> ((40 : Int32).toInt64 &&& 63)) &&& 255).toInt32, 0, rfl, rfl, by rw [ht]; exact hP9, hD9⟩, hS.F ht⟩) hS.2.2 dX3_byteOf_11
set_option maxHeartbeats 4000000 in
set_option maxRecDepth 100000 in
theorem kX3_byteOf_68 (l : Launch) (g : zG) (sz : Nat) (p0 : Int64) : Met l yX3_byteOf (.code yX3_byteOf cX3_byteOf 3 (some .int) :: zBig) ({ frames := 0, cells := 0, slots := 0, locals := 0 }) (va_Pc [.long p0, .int 4] (zPre g [] sz)) (va_Qi (fun (r : Int32) (_ : Nat) => r = ((p0 >>> ((32 : Int32).toInt64 &&& 63)) &&& 255).toInt32) (zPost g (fun _ : Nat => []) (va_A [] sz)) (va_A [] sz)) 0 0 (va_A [] sz) := by
  refine zMetI rfl (Nat.le_of_ble_eq_true rfl) ?_
  intro p e s m args below meth c A ls hx hb hml hr hlocks hin hown hts hK hN hZ hP hD hA hS hAe hl
  have hown : s.vm.findClass RX3 = some m.cls := hown
  have hl : lv_has ls 3 [(0, .long p0), (2, .int 4)] := hl
  refine lv_lload_n hx hb dX3_byteOf_0 rfl (lv_at hl 0 rfl) ?_
  refine lv_bipush (v := 8) hx hb dX3_byteOf_1 (by decide) ?_
  refine lv_iload_n hx hb dX3_byteOf_3 rfl (lv_at hl 1 rfl) ?_
  refine lv_imul hx hb dX3_byteOf_4 ?_
  refine lv_topi (nm_r (e' := 32) (by decide +kernel) ?_)
  refine lv_lshr (v := (p0 >>> ((32 : Int32).toInt64 &&& 63))) hx hb dX3_byteOf_5 rfl ?_
  refine lv_ldc2 (v := 255) hx hb hown (hts _ m_k_RX3_23) dX3_byteOf_6 ?_
  refine lv_land hx hb dX3_byteOf_9 ?_
  refine lv_l2i (v := ((p0 >>> ((32 : Int32).toInt64 &&& 63)) &&& 255).toInt32) hx hb dX3_byteOf_10 rfl ?_
  have hP9 := hP.sub (ws' := []) [] rfl
  have hD9 := hD.sub (ws' := []) [] (by decide) rfl
  exact W.iret (v := ((p0 >>> ((32 : Int32).toInt64 &&& 63)) &&& 255).toInt32) hx hb hr (fun t ht hW => ⟨⟨((p0 >>> ((32 : Int32).toInt64 &&& 63)) &&& 255).toInt32, 0, rfl, rfl, by rw [ht]; exact hP9, hD9⟩, hS.F ht⟩) hS.2.2 dX3_byteOf_11
set_option maxHeartbeats 4000000 in
set_option maxRecDepth 100000 in
theorem kX3_byteOf_69 (l : Launch) (g : zG) (sz : Nat) (p0 : Int64) : Met l yX3_byteOf (.code yX3_byteOf cX3_byteOf 3 (some .int) :: zBig) ({ frames := 0, cells := 0, slots := 0, locals := 0 }) (va_Pc [.long p0, .int 3] (zPre g [] sz)) (va_Qi (fun (r : Int32) (_ : Nat) => r = ((p0 >>> ((24 : Int32).toInt64 &&& 63)) &&& 255).toInt32) (zPost g (fun _ : Nat => []) (va_A [] sz)) (va_A [] sz)) 0 0 (va_A [] sz) := by
  refine zMetI rfl (Nat.le_of_ble_eq_true rfl) ?_
  intro p e s m args below meth c A ls hx hb hml hr hlocks hin hown hts hK hN hZ hP hD hA hS hAe hl
  have hown : s.vm.findClass RX3 = some m.cls := hown
  have hl : lv_has ls 3 [(0, .long p0), (2, .int 3)] := hl
  refine lv_lload_n hx hb dX3_byteOf_0 rfl (lv_at hl 0 rfl) ?_
  refine lv_bipush (v := 8) hx hb dX3_byteOf_1 (by decide) ?_
  refine lv_iload_n hx hb dX3_byteOf_3 rfl (lv_at hl 1 rfl) ?_
  refine lv_imul hx hb dX3_byteOf_4 ?_
  refine lv_topi (nm_r (e' := 24) (by decide +kernel) ?_)
  refine lv_lshr (v := (p0 >>> ((24 : Int32).toInt64 &&& 63))) hx hb dX3_byteOf_5 rfl ?_
  refine lv_ldc2 (v := 255) hx hb hown (hts _ m_k_RX3_23) dX3_byteOf_6 ?_
  refine lv_land hx hb dX3_byteOf_9 ?_
  refine lv_l2i (v := ((p0 >>> ((24 : Int32).toInt64 &&& 63)) &&& 255).toInt32) hx hb dX3_byteOf_10 rfl ?_
  have hP9 := hP.sub (ws' := []) [] rfl
  have hD9 := hD.sub (ws' := []) [] (by decide) rfl
  exact W.iret (v := ((p0 >>> ((24 : Int32).toInt64 &&& 63)) &&& 255).toInt32) hx hb hr (fun t ht hW => ⟨⟨((p0 >>> ((24 : Int32).toInt64 &&& 63)) &&& 255).toInt32, 0, rfl, rfl, by rw [ht]; exact hP9, hD9⟩, hS.F ht⟩) hS.2.2 dX3_byteOf_11
set_option maxHeartbeats 4000000 in
set_option maxRecDepth 100000 in
theorem kX3_byteOf_70 (l : Launch) (g : zG) (sz : Nat) (p0 : Int64) : Met l yX3_byteOf (.code yX3_byteOf cX3_byteOf 3 (some .int) :: zBig) ({ frames := 0, cells := 0, slots := 0, locals := 0 }) (va_Pc [.long p0, .int 2] (zPre g [] sz)) (va_Qi (fun (r : Int32) (_ : Nat) => r = ((p0 >>> ((16 : Int32).toInt64 &&& 63)) &&& 255).toInt32) (zPost g (fun _ : Nat => []) (va_A [] sz)) (va_A [] sz)) 0 0 (va_A [] sz) := by
  refine zMetI rfl (Nat.le_of_ble_eq_true rfl) ?_
  intro p e s m args below meth c A ls hx hb hml hr hlocks hin hown hts hK hN hZ hP hD hA hS hAe hl
  have hown : s.vm.findClass RX3 = some m.cls := hown
  have hl : lv_has ls 3 [(0, .long p0), (2, .int 2)] := hl
  refine lv_lload_n hx hb dX3_byteOf_0 rfl (lv_at hl 0 rfl) ?_
  refine lv_bipush (v := 8) hx hb dX3_byteOf_1 (by decide) ?_
  refine lv_iload_n hx hb dX3_byteOf_3 rfl (lv_at hl 1 rfl) ?_
  refine lv_imul hx hb dX3_byteOf_4 ?_
  refine lv_topi (nm_r (e' := 16) (by decide +kernel) ?_)
  refine lv_lshr (v := (p0 >>> ((16 : Int32).toInt64 &&& 63))) hx hb dX3_byteOf_5 rfl ?_
  refine lv_ldc2 (v := 255) hx hb hown (hts _ m_k_RX3_23) dX3_byteOf_6 ?_
  refine lv_land hx hb dX3_byteOf_9 ?_
  refine lv_l2i (v := ((p0 >>> ((16 : Int32).toInt64 &&& 63)) &&& 255).toInt32) hx hb dX3_byteOf_10 rfl ?_
  have hP9 := hP.sub (ws' := []) [] rfl
  have hD9 := hD.sub (ws' := []) [] (by decide) rfl
  exact W.iret (v := ((p0 >>> ((16 : Int32).toInt64 &&& 63)) &&& 255).toInt32) hx hb hr (fun t ht hW => ⟨⟨((p0 >>> ((16 : Int32).toInt64 &&& 63)) &&& 255).toInt32, 0, rfl, rfl, by rw [ht]; exact hP9, hD9⟩, hS.F ht⟩) hS.2.2 dX3_byteOf_11
set_option maxHeartbeats 4000000 in
set_option maxRecDepth 100000 in
theorem kX3_byteOf_71 (l : Launch) (g : zG) (sz : Nat) (p0 : Int64) : Met l yX3_byteOf (.code yX3_byteOf cX3_byteOf 3 (some .int) :: zBig) ({ frames := 0, cells := 0, slots := 0, locals := 0 }) (va_Pc [.long p0, .int 1] (zPre g [] sz)) (va_Qi (fun (r : Int32) (_ : Nat) => r = ((p0 >>> ((8 : Int32).toInt64 &&& 63)) &&& 255).toInt32) (zPost g (fun _ : Nat => []) (va_A [] sz)) (va_A [] sz)) 0 0 (va_A [] sz) := by
  refine zMetI rfl (Nat.le_of_ble_eq_true rfl) ?_
  intro p e s m args below meth c A ls hx hb hml hr hlocks hin hown hts hK hN hZ hP hD hA hS hAe hl
  have hown : s.vm.findClass RX3 = some m.cls := hown
  have hl : lv_has ls 3 [(0, .long p0), (2, .int 1)] := hl
  refine lv_lload_n hx hb dX3_byteOf_0 rfl (lv_at hl 0 rfl) ?_
  refine lv_bipush (v := 8) hx hb dX3_byteOf_1 (by decide) ?_
  refine lv_iload_n hx hb dX3_byteOf_3 rfl (lv_at hl 1 rfl) ?_
  refine lv_imul hx hb dX3_byteOf_4 ?_
  refine lv_topi (nm_r (e' := 8) (by decide +kernel) ?_)
  refine lv_lshr (v := (p0 >>> ((8 : Int32).toInt64 &&& 63))) hx hb dX3_byteOf_5 rfl ?_
  refine lv_ldc2 (v := 255) hx hb hown (hts _ m_k_RX3_23) dX3_byteOf_6 ?_
  refine lv_land hx hb dX3_byteOf_9 ?_
  refine lv_l2i (v := ((p0 >>> ((8 : Int32).toInt64 &&& 63)) &&& 255).toInt32) hx hb dX3_byteOf_10 rfl ?_
  have hP9 := hP.sub (ws' := []) [] rfl
  have hD9 := hD.sub (ws' := []) [] (by decide) rfl
  exact W.iret (v := ((p0 >>> ((8 : Int32).toInt64 &&& 63)) &&& 255).toInt32) hx hb hr (fun t ht hW => ⟨⟨((p0 >>> ((8 : Int32).toInt64 &&& 63)) &&& 255).toInt32, 0, rfl, rfl, by rw [ht]; exact hP9, hD9⟩, hS.F ht⟩) hS.2.2 dX3_byteOf_11
set_option maxHeartbeats 4000000 in
set_option maxRecDepth 100000 in
theorem kX3_byteOf_72 (l : Launch) (g : zG) (sz : Nat) (p0 : Int64) : Met l yX3_byteOf (.code yX3_byteOf cX3_byteOf 3 (some .int) :: zBig) ({ frames := 0, cells := 0, slots := 0, locals := 0 }) (va_Pc [.long p0, .int 0] (zPre g [] sz)) (va_Qi (fun (r : Int32) (_ : Nat) => r = ((p0 >>> ((0 : Int32).toInt64 &&& 63)) &&& 255).toInt32) (zPost g (fun _ : Nat => []) (va_A [] sz)) (va_A [] sz)) 0 0 (va_A [] sz) := by
  refine zMetI rfl (Nat.le_of_ble_eq_true rfl) ?_
  intro p e s m args below meth c A ls hx hb hml hr hlocks hin hown hts hK hN hZ hP hD hA hS hAe hl
  have hown : s.vm.findClass RX3 = some m.cls := hown
  have hl : lv_has ls 3 [(0, .long p0), (2, .int 0)] := hl
  refine lv_lload_n hx hb dX3_byteOf_0 rfl (lv_at hl 0 rfl) ?_
  refine lv_bipush (v := 8) hx hb dX3_byteOf_1 (by decide) ?_
  refine lv_iload_n hx hb dX3_byteOf_3 rfl (lv_at hl 1 rfl) ?_
  refine lv_imul hx hb dX3_byteOf_4 ?_
  refine lv_topi (nm_r (e' := 0) (by decide +kernel) ?_)
  refine lv_lshr (v := (p0 >>> ((0 : Int32).toInt64 &&& 63))) hx hb dX3_byteOf_5 rfl ?_
  refine lv_ldc2 (v := 255) hx hb hown (hts _ m_k_RX3_23) dX3_byteOf_6 ?_
  refine lv_land hx hb dX3_byteOf_9 ?_
  refine lv_l2i (v := ((p0 >>> ((0 : Int32).toInt64 &&& 63)) &&& 255).toInt32) hx hb dX3_byteOf_10 rfl ?_
  have hP9 := hP.sub (ws' := []) [] rfl
  have hD9 := hD.sub (ws' := []) [] (by decide) rfl
  exact W.iret (v := ((p0 >>> ((0 : Int32).toInt64 &&& 63)) &&& 255).toInt32) hx hb hr (fun t ht hW => ⟨⟨((p0 >>> ((0 : Int32).toInt64 &&& 63)) &&& 255).toInt32, 0, rfl, rfl, by rw [ht]; exact hP9, hD9⟩, hS.F ht⟩) hS.2.2 dX3_byteOf_11
set_option maxHeartbeats 4000000 in
set_option maxRecDepth 100000 in
theorem kX3_append (l : Launch) (g : zG) (h0 h37 : Nat) (sz : Nat) (p1 : Int64) (p2 : Int32) : Met l yX3_append (.code yX3_append cX3_append 6 (some .int) :: zBig) ({ frames := 1, cells := 0, slots := 0, locals := 22 }) (va_Pc [.ref h0, .long p1, .int p2] (zPre g [(h0, .inr (3, [.ref h37, .int 0])), (h37, .inl (zB g, 60, .inl (fun _ => 0)))] sz)) (va_Qi (fun (r : Int32) (_ : Nat) => (p2.toInt < 1 ∧ r = (-1)) ∨ (1 ≤ p2.toInt ∧ p2.toInt ≤ 8 ∧ (((p1 >>> ((0 : Int32).toInt64 &&& 63)) &&& 255) : Int64).toInt < 32 ∧ r = (-1)) ∨ (1 ≤ p2.toInt ∧ p2.toInt ≤ 8 ∧ 32 ≤ (((p1 >>> ((0 : Int32).toInt64 &&& 63)) &&& 255) : Int64).toInt ∧ (((p1 >>> ((0 : Int32).toInt64 &&& 63)) &&& 255) : Int64).toInt ≤ 126 ∧ p2.toInt ≤ 1 ∧ r = 1) ∨ (1 ≤ p2.toInt ∧ p2.toInt ≤ 8 ∧ 32 ≤ (((p1 >>> ((0 : Int32).toInt64 &&& 63)) &&& 255) : Int64).toInt ∧ (((p1 >>> ((0 : Int32).toInt64 &&& 63)) &&& 255) : Int64).toInt ≤ 126 ∧ 1 < p2.toInt ∧ (((p1 >>> ((8 : Int32).toInt64 &&& 63)) &&& 255) : Int64).toInt < 32 ∧ r = (-1)) ∨ (1 ≤ p2.toInt ∧ p2.toInt ≤ 8 ∧ 32 ≤ (((p1 >>> ((0 : Int32).toInt64 &&& 63)) &&& 255) : Int64).toInt ∧ (((p1 >>> ((0 : Int32).toInt64 &&& 63)) &&& 255) : Int64).toInt ≤ 126 ∧ 1 < p2.toInt ∧ 32 ≤ (((p1 >>> ((8 : Int32).toInt64 &&& 63)) &&& 255) : Int64).toInt ∧ (((p1 >>> ((8 : Int32).toInt64 &&& 63)) &&& 255) : Int64).toInt ≤ 126 ∧ p2.toInt ≤ 2 ∧ r = 2) ∨ (1 ≤ p2.toInt ∧ p2.toInt ≤ 8 ∧ 32 ≤ (((p1 >>> ((0 : Int32).toInt64 &&& 63)) &&& 255) : Int64).toInt ∧ (((p1 >>> ((0 : Int32).toInt64 &&& 63)) &&& 255) : Int64).toInt ≤ 126 ∧ 1 < p2.toInt ∧ 32 ≤ (((p1 >>> ((8 : Int32).toInt64 &&& 63)) &&& 255) : Int64).toInt ∧ (((p1 >>> ((8 : Int32).toInt64 &&& 63)) &&& 255) : Int64).toInt ≤ 126 ∧ 2 < p2.toInt ∧ (((p1 >>> ((16 : Int32).toInt64 &&& 63)) &&& 255) : Int64).toInt < 32 ∧ r = (-1)) ∨ (1 ≤ p2.toInt ∧ p2.toInt ≤ 8 ∧ 32 ≤ (((p1 >>> ((0 : Int32).toInt64 &&& 63)) &&& 255) : Int64).toInt ∧ (((p1 >>> ((0 : Int32).toInt64 &&& 63)) &&& 255) : Int64).toInt ≤ 126 ∧ 1 < p2.toInt ∧ 32 ≤ (((p1 >>> ((8 : Int32).toInt64 &&& 63)) &&& 255) : Int64).toInt ∧ (((p1 >>> ((8 : Int32).toInt64 &&& 63)) &&& 255) : Int64).toInt ≤ 126 ∧ 2 < p2.toInt ∧ 32 ≤ (((p1 >>> ((16 : Int32).toInt64 &&& 63)) &&& 255) : Int64).toInt ∧ (((p1 >>> ((16 : Int32).toInt64 &&& 63)) &&& 255) : Int64).toInt ≤ 126 ∧ p2.toInt ≤ 3 ∧ r = 3) ∨ (1 ≤ p2.toInt ∧ p2.toInt ≤ 8 ∧ 32 ≤ (((p1 >>> ((0 : Int32).toInt64 &&& 63)) &&& 255) : Int64).toInt ∧ (((p1 >>> ((0 : Int32).toInt64 &&& 63)) &&& 255) : Int64).toInt ≤ 126 ∧ 1 < p2.toInt ∧ 32 ≤ (((p1 >>> ((8 : Int32).toInt64 &&& 63)) &&& 255) : Int64).toInt ∧ (((p1 >>> ((8 : Int32).toInt64 &&& 63)) &&& 255) : Int64).toInt ≤ 126 ∧ 2 < p2.toInt ∧ 32 ≤ (((p1 >>> ((16 : Int32).toInt64 &&& 63)) &&& 255) : Int64).toInt ∧ (((p1 >>> ((16 : Int32).toInt64 &&& 63)) &&& 255) : Int64).toInt ≤ 126 ∧ 3 < p2.toInt ∧ (((p1 >>> ((24 : Int32).toInt64 &&& 63)) &&& 255) : Int64).toInt < 32 ∧ r = (-1)) ∨ (1 ≤ p2.toInt ∧ p2.toInt ≤ 8 ∧ 32 ≤ (((p1 >>> ((0 : Int32).toInt64 &&& 63)) &&& 255) : Int64).toInt ∧ (((p1 >>> ((0 : Int32).toInt64 &&& 63)) &&& 255) : Int64).toInt ≤ 126 ∧ 1 < p2.toInt ∧ 32 ≤ (((p1 >>> ((8 : Int32).toInt64 &&& 63)) &&& 255) : Int64).toInt ∧ (((p1 >>> ((8 : Int32).toInt64 &&& 63)) &&& 255) : Int64).toInt ≤ 126 ∧ 2 < p2.toInt ∧ 32 ≤ (((p1 >>> ((16 : Int32).toInt64 &&& 63)) &&& 255) : Int64).toInt ∧ (((p1 >>> ((16 : Int32).toInt64 &&& 63)) &&& 255) : Int64).toInt ≤ 126 ∧ 3 < p2.toInt ∧ 32 ≤ (((p1 >>> ((24 : Int32).toInt64 &&& 63)) &&& 255) : Int64).toInt ∧ (((p1 >>> ((24 : Int32).toInt64 &&& 63)) &&& 255) : Int64).toInt ≤ 126 ∧ p2.toInt ≤ 4 ∧ r = 4) ∨ (1 ≤ p2.toInt ∧ p2.toInt ≤ 8 ∧ 32 ≤ (((p1 >>> ((0 : Int32).toInt64 &&& 63)) &&& 255) : Int64).toInt ∧ (((p1 >>> ((0 : Int32).toInt64 &&& 63)) &&& 255) : Int64).toInt ≤ 126 ∧ 1 < p2.toInt ∧ 32 ≤ (((p1 >>> ((8 : Int32).toInt64 &&& 63)) &&& 255) : Int64).toInt ∧ (((p1 >>> ((8 : Int32).toInt64 &&& 63)) &&& 255) : Int64).toInt ≤ 126 ∧ 2 < p2.toInt ∧ 32 ≤ (((p1 >>> ((16 : Int32).toInt64 &&& 63)) &&& 255) : Int64).toInt ∧ (((p1 >>> ((16 : Int32).toInt64 &&& 63)) &&& 255) : Int64).toInt ≤ 126 ∧ 3 < p2.toInt ∧ 32 ≤ (((p1 >>> ((24 : Int32).toInt64 &&& 63)) &&& 255) : Int64).toInt ∧ (((p1 >>> ((24 : Int32).toInt64 &&& 63)) &&& 255) : Int64).toInt ≤ 126 ∧ 4 < p2.toInt ∧ (((p1 >>> ((32 : Int32).toInt64 &&& 63)) &&& 255) : Int64).toInt < 32 ∧ r = (-1)) ∨ (1 ≤ p2.toInt ∧ p2.toInt ≤ 8 ∧ 32 ≤ (((p1 >>> ((0 : Int32).toInt64 &&& 63)) &&& 255) : Int64).toInt ∧ (((p1 >>> ((0 : Int32).toInt64 &&& 63)) &&& 255) : Int64).toInt ≤ 126 ∧ 1 < p2.toInt ∧ 32 ≤ (((p1 >>> ((8 : Int32).toInt64 &&& 63)) &&& 255) : Int64).toInt ∧ (((p1 >>> ((8 : Int32).toInt64 &&& 63)) &&& 255) : Int64).toInt ≤ 126 ∧ 2 < p2.toInt ∧ 32 ≤ (((p1 >>> ((16 : Int32).toInt64 &&& 63)) &&& 255) : Int64).toInt ∧ (((p1 >>> ((16 : Int32).toInt64 &&& 63)) &&& 255) : Int64).toInt ≤ 126 ∧ 3 < p2.toInt ∧ 32 ≤ (((p1 >>> ((24 : Int32).toInt64 &&& 63)) &&& 255) : Int64).toInt ∧ (((p1 >>> ((24 : Int32).toInt64 &&& 63)) &&& 255) : Int64).toInt ≤ 126 ∧ 4 < p2.toInt ∧ 32 ≤ (((p1 >>> ((32 : Int32).toInt64 &&& 63)) &&& 255) : Int64).toInt ∧ (((p1 >>> ((32 : Int32).toInt64 &&& 63)) &&& 255) : Int64).toInt ≤ 126 ∧ p2.toInt ≤ 5 ∧ r = 5) ∨ (1 ≤ p2.toInt ∧ p2.toInt ≤ 8 ∧ 32 ≤ (((p1 >>> ((0 : Int32).toInt64 &&& 63)) &&& 255) : Int64).toInt ∧ (((p1 >>> ((0 : Int32).toInt64 &&& 63)) &&& 255) : Int64).toInt ≤ 126 ∧ 1 < p2.toInt ∧ 32 ≤ (((p1 >>> ((8 : Int32).toInt64 &&& 63)) &&& 255) : Int64).toInt ∧ (((p1 >>> ((8 : Int32).toInt64 &&& 63)) &&& 255) : Int64).toInt ≤ 126 ∧ 2 < p2.toInt ∧ 32 ≤ (((p1 >>> ((16 : Int32).toInt64 &&& 63)) &&& 255) : Int64).toInt ∧ (((p1 >>> ((16 : Int32).toInt64 &&& 63)) &&& 255) : Int64).toInt ≤ 126 ∧ 3 < p2.toInt ∧ 32 ≤ (((p1 >>> ((24 : Int32).toInt64 &&& 63)) &&& 255) : Int64).toInt ∧ (((p1 >>> ((24 : Int32).toInt64 &&& 63)) &&& 255) : Int64).toInt ≤ 126 ∧ 4 < p2.toInt ∧ 32 ≤ (((p1 >>> ((32 : Int32).toInt64 &&& 63)) &&& 255) : Int64).toInt ∧ (((p1 >>> ((32 : Int32).toInt64 &&& 63)) &&& 255) : Int64).toInt ≤ 126 ∧ 5 < p2.toInt ∧ (((p1 >>> ((40 : Int32).toInt64 &&& 63)) &&& 255) : Int64).toInt < 32 ∧ r = (-1)) ∨ (1 ≤ p2.toInt ∧ p2.toInt ≤ 8 ∧ 32 ≤ (((p1 >>> ((0 : Int32).toInt64 &&& 63)) &&& 255) : Int64).toInt ∧ (((p1 >>> ((0 : Int32).toInt64 &&& 63)) &&& 255) : Int64).toInt ≤ 126 ∧ 1 < p2.toInt ∧ 32 ≤ (((p1 >>> ((8 : Int32).toInt64 &&& 63)) &&& 255) : Int64).toInt ∧ (((p1 >>> ((8 : Int32).toInt64 &&& 63)) &&& 255) : Int64).toInt ≤ 126 ∧ 2 < p2.toInt ∧ 32 ≤ (((p1 >>> ((16 : Int32).toInt64 &&& 63)) &&& 255) : Int64).toInt ∧ (((p1 >>> ((16 : Int32).toInt64 &&& 63)) &&& 255) : Int64).toInt ≤ 126 ∧ 3 < p2.toInt ∧ 32 ≤ (((p1 >>> ((24 : Int32).toInt64 &&& 63)) &&& 255) : Int64).toInt ∧ (((p1 >>> ((24 : Int32).toInt64 &&& 63)) &&& 255) : Int64).toInt ≤ 126 ∧ 4 < p2.toInt ∧ 32 ≤ (((p1 >>> ((32 : Int32).toInt64 &&& 63)) &&& 255) : Int64).toInt ∧ (((p1 >>> ((32 : Int32).toInt64 &&& 63)) &&& 255) : Int64).toInt ≤ 126 ∧ 5 < p2.toInt ∧ 32 ≤ (((p1 >>> ((40 : Int32).toInt64 &&& 63)) &&& 255) : Int64).toInt ∧ (((p1 >>> ((40 : Int32).toInt64 &&& 63)) &&& 255) : Int64).toInt ≤ 126 ∧ p2.toInt ≤ 6 ∧ r = 6) ∨ (1 ≤ p2.toInt ∧ p2.toInt ≤ 8 ∧ 32 ≤ (((p1 >>> ((0 : Int32).toInt64 &&& 63)) &&& 255) : Int64).toInt ∧ (((p1 >>> ((0 : Int32).toInt64 &&& 63)) &&& 255) : Int64).toInt ≤ 126 ∧ 1 < p2.toInt ∧ 32 ≤ (((p1 >>> ((8 : Int32).toInt64 &&& 63)) &&& 255) : Int64).toInt ∧ (((p1 >>> ((8 : Int32).toInt64 &&& 63)) &&& 255) : Int64).toInt ≤ 126 ∧ 2 < p2.toInt ∧ 32 ≤ (((p1 >>> ((16 : Int32).toInt64 &&& 63)) &&& 255) : Int64).toInt ∧ (((p1 >>> ((16 : Int32).toInt64 &&& 63)) &&& 255) : Int64).toInt ≤ 126 ∧ 3 < p2.toInt ∧ 32 ≤ (((p1 >>> ((24 : Int32).toInt64 &&& 63)) &&& 255) : Int64).toInt ∧ (((p1 >>> ((24 : Int32).toInt64 &&& 63)) &&& 255) : Int64).toInt ≤ 126 ∧ 4 < p2.toInt ∧ 32 ≤ (((p1 >>> ((32 : Int32).toInt64 &&& 63)) &&& 255) : Int64).toInt ∧ (((p1 >>> ((32 : Int32).toInt64 &&& 63)) &&& 255) : Int64).toInt ≤ 126 ∧ 5 < p2.toInt ∧ 32 ≤ (((p1 >>> ((40 : Int32).toInt64 &&& 63)) &&& 255) : Int64).toInt ∧ (((p1 >>> ((40 : Int32).toInt64 &&& 63)) &&& 255) : Int64).toInt ≤ 126 ∧ 6 < p2.toInt ∧ (((p1 >>> ((48 : Int32).toInt64 &&& 63)) &&& 255) : Int64).toInt < 32 ∧ r = (-1)) ∨ (1 ≤ p2.toInt ∧ p2.toInt ≤ 8 ∧ 32 ≤ (((p1 >>> ((0 : Int32).toInt64 &&& 63)) &&& 255) : Int64).toInt ∧ (((p1 >>> ((0 : Int32).toInt64 &&& 63)) &&& 255) : Int64).toInt ≤ 126 ∧ 1 < p2.toInt ∧ 32 ≤ (((p1 >>> ((8 : Int32).toInt64 &&& 63)) &&& 255) : Int64).toInt ∧ (((p1 >>> ((8 : Int32).toInt64 &&& 63)) &&& 255) : Int64).toInt ≤ 126 ∧ 2 < p2.toInt ∧ 32 ≤ (((p1 >>> ((16 : Int32).toInt64 &&& 63)) &&& 255) : Int64).toInt ∧ (((p1 >>> ((16 : Int32).toInt64 &&& 63)) &&& 255) : Int64).toInt ≤ 126 ∧ 3 < p2.toInt ∧ 32 ≤ (((p1 >>> ((24 : Int32).toInt64 &&& 63)) &&& 255) : Int64).toInt ∧ (((p1 >>> ((24 : Int32).toInt64 &&& 63)) &&& 255) : Int64).toInt ≤ 126 ∧ 4 < p2.toInt ∧ 32 ≤ (((p1 >>> ((32 : Int32).toInt64 &&& 63)) &&& 255) : Int64).toInt ∧ (((p1 >>> ((32 : Int32).toInt64 &&& 63)) &&& 255) : Int64).toInt ≤ 126 ∧ 5 < p2.toInt ∧ 32 ≤ (((p1 >>> ((40 : Int32).toInt64 &&& 63)) &&& 255) : Int64).toInt ∧ (((p1 >>> ((40 : Int32).toInt64 &&& 63)) &&& 255) : Int64).toInt ≤ 126 ∧ 6 < p2.toInt ∧ 32 ≤ (((p1 >>> ((48 : Int32).toInt64 &&& 63)) &&& 255) : Int64).toInt ∧ (((p1 >>> ((48 : Int32).toInt64 &&& 63)) &&& 255) : Int64).toInt ≤ 126 ∧ p2.toInt ≤ 7 ∧ r = 7) ∨ (1 ≤ p2.toInt ∧ p2.toInt ≤ 8 ∧ 32 ≤ (((p1 >>> ((0 : Int32).toInt64 &&& 63)) &&& 255) : Int64).toInt ∧ (((p1 >>> ((0 : Int32).toInt64 &&& 63)) &&& 255) : Int64).toInt ≤ 126 ∧ 1 < p2.toInt ∧ 32 ≤ (((p1 >>> ((8 : Int32).toInt64 &&& 63)) &&& 255) : Int64).toInt ∧ (((p1 >>> ((8 : Int32).toInt64 &&& 63)) &&& 255) : Int64).toInt ≤ 126 ∧ 2 < p2.toInt ∧ 32 ≤ (((p1 >>> ((16 : Int32).toInt64 &&& 63)) &&& 255) : Int64).toInt ∧ (((p1 >>> ((16 : Int32).toInt64 &&& 63)) &&& 255) : Int64).toInt ≤ 126 ∧ 3 < p2.toInt ∧ 32 ≤ (((p1 >>> ((24 : Int32).toInt64 &&& 63)) &&& 255) : Int64).toInt ∧ (((p1 >>> ((24 : Int32).toInt64 &&& 63)) &&& 255) : Int64).toInt ≤ 126 ∧ 4 < p2.toInt ∧ 32 ≤ (((p1 >>> ((32 : Int32).toInt64 &&& 63)) &&& 255) : Int64).toInt ∧ (((p1 >>> ((32 : Int32).toInt64 &&& 63)) &&& 255) : Int64).toInt ≤ 126 ∧ 5 < p2.toInt ∧ 32 ≤ (((p1 >>> ((40 : Int32).toInt64 &&& 63)) &&& 255) : Int64).toInt ∧ (((p1 >>> ((40 : Int32).toInt64 &&& 63)) &&& 255) : Int64).toInt ≤ 126 ∧ 6 < p2.toInt ∧ 32 ≤ (((p1 >>> ((48 : Int32).toInt64 &&& 63)) &&& 255) : Int64).toInt ∧ (((p1 >>> ((48 : Int32).toInt64 &&& 63)) &&& 255) : Int64).toInt ≤ 126 ∧ 7 < p2.toInt ∧ (((p1 >>> ((56 : Int32).toInt64 &&& 63)) &&& 255) : Int64).toInt < 32 ∧ r = (-1)) ∨ (1 ≤ p2.toInt ∧ p2.toInt ≤ 8 ∧ 32 ≤ (((p1 >>> ((0 : Int32).toInt64 &&& 63)) &&& 255) : Int64).toInt ∧ (((p1 >>> ((0 : Int32).toInt64 &&& 63)) &&& 255) : Int64).toInt ≤ 126 ∧ 1 < p2.toInt ∧ 32 ≤ (((p1 >>> ((8 : Int32).toInt64 &&& 63)) &&& 255) : Int64).toInt ∧ (((p1 >>> ((8 : Int32).toInt64 &&& 63)) &&& 255) : Int64).toInt ≤ 126 ∧ 2 < p2.toInt ∧ 32 ≤ (((p1 >>> ((16 : Int32).toInt64 &&& 63)) &&& 255) : Int64).toInt ∧ (((p1 >>> ((16 : Int32).toInt64 &&& 63)) &&& 255) : Int64).toInt ≤ 126 ∧ 3 < p2.toInt ∧ 32 ≤ (((p1 >>> ((24 : Int32).toInt64 &&& 63)) &&& 255) : Int64).toInt ∧ (((p1 >>> ((24 : Int32).toInt64 &&& 63)) &&& 255) : Int64).toInt ≤ 126 ∧ 4 < p2.toInt ∧ 32 ≤ (((p1 >>> ((32 : Int32).toInt64 &&& 63)) &&& 255) : Int64).toInt ∧ (((p1 >>> ((32 : Int32).toInt64 &&& 63)) &&& 255) : Int64).toInt ≤ 126 ∧ 5 < p2.toInt ∧ 32 ≤ (((p1 >>> ((40 : Int32).toInt64 &&& 63)) &&& 255) : Int64).toInt ∧ (((p1 >>> ((40 : Int32).toInt64 &&& 63)) &&& 255) : Int64).toInt ≤ 126 ∧ 6 < p2.toInt ∧ 32 ≤ (((p1 >>> ((48 : Int32).toInt64 &&& 63)) &&& 255) : Int64).toInt ∧ (((p1 >>> ((48 : Int32).toInt64 &&& 63)) &&& 255) : Int64).toInt ≤ 126 ∧ 7 < p2.toInt ∧ 32 ≤ (((p1 >>> ((56 : Int32).toInt64 &&& 63)) &&& 255) : Int64).toInt ∧ (((p1 >>> ((56 : Int32).toInt64 &&& 63)) &&& 255) : Int64).toInt ≤ 126 ∧ r = 8) ∨ (1 ≤ p2.toInt ∧ p2.toInt ≤ 8 ∧ 32 ≤ (((p1 >>> ((0 : Int32).toInt64 &&& 63)) &&& 255) : Int64).toInt ∧ (((p1 >>> ((0 : Int32).toInt64 &&& 63)) &&& 255) : Int64).toInt ≤ 126 ∧ 1 < p2.toInt ∧ 32 ≤ (((p1 >>> ((8 : Int32).toInt64 &&& 63)) &&& 255) : Int64).toInt ∧ (((p1 >>> ((8 : Int32).toInt64 &&& 63)) &&& 255) : Int64).toInt ≤ 126 ∧ 2 < p2.toInt ∧ 32 ≤ (((p1 >>> ((16 : Int32).toInt64 &&& 63)) &&& 255) : Int64).toInt ∧ (((p1 >>> ((16 : Int32).toInt64 &&& 63)) &&& 255) : Int64).toInt ≤ 126 ∧ 3 < p2.toInt ∧ 32 ≤ (((p1 >>> ((24 : Int32).toInt64 &&& 63)) &&& 255) : Int64).toInt ∧ (((p1 >>> ((24 : Int32).toInt64 &&& 63)) &&& 255) : Int64).toInt ≤ 126 ∧ 4 < p2.toInt ∧ 32 ≤ (((p1 >>> ((32 : Int32).toInt64 &&& 63)) &&& 255) : Int64).toInt ∧ (((p1 >>> ((32 : Int32).toInt64 &&& 63)) &&& 255) : Int64).toInt ≤ 126 ∧ 5 < p2.toInt ∧ 32 ≤ (((p1 >>> ((40 : Int32).toInt64 &&& 63)) &&& 255) : Int64).toInt ∧ (((p1 >>> ((40 : Int32).toInt64 &&& 63)) &&& 255) : Int64).toInt ≤ 126 ∧ 6 < p2.toInt ∧ 32 ≤ (((p1 >>> ((48 : Int32).toInt64 &&& 63)) &&& 255) : Int64).toInt ∧ (((p1 >>> ((48 : Int32).toInt64 &&& 63)) &&& 255) : Int64).toInt ≤ 126 ∧ 7 < p2.toInt ∧ 32 ≤ (((p1 >>> ((56 : Int32).toInt64 &&& 63)) &&& 255) : Int64).toInt ∧ 126 < (((p1 >>> ((56 : Int32).toInt64 &&& 63)) &&& 255) : Int64).toInt ∧ r = (-1)) ∨ (1 ≤ p2.toInt ∧ p2.toInt ≤ 8 ∧ 32 ≤ (((p1 >>> ((0 : Int32).toInt64 &&& 63)) &&& 255) : Int64).toInt ∧ (((p1 >>> ((0 : Int32).toInt64 &&& 63)) &&& 255) : Int64).toInt ≤ 126 ∧ 1 < p2.toInt ∧ 32 ≤ (((p1 >>> ((8 : Int32).toInt64 &&& 63)) &&& 255) : Int64).toInt ∧ (((p1 >>> ((8 : Int32).toInt64 &&& 63)) &&& 255) : Int64).toInt ≤ 126 ∧ 2 < p2.toInt ∧ 32 ≤ (((p1 >>> ((16 : Int32).toInt64 &&& 63)) &&& 255) : Int64).toInt ∧ (((p1 >>> ((16 : Int32).toInt64 &&& 63)) &&& 255) : Int64).toInt ≤ 126 ∧ 3 < p2.toInt ∧ 32 ≤ (((p1 >>> ((24 : Int32).toInt64 &&& 63)) &&& 255) : Int64).toInt ∧ (((p1 >>> ((24 : Int32).toInt64 &&& 63)) &&& 255) : Int64).toInt ≤ 126 ∧ 4 < p2.toInt ∧ 32 ≤ (((p1 >>> ((32 : Int32).toInt64 &&& 63)) &&& 255) : Int64).toInt ∧ (((p1 >>> ((32 : Int32).toInt64 &&& 63)) &&& 255) : Int64).toInt ≤ 126 ∧ 5 < p2.toInt ∧ 32 ≤ (((p1 >>> ((40 : Int32).toInt64 &&& 63)) &&& 255) : Int64).toInt ∧ (((p1 >>> ((40 : Int32).toInt64 &&& 63)) &&& 255) : Int64).toInt ≤ 126 ∧ 6 < p2.toInt ∧ 32 ≤ (((p1 >>> ((48 : Int32).toInt64 &&& 63)) &&& 255) : Int64).toInt ∧ 126 < (((p1 >>> ((48 : Int32).toInt64 &&& 63)) &&& 255) : Int64).toInt ∧ r = (-1)) ∨ (1 ≤ p2.toInt ∧ p2.toInt ≤ 8 ∧ 32 ≤ (((p1 >>> ((0 : Int32).toInt64 &&& 63)) &&& 255) : Int64).toInt ∧ (((p1 >>> ((0 : Int32).toInt64 &&& 63)) &&& 255) : Int64).toInt ≤ 126 ∧ 1 < p2.toInt ∧ 32 ≤ (((p1 >>> ((8 : Int32).toInt64 &&& 63)) &&& 255) : Int64).toInt ∧ (((p1 >>> ((8 : Int32).toInt64 &&& 63)) &&& 255) : Int64).toInt ≤ 126 ∧ 2 < p2.toInt ∧ 32 ≤ (((p1 >>> ((16 : Int32).toInt64 &&& 63)) &&& 255) : Int64).toInt ∧ (((p1 >>> ((16 : Int32).toInt64 &&& 63)) &&& 255) : Int64).toInt ≤ 126 ∧ 3 < p2.toInt ∧ 32 ≤ (((p1 >>> ((24 : Int32).toInt64 &&& 63)) &&& 255) : Int64).toInt ∧ (((p1 >>> ((24 : Int32).toInt64 &&& 63)) &&& 255) : Int64).toInt ≤ 126 ∧ 4 < p2.toInt ∧ 32 ≤ (((p1 >>> ((32 : Int32).toInt64 &&& 63)) &&& 255) : Int64).toInt ∧ (((p1 >>> ((32 : Int32).toInt64 &&& 63)) &&& 255) : Int64).toInt ≤ 126 ∧ 5 < p2.toInt ∧ 32 ≤ (((p1 >>> ((40 : Int32).toInt64 &&& 63)) &&& 255) : Int64).toInt ∧ 126 < (((p1 >>> ((40 : Int32).toInt64 &&& 63)) &&& 255) : Int64).toInt ∧ r = (-1)) ∨ (1 ≤ p2.toInt ∧ p2.toInt ≤ 8 ∧ 32 ≤ (((p1 >>> ((0 : Int32).toInt64 &&& 63)) &&& 255) : Int64).toInt ∧ (((p1 >>> ((0 : Int32).toInt64 &&& 63)) &&& 255) : Int64).toInt ≤ 126 ∧ 1 < p2.toInt ∧ 32 ≤ (((p1 >>> ((8 : Int32).toInt64 &&& 63)) &&& 255) : Int64).toInt ∧ (((p1 >>> ((8 : Int32).toInt64 &&& 63)) &&& 255) : Int64).toInt ≤ 126 ∧ 2 < p2.toInt ∧ 32 ≤ (((p1 >>> ((16 : Int32).toInt64 &&& 63)) &&& 255) : Int64).toInt ∧ (((p1 >>> ((16 : Int32).toInt64 &&& 63)) &&& 255) : Int64).toInt ≤ 126 ∧ 3 < p2.toInt ∧ 32 ≤ (((p1 >>> ((24 : Int32).toInt64 &&& 63)) &&& 255) : Int64).toInt ∧ (((p1 >>> ((24 : Int32).toInt64 &&& 63)) &&& 255) : Int64).toInt ≤ 126 ∧ 4 < p2.toInt ∧ 32 ≤ (((p1 >>> ((32 : Int32).toInt64 &&& 63)) &&& 255) : Int64).toInt ∧ 126 < (((p1 >>> ((32 : Int32).toInt64 &&& 63)) &&& 255) : Int64).toInt ∧ r = (-1)) ∨ (1 ≤ p2.toInt ∧ p2.toInt ≤ 8 ∧ 32 ≤ (((p1 >>> ((0 : Int32).toInt64 &&& 63)) &&& 255) : Int64).toInt ∧ (((p1 >>> ((0 : Int32).toInt64 &&& 63)) &&& 255) : Int64).toInt ≤ 126 ∧ 1 < p2.toInt ∧ 32 ≤ (((p1 >>> ((8 : Int32).toInt64 &&& 63)) &&& 255) : Int64).toInt ∧ (((p1 >>> ((8 : Int32).toInt64 &&& 63)) &&& 255) : Int64).toInt ≤ 126 ∧ 2 < p2.toInt ∧ 32 ≤ (((p1 >>> ((16 : Int32).toInt64 &&& 63)) &&& 255) : Int64).toInt ∧ (((p1 >>> ((16 : Int32).toInt64 &&& 63)) &&& 255) : Int64).toInt ≤ 126 ∧ 3 < p2.toInt ∧ 32 ≤ (((p1 >>> ((24 : Int32).toInt64 &&& 63)) &&& 255) : Int64).toInt ∧ 126 < (((p1 >>> ((24 : Int32).toInt64 &&& 63)) &&& 255) : Int64).toInt ∧ r = (-1)) ∨ (1 ≤ p2.toInt ∧ p2.toInt ≤ 8 ∧ 32 ≤ (((p1 >>> ((0 : Int32).toInt64 &&& 63)) &&& 255) : Int64).toInt ∧ (((p1 >>> ((0 : Int32).toInt64 &&& 63)) &&& 255) : Int64).toInt ≤ 126 ∧ 1 < p2.toInt ∧ 32 ≤ (((p1 >>> ((8 : Int32).toInt64 &&& 63)) &&& 255) : Int64).toInt ∧ (((p1 >>> ((8 : Int32).toInt64 &&& 63)) &&& 255) : Int64).toInt ≤ 126 ∧ 2 < p2.toInt ∧ 32 ≤ (((p1 >>> ((16 : Int32).toInt64 &&& 63)) &&& 255) : Int64).toInt ∧ 126 < (((p1 >>> ((16 : Int32).toInt64 &&& 63)) &&& 255) : Int64).toInt ∧ r = (-1)) ∨ (1 ≤ p2.toInt ∧ p2.toInt ≤ 8 ∧ 32 ≤ (((p1 >>> ((0 : Int32).toInt64 &&& 63)) &&& 255) : Int64).toInt ∧ (((p1 >>> ((0 : Int32).toInt64 &&& 63)) &&& 255) : Int64).toInt ≤ 126 ∧ 1 < p2.toInt ∧ 32 ≤ (((p1 >>> ((8 : Int32).toInt64 &&& 63)) &&& 255) : Int64).toInt ∧ 126 < (((p1 >>> ((8 : Int32).toInt64 &&& 63)) &&& 255) : Int64).toInt ∧ r = (-1)) ∨ (1 ≤ p2.toInt ∧ p2.toInt ≤ 8 ∧ 32 ≤ (((p1 >>> ((0 : Int32).toInt64 &&& 63)) &&& 255) : Int64).toInt ∧ 126 < (((p1 >>> ((0 : Int32).toInt64 &&& 63)) &&& 255) : Int64).toInt ∧ r = (-1)) ∨ (1 ≤ p2.toInt ∧ 8 < p2.toInt ∧ r = (-1))) (zPost g (fun _ : Nat => []) (va_A [(h0, .inr (3, [.ref h37, .int 0])), (h37, .inl (zB g, 60, .inl (fun _ => 0)))] sz)) (va_A [(h0, .inr (3, [.ref h37, .int 0])), (h37, .inl (zB g, 60, .inl (fun _ => 0)))] sz)) 0 0 (va_A [(h0, .inr (3, [.ref h37, .int 0])), (h37, .inl (zB g, 60, .inl (fun _ => 0)))] sz) := by
  refine zMetI rfl (Nat.le_of_ble_eq_true rfl) ?_
  intro p e s m args below meth c A ls hx hb hml hr hlocks hin hown hts hK hN hZ hP hD hA hS hAe hl
  have hown : s.vm.findClass RX3 = some m.cls := hown
  have hl : lv_has ls 6 [(0, .ref h0), (1, .long p1), (3, .int p2)] := hl
  refine lv_iload_n hx hb dX3_append_0 rfl (lv_at hl 2 rfl) ?_
  refine lv_iconst (v := 1) hx hb dX3_append_1 (by decide) ?_
  refine lv_icmp_lt (tgt := 11) hx hb dX3_append_2 (by decide) (fun c_0 => ?_) (fun c_0 => ?_)
  · have i_0 : p2.toInt < 1 := z_lt (rfl) (rfl) c_0
    refine lv_iconst (v := (-1)) hx hb dX3_append_11 (by decide) ?_
    have hP9 := hP.sub (ws' := []) [] rfl
    have hD9 := hD.sub (ws' := []) [] (by decide) rfl
    exact W.iret (v := (-1)) hx hb hr (fun t ht hW => ⟨⟨(-1), 0, rfl, Or.inl ⟨i_0, rfl⟩, by rw [ht]; exact hP9, hD9⟩, hS.F ht⟩) hS.2.2 dX3_append_12
  · have i_0 : 1 ≤ p2.toInt := z_nlt (rfl) (rfl) c_0
    refine lv_iload_n hx hb dX3_append_5 rfl (lv_at hl 2 rfl) ?_
    refine lv_bipush (v := 8) hx hb dX3_append_6 (by decide) ?_
    refine lv_icmp_le (tgt := 13) hx hb dX3_append_8 (by decide) (fun c_1 => ?_) (fun c_1 => ?_)
    · have i_1 : p2.toInt ≤ 8 := z_le (rfl) (rfl) c_1
      refine lv_iconst (v := 0) hx hb dX3_append_13 (by decide) ?_
      refine lv_istore (lv' := [(4, .int 0), (0, .ref h0), (1, .long p1), (3, .int p2)]) hx hb dX3_append_14 hl (by decide) rfl (fun ls hl => ?_)
      refine lv_iload hx hb dX3_append_16 (lv_at hl 0 rfl) ?_
      refine lv_iload_n hx hb dX3_append_18 rfl (lv_at hl 3 rfl) ?_
      refine lv_icmp_ge (tgt := 52) hx hb dX3_append_19 (by decide) (fun c_2 => absurd (show p2.toInt ≤ 0 from z_le (rfl) (rfl) c_2) (by omega)) (fun c_2 => ?_)
      have i_2 : 0 < p2.toInt := z_nle (rfl) (rfl) c_2
      refine lv_lload_n hx hb dX3_append_22 rfl (lv_at hl 2 rfl) ?_
      refine lv_iload hx hb dX3_append_23 (lv_at hl 0 rfl) ?_
      refine z_calli (wr := [(h0, .inr (3, [.ref h37, .int 0])), (h37, .inl (zB g, 60, .inl (fun _ => 0)))]) hP hD hS hA [] [0, 1] (by decide) rfl rfl (by decide) (va_runS (As := [.long p1, .int 0]) (rest := []) ⟨hx, hb, hml, hown, hts⟩ (kX3_byteOf_37 l g  s.heap.size p1) ⟨callB_of 2 hts (zGood m_o_yX3_byteOf) rfl rfl rfl (hts _ m_z_RX3) (hts _ m_m_RX3_19) ⟨by decide +kernel, by decide +kernel, by decide +kernel⟩ ⟨Nat.le_of_ble_eq_true rfl, Nat.le_of_ble_eq_true rfl⟩, hts _ m_s_yX3_byteOf⟩ (zPreS hK hN hZ hP hD hS hA [] (by decide) rfl rfl) rfl rfl hl.1 rfl (lv_room (Nat.le_of_ble_eq_true rfl)) dX3_append_25 ⟨Nat.le_of_ble_eq_true rfl, Nat.le_of_ble_eq_true rfl⟩) (fun r u H locs hw hP hD hS => ?_)
      obtain rfl := hw
      have hP : va_P g.1 vwCl [(h0, .inr (3, [.ref h37, .int 0])), (h37, .inl (zB g, 60, .inl (fun _ => 0)))] H := hP
      have hD : va_D A [(h0, .inr (3, [.ref h37, .int 0])), (h37, .inl (zB g, 60, .inl (fun _ => 0)))] := hD
      refine lv_istore (lv' := [(5, .int (((p1 >>> ((0 : Int32).toInt64 &&& 63)) &&& 255).toInt32)), (4, .int 0), (0, .ref h0), (1, .long p1), (3, .int p2)]) hx hb dX3_append_28 hl (by decide) rfl (fun ls hl => ?_)
      refine lv_iload hx hb dX3_append_30 (lv_at hl 0 rfl) ?_
      refine lv_bipush (v := 32) hx hb dX3_append_32 (by decide) ?_
      refine lv_icmp_lt (tgt := 44) hx hb dX3_append_34 (by decide) (fun c_3 => ?_) (fun c_3 => ?_)
      · have i_3 : (((p1 >>> ((0 : Int32).toInt64 &&& 63)) &&& 255) : Int64).toInt < 32 := z_lt ((z_b255 _)) (rfl) c_3
        refine lv_iconst (v := (-1)) hx hb dX3_append_44 (by decide) ?_
        have hP9 := hP.sub (ws' := []) [] rfl
        have hD9 := hD.sub (ws' := []) [] (by decide) rfl
        exact W.iret (v := (-1)) hx hb hr (fun t ht hW => ⟨⟨(-1), 0, rfl, Or.inr (Or.inl ⟨i_0, i_1, i_3, rfl⟩), by rw [ht]; exact hP9, hD9⟩, hS.F ht⟩) hS.2.2 dX3_append_45
      · have i_3 : 32 ≤ (((p1 >>> ((0 : Int32).toInt64 &&& 63)) &&& 255) : Int64).toInt := z_nlt ((z_b255 _)) (rfl) c_3
        refine lv_iload hx hb dX3_append_37 (lv_at hl 0 rfl) ?_
        refine lv_bipush (v := 126) hx hb dX3_append_39 (by decide) ?_
        refine lv_icmp_le (tgt := 46) hx hb dX3_append_41 (by decide) (fun c_4 => ?_) (fun c_4 => ?_)
        · have i_4 : (((p1 >>> ((0 : Int32).toInt64 &&& 63)) &&& 255) : Int64).toInt ≤ 126 := z_le ((z_b255 _)) (rfl) c_4
          refine lv_iinc (v := 1) (lv' := [(4, .int 1), (5, .int (((p1 >>> ((0 : Int32).toInt64 &&& 63)) &&& 255).toInt32)), (0, .ref h0), (1, .long p1), (3, .int p2)]) hx hb dX3_append_46 hl (k := 1) rfl (by decide) (by decide) rfl (fun ls hl => ?_)
          refine lv_goto (tgt := 16) hx hb dX3_append_49 (by decide) ?_
          refine lv_iload hx hb dX3_append_16 (lv_at hl 0 rfl) ?_
          refine lv_iload_n hx hb dX3_append_18 rfl (lv_at hl 4 rfl) ?_
          refine lv_icmp_ge (tgt := 52) hx hb dX3_append_19 (by decide) (fun c_5 => ?_) (fun c_5 => ?_)
          · have i_5 : p2.toInt ≤ 1 := z_le (rfl) (rfl) c_5
            refine lv_aload_n hx hb dX3_append_52 rfl (lv_at hl 2 rfl) ?_
            refine va_get (D := g.1) (ci := 3) (v := .int 0) (C := RX3) (T := TX3) (N := 2) hx hb hts zl_X3 hown hK hP 0 rfl rfl 1 (by decide) (hts _ m_f_RX3_15) (fun _ h => h) rfl dX3_append_53 ?_
            refine lv_if_lt (tgt := 70) hx hb dX3_append_56 (by decide) (fun h => absurd h (by decide +kernel)) (fun _ => ?_)
            refine lv_aload_n hx hb dX3_append_59 rfl (lv_at hl 2 rfl) ?_
            refine va_get (D := g.1) (ci := 3) (v := .int 0) (C := RX3) (T := TX3) (N := 2) hx hb hts zl_X3 hown hK hP 0 rfl rfl 1 (by decide) (hts _ m_f_RX3_15) (fun _ h => h) rfl dX3_append_60 ?_
            refine lv_iload_n hx hb dX3_append_63 rfl (lv_at hl 4 rfl) ?_
            obtain rfl : p2 = 1 := Int32.toInt_inj.mp (show p2.toInt = (1 : Int32).toInt from (show p2.toInt = 1 by omega).trans rfl)
            refine lv_iadd hx hb dX3_append_64 ?_
            refine lv_topi (nm_r (e' := 1) (by decide +kernel) ?_)
            refine lv_bipush (v := 60) hx hb dX3_append_65 (by decide) ?_
            refine lv_icmp_le (tgt := 73) hx hb dX3_append_67 (by decide) (fun _ => ?_) (fun h => absurd h (by decide +kernel))
            refine lv_iload_n hx hb dX3_append_73 rfl (lv_at hl 4 rfl) ?_
            refine lv_iconst (v := 1) hx hb dX3_append_74 (by decide) ?_
            refine lv_isub hx hb dX3_append_75 ?_
            refine lv_topi (nm_r (e' := 0) (by decide +kernel) ?_)
            refine lv_istore (lv' := [(4, .int 0), (5, .int (((p1 >>> ((0 : Int32).toInt64 &&& 63)) &&& 255).toInt32)), (0, .ref h0), (1, .long p1), (3, .int 1)]) hx hb dX3_append_76 hl (by decide) rfl (fun ls hl => ?_)
            refine lv_iload hx hb dX3_append_78 (lv_at hl 0 rfl) ?_
            refine lv_if_lt (tgt := 115) hx hb dX3_append_80 (by decide) (fun h => absurd h (by decide +kernel)) (fun _ => ?_)
            refine lv_aload_n hx hb dX3_append_83 rfl (lv_at hl 2 rfl) ?_
            refine va_get (D := g.1) (ci := 3) (v := .ref h37) (C := RX3) (T := TX3) (N := 2) hx hb hts zl_X3 hown hK hP 0 rfl rfl 0 (by decide) (hts _ m_f_RX3_11) (fun _ h => h) rfl dX3_append_84 ?_
            refine lv_aload_n hx hb dX3_append_87 rfl (lv_at hl 2 rfl) ?_
            refine va_get (D := g.1) (ci := 3) (v := .int 0) (C := RX3) (T := TX3) (N := 2) hx hb hts zl_X3 hown hK hP 0 rfl rfl 1 (by decide) (hts _ m_f_RX3_15) (fun _ h => h) rfl dX3_append_88 ?_
            refine lv_lload_n hx hb dX3_append_91 rfl (lv_at hl 3 rfl) ?_
            refine lv_iload hx hb dX3_append_92 (lv_at hl 0 rfl) ?_
            refine z_calli (wr := [(h0, .inr (3, [.ref h37, .int 0])), (h37, .inl (zB g, 60, .inl (fun _ => 0)))]) hP hD hS hA [] [0, 1] (by decide) rfl rfl (by decide) (va_runS (As := [.long p1, .int 0]) (rest := [.int 0, .ref h37]) ⟨hx, hb, hml, hown, hts⟩ (kX3_byteOf_37 l g  H.size p1) ⟨callB_of 2 hts (zGood m_o_yX3_byteOf) rfl rfl rfl (hts _ m_z_RX3) (hts _ m_m_RX3_19) ⟨by decide +kernel, by decide +kernel, by decide +kernel⟩ ⟨Nat.le_of_ble_eq_true rfl, Nat.le_of_ble_eq_true rfl⟩, hts _ m_s_yX3_byteOf⟩ (zPreS hK hN hZ hP hD hS hA [] (by decide) rfl rfl) rfl rfl hl.1 rfl (lv_room (Nat.le_of_ble_eq_true rfl)) dX3_append_94 ⟨Nat.le_of_ble_eq_true rfl, Nat.le_of_ble_eq_true rfl⟩) (fun r u H locs hw hP hD hS => ?_)
            obtain rfl := hw
            have hP : va_P g.1 vwCl [(h0, .inr (3, [.ref h37, .int 0])), (h37, .inl (zB g, 60, .inl (fun _ => 0)))] H := hP
            have hD : va_D A [(h0, .inr (3, [.ref h37, .int 0])), (h37, .inl (zB g, 60, .inl (fun _ => 0)))] := hD
            refine lv_i2b (v := (((p1 >>> ((0 : Int32).toInt64 &&& 63)) &&& 255).toInt32).toInt8.toInt32) hx hb dX3_append_97 rfl ?_
            refine va_bast (D := g.1) hx hb hK hP hD hS 1 2 rfl rfl (vp_in_iff.mpr (by decide +kernel)) dX3_append_98 (fun H locs hP hD hS => ?_)
            have hP : va_P g.1 vwCl [(h0, .inr (3, [.ref h37, .int 0])), (h37, .inl (zB g, 60, .inl (upd (fun _ => 0) 0 (vp_nar .byte ((((p1 >>> ((0 : Int32).toInt64 &&& 63)) &&& 255).toInt32).toInt8.toInt32)))))] H := hP
            have hD : va_D A [(h0, .inr (3, [.ref h37, .int 0])), (h37, .inl (zB g, 60, .inl (upd (fun _ => 0) 0 (vp_nar .byte ((((p1 >>> ((0 : Int32).toInt64 &&& 63)) &&& 255).toInt32).toInt8.toInt32)))))] := hD
            refine lv_aload_n hx hb dX3_append_99 rfl (lv_at hl 2 rfl) ?_
            refine lv_dup hx hb dX3_append_100 rfl ?_
            refine va_get (D := g.1) (ci := 3) (v := .int 0) (C := RX3) (T := TX3) (N := 2) hx hb hts zl_X3 hown hK hP 0 rfl rfl 1 (by decide) (hts _ m_f_RX3_15) (fun _ h => h) rfl dX3_append_101 ?_
            refine lv_iconst (v := 1) hx hb dX3_append_104 (by decide) ?_
            refine lv_iadd hx hb dX3_append_105 ?_
            refine lv_topi (nm_r (e' := 1) (by decide +kernel) ?_)
            refine va_put (D := g.1) (ci := 3) (v := .int 1) (ty := .int) (C := RX3) (T := TX3) (N := 2) hx hb hts zl_X3 tyX3 tyX3_ok nmX3 hown hK hP hD hS 0 rfl rfl 1 (by decide) (hts _ m_f_RX3_15) (fun _ h => h) rfl (by decide +kernel) rfl rfl (Nat.le_of_ble_eq_true rfl) dX3_append_106 (fun H locs hP hD hS => ?_)
            have hP : va_P g.1 vwCl [(h0, .inr (3, [.ref h37, .int 1])), (h37, .inl (zB g, 60, .inl (upd (fun _ => 0) 0 (vp_nar .byte ((((p1 >>> ((0 : Int32).toInt64 &&& 63)) &&& 255).toInt32).toInt8.toInt32)))))] H := hP
            have hD : va_D A [(h0, .inr (3, [.ref h37, .int 1])), (h37, .inl (zB g, 60, .inl (upd (fun _ => 0) 0 (vp_nar .byte ((((p1 >>> ((0 : Int32).toInt64 &&& 63)) &&& 255).toInt32).toInt8.toInt32)))))] := hD
            refine lv_iinc (v := (-1)) (lv' := [(4, .int (-1)), (5, .int (((p1 >>> ((0 : Int32).toInt64 &&& 63)) &&& 255).toInt32)), (0, .ref h0), (1, .long p1), (3, .int 1)]) hx hb dX3_append_109 hl (k := 0) rfl (by decide) (by decide) rfl (fun ls hl => ?_)
            refine lv_goto (tgt := 78) hx hb dX3_append_112 (by decide) ?_
            refine lv_iload hx hb dX3_append_78 (lv_at hl 0 rfl) ?_
            refine lv_if_lt (tgt := 115) hx hb dX3_append_80 (by decide) (fun _ => ?_) (fun h => absurd h (by decide +kernel))
            refine lv_aload_n hx hb dX3_append_115 rfl (lv_at hl 2 rfl) ?_
            refine va_get (D := g.1) (ci := 3) (v := .int 1) (C := RX3) (T := TX3) (N := 2) hx hb hts zl_X3 hown hK hP 0 rfl rfl 1 (by decide) (hts _ m_f_RX3_15) (fun _ h => h) rfl dX3_append_116 ?_
            have hP9 := hP.sub (ws' := []) [] rfl
            have hD9 := hD.sub (ws' := []) [] (by decide) rfl
            exact W.iret (v := 1) hx hb hr (fun t ht hW => ⟨⟨1, 0, rfl, Or.inr (Or.inr (Or.inl ⟨i_0, i_1, i_3, i_4, i_5, rfl⟩)), by rw [ht]; exact hP9, hD9⟩, hS.F ht⟩) hS.2.2 dX3_append_119
          · have i_5 : 1 < p2.toInt := z_nle (rfl) (rfl) c_5
            refine lv_lload_n hx hb dX3_append_22 rfl (lv_at hl 3 rfl) ?_
            refine lv_iload hx hb dX3_append_23 (lv_at hl 0 rfl) ?_
            refine z_calli (wr := [(h0, .inr (3, [.ref h37, .int 0])), (h37, .inl (zB g, 60, .inl (fun _ => 0)))]) hP hD hS hA [] [0, 1] (by decide) rfl rfl (by decide) (va_runS (As := [.long p1, .int 1]) (rest := []) ⟨hx, hb, hml, hown, hts⟩ (kX3_byteOf_38 l g  H.size p1) ⟨callB_of 2 hts (zGood m_o_yX3_byteOf) rfl rfl rfl (hts _ m_z_RX3) (hts _ m_m_RX3_19) ⟨by decide +kernel, by decide +kernel, by decide +kernel⟩ ⟨Nat.le_of_ble_eq_true rfl, Nat.le_of_ble_eq_true rfl⟩, hts _ m_s_yX3_byteOf⟩ (zPreS hK hN hZ hP hD hS hA [] (by decide) rfl rfl) rfl rfl hl.1 rfl (lv_room (Nat.le_of_ble_eq_true rfl)) dX3_append_25 ⟨Nat.le_of_ble_eq_true rfl, Nat.le_of_ble_eq_true rfl⟩) (fun r u H locs hw hP hD hS => ?_)
            obtain rfl := hw
            have hP : va_P g.1 vwCl [(h0, .inr (3, [.ref h37, .int 0])), (h37, .inl (zB g, 60, .inl (fun _ => 0)))] H := hP
            have hD : va_D A [(h0, .inr (3, [.ref h37, .int 0])), (h37, .inl (zB g, 60, .inl (fun _ => 0)))] := hD
            refine lv_istore (lv' := [(5, .int (((p1 >>> ((8 : Int32).toInt64 &&& 63)) &&& 255).toInt32)), (4, .int 1), (0, .ref h0), (1, .long p1), (3, .int p2)]) hx hb dX3_append_28 hl (by decide) rfl (fun ls hl => ?_)
            refine lv_iload hx hb dX3_append_30 (lv_at hl 0 rfl) ?_
            refine lv_bipush (v := 32) hx hb dX3_append_32 (by decide) ?_
            refine lv_icmp_lt (tgt := 44) hx hb dX3_append_34 (by decide) (fun c_7 => ?_) (fun c_7 => ?_)
            · have i_7 : (((p1 >>> ((8 : Int32).toInt64 &&& 63)) &&& 255) : Int64).toInt < 32 := z_lt ((z_b255 _)) (rfl) c_7
              refine lv_iconst (v := (-1)) hx hb dX3_append_44 (by decide) ?_
              have hP9 := hP.sub (ws' := []) [] rfl
              have hD9 := hD.sub (ws' := []) [] (by decide) rfl
              exact W.iret (v := (-1)) hx hb hr (fun t ht hW => ⟨⟨(-1), 0, rfl, Or.inr (Or.inr (Or.inr (Or.inl ⟨i_0, i_1, i_3, i_4, i_5, i_7, rfl⟩))), by rw [ht]; exact hP9, hD9⟩, hS.F ht⟩) hS.2.2 dX3_append_45
            · have i_7 : 32 ≤ (((p1 >>> ((8 : Int32).toInt64 &&& 63)) &&& 255) : Int64).toInt := z_nlt ((z_b255 _)) (rfl) c_7
              refine lv_iload hx hb dX3_append_37 (lv_at hl 0 rfl) ?_
              refine lv_bipush (v := 126) hx hb dX3_append_39 (by decide) ?_
              refine lv_icmp_le (tgt := 46) hx hb dX3_append_41 (by decide) (fun c_8 => ?_) (fun c_8 => ?_)
              · have i_8 : (((p1 >>> ((8 : Int32).toInt64 &&& 63)) &&& 255) : Int64).toInt ≤ 126 := z_le ((z_b255 _)) (rfl) c_8
                refine lv_iinc (v := 2) (lv' := [(4, .int 2), (5, .int (((p1 >>> ((8 : Int32).toInt64 &&& 63)) &&& 255).toInt32)), (0, .ref h0), (1, .long p1), (3, .int p2)]) hx hb dX3_append_46 hl (k := 1) rfl (by decide) (by decide) rfl (fun ls hl => ?_)
                refine lv_goto (tgt := 16) hx hb dX3_append_49 (by decide) ?_
                refine lv_iload hx hb dX3_append_16 (lv_at hl 0 rfl) ?_
                refine lv_iload_n hx hb dX3_append_18 rfl (lv_at hl 4 rfl) ?_
                refine lv_icmp_ge (tgt := 52) hx hb dX3_append_19 (by decide) (fun c_9 => ?_) (fun c_9 => ?_)
                · have i_9 : p2.toInt ≤ 2 := z_le (rfl) (rfl) c_9
                  refine lv_aload_n hx hb dX3_append_52 rfl (lv_at hl 2 rfl) ?_
                  refine va_get (D := g.1) (ci := 3) (v := .int 0) (C := RX3) (T := TX3) (N := 2) hx hb hts zl_X3 hown hK hP 0 rfl rfl 1 (by decide) (hts _ m_f_RX3_15) (fun _ h => h) rfl dX3_append_53 ?_
                  refine lv_if_lt (tgt := 70) hx hb dX3_append_56 (by decide) (fun h => absurd h (by decide +kernel)) (fun _ => ?_)
                  refine lv_aload_n hx hb dX3_append_59 rfl (lv_at hl 2 rfl) ?_
                  refine va_get (D := g.1) (ci := 3) (v := .int 0) (C := RX3) (T := TX3) (N := 2) hx hb hts zl_X3 hown hK hP 0 rfl rfl 1 (by decide) (hts _ m_f_RX3_15) (fun _ h => h) rfl dX3_append_60 ?_
                  refine lv_iload_n hx hb dX3_append_63 rfl (lv_at hl 4 rfl) ?_
                  obtain rfl : p2 = 2 := Int32.toInt_inj.mp (show p2.toInt = (2 : Int32).toInt from (show p2.toInt = 2 by omega).trans rfl)
                  refine lv_iadd hx hb dX3_append_64 ?_
                  refine lv_topi (nm_r (e' := 2) (by decide +kernel) ?_)
                  refine lv_bipush (v := 60) hx hb dX3_append_65 (by decide) ?_
                  refine lv_icmp_le (tgt := 73) hx hb dX3_append_67 (by decide) (fun _ => ?_) (fun h => absurd h (by decide +kernel))
                  refine lv_iload_n hx hb dX3_append_73 rfl (lv_at hl 4 rfl) ?_
                  refine lv_iconst (v := 1) hx hb dX3_append_74 (by decide) ?_
                  refine lv_isub hx hb dX3_append_75 ?_
                  refine lv_topi (nm_r (e' := 1) (by decide +kernel) ?_)
                  refine lv_istore (lv' := [(4, .int 1), (5, .int (((p1 >>> ((8 : Int32).toInt64 &&& 63)) &&& 255).toInt32)), (0, .ref h0), (1, .long p1), (3, .int 2)]) hx hb dX3_append_76 hl (by decide) rfl (fun ls hl => ?_)
                  refine lv_iload hx hb dX3_append_78 (lv_at hl 0 rfl) ?_
                  refine lv_if_lt (tgt := 115) hx hb dX3_append_80 (by decide) (fun h => absurd h (by decide +kernel)) (fun _ => ?_)
                  refine lv_aload_n hx hb dX3_append_83 rfl (lv_at hl 2 rfl) ?_
                  refine va_get (D := g.1) (ci := 3) (v := .ref h37) (C := RX3) (T := TX3) (N := 2) hx hb hts zl_X3 hown hK hP 0 rfl rfl 0 (by decide) (hts _ m_f_RX3_11) (fun _ h => h) rfl dX3_append_84 ?_
                  refine lv_aload_n hx hb dX3_append_87 rfl (lv_at hl 2 rfl) ?_
                  refine va_get (D := g.1) (ci := 3) (v := .int 0) (C := RX3) (T := TX3) (N := 2) hx hb hts zl_X3 hown hK hP 0 rfl rfl 1 (by decide) (hts _ m_f_RX3_15) (fun _ h => h) rfl dX3_append_88 ?_
                  refine lv_lload_n hx hb dX3_append_91 rfl (lv_at hl 3 rfl) ?_
                  refine lv_iload hx hb dX3_append_92 (lv_at hl 0 rfl) ?_
                  refine z_calli (wr := [(h0, .inr (3, [.ref h37, .int 0])), (h37, .inl (zB g, 60, .inl (fun _ => 0)))]) hP hD hS hA [] [0, 1] (by decide) rfl rfl (by decide) (va_runS (As := [.long p1, .int 1]) (rest := [.int 0, .ref h37]) ⟨hx, hb, hml, hown, hts⟩ (kX3_byteOf_38 l g  H.size p1) ⟨callB_of 2 hts (zGood m_o_yX3_byteOf) rfl rfl rfl (hts _ m_z_RX3) (hts _ m_m_RX3_19) ⟨by decide +kernel, by decide +kernel, by decide +kernel⟩ ⟨Nat.le_of_ble_eq_true rfl, Nat.le_of_ble_eq_true rfl⟩, hts _ m_s_yX3_byteOf⟩ (zPreS hK hN hZ hP hD hS hA [] (by decide) rfl rfl) rfl rfl hl.1 rfl (lv_room (Nat.le_of_ble_eq_true rfl)) dX3_append_94 ⟨Nat.le_of_ble_eq_true rfl, Nat.le_of_ble_eq_true rfl⟩) (fun r u H locs hw hP hD hS => ?_)
                  obtain rfl := hw
                  have hP : va_P g.1 vwCl [(h0, .inr (3, [.ref h37, .int 0])), (h37, .inl (zB g, 60, .inl (fun _ => 0)))] H := hP
                  have hD : va_D A [(h0, .inr (3, [.ref h37, .int 0])), (h37, .inl (zB g, 60, .inl (fun _ => 0)))] := hD
                  refine lv_i2b (v := (((p1 >>> ((8 : Int32).toInt64 &&& 63)) &&& 255).toInt32).toInt8.toInt32) hx hb dX3_append_97 rfl ?_
                  refine va_bast (D := g.1) hx hb hK hP hD hS 1 2 rfl rfl (vp_in_iff.mpr (by decide +kernel)) dX3_append_98 (fun H locs hP hD hS => ?_)
                  have hP : va_P g.1 vwCl [(h0, .inr (3, [.ref h37, .int 0])), (h37, .inl (zB g, 60, .inl (upd (fun _ => 0) 0 (vp_nar .byte ((((p1 >>> ((8 : Int32).toInt64 &&& 63)) &&& 255).toInt32).toInt8.toInt32)))))] H := hP
                  have hD : va_D A [(h0, .inr (3, [.ref h37, .int 0])), (h37, .inl (zB g, 60, .inl (upd (fun _ => 0) 0 (vp_nar .byte ((((p1 >>> ((8 : Int32).toInt64 &&& 63)) &&& 255).toInt32).toInt8.toInt32)))))] := hD
                  refine lv_aload_n hx hb dX3_append_99 rfl (lv_at hl 2 rfl) ?_
                  refine lv_dup hx hb dX3_append_100 rfl ?_
                  refine va_get (D := g.1) (ci := 3) (v := .int 0) (C := RX3) (T := TX3) (N := 2) hx hb hts zl_X3 hown hK hP 0 rfl rfl 1 (by decide) (hts _ m_f_RX3_15) (fun _ h => h) rfl dX3_append_101 ?_
                  refine lv_iconst (v := 1) hx hb dX3_append_104 (by decide) ?_
                  refine lv_iadd hx hb dX3_append_105 ?_
                  refine lv_topi (nm_r (e' := 1) (by decide +kernel) ?_)
                  refine va_put (D := g.1) (ci := 3) (v := .int 1) (ty := .int) (C := RX3) (T := TX3) (N := 2) hx hb hts zl_X3 tyX3 tyX3_ok nmX3 hown hK hP hD hS 0 rfl rfl 1 (by decide) (hts _ m_f_RX3_15) (fun _ h => h) rfl (by decide +kernel) rfl rfl (Nat.le_of_ble_eq_true rfl) dX3_append_106 (fun H locs hP hD hS => ?_)
                  have hP : va_P g.1 vwCl [(h0, .inr (3, [.ref h37, .int 1])), (h37, .inl (zB g, 60, .inl (upd (fun _ => 0) 0 (vp_nar .byte ((((p1 >>> ((8 : Int32).toInt64 &&& 63)) &&& 255).toInt32).toInt8.toInt32)))))] H := hP
                  have hD : va_D A [(h0, .inr (3, [.ref h37, .int 1])), (h37, .inl (zB g, 60, .inl (upd (fun _ => 0) 0 (vp_nar .byte ((((p1 >>> ((8 : Int32).toInt64 &&& 63)) &&& 255).toInt32).toInt8.toInt32)))))] := hD
                  refine lv_iinc (v := 0) (lv' := [(4, .int 0), (5, .int (((p1 >>> ((8 : Int32).toInt64 &&& 63)) &&& 255).toInt32)), (0, .ref h0), (1, .long p1), (3, .int 2)]) hx hb dX3_append_109 hl (k := 0) rfl (by decide) (by decide) rfl (fun ls hl => ?_)
                  refine lv_goto (tgt := 78) hx hb dX3_append_112 (by decide) ?_
                  refine lv_iload hx hb dX3_append_78 (lv_at hl 0 rfl) ?_
                  refine lv_if_lt (tgt := 115) hx hb dX3_append_80 (by decide) (fun h => absurd h (by decide +kernel)) (fun _ => ?_)
                  refine lv_aload_n hx hb dX3_append_83 rfl (lv_at hl 2 rfl) ?_
                  refine va_get (D := g.1) (ci := 3) (v := .ref h37) (C := RX3) (T := TX3) (N := 2) hx hb hts zl_X3 hown hK hP 0 rfl rfl 0 (by decide) (hts _ m_f_RX3_11) (fun _ h => h) rfl dX3_append_84 ?_
                  refine lv_aload_n hx hb dX3_append_87 rfl (lv_at hl 2 rfl) ?_
                  refine va_get (D := g.1) (ci := 3) (v := .int 1) (C := RX3) (T := TX3) (N := 2) hx hb hts zl_X3 hown hK hP 0 rfl rfl 1 (by decide) (hts _ m_f_RX3_15) (fun _ h => h) rfl dX3_append_88 ?_
                  refine lv_lload_n hx hb dX3_append_91 rfl (lv_at hl 3 rfl) ?_
                  refine lv_iload hx hb dX3_append_92 (lv_at hl 0 rfl) ?_
                  refine z_calli (wr := [(h0, .inr (3, [.ref h37, .int 1])), (h37, .inl (zB g, 60, .inl (upd (fun _ => 0) 0 (vp_nar .byte ((((p1 >>> ((8 : Int32).toInt64 &&& 63)) &&& 255).toInt32).toInt8.toInt32)))))]) hP hD hS hA [] [0, 1] (by decide) rfl rfl (by decide) (va_runS (As := [.long p1, .int 0]) (rest := [.int 1, .ref h37]) ⟨hx, hb, hml, hown, hts⟩ (kX3_byteOf_39 l g  H.size p1) ⟨callB_of 2 hts (zGood m_o_yX3_byteOf) rfl rfl rfl (hts _ m_z_RX3) (hts _ m_m_RX3_19) ⟨by decide +kernel, by decide +kernel, by decide +kernel⟩ ⟨Nat.le_of_ble_eq_true rfl, Nat.le_of_ble_eq_true rfl⟩, hts _ m_s_yX3_byteOf⟩ (zPreS hK hN hZ hP hD hS hA [] (by decide) rfl rfl) rfl rfl hl.1 rfl (lv_room (Nat.le_of_ble_eq_true rfl)) dX3_append_94 ⟨Nat.le_of_ble_eq_true rfl, Nat.le_of_ble_eq_true rfl⟩) (fun r u H locs hw hP hD hS => ?_)
                  obtain rfl := hw
                  have hP : va_P g.1 vwCl [(h0, .inr (3, [.ref h37, .int 1])), (h37, .inl (zB g, 60, .inl (upd (fun _ => 0) 0 (vp_nar .byte ((((p1 >>> ((8 : Int32).toInt64 &&& 63)) &&& 255).toInt32).toInt8.toInt32)))))] H := hP
                  have hD : va_D A [(h0, .inr (3, [.ref h37, .int 1])), (h37, .inl (zB g, 60, .inl (upd (fun _ => 0) 0 (vp_nar .byte ((((p1 >>> ((8 : Int32).toInt64 &&& 63)) &&& 255).toInt32).toInt8.toInt32)))))] := hD
                  refine lv_i2b (v := (((p1 >>> ((0 : Int32).toInt64 &&& 63)) &&& 255).toInt32).toInt8.toInt32) hx hb dX3_append_97 rfl ?_
                  refine va_bast (D := g.1) hx hb hK hP hD hS 1 2 rfl rfl (vp_in_iff.mpr (by decide +kernel)) dX3_append_98 (fun H locs hP hD hS => ?_)
                  have hP : va_P g.1 vwCl [(h0, .inr (3, [.ref h37, .int 1])), (h37, .inl (zB g, 60, .inl (upd (upd (fun _ => 0) 0 (vp_nar .byte ((((p1 >>> ((8 : Int32).toInt64 &&& 63)) &&& 255).toInt32).toInt8.toInt32))) 1 (vp_nar .byte ((((p1 >>> ((0 : Int32).toInt64 &&& 63)) &&& 255).toInt32).toInt8.toInt32)))))] H := hP
                  have hD : va_D A [(h0, .inr (3, [.ref h37, .int 1])), (h37, .inl (zB g, 60, .inl (upd (upd (fun _ => 0) 0 (vp_nar .byte ((((p1 >>> ((8 : Int32).toInt64 &&& 63)) &&& 255).toInt32).toInt8.toInt32))) 1 (vp_nar .byte ((((p1 >>> ((0 : Int32).toInt64 &&& 63)) &&& 255).toInt32).toInt8.toInt32)))))] := hD
                  refine lv_aload_n hx hb dX3_append_99 rfl (lv_at hl 2 rfl) ?_
                  refine lv_dup hx hb dX3_append_100 rfl ?_
                  refine va_get (D := g.1) (ci := 3) (v := .int 1) (C := RX3) (T := TX3) (N := 2) hx hb hts zl_X3 hown hK hP 0 rfl rfl 1 (by decide) (hts _ m_f_RX3_15) (fun _ h => h) rfl dX3_append_101 ?_
                  refine lv_iconst (v := 1) hx hb dX3_append_104 (by decide) ?_
                  refine lv_iadd hx hb dX3_append_105 ?_
                  refine lv_topi (nm_r (e' := 2) (by decide +kernel) ?_)
                  refine va_put (D := g.1) (ci := 3) (v := .int 2) (ty := .int) (C := RX3) (T := TX3) (N := 2) hx hb hts zl_X3 tyX3 tyX3_ok nmX3 hown hK hP hD hS 0 rfl rfl 1 (by decide) (hts _ m_f_RX3_15) (fun _ h => h) rfl (by decide +kernel) rfl rfl (Nat.le_of_ble_eq_true rfl) dX3_append_106 (fun H locs hP hD hS => ?_)
                  have hP : va_P g.1 vwCl [(h0, .inr (3, [.ref h37, .int 2])), (h37, .inl (zB g, 60, .inl (upd (upd (fun _ => 0) 0 (vp_nar .byte ((((p1 >>> ((8 : Int32).toInt64 &&& 63)) &&& 255).toInt32).toInt8.toInt32))) 1 (vp_nar .byte ((((p1 >>> ((0 : Int32).toInt64 &&& 63)) &&& 255).toInt32).toInt8.toInt32)))))] H := hP
                  have hD : va_D A [(h0, .inr (3, [.ref h37, .int 2])), (h37, .inl (zB g, 60, .inl (upd (upd (fun _ => 0) 0 (vp_nar .byte ((((p1 >>> ((8 : Int32).toInt64 &&& 63)) &&& 255).toInt32).toInt8.toInt32))) 1 (vp_nar .byte ((((p1 >>> ((0 : Int32).toInt64 &&& 63)) &&& 255).toInt32).toInt8.toInt32)))))] := hD
                  refine lv_iinc (v := (-1)) (lv' := [(4, .int (-1)), (5, .int (((p1 >>> ((8 : Int32).toInt64 &&& 63)) &&& 255).toInt32)), (0, .ref h0), (1, .long p1), (3, .int 2)]) hx hb dX3_append_109 hl (k := 0) rfl (by decide) (by decide) rfl (fun ls hl => ?_)
                  refine lv_goto (tgt := 78) hx hb dX3_append_112 (by decide) ?_
                  refine lv_iload hx hb dX3_append_78 (lv_at hl 0 rfl) ?_
                  refine lv_if_lt (tgt := 115) hx hb dX3_append_80 (by decide) (fun _ => ?_) (fun h => absurd h (by decide +kernel))
                  refine lv_aload_n hx hb dX3_append_115 rfl (lv_at hl 2 rfl) ?_
                  refine va_get (D := g.1) (ci := 3) (v := .int 2) (C := RX3) (T := TX3) (N := 2) hx hb hts zl_X3 hown hK hP 0 rfl rfl 1 (by decide) (hts _ m_f_RX3_15) (fun _ h => h) rfl dX3_append_116 ?_
                  have hP9 := hP.sub (ws' := []) [] rfl
                  have hD9 := hD.sub (ws' := []) [] (by decide) rfl
                  exact W.iret (v := 2) hx hb hr (fun t ht hW => ⟨⟨2, 0, rfl, Or.inr (Or.inr (Or.inr (Or.inr (Or.inl ⟨i_0, i_1, i_3, i_4, i_5, i_7, i_8, i_9, rfl⟩)))), by rw [ht]; exact hP9, hD9⟩, hS.F ht⟩) hS.2.2 dX3_append_119
                · have i_9 : 2 < p2.toInt := z_nle (rfl) (rfl) c_9
                  refine lv_lload_n hx hb dX3_append_22 rfl (lv_at hl 3 rfl) ?_
                  refine lv_iload hx hb dX3_append_23 (lv_at hl 0 rfl) ?_
                  refine z_calli (wr := [(h0, .inr (3, [.ref h37, .int 0])), (h37, .inl (zB g, 60, .inl (fun _ => 0)))]) hP hD hS hA [] [0, 1] (by decide) rfl rfl (by decide) (va_runS (As := [.long p1, .int 2]) (rest := []) ⟨hx, hb, hml, hown, hts⟩ (kX3_byteOf_40 l g  H.size p1) ⟨callB_of 2 hts (zGood m_o_yX3_byteOf) rfl rfl rfl (hts _ m_z_RX3) (hts _ m_m_RX3_19) ⟨by decide +kernel, by decide +kernel, by decide +kernel⟩ ⟨Nat.le_of_ble_eq_true rfl, Nat.le_of_ble_eq_true rfl⟩, hts _ m_s_yX3_byteOf⟩ (zPreS hK hN hZ hP hD hS hA [] (by decide) rfl rfl) rfl rfl hl.1 rfl (lv_room (Nat.le_of_ble_eq_true rfl)) dX3_append_25 ⟨Nat.le_of_ble_eq_true rfl, Nat.le_of_ble_eq_true rfl⟩) (fun r u H locs hw hP hD hS => ?_)
                  obtain rfl := hw
                  have hP : va_P g.1 vwCl [(h0, .inr (3, [.ref h37, .int 0])), (h37, .inl (zB g, 60, .inl (fun _ => 0)))] H := hP
                  have hD : va_D A [(h0, .inr (3, [.ref h37, .int 0])), (h37, .inl (zB g, 60, .inl (fun _ => 0)))] := hD
                  refine lv_istore (lv' := [(5, .int (((p1 >>> ((16 : Int32).toInt64 &&& 63)) &&& 255).toInt32)), (4, .int 2), (0, .ref h0), (1, .long p1), (3, .int p2)]) hx hb dX3_append_28 hl (by decide) rfl (fun ls hl => ?_)
                  refine lv_iload hx hb dX3_append_30 (lv_at hl 0 rfl) ?_
                  refine lv_bipush (v := 32) hx hb dX3_append_32 (by decide) ?_
                  refine lv_icmp_lt (tgt := 44) hx hb dX3_append_34 (by decide) (fun c_11 => ?_) (fun c_11 => ?_)
                  · have i_11 : (((p1 >>> ((16 : Int32).toInt64 &&& 63)) &&& 255) : Int64).toInt < 32 := z_lt ((z_b255 _)) (rfl) c_11
                    refine lv_iconst (v := (-1)) hx hb dX3_append_44 (by decide) ?_
                    have hP9 := hP.sub (ws' := []) [] rfl
                    have hD9 := hD.sub (ws' := []) [] (by decide) rfl
                    exact W.iret (v := (-1)) hx hb hr (fun t ht hW => ⟨⟨(-1), 0, rfl, Or.inr (Or.inr (Or.inr (Or.inr (Or.inr (Or.inl ⟨i_0, i_1, i_3, i_4, i_5, i_7, i_8, i_9, i_11, rfl⟩))))), by rw [ht]; exact hP9, hD9⟩, hS.F ht⟩) hS.2.2 dX3_append_45
                  · have i_11 : 32 ≤ (((p1 >>> ((16 : Int32).toInt64 &&& 63)) &&& 255) : Int64).toInt := z_nlt ((z_b255 _)) (rfl) c_11
                    refine lv_iload hx hb dX3_append_37 (lv_at hl 0 rfl) ?_
                    refine lv_bipush (v := 126) hx hb dX3_append_39 (by decide) ?_
                    refine lv_icmp_le (tgt := 46) hx hb dX3_append_41 (by decide) (fun c_12 => ?_) (fun c_12 => ?_)
                    · have i_12 : (((p1 >>> ((16 : Int32).toInt64 &&& 63)) &&& 255) : Int64).toInt ≤ 126 := z_le ((z_b255 _)) (rfl) c_12
                      refine lv_iinc (v := 3) (lv' := [(4, .int 3), (5, .int (((p1 >>> ((16 : Int32).toInt64 &&& 63)) &&& 255).toInt32)), (0, .ref h0), (1, .long p1), (3, .int p2)]) hx hb dX3_append_46 hl (k := 1) rfl (by decide) (by decide) rfl (fun ls hl => ?_)
                      refine lv_goto (tgt := 16) hx hb dX3_append_49 (by decide) ?_
                      refine lv_iload hx hb dX3_append_16 (lv_at hl 0 rfl) ?_
                      refine lv_iload_n hx hb dX3_append_18 rfl (lv_at hl 4 rfl) ?_
                      refine lv_icmp_ge (tgt := 52) hx hb dX3_append_19 (by decide) (fun c_13 => ?_) (fun c_13 => ?_)
                      · have i_13 : p2.toInt ≤ 3 := z_le (rfl) (rfl) c_13
                        refine lv_aload_n hx hb dX3_append_52 rfl (lv_at hl 2 rfl) ?_
                        refine va_get (D := g.1) (ci := 3) (v := .int 0) (C := RX3) (T := TX3) (N := 2) hx hb hts zl_X3 hown hK hP 0 rfl rfl 1 (by decide) (hts _ m_f_RX3_15) (fun _ h => h) rfl dX3_append_53 ?_
                        refine lv_if_lt (tgt := 70) hx hb dX3_append_56 (by decide) (fun h => absurd h (by decide +kernel)) (fun _ => ?_)
                        refine lv_aload_n hx hb dX3_append_59 rfl (lv_at hl 2 rfl) ?_
                        refine va_get (D := g.1) (ci := 3) (v := .int 0) (C := RX3) (T := TX3) (N := 2) hx hb hts zl_X3 hown hK hP 0 rfl rfl 1 (by decide) (hts _ m_f_RX3_15) (fun _ h => h) rfl dX3_append_60 ?_
                        refine lv_iload_n hx hb dX3_append_63 rfl (lv_at hl 4 rfl) ?_
                        obtain rfl : p2 = 3 := Int32.toInt_inj.mp (show p2.toInt = (3 : Int32).toInt from (show p2.toInt = 3 by omega).trans rfl)
                        refine lv_iadd hx hb dX3_append_64 ?_
                        refine lv_topi (nm_r (e' := 3) (by decide +kernel) ?_)
                        refine lv_bipush (v := 60) hx hb dX3_append_65 (by decide) ?_
                        refine lv_icmp_le (tgt := 73) hx hb dX3_append_67 (by decide) (fun _ => ?_) (fun h => absurd h (by decide +kernel))
                        refine lv_iload_n hx hb dX3_append_73 rfl (lv_at hl 4 rfl) ?_
                        refine lv_iconst (v := 1) hx hb dX3_append_74 (by decide) ?_
                        refine lv_isub hx hb dX3_append_75 ?_
                        refine lv_topi (nm_r (e' := 2) (by decide +kernel) ?_)
                        refine lv_istore (lv' := [(4, .int 2), (5, .int (((p1 >>> ((16 : Int32).toInt64 &&& 63)) &&& 255).toInt32)), (0, .ref h0), (1, .long p1), (3, .int 3)]) hx hb dX3_append_76 hl (by decide) rfl (fun ls hl => ?_)
                        refine lv_iload hx hb dX3_append_78 (lv_at hl 0 rfl) ?_
                        refine lv_if_lt (tgt := 115) hx hb dX3_append_80 (by decide) (fun h => absurd h (by decide +kernel)) (fun _ => ?_)
                        refine lv_aload_n hx hb dX3_append_83 rfl (lv_at hl 2 rfl) ?_
                        refine va_get (D := g.1) (ci := 3) (v := .ref h37) (C := RX3) (T := TX3) (N := 2) hx hb hts zl_X3 hown hK hP 0 rfl rfl 0 (by decide) (hts _ m_f_RX3_11) (fun _ h => h) rfl dX3_append_84 ?_
                        refine lv_aload_n hx hb dX3_append_87 rfl (lv_at hl 2 rfl) ?_
                        refine va_get (D := g.1) (ci := 3) (v := .int 0) (C := RX3) (T := TX3) (N := 2) hx hb hts zl_X3 hown hK hP 0 rfl rfl 1 (by decide) (hts _ m_f_RX3_15) (fun _ h => h) rfl dX3_append_88 ?_
                        refine lv_lload_n hx hb dX3_append_91 rfl (lv_at hl 3 rfl) ?_
                        refine lv_iload hx hb dX3_append_92 (lv_at hl 0 rfl) ?_
                        refine z_calli (wr := [(h0, .inr (3, [.ref h37, .int 0])), (h37, .inl (zB g, 60, .inl (fun _ => 0)))]) hP hD hS hA [] [0, 1] (by decide) rfl rfl (by decide) (va_runS (As := [.long p1, .int 2]) (rest := [.int 0, .ref h37]) ⟨hx, hb, hml, hown, hts⟩ (kX3_byteOf_40 l g  H.size p1) ⟨callB_of 2 hts (zGood m_o_yX3_byteOf) rfl rfl rfl (hts _ m_z_RX3) (hts _ m_m_RX3_19) ⟨by decide +kernel, by decide +kernel, by decide +kernel⟩ ⟨Nat.le_of_ble_eq_true rfl, Nat.le_of_ble_eq_true rfl⟩, hts _ m_s_yX3_byteOf⟩ (zPreS hK hN hZ hP hD hS hA [] (by decide) rfl rfl) rfl rfl hl.1 rfl (lv_room (Nat.le_of_ble_eq_true rfl)) dX3_append_94 ⟨Nat.le_of_ble_eq_true rfl, Nat.le_of_ble_eq_true rfl⟩) (fun r u H locs hw hP hD hS => ?_)
                        obtain rfl := hw
                        have hP : va_P g.1 vwCl [(h0, .inr (3, [.ref h37, .int 0])), (h37, .inl (zB g, 60, .inl (fun _ => 0)))] H := hP
                        have hD : va_D A [(h0, .inr (3, [.ref h37, .int 0])), (h37, .inl (zB g, 60, .inl (fun _ => 0)))] := hD
                        refine lv_i2b (v := (((p1 >>> ((16 : Int32).toInt64 &&& 63)) &&& 255).toInt32).toInt8.toInt32) hx hb dX3_append_97 rfl ?_
                        refine va_bast (D := g.1) hx hb hK hP hD hS 1 2 rfl rfl (vp_in_iff.mpr (by decide +kernel)) dX3_append_98 (fun H locs hP hD hS => ?_)
                        have hP : va_P g.1 vwCl [(h0, .inr (3, [.ref h37, .int 0])), (h37, .inl (zB g, 60, .inl (upd (fun _ => 0) 0 (vp_nar .byte ((((p1 >>> ((16 : Int32).toInt64 &&& 63)) &&& 255).toInt32).toInt8.toInt32)))))] H := hP
                        have hD : va_D A [(h0, .inr (3, [.ref h37, .int 0])), (h37, .inl (zB g, 60, .inl (upd (fun _ => 0) 0 (vp_nar .byte ((((p1 >>> ((16 : Int32).toInt64 &&& 63)) &&& 255).toInt32).toInt8.toInt32)))))] := hD
                        refine lv_aload_n hx hb dX3_append_99 rfl (lv_at hl 2 rfl) ?_
                        refine lv_dup hx hb dX3_append_100 rfl ?_
                        refine va_get (D := g.1) (ci := 3) (v := .int 0) (C := RX3) (T := TX3) (N := 2) hx hb hts zl_X3 hown hK hP 0 rfl rfl 1 (by decide) (hts _ m_f_RX3_15) (fun _ h => h) rfl dX3_append_101 ?_
                        refine lv_iconst (v := 1) hx hb dX3_append_104 (by decide) ?_
                        refine lv_iadd hx hb dX3_append_105 ?_
                        refine lv_topi (nm_r (e' := 1) (by decide +kernel) ?_)
                        refine va_put (D := g.1) (ci := 3) (v := .int 1) (ty := .int) (C := RX3) (T := TX3) (N := 2) hx hb hts zl_X3 tyX3 tyX3_ok nmX3 hown hK hP hD hS 0 rfl rfl 1 (by decide) (hts _ m_f_RX3_15) (fun _ h => h) rfl (by decide +kernel) rfl rfl (Nat.le_of_ble_eq_true rfl) dX3_append_106 (fun H locs hP hD hS => ?_)
                        have hP : va_P g.1 vwCl [(h0, .inr (3, [.ref h37, .int 1])), (h37, .inl (zB g, 60, .inl (upd (fun _ => 0) 0 (vp_nar .byte ((((p1 >>> ((16 : Int32).toInt64 &&& 63)) &&& 255).toInt32).toInt8.toInt32)))))] H := hP
                        have hD : va_D A [(h0, .inr (3, [.ref h37, .int 1])), (h37, .inl (zB g, 60, .inl (upd (fun _ => 0) 0 (vp_nar .byte ((((p1 >>> ((16 : Int32).toInt64 &&& 63)) &&& 255).toInt32).toInt8.toInt32)))))] := hD
                        refine lv_iinc (v := 1) (lv' := [(4, .int 1), (5, .int (((p1 >>> ((16 : Int32).toInt64 &&& 63)) &&& 255).toInt32)), (0, .ref h0), (1, .long p1), (3, .int 3)]) hx hb dX3_append_109 hl (k := 0) rfl (by decide) (by decide) rfl (fun ls hl => ?_)
                        refine lv_goto (tgt := 78) hx hb dX3_append_112 (by decide) ?_
                        refine lv_iload hx hb dX3_append_78 (lv_at hl 0 rfl) ?_
                        refine lv_if_lt (tgt := 115) hx hb dX3_append_80 (by decide) (fun h => absurd h (by decide +kernel)) (fun _ => ?_)
                        refine lv_aload_n hx hb dX3_append_83 rfl (lv_at hl 2 rfl) ?_
                        refine va_get (D := g.1) (ci := 3) (v := .ref h37) (C := RX3) (T := TX3) (N := 2) hx hb hts zl_X3 hown hK hP 0 rfl rfl 0 (by decide) (hts _ m_f_RX3_11) (fun _ h => h) rfl dX3_append_84 ?_
                        refine lv_aload_n hx hb dX3_append_87 rfl (lv_at hl 2 rfl) ?_
                        refine va_get (D := g.1) (ci := 3) (v := .int 1) (C := RX3) (T := TX3) (N := 2) hx hb hts zl_X3 hown hK hP 0 rfl rfl 1 (by decide) (hts _ m_f_RX3_15) (fun _ h => h) rfl dX3_append_88 ?_
                        refine lv_lload_n hx hb dX3_append_91 rfl (lv_at hl 3 rfl) ?_
                        refine lv_iload hx hb dX3_append_92 (lv_at hl 0 rfl) ?_
                        refine z_calli (wr := [(h0, .inr (3, [.ref h37, .int 1])), (h37, .inl (zB g, 60, .inl (upd (fun _ => 0) 0 (vp_nar .byte ((((p1 >>> ((16 : Int32).toInt64 &&& 63)) &&& 255).toInt32).toInt8.toInt32)))))]) hP hD hS hA [] [0, 1] (by decide) rfl rfl (by decide) (va_runS (As := [.long p1, .int 1]) (rest := [.int 1, .ref h37]) ⟨hx, hb, hml, hown, hts⟩ (kX3_byteOf_41 l g  H.size p1) ⟨callB_of 2 hts (zGood m_o_yX3_byteOf) rfl rfl rfl (hts _ m_z_RX3) (hts _ m_m_RX3_19) ⟨by decide +kernel, by decide +kernel, by decide +kernel⟩ ⟨Nat.le_of_ble_eq_true rfl, Nat.le_of_ble_eq_true rfl⟩, hts _ m_s_yX3_byteOf⟩ (zPreS hK hN hZ hP hD hS hA [] (by decide) rfl rfl) rfl rfl hl.1 rfl (lv_room (Nat.le_of_ble_eq_true rfl)) dX3_append_94 ⟨Nat.le_of_ble_eq_true rfl, Nat.le_of_ble_eq_true rfl⟩) (fun r u H locs hw hP hD hS => ?_)
                        obtain rfl := hw
                        have hP : va_P g.1 vwCl [(h0, .inr (3, [.ref h37, .int 1])), (h37, .inl (zB g, 60, .inl (upd (fun _ => 0) 0 (vp_nar .byte ((((p1 >>> ((16 : Int32).toInt64 &&& 63)) &&& 255).toInt32).toInt8.toInt32)))))] H := hP
                        have hD : va_D A [(h0, .inr (3, [.ref h37, .int 1])), (h37, .inl (zB g, 60, .inl (upd (fun _ => 0) 0 (vp_nar .byte ((((p1 >>> ((16 : Int32).toInt64 &&& 63)) &&& 255).toInt32).toInt8.toInt32)))))] := hD
                        refine lv_i2b (v := (((p1 >>> ((8 : Int32).toInt64 &&& 63)) &&& 255).toInt32).toInt8.toInt32) hx hb dX3_append_97 rfl ?_
                        refine va_bast (D := g.1) hx hb hK hP hD hS 1 2 rfl rfl (vp_in_iff.mpr (by decide +kernel)) dX3_append_98 (fun H locs hP hD hS => ?_)
                        have hP : va_P g.1 vwCl [(h0, .inr (3, [.ref h37, .int 1])), (h37, .inl (zB g, 60, .inl (upd (upd (fun _ => 0) 0 (vp_nar .byte ((((p1 >>> ((16 : Int32).toInt64 &&& 63)) &&& 255).toInt32).toInt8.toInt32))) 1 (vp_nar .byte ((((p1 >>> ((8 : Int32).toInt64 &&& 63)) &&& 255).toInt32).toInt8.toInt32)))))] H := hP
                        have hD : va_D A [(h0, .inr (3, [.ref h37, .int 1])), (h37, .inl (zB g, 60, .inl (upd (upd (fun _ => 0) 0 (vp_nar .byte ((((p1 >>> ((16 : Int32).toInt64 &&& 63)) &&& 255).toInt32).toInt8.toInt32))) 1 (vp_nar .byte ((((p1 >>> ((8 : Int32).toInt64 &&& 63)) &&& 255).toInt32).toInt8.toInt32)))))] := hD
                        refine lv_aload_n hx hb dX3_append_99 rfl (lv_at hl 2 rfl) ?_
                        refine lv_dup hx hb dX3_append_100 rfl ?_
                        refine va_get (D := g.1) (ci := 3) (v := .int 1) (C := RX3) (T := TX3) (N := 2) hx hb hts zl_X3 hown hK hP 0 rfl rfl 1 (by decide) (hts _ m_f_RX3_15) (fun _ h => h) rfl dX3_append_101 ?_
                        refine lv_iconst (v := 1) hx hb dX3_append_104 (by decide) ?_
                        refine lv_iadd hx hb dX3_append_105 ?_
                        refine lv_topi (nm_r (e' := 2) (by decide +kernel) ?_)
                        refine va_put (D := g.1) (ci := 3) (v := .int 2) (ty := .int) (C := RX3) (T := TX3) (N := 2) hx hb hts zl_X3 tyX3 tyX3_ok nmX3 hown hK hP hD hS 0 rfl rfl 1 (by decide) (hts _ m_f_RX3_15) (fun _ h => h) rfl (by decide +kernel) rfl rfl (Nat.le_of_ble_eq_true rfl) dX3_append_106 (fun H locs hP hD hS => ?_)
                        have hP : va_P g.1 vwCl [(h0, .inr (3, [.ref h37, .int 2])), (h37, .inl (zB g, 60, .inl (upd (upd (fun _ => 0) 0 (vp_nar .byte ((((p1 >>> ((16 : Int32).toInt64 &&& 63)) &&& 255).toInt32).toInt8.toInt32))) 1 (vp_nar .byte ((((p1 >>> ((8 : Int32).toInt64 &&& 63)) &&& 255).toInt32).toInt8.toInt32)))))] H := hP
                        have hD : va_D A [(h0, .inr (3, [.ref h37, .int 2])), (h37, .inl (zB g, 60, .inl (upd (upd (fun _ => 0) 0 (vp_nar .byte ((((p1 >>> ((16 : Int32).toInt64 &&& 63)) &&& 255).toInt32).toInt8.toInt32))) 1 (vp_nar .byte ((((p1 >>> ((8 : Int32).toInt64 &&& 63)) &&& 255).toInt32).toInt8.toInt32)))))] := hD
                        refine lv_iinc (v := 0) (lv' := [(4, .int 0), (5, .int (((p1 >>> ((16 : Int32).toInt64 &&& 63)) &&& 255).toInt32)), (0, .ref h0), (1, .long p1), (3, .int 3)]) hx hb dX3_append_109 hl (k := 0) rfl (by decide) (by decide) rfl (fun ls hl => ?_)
                        refine lv_goto (tgt := 78) hx hb dX3_append_112 (by decide) ?_
                        refine lv_iload hx hb dX3_append_78 (lv_at hl 0 rfl) ?_
                        refine lv_if_lt (tgt := 115) hx hb dX3_append_80 (by decide) (fun h => absurd h (by decide +kernel)) (fun _ => ?_)
                        refine lv_aload_n hx hb dX3_append_83 rfl (lv_at hl 2 rfl) ?_
                        refine va_get (D := g.1) (ci := 3) (v := .ref h37) (C := RX3) (T := TX3) (N := 2) hx hb hts zl_X3 hown hK hP 0 rfl rfl 0 (by decide) (hts _ m_f_RX3_11) (fun _ h => h) rfl dX3_append_84 ?_
                        refine lv_aload_n hx hb dX3_append_87 rfl (lv_at hl 2 rfl) ?_
                        refine va_get (D := g.1) (ci := 3) (v := .int 2) (C := RX3) (T := TX3) (N := 2) hx hb hts zl_X3 hown hK hP 0 rfl rfl 1 (by decide) (hts _ m_f_RX3_15) (fun _ h => h) rfl dX3_append_88 ?_
                        refine lv_lload_n hx hb dX3_append_91 rfl (lv_at hl 3 rfl) ?_
                        refine lv_iload hx hb dX3_append_92 (lv_at hl 0 rfl) ?_
                        refine z_calli (wr := [(h0, .inr (3, [.ref h37, .int 2])), (h37, .inl (zB g, 60, .inl (upd (upd (fun _ => 0) 0 (vp_nar .byte ((((p1 >>> ((16 : Int32).toInt64 &&& 63)) &&& 255).toInt32).toInt8.toInt32))) 1 (vp_nar .byte ((((p1 >>> ((8 : Int32).toInt64 &&& 63)) &&& 255).toInt32).toInt8.toInt32)))))]) hP hD hS hA [] [0, 1] (by decide) rfl rfl (by decide) (va_runS (As := [.long p1, .int 0]) (rest := [.int 2, .ref h37]) ⟨hx, hb, hml, hown, hts⟩ (kX3_byteOf_42 l g  H.size p1) ⟨callB_of 2 hts (zGood m_o_yX3_byteOf) rfl rfl rfl (hts _ m_z_RX3) (hts _ m_m_RX3_19) ⟨by decide +kernel, by decide +kernel, by decide +kernel⟩ ⟨Nat.le_of_ble_eq_true rfl, Nat.le_of_ble_eq_true rfl⟩, hts _ m_s_yX3_byteOf⟩ (zPreS hK hN hZ hP hD hS hA [] (by decide) rfl rfl) rfl rfl hl.1 rfl (lv_room (Nat.le_of_ble_eq_true rfl)) dX3_append_94 ⟨Nat.le_of_ble_eq_true rfl, Nat.le_of_ble_eq_true rfl⟩) (fun r u H locs hw hP hD hS => ?_)
                        obtain rfl := hw
                        have hP : va_P g.1 vwCl [(h0, .inr (3, [.ref h37, .int 2])), (h37, .inl (zB g, 60, .inl (upd (upd (fun _ => 0) 0 (vp_nar .byte ((((p1 >>> ((16 : Int32).toInt64 &&& 63)) &&& 255).toInt32).toInt8.toInt32))) 1 (vp_nar .byte ((((p1 >>> ((8 : Int32).toInt64 &&& 63)) &&& 255).toInt32).toInt8.toInt32)))))] H := hP
                        have hD : va_D A [(h0, .inr (3, [.ref h37, .int 2])), (h37, .inl (zB g, 60, .inl (upd (upd (fun _ => 0) 0 (vp_nar .byte ((((p1 >>> ((16 : Int32).toInt64 &&& 63)) &&& 255).toInt32).toInt8.toInt32))) 1 (vp_nar .byte ((((p1 >>> ((8 : Int32).toInt64 &&& 63)) &&& 255).toInt32).toInt8.toInt32)))))] := hD
                        refine lv_i2b (v := (((p1 >>> ((0 : Int32).toInt64 &&& 63)) &&& 255).toInt32).toInt8.toInt32) hx hb dX3_append_97 rfl ?_
                        refine va_bast (D := g.1) hx hb hK hP hD hS 1 2 rfl rfl (vp_in_iff.mpr (by decide +kernel)) dX3_append_98 (fun H locs hP hD hS => ?_)
                        have hP : va_P g.1 vwCl [(h0, .inr (3, [.ref h37, .int 2])), (h37, .inl (zB g, 60, .inl (upd (upd (upd (fun _ => 0) 0 (vp_nar .byte ((((p1 >>> ((16 : Int32).toInt64 &&& 63)) &&& 255).toInt32).toInt8.toInt32))) 1 (vp_nar .byte ((((p1 >>> ((8 : Int32).toInt64 &&& 63)) &&& 255).toInt32).toInt8.toInt32))) 2 (vp_nar .byte ((((p1 >>> ((0 : Int32).toInt64 &&& 63)) &&& 255).toInt32).toInt8.toInt32)))))] H := hP
                        have hD : va_D A [(h0, .inr (3, [.ref h37, .int 2])), (h37, .inl (zB g, 60, .inl (upd (upd (upd (fun _ => 0) 0 (vp_nar .byte ((((p1 >>> ((16 : Int32).toInt64 &&& 63)) &&& 255).toInt32).toInt8.toInt32))) 1 (vp_nar .byte ((((p1 >>> ((8 : Int32).toInt64 &&& 63)) &&& 255).toInt32).toInt8.toInt32))) 2 (vp_nar .byte ((((p1 >>> ((0 : Int32).toInt64 &&& 63)) &&& 255).toInt32).toInt8.toInt32)))))] := hD
                        refine lv_aload_n hx hb dX3_append_99 rfl (lv_at hl 2 rfl) ?_
                        refine lv_dup hx hb dX3_append_100 rfl ?_
                        refine va_get (D := g.1) (ci := 3) (v := .int 2) (C := RX3) (T := TX3) (N := 2) hx hb hts zl_X3 hown hK hP 0 rfl rfl 1 (by decide) (hts _ m_f_RX3_15) (fun _ h => h) rfl dX3_append_101 ?_
                        refine lv_iconst (v := 1) hx hb dX3_append_104 (by decide) ?_
                        refine lv_iadd hx hb dX3_append_105 ?_
                        refine lv_topi (nm_r (e' := 3) (by decide +kernel) ?_)
                        refine va_put (D := g.1) (ci := 3) (v := .int 3) (ty := .int) (C := RX3) (T := TX3) (N := 2) hx hb hts zl_X3 tyX3 tyX3_ok nmX3 hown hK hP hD hS 0 rfl rfl 1 (by decide) (hts _ m_f_RX3_15) (fun _ h => h) rfl (by decide +kernel) rfl rfl (Nat.le_of_ble_eq_true rfl) dX3_append_106 (fun H locs hP hD hS => ?_)
                        have hP : va_P g.1 vwCl [(h0, .inr (3, [.ref h37, .int 3])), (h37, .inl (zB g, 60, .inl (upd (upd (upd (fun _ => 0) 0 (vp_nar .byte ((((p1 >>> ((16 : Int32).toInt64 &&& 63)) &&& 255).toInt32).toInt8.toInt32))) 1 (vp_nar .byte ((((p1 >>> ((8 : Int32).toInt64 &&& 63)) &&& 255).toInt32).toInt8.toInt32))) 2 (vp_nar .byte ((((p1 >>> ((0 : Int32).toInt64 &&& 63)) &&& 255).toInt32).toInt8.toInt32)))))] H := hP
                        have hD : va_D A [(h0, .inr (3, [.ref h37, .int 3])), (h37, .inl (zB g, 60, .inl (upd (upd (upd (fun _ => 0) 0 (vp_nar .byte ((((p1 >>> ((16 : Int32).toInt64 &&& 63)) &&& 255).toInt32).toInt8.toInt32))) 1 (vp_nar .byte ((((p1 >>> ((8 : Int32).toInt64 &&& 63)) &&& 255).toInt32).toInt8.toInt32))) 2 (vp_nar .byte ((((p1 >>> ((0 : Int32).toInt64 &&& 63)) &&& 255).toInt32).toInt8.toInt32)))))] := hD
                        refine lv_iinc (v := (-1)) (lv' := [(4, .int (-1)), (5, .int (((p1 >>> ((16 : Int32).toInt64 &&& 63)) &&& 255).toInt32)), (0, .ref h0), (1, .long p1), (3, .int 3)]) hx hb dX3_append_109 hl (k := 0) rfl (by decide) (by decide) rfl (fun ls hl => ?_)
                        refine lv_goto (tgt := 78) hx hb dX3_append_112 (by decide) ?_
                        refine lv_iload hx hb dX3_append_78 (lv_at hl 0 rfl) ?_
                        refine lv_if_lt (tgt := 115) hx hb dX3_append_80 (by decide) (fun _ => ?_) (fun h => absurd h (by decide +kernel))
                        refine lv_aload_n hx hb dX3_append_115 rfl (lv_at hl 2 rfl) ?_
                        refine va_get (D := g.1) (ci := 3) (v := .int 3) (C := RX3) (T := TX3) (N := 2) hx hb hts zl_X3 hown hK hP 0 rfl rfl 1 (by decide) (hts _ m_f_RX3_15) (fun _ h => h) rfl dX3_append_116 ?_
                        have hP9 := hP.sub (ws' := []) [] rfl
                        have hD9 := hD.sub (ws' := []) [] (by decide) rfl
                        exact W.iret (v := 3) hx hb hr (fun t ht hW => ⟨⟨3, 0, rfl, Or.inr (Or.inr (Or.inr (Or.inr (Or.inr (Or.inr (Or.inl ⟨i_0, i_1, i_3, i_4, i_5, i_7, i_8, i_9, i_11, i_12, i_13, rfl⟩)))))), by rw [ht]; exact hP9, hD9⟩, hS.F ht⟩) hS.2.2 dX3_append_119
                      · have i_13 : 3 < p2.toInt := z_nle (rfl) (rfl) c_13
                        refine lv_lload_n hx hb dX3_append_22 rfl (lv_at hl 3 rfl) ?_
                        refine lv_iload hx hb dX3_append_23 (lv_at hl 0 rfl) ?_
                        refine z_calli (wr := [(h0, .inr (3, [.ref h37, .int 0])), (h37, .inl (zB g, 60, .inl (fun _ => 0)))]) hP hD hS hA [] [0, 1] (by decide) rfl rfl (by decide) (va_runS (As := [.long p1, .int 3]) (rest := []) ⟨hx, hb, hml, hown, hts⟩ (kX3_byteOf_43 l g  H.size p1) ⟨callB_of 2 hts (zGood m_o_yX3_byteOf) rfl rfl rfl (hts _ m_z_RX3) (hts _ m_m_RX3_19) ⟨by decide +kernel, by decide +kernel, by decide +kernel⟩ ⟨Nat.le_of_ble_eq_true rfl, Nat.le_of_ble_eq_true rfl⟩, hts _ m_s_yX3_byteOf⟩ (zPreS hK hN hZ hP hD hS hA [] (by decide) rfl rfl) rfl rfl hl.1 rfl (lv_room (Nat.le_of_ble_eq_true rfl)) dX3_append_25 ⟨Nat.le_of_ble_eq_true rfl, Nat.le_of_ble_eq_true rfl⟩) (fun r u H locs hw hP hD hS => ?_)
                        obtain rfl := hw
                        have hP : va_P g.1 vwCl [(h0, .inr (3, [.ref h37, .int 0])), (h37, .inl (zB g, 60, .inl (fun _ => 0)))] H := hP
                        have hD : va_D A [(h0, .inr (3, [.ref h37, .int 0])), (h37, .inl (zB g, 60, .inl (fun _ => 0)))] := hD
                        refine lv_istore (lv' := [(5, .int (((p1 >>> ((24 : Int32).toInt64 &&& 63)) &&& 255).toInt32)), (4, .int 3), (0, .ref h0), (1, .long p1), (3, .int p2)]) hx hb dX3_append_28 hl (by decide) rfl (fun ls hl => ?_)
                        refine lv_iload hx hb dX3_append_30 (lv_at hl 0 rfl) ?_
                        refine lv_bipush (v := 32) hx hb dX3_append_32 (by decide) ?_
                        refine lv_icmp_lt (tgt := 44) hx hb dX3_append_34 (by decide) (fun c_15 => ?_) (fun c_15 => ?_)
                        · have i_15 : (((p1 >>> ((24 : Int32).toInt64 &&& 63)) &&& 255) : Int64).toInt < 32 := z_lt ((z_b255 _)) (rfl) c_15
                          refine lv_iconst (v := (-1)) hx hb dX3_append_44 (by decide) ?_
                          have hP9 := hP.sub (ws' := []) [] rfl
                          have hD9 := hD.sub (ws' := []) [] (by decide) rfl
                          exact W.iret (v := (-1)) hx hb hr (fun t ht hW => ⟨⟨(-1), 0, rfl, Or.inr (Or.inr (Or.inr (Or.inr (Or.inr (Or.inr (Or.inr (Or.inl ⟨i_0, i_1, i_3, i_4, i_5, i_7, i_8, i_9, i_11, i_12, i_13, i_15, rfl⟩))))))), by rw [ht]; exact hP9, hD9⟩, hS.F ht⟩) hS.2.2 dX3_append_45
                        · have i_15 : 32 ≤ (((p1 >>> ((24 : Int32).toInt64 &&& 63)) &&& 255) : Int64).toInt := z_nlt ((z_b255 _)) (rfl) c_15
                          refine lv_iload hx hb dX3_append_37 (lv_at hl 0 rfl) ?_
                          refine lv_bipush (v := 126) hx hb dX3_append_39 (by decide) ?_
                          refine lv_icmp_le (tgt := 46) hx hb dX3_append_41 (by decide) (fun c_16 => ?_) (fun c_16 => ?_)
                          · have i_16 : (((p1 >>> ((24 : Int32).toInt64 &&& 63)) &&& 255) : Int64).toInt ≤ 126 := z_le ((z_b255 _)) (rfl) c_16
                            refine lv_iinc (v := 4) (lv' := [(4, .int 4), (5, .int (((p1 >>> ((24 : Int32).toInt64 &&& 63)) &&& 255).toInt32)), (0, .ref h0), (1, .long p1), (3, .int p2)]) hx hb dX3_append_46 hl (k := 1) rfl (by decide) (by decide) rfl (fun ls hl => ?_)
                            refine lv_goto (tgt := 16) hx hb dX3_append_49 (by decide) ?_
                            refine lv_iload hx hb dX3_append_16 (lv_at hl 0 rfl) ?_
                            refine lv_iload_n hx hb dX3_append_18 rfl (lv_at hl 4 rfl) ?_
                            refine lv_icmp_ge (tgt := 52) hx hb dX3_append_19 (by decide) (fun c_17 => ?_) (fun c_17 => ?_)
                            · have i_17 : p2.toInt ≤ 4 := z_le (rfl) (rfl) c_17
                              refine lv_aload_n hx hb dX3_append_52 rfl (lv_at hl 2 rfl) ?_
                              refine va_get (D := g.1) (ci := 3) (v := .int 0) (C := RX3) (T := TX3) (N := 2) hx hb hts zl_X3 hown hK hP 0 rfl rfl 1 (by decide) (hts _ m_f_RX3_15) (fun _ h => h) rfl dX3_append_53 ?_
                              refine lv_if_lt (tgt := 70) hx hb dX3_append_56 (by decide) (fun h => absurd h (by decide +kernel)) (fun _ => ?_)
                              refine lv_aload_n hx hb dX3_append_59 rfl (lv_at hl 2 rfl) ?_
                              refine va_get (D := g.1) (ci := 3) (v := .int 0) (C := RX3) (T := TX3) (N := 2) hx hb hts zl_X3 hown hK hP 0 rfl rfl 1 (by decide) (hts _ m_f_RX3_15) (fun _ h => h) rfl dX3_append_60 ?_
                              refine lv_iload_n hx hb dX3_append_63 rfl (lv_at hl 4 rfl) ?_
                              obtain rfl : p2 = 4 := Int32.toInt_inj.mp (show p2.toInt = (4 : Int32).toInt from (show p2.toInt = 4 by omega).trans rfl)
                              refine lv_iadd hx hb dX3_append_64 ?_
                              refine lv_topi (nm_r (e' := 4) (by decide +kernel) ?_)
                              refine lv_bipush (v := 60) hx hb dX3_append_65 (by decide) ?_
                              refine lv_icmp_le (tgt := 73) hx hb dX3_append_67 (by decide) (fun _ => ?_) (fun h => absurd h (by decide +kernel))
                              refine lv_iload_n hx hb dX3_append_73 rfl (lv_at hl 4 rfl) ?_
                              refine lv_iconst (v := 1) hx hb dX3_append_74 (by decide) ?_
                              refine lv_isub hx hb dX3_append_75 ?_
                              refine lv_topi (nm_r (e' := 3) (by decide +kernel) ?_)
                              refine lv_istore (lv' := [(4, .int 3), (5, .int (((p1 >>> ((24 : Int32).toInt64 &&& 63)) &&& 255).toInt32)), (0, .ref h0), (1, .long p1), (3, .int 4)]) hx hb dX3_append_76 hl (by decide) rfl (fun ls hl => ?_)
                              refine lv_iload hx hb dX3_append_78 (lv_at hl 0 rfl) ?_
                              refine lv_if_lt (tgt := 115) hx hb dX3_append_80 (by decide) (fun h => absurd h (by decide +kernel)) (fun _ => ?_)
                              refine lv_aload_n hx hb dX3_append_83 rfl (lv_at hl 2 rfl) ?_
                              refine va_get (D := g.1) (ci := 3) (v := .ref h37) (C := RX3) (T := TX3) (N := 2) hx hb hts zl_X3 hown hK hP 0 rfl rfl 0 (by decide) (hts _ m_f_RX3_11) (fun _ h => h) rfl dX3_append_84 ?_
                              refine lv_aload_n hx hb dX3_append_87 rfl (lv_at hl 2 rfl) ?_
                              refine va_get (D := g.1) (ci := 3) (v := .int 0) (C := RX3) (T := TX3) (N := 2) hx hb hts zl_X3 hown hK hP 0 rfl rfl 1 (by decide) (hts _ m_f_RX3_15) (fun _ h => h) rfl dX3_append_88 ?_
                              refine lv_lload_n hx hb dX3_append_91 rfl (lv_at hl 3 rfl) ?_
                              refine lv_iload hx hb dX3_append_92 (lv_at hl 0 rfl) ?_
                              refine z_calli (wr := [(h0, .inr (3, [.ref h37, .int 0])), (h37, .inl (zB g, 60, .inl (fun _ => 0)))]) hP hD hS hA [] [0, 1] (by decide) rfl rfl (by decide) (va_runS (As := [.long p1, .int 3]) (rest := [.int 0, .ref h37]) ⟨hx, hb, hml, hown, hts⟩ (kX3_byteOf_43 l g  H.size p1) ⟨callB_of 2 hts (zGood m_o_yX3_byteOf) rfl rfl rfl (hts _ m_z_RX3) (hts _ m_m_RX3_19) ⟨by decide +kernel, by decide +kernel, by decide +kernel⟩ ⟨Nat.le_of_ble_eq_true rfl, Nat.le_of_ble_eq_true rfl⟩, hts _ m_s_yX3_byteOf⟩ (zPreS hK hN hZ hP hD hS hA [] (by decide) rfl rfl) rfl rfl hl.1 rfl (lv_room (Nat.le_of_ble_eq_true rfl)) dX3_append_94 ⟨Nat.le_of_ble_eq_true rfl, Nat.le_of_ble_eq_true rfl⟩) (fun r u H locs hw hP hD hS => ?_)
                              obtain rfl := hw
                              have hP : va_P g.1 vwCl [(h0, .inr (3, [.ref h37, .int 0])), (h37, .inl (zB g, 60, .inl (fun _ => 0)))] H := hP
                              have hD : va_D A [(h0, .inr (3, [.ref h37, .int 0])), (h37, .inl (zB g, 60, .inl (fun _ => 0)))] := hD
                              refine lv_i2b (v := (((p1 >>> ((24 : Int32).toInt64 &&& 63)) &&& 255).toInt32).toInt8.toInt32) hx hb dX3_append_97 rfl ?_
                              refine va_bast (D := g.1) hx hb hK hP hD hS 1 2 rfl rfl (vp_in_iff.mpr (by decide +kernel)) dX3_append_98 (fun H locs hP hD hS => ?_)
                              have hP : va_P g.1 vwCl [(h0, .inr (3, [.ref h37, .int 0])), (h37, .inl (zB g, 60, .inl (upd (fun _ => 0) 0 (vp_nar .byte ((((p1 >>> ((24 : Int32).toInt64 &&& 63)) &&& 255).toInt32).toInt8.toInt32)))))] H := hP
                              have hD : va_D A [(h0, .inr (3, [.ref h37, .int 0])), (h37, .inl (zB g, 60, .inl (upd (fun _ => 0) 0 (vp_nar .byte ((((p1 >>> ((24 : Int32).toInt64 &&& 63)) &&& 255).toInt32).toInt8.toInt32)))))] := hD
                              refine lv_aload_n hx hb dX3_append_99 rfl (lv_at hl 2 rfl) ?_
                              refine lv_dup hx hb dX3_append_100 rfl ?_
                              refine va_get (D := g.1) (ci := 3) (v := .int 0) (C := RX3) (T := TX3) (N := 2) hx hb hts zl_X3 hown hK hP 0 rfl rfl 1 (by decide) (hts _ m_f_RX3_15) (fun _ h => h) rfl dX3_append_101 ?_
                              refine lv_iconst (v := 1) hx hb dX3_append_104 (by decide) ?_
                              refine lv_iadd hx hb dX3_append_105 ?_
                              refine lv_topi (nm_r (e' := 1) (by decide +kernel) ?_)
                              refine va_put (D := g.1) (ci := 3) (v := .int 1) (ty := .int) (C := RX3) (T := TX3) (N := 2) hx hb hts zl_X3 tyX3 tyX3_ok nmX3 hown hK hP hD hS 0 rfl rfl 1 (by decide) (hts _ m_f_RX3_15) (fun _ h => h) rfl (by decide +kernel) rfl rfl (Nat.le_of_ble_eq_true rfl) dX3_append_106 (fun H locs hP hD hS => ?_)
                              have hP : va_P g.1 vwCl [(h0, .inr (3, [.ref h37, .int 1])), (h37, .inl (zB g, 60, .inl (upd (fun _ => 0) 0 (vp_nar .byte ((((p1 >>> ((24 : Int32).toInt64 &&& 63)) &&& 255).toInt32).toInt8.toInt32)))))] H := hP
                              have hD : va_D A [(h0, .inr (3, [.ref h37, .int 1])), (h37, .inl (zB g, 60, .inl (upd (fun _ => 0) 0 (vp_nar .byte ((((p1 >>> ((24 : Int32).toInt64 &&& 63)) &&& 255).toInt32).toInt8.toInt32)))))] := hD
                              refine lv_iinc (v := 2) (lv' := [(4, .int 2), (5, .int (((p1 >>> ((24 : Int32).toInt64 &&& 63)) &&& 255).toInt32)), (0, .ref h0), (1, .long p1), (3, .int 4)]) hx hb dX3_append_109 hl (k := 0) rfl (by decide) (by decide) rfl (fun ls hl => ?_)
                              refine lv_goto (tgt := 78) hx hb dX3_append_112 (by decide) ?_
                              refine lv_iload hx hb dX3_append_78 (lv_at hl 0 rfl) ?_
                              refine lv_if_lt (tgt := 115) hx hb dX3_append_80 (by decide) (fun h => absurd h (by decide +kernel)) (fun _ => ?_)
                              refine lv_aload_n hx hb dX3_append_83 rfl (lv_at hl 2 rfl) ?_
                              refine va_get (D := g.1) (ci := 3) (v := .ref h37) (C := RX3) (T := TX3) (N := 2) hx hb hts zl_X3 hown hK hP 0 rfl rfl 0 (by decide) (hts _ m_f_RX3_11) (fun _ h => h) rfl dX3_append_84 ?_
                              refine lv_aload_n hx hb dX3_append_87 rfl (lv_at hl 2 rfl) ?_
                              refine va_get (D := g.1) (ci := 3) (v := .int 1) (C := RX3) (T := TX3) (N := 2) hx hb hts zl_X3 hown hK hP 0 rfl rfl 1 (by decide) (hts _ m_f_RX3_15) (fun _ h => h) rfl dX3_append_88 ?_
                              refine lv_lload_n hx hb dX3_append_91 rfl (lv_at hl 3 rfl) ?_
                              refine lv_iload hx hb dX3_append_92 (lv_at hl 0 rfl) ?_
                              refine z_calli (wr := [(h0, .inr (3, [.ref h37, .int 1])), (h37, .inl (zB g, 60, .inl (upd (fun _ => 0) 0 (vp_nar .byte ((((p1 >>> ((24 : Int32).toInt64 &&& 63)) &&& 255).toInt32).toInt8.toInt32)))))]) hP hD hS hA [] [0, 1] (by decide) rfl rfl (by decide) (va_runS (As := [.long p1, .int 2]) (rest := [.int 1, .ref h37]) ⟨hx, hb, hml, hown, hts⟩ (kX3_byteOf_44 l g  H.size p1) ⟨callB_of 2 hts (zGood m_o_yX3_byteOf) rfl rfl rfl (hts _ m_z_RX3) (hts _ m_m_RX3_19) ⟨by decide +kernel, by decide +kernel, by decide +kernel⟩ ⟨Nat.le_of_ble_eq_true rfl, Nat.le_of_ble_eq_true rfl⟩, hts _ m_s_yX3_byteOf⟩ (zPreS hK hN hZ hP hD hS hA [] (by decide) rfl rfl) rfl rfl hl.1 rfl (lv_room (Nat.le_of_ble_eq_true rfl)) dX3_append_94 ⟨Nat.le_of_ble_eq_true rfl, Nat.le_of_ble_eq_true rfl⟩) (fun r u H locs hw hP hD hS => ?_)
                              obtain rfl := hw
                              have hP : va_P g.1 vwCl [(h0, .inr (3, [.ref h37, .int 1])), (h37, .inl (zB g, 60, .inl (upd (fun _ => 0) 0 (vp_nar .byte ((((p1 >>> ((24 : Int32).toInt64 &&& 63)) &&& 255).toInt32).toInt8.toInt32)))))] H := hP
                              have hD : va_D A [(h0, .inr (3, [.ref h37, .int 1])), (h37, .inl (zB g, 60, .inl (upd (fun _ => 0) 0 (vp_nar .byte ((((p1 >>> ((24 : Int32).toInt64 &&& 63)) &&& 255).toInt32).toInt8.toInt32)))))] := hD
                              refine lv_i2b (v := (((p1 >>> ((16 : Int32).toInt64 &&& 63)) &&& 255).toInt32).toInt8.toInt32) hx hb dX3_append_97 rfl ?_
                              refine va_bast (D := g.1) hx hb hK hP hD hS 1 2 rfl rfl (vp_in_iff.mpr (by decide +kernel)) dX3_append_98 (fun H locs hP hD hS => ?_)
                              have hP : va_P g.1 vwCl [(h0, .inr (3, [.ref h37, .int 1])), (h37, .inl (zB g, 60, .inl (upd (upd (fun _ => 0) 0 (vp_nar .byte ((((p1 >>> ((24 : Int32).toInt64 &&& 63)) &&& 255).toInt32).toInt8.toInt32))) 1 (vp_nar .byte ((((p1 >>> ((16 : Int32).toInt64 &&& 63)) &&& 255).toInt32).toInt8.toInt32)))))] H := hP
                              have hD : va_D A [(h0, .inr (3, [.ref h37, .int 1])), (h37, .inl (zB g, 60, .inl (upd (upd (fun _ => 0) 0 (vp_nar .byte ((((p1 >>> ((24 : Int32).toInt64 &&& 63)) &&& 255).toInt32).toInt8.toInt32))) 1 (vp_nar .byte ((((p1 >>> ((16 : Int32).toInt64 &&& 63)) &&& 255).toInt32).toInt8.toInt32)))))] := hD
                              refine lv_aload_n hx hb dX3_append_99 rfl (lv_at hl 2 rfl) ?_
                              refine lv_dup hx hb dX3_append_100 rfl ?_
                              refine va_get (D := g.1) (ci := 3) (v := .int 1) (C := RX3) (T := TX3) (N := 2) hx hb hts zl_X3 hown hK hP 0 rfl rfl 1 (by decide) (hts _ m_f_RX3_15) (fun _ h => h) rfl dX3_append_101 ?_
                              refine lv_iconst (v := 1) hx hb dX3_append_104 (by decide) ?_
                              refine lv_iadd hx hb dX3_append_105 ?_
                              refine lv_topi (nm_r (e' := 2) (by decide +kernel) ?_)
                              refine va_put (D := g.1) (ci := 3) (v := .int 2) (ty := .int) (C := RX3) (T := TX3) (N := 2) hx hb hts zl_X3 tyX3 tyX3_ok nmX3 hown hK hP hD hS 0 rfl rfl 1 (by decide) (hts _ m_f_RX3_15) (fun _ h => h) rfl (by decide +kernel) rfl rfl (Nat.le_of_ble_eq_true rfl) dX3_append_106 (fun H locs hP hD hS => ?_)
                              have hP : va_P g.1 vwCl [(h0, .inr (3, [.ref h37, .int 2])), (h37, .inl (zB g, 60, .inl (upd (upd (fun _ => 0) 0 (vp_nar .byte ((((p1 >>> ((24 : Int32).toInt64 &&& 63)) &&& 255).toInt32).toInt8.toInt32))) 1 (vp_nar .byte ((((p1 >>> ((16 : Int32).toInt64 &&& 63)) &&& 255).toInt32).toInt8.toInt32)))))] H := hP
                              have hD : va_D A [(h0, .inr (3, [.ref h37, .int 2])), (h37, .inl (zB g, 60, .inl (upd (upd (fun _ => 0) 0 (vp_nar .byte ((((p1 >>> ((24 : Int32).toInt64 &&& 63)) &&& 255).toInt32).toInt8.toInt32))) 1 (vp_nar .byte ((((p1 >>> ((16 : Int32).toInt64 &&& 63)) &&& 255).toInt32).toInt8.toInt32)))))] := hD
                              refine lv_iinc (v := 1) (lv' := [(4, .int 1), (5, .int (((p1 >>> ((24 : Int32).toInt64 &&& 63)) &&& 255).toInt32)), (0, .ref h0), (1, .long p1), (3, .int 4)]) hx hb dX3_append_109 hl (k := 0) rfl (by decide) (by decide) rfl (fun ls hl => ?_)
                              refine lv_goto (tgt := 78) hx hb dX3_append_112 (by decide) ?_
                              refine lv_iload hx hb dX3_append_78 (lv_at hl 0 rfl) ?_
                              refine lv_if_lt (tgt := 115) hx hb dX3_append_80 (by decide) (fun h => absurd h (by decide +kernel)) (fun _ => ?_)
                              refine lv_aload_n hx hb dX3_append_83 rfl (lv_at hl 2 rfl) ?_
                              refine va_get (D := g.1) (ci := 3) (v := .ref h37) (C := RX3) (T := TX3) (N := 2) hx hb hts zl_X3 hown hK hP 0 rfl rfl 0 (by decide) (hts _ m_f_RX3_11) (fun _ h => h) rfl dX3_append_84 ?_
                              refine lv_aload_n hx hb dX3_append_87 rfl (lv_at hl 2 rfl) ?_
                              refine va_get (D := g.1) (ci := 3) (v := .int 2) (C := RX3) (T := TX3) (N := 2) hx hb hts zl_X3 hown hK hP 0 rfl rfl 1 (by decide) (hts _ m_f_RX3_15) (fun _ h => h) rfl dX3_append_88 ?_
                              refine lv_lload_n hx hb dX3_append_91 rfl (lv_at hl 3 rfl) ?_
                              refine lv_iload hx hb dX3_append_92 (lv_at hl 0 rfl) ?_
                              refine z_calli (wr := [(h0, .inr (3, [.ref h37, .int 2])), (h37, .inl (zB g, 60, .inl (upd (upd (fun _ => 0) 0 (vp_nar .byte ((((p1 >>> ((24 : Int32).toInt64 &&& 63)) &&& 255).toInt32).toInt8.toInt32))) 1 (vp_nar .byte ((((p1 >>> ((16 : Int32).toInt64 &&& 63)) &&& 255).toInt32).toInt8.toInt32)))))]) hP hD hS hA [] [0, 1] (by decide) rfl rfl (by decide) (va_runS (As := [.long p1, .int 1]) (rest := [.int 2, .ref h37]) ⟨hx, hb, hml, hown, hts⟩ (kX3_byteOf_45 l g  H.size p1) ⟨callB_of 2 hts (zGood m_o_yX3_byteOf) rfl rfl rfl (hts _ m_z_RX3) (hts _ m_m_RX3_19) ⟨by decide +kernel, by decide +kernel, by decide +kernel⟩ ⟨Nat.le_of_ble_eq_true rfl, Nat.le_of_ble_eq_true rfl⟩, hts _ m_s_yX3_byteOf⟩ (zPreS hK hN hZ hP hD hS hA [] (by decide) rfl rfl) rfl rfl hl.1 rfl (lv_room (Nat.le_of_ble_eq_true rfl)) dX3_append_94 ⟨Nat.le_of_ble_eq_true rfl, Nat.le_of_ble_eq_true rfl⟩) (fun r u H locs hw hP hD hS => ?_)
                              obtain rfl := hw
                              have hP : va_P g.1 vwCl [(h0, .inr (3, [.ref h37, .int 2])), (h37, .inl (zB g, 60, .inl (upd (upd (fun _ => 0) 0 (vp_nar .byte ((((p1 >>> ((24 : Int32).toInt64 &&& 63)) &&& 255).toInt32).toInt8.toInt32))) 1 (vp_nar .byte ((((p1 >>> ((16 : Int32).toInt64 &&& 63)) &&& 255).toInt32).toInt8.toInt32)))))] H := hP
                              have hD : va_D A [(h0, .inr (3, [.ref h37, .int 2])), (h37, .inl (zB g, 60, .inl (upd (upd (fun _ => 0) 0 (vp_nar .byte ((((p1 >>> ((24 : Int32).toInt64 &&& 63)) &&& 255).toInt32).toInt8.toInt32))) 1 (vp_nar .byte ((((p1 >>> ((16 : Int32).toInt64 &&& 63)) &&& 255).toInt32).toInt8.toInt32)))))] := hD
                              refine lv_i2b (v := (((p1 >>> ((8 : Int32).toInt64 &&& 63)) &&& 255).toInt32).toInt8.toInt32) hx hb dX3_append_97 rfl ?_
                              refine va_bast (D := g.1) hx hb hK hP hD hS 1 2 rfl rfl (vp_in_iff.mpr (by decide +kernel)) dX3_append_98 (fun H locs hP hD hS => ?_)
                              have hP : va_P g.1 vwCl [(h0, .inr (3, [.ref h37, .int 2])), (h37, .inl (zB g, 60, .inl (upd (upd (upd (fun _ => 0) 0 (vp_nar .byte ((((p1 >>> ((24 : Int32).toInt64 &&& 63)) &&& 255).toInt32).toInt8.toInt32))) 1 (vp_nar .byte ((((p1 >>> ((16 : Int32).toInt64 &&& 63)) &&& 255).toInt32).toInt8.toInt32))) 2 (vp_nar .byte ((((p1 >>> ((8 : Int32).toInt64 &&& 63)) &&& 255).toInt32).toInt8.toInt32)))))] H := hP
                              have hD : va_D A [(h0, .inr (3, [.ref h37, .int 2])), (h37, .inl (zB g, 60, .inl (upd (upd (upd (fun _ => 0) 0 (vp_nar .byte ((((p1 >>> ((24 : Int32).toInt64 &&& 63)) &&& 255).toInt32).toInt8.toInt32))) 1 (vp_nar .byte ((((p1 >>> ((16 : Int32).toInt64 &&& 63)) &&& 255).toInt32).toInt8.toInt32))) 2 (vp_nar .byte ((((p1 >>> ((8 : Int32).toInt64 &&& 63)) &&& 255).toInt32).toInt8.toInt32)))))] := hD
                              refine lv_aload_n hx hb dX3_append_99 rfl (lv_at hl 2 rfl) ?_
                              refine lv_dup hx hb dX3_append_100 rfl ?_
                              refine va_get (D := g.1) (ci := 3) (v := .int 2) (C := RX3) (T := TX3) (N := 2) hx hb hts zl_X3 hown hK hP 0 rfl rfl 1 (by decide) (hts _ m_f_RX3_15) (fun _ h => h) rfl dX3_append_101 ?_
                              refine lv_iconst (v := 1) hx hb dX3_append_104 (by decide) ?_
                              refine lv_iadd hx hb dX3_append_105 ?_
                              refine lv_topi (nm_r (e' := 3) (by decide +kernel) ?_)
                              refine va_put (D := g.1) (ci := 3) (v := .int 3) (ty := .int) (C := RX3) (T := TX3) (N := 2) hx hb hts zl_X3 tyX3 tyX3_ok nmX3 hown hK hP hD hS 0 rfl rfl 1 (by decide) (hts _ m_f_RX3_15) (fun _ h => h) rfl (by decide +kernel) rfl rfl (Nat.le_of_ble_eq_true rfl) dX3_append_106 (fun H locs hP hD hS => ?_)
                              have hP : va_P g.1 vwCl [(h0, .inr (3, [.ref h37, .int 3])), (h37, .inl (zB g, 60, .inl (upd (upd (upd (fun _ => 0) 0 (vp_nar .byte ((((p1 >>> ((24 : Int32).toInt64 &&& 63)) &&& 255).toInt32).toInt8.toInt32))) 1 (vp_nar .byte ((((p1 >>> ((16 : Int32).toInt64 &&& 63)) &&& 255).toInt32).toInt8.toInt32))) 2 (vp_nar .byte ((((p1 >>> ((8 : Int32).toInt64 &&& 63)) &&& 255).toInt32).toInt8.toInt32)))))] H := hP
                              have hD : va_D A [(h0, .inr (3, [.ref h37, .int 3])), (h37, .inl (zB g, 60, .inl (upd (upd (upd (fun _ => 0) 0 (vp_nar .byte ((((p1 >>> ((24 : Int32).toInt64 &&& 63)) &&& 255).toInt32).toInt8.toInt32))) 1 (vp_nar .byte ((((p1 >>> ((16 : Int32).toInt64 &&& 63)) &&& 255).toInt32).toInt8.toInt32))) 2 (vp_nar .byte ((((p1 >>> ((8 : Int32).toInt64 &&& 63)) &&& 255).toInt32).toInt8.toInt32)))))] := hD
                              refine lv_iinc (v := 0) (lv' := [(4, .int 0), (5, .int (((p1 >>> ((24 : Int32).toInt64 &&& 63)) &&& 255).toInt32)), (0, .ref h0), (1, .long p1), (3, .int 4)]) hx hb dX3_append_109 hl (k := 0) rfl (by decide) (by decide) rfl (fun ls hl => ?_)
                              refine lv_goto (tgt := 78) hx hb dX3_append_112 (by decide) ?_
                              refine lv_iload hx hb dX3_append_78 (lv_at hl 0 rfl) ?_
                              refine lv_if_lt (tgt := 115) hx hb dX3_append_80 (by decide) (fun h => absurd h (by decide +kernel)) (fun _ => ?_)
                              refine lv_aload_n hx hb dX3_append_83 rfl (lv_at hl 2 rfl) ?_
                              refine va_get (D := g.1) (ci := 3) (v := .ref h37) (C := RX3) (T := TX3) (N := 2) hx hb hts zl_X3 hown hK hP 0 rfl rfl 0 (by decide) (hts _ m_f_RX3_11) (fun _ h => h) rfl dX3_append_84 ?_
                              refine lv_aload_n hx hb dX3_append_87 rfl (lv_at hl 2 rfl) ?_
                              refine va_get (D := g.1) (ci := 3) (v := .int 3) (C := RX3) (T := TX3) (N := 2) hx hb hts zl_X3 hown hK hP 0 rfl rfl 1 (by decide) (hts _ m_f_RX3_15) (fun _ h => h) rfl dX3_append_88 ?_
                              refine lv_lload_n hx hb dX3_append_91 rfl (lv_at hl 3 rfl) ?_
                              refine lv_iload hx hb dX3_append_92 (lv_at hl 0 rfl) ?_
                              refine z_calli (wr := [(h0, .inr (3, [.ref h37, .int 3])), (h37, .inl (zB g, 60, .inl (upd (upd (upd (fun _ => 0) 0 (vp_nar .byte ((((p1 >>> ((24 : Int32).toInt64 &&& 63)) &&& 255).toInt32).toInt8.toInt32))) 1 (vp_nar .byte ((((p1 >>> ((16 : Int32).toInt64 &&& 63)) &&& 255).toInt32).toInt8.toInt32))) 2 (vp_nar .byte ((((p1 >>> ((8 : Int32).toInt64 &&& 63)) &&& 255).toInt32).toInt8.toInt32)))))]) hP hD hS hA [] [0, 1] (by decide) rfl rfl (by decide) (va_runS (As := [.long p1, .int 0]) (rest := [.int 3, .ref h37]) ⟨hx, hb, hml, hown, hts⟩ (kX3_byteOf_46 l g  H.size p1) ⟨callB_of 2 hts (zGood m_o_yX3_byteOf) rfl rfl rfl (hts _ m_z_RX3) (hts _ m_m_RX3_19) ⟨by decide +kernel, by decide +kernel, by decide +kernel⟩ ⟨Nat.le_of_ble_eq_true rfl, Nat.le_of_ble_eq_true rfl⟩, hts _ m_s_yX3_byteOf⟩ (zPreS hK hN hZ hP hD hS hA [] (by decide) rfl rfl) rfl rfl hl.1 rfl (lv_room (Nat.le_of_ble_eq_true rfl)) dX3_append_94 ⟨Nat.le_of_ble_eq_true rfl, Nat.le_of_ble_eq_true rfl⟩) (fun r u H locs hw hP hD hS => ?_)
                              obtain rfl := hw
                              have hP : va_P g.1 vwCl [(h0, .inr (3, [.ref h37, .int 3])), (h37, .inl (zB g, 60, .inl (upd (upd (upd (fun _ => 0) 0 (vp_nar .byte ((((p1 >>> ((24 : Int32).toInt64 &&& 63)) &&& 255).toInt32).toInt8.toInt32))) 1 (vp_nar .byte ((((p1 >>> ((16 : Int32).toInt64 &&& 63)) &&& 255).toInt32).toInt8.toInt32))) 2 (vp_nar .byte ((((p1 >>> ((8 : Int32).toInt64 &&& 63)) &&& 255).toInt32).toInt8.toInt32)))))] H := hP
                              have hD : va_D A [(h0, .inr (3, [.ref h37, .int 3])), (h37, .inl (zB g, 60, .inl (upd (upd (upd (fun _ => 0) 0 (vp_nar .byte ((((p1 >>> ((24 : Int32).toInt64 &&& 63)) &&& 255).toInt32).toInt8.toInt32))) 1 (vp_nar .byte ((((p1 >>> ((16 : Int32).toInt64 &&& 63)) &&& 255).toInt32).toInt8.toInt32))) 2 (vp_nar .byte ((((p1 >>> ((8 : Int32).toInt64 &&& 63)) &&& 255).toInt32).toInt8.toInt32)))))] := hD
                              refine lv_i2b (v := (((p1 >>> ((0 : Int32).toInt64 &&& 63)) &&& 255).toInt32).toInt8.toInt32) hx hb dX3_append_97 rfl ?_
                              refine va_bast (D := g.1) hx hb hK hP hD hS 1 2 rfl rfl (vp_in_iff.mpr (by decide +kernel)) dX3_append_98 (fun H locs hP hD hS => ?_)
                              have hP : va_P g.1 vwCl [(h0, .inr (3, [.ref h37, .int 3])), (h37, .inl (zB g, 60, .inl (upd (upd (upd (upd (fun _ => 0) 0 (vp_nar .byte ((((p1 >>> ((24 : Int32).toInt64 &&& 63)) &&& 255).toInt32).toInt8.toInt32))) 1 (vp_nar .byte ((((p1 >>> ((16 : Int32).toInt64 &&& 63)) &&& 255).toInt32).toInt8.toInt32))) 2 (vp_nar .byte ((((p1 >>> ((8 : Int32).toInt64 &&& 63)) &&& 255).toInt32).toInt8.toInt32))) 3 (vp_nar .byte ((((p1 >>> ((0 : Int32).toInt64 &&& 63)) &&& 255).toInt32).toInt8.toInt32)))))] H := hP
                              have hD : va_D A [(h0, .inr (3, [.ref h37, .int 3])), (h37, .inl (zB g, 60, .inl (upd (upd (upd (upd (fun _ => 0) 0 (vp_nar .byte ((((p1 >>> ((24 : Int32).toInt64 &&& 63)) &&& 255).toInt32).toInt8.toInt32))) 1 (vp_nar .byte ((((p1 >>> ((16 : Int32).toInt64 &&& 63)) &&& 255).toInt32).toInt8.toInt32))) 2 (vp_nar .byte ((((p1 >>> ((8 : Int32).toInt64 &&& 63)) &&& 255).toInt32).toInt8.toInt32))) 3 (vp_nar .byte ((((p1 >>> ((0 : Int32).toInt64 &&& 63)) &&& 255).toInt32).toInt8.toInt32)))))] := hD
                              refine lv_aload_n hx hb dX3_append_99 rfl (lv_at hl 2 rfl) ?_
                              refine lv_dup hx hb dX3_append_100 rfl ?_
                              refine va_get (D := g.1) (ci := 3) (v := .int 3) (C := RX3) (T := TX3) (N := 2) hx hb hts zl_X3 hown hK hP 0 rfl rfl 1 (by decide) (hts _ m_f_RX3_15) (fun _ h => h) rfl dX3_append_101 ?_
                              refine lv_iconst (v := 1) hx hb dX3_append_104 (by decide) ?_
                              refine lv_iadd hx hb dX3_append_105 ?_
                              refine lv_topi (nm_r (e' := 4) (by decide +kernel) ?_)
                              refine va_put (D := g.1) (ci := 3) (v := .int 4) (ty := .int) (C := RX3) (T := TX3) (N := 2) hx hb hts zl_X3 tyX3 tyX3_ok nmX3 hown hK hP hD hS 0 rfl rfl 1 (by decide) (hts _ m_f_RX3_15) (fun _ h => h) rfl (by decide +kernel) rfl rfl (Nat.le_of_ble_eq_true rfl) dX3_append_106 (fun H locs hP hD hS => ?_)
                              have hP : va_P g.1 vwCl [(h0, .inr (3, [.ref h37, .int 4])), (h37, .inl (zB g, 60, .inl (upd (upd (upd (upd (fun _ => 0) 0 (vp_nar .byte ((((p1 >>> ((24 : Int32).toInt64 &&& 63)) &&& 255).toInt32).toInt8.toInt32))) 1 (vp_nar .byte ((((p1 >>> ((16 : Int32).toInt64 &&& 63)) &&& 255).toInt32).toInt8.toInt32))) 2 (vp_nar .byte ((((p1 >>> ((8 : Int32).toInt64 &&& 63)) &&& 255).toInt32).toInt8.toInt32))) 3 (vp_nar .byte ((((p1 >>> ((0 : Int32).toInt64 &&& 63)) &&& 255).toInt32).toInt8.toInt32)))))] H := hP
                              have hD : va_D A [(h0, .inr (3, [.ref h37, .int 4])), (h37, .inl (zB g, 60, .inl (upd (upd (upd (upd (fun _ => 0) 0 (vp_nar .byte ((((p1 >>> ((24 : Int32).toInt64 &&& 63)) &&& 255).toInt32).toInt8.toInt32))) 1 (vp_nar .byte ((((p1 >>> ((16 : Int32).toInt64 &&& 63)) &&& 255).toInt32).toInt8.toInt32))) 2 (vp_nar .byte ((((p1 >>> ((8 : Int32).toInt64 &&& 63)) &&& 255).toInt32).toInt8.toInt32))) 3 (vp_nar .byte ((((p1 >>> ((0 : Int32).toInt64 &&& 63)) &&& 255).toInt32).toInt8.toInt32)))))] := hD
                              refine lv_iinc (v := (-1)) (lv' := [(4, .int (-1)), (5, .int (((p1 >>> ((24 : Int32).toInt64 &&& 63)) &&& 255).toInt32)), (0, .ref h0), (1, .long p1), (3, .int 4)]) hx hb dX3_append_109 hl (k := 0) rfl (by decide) (by decide) rfl (fun ls hl => ?_)
                              refine lv_goto (tgt := 78) hx hb dX3_append_112 (by decide) ?_
                              refine lv_iload hx hb dX3_append_78 (lv_at hl 0 rfl) ?_
                              refine lv_if_lt (tgt := 115) hx hb dX3_append_80 (by decide) (fun _ => ?_) (fun h => absurd h (by decide +kernel))
                              refine lv_aload_n hx hb dX3_append_115 rfl (lv_at hl 2 rfl) ?_
                              refine va_get (D := g.1) (ci := 3) (v := .int 4) (C := RX3) (T := TX3) (N := 2) hx hb hts zl_X3 hown hK hP 0 rfl rfl 1 (by decide) (hts _ m_f_RX3_15) (fun _ h => h) rfl dX3_append_116 ?_
                              have hP9 := hP.sub (ws' := []) [] rfl
                              have hD9 := hD.sub (ws' := []) [] (by decide) rfl
                              exact W.iret (v := 4) hx hb hr (fun t ht hW => ⟨⟨4, 0, rfl, Or.inr (Or.inr (Or.inr (Or.inr (Or.inr (Or.inr (Or.inr (Or.inr (Or.inl ⟨i_0, i_1, i_3, i_4, i_5, i_7, i_8, i_9, i_11, i_12, i_13, i_15, i_16, i_17, rfl⟩)))))))), by rw [ht]; exact hP9, hD9⟩, hS.F ht⟩) hS.2.2 dX3_append_119
                            · have i_17 : 4 < p2.toInt := z_nle (rfl) (rfl) c_17
                              refine lv_lload_n hx hb dX3_append_22 rfl (lv_at hl 3 rfl) ?_
                              refine lv_iload hx hb dX3_append_23 (lv_at hl 0 rfl) ?_
                              refine z_calli (wr := [(h0, .inr (3, [.ref h37, .int 0])), (h37, .inl (zB g, 60, .inl (fun _ => 0)))]) hP hD hS hA [] [0, 1] (by decide) rfl rfl (by decide) (va_runS (As := [.long p1, .int 4]) (rest := []) ⟨hx, hb, hml, hown, hts⟩ (kX3_byteOf_47 l g  H.size p1) ⟨callB_of 2 hts (zGood m_o_yX3_byteOf) rfl rfl rfl (hts _ m_z_RX3) (hts _ m_m_RX3_19) ⟨by decide +kernel, by decide +kernel, by decide +kernel⟩ ⟨Nat.le_of_ble_eq_true rfl, Nat.le_of_ble_eq_true rfl⟩, hts _ m_s_yX3_byteOf⟩ (zPreS hK hN hZ hP hD hS hA [] (by decide) rfl rfl) rfl rfl hl.1 rfl (lv_room (Nat.le_of_ble_eq_true rfl)) dX3_append_25 ⟨Nat.le_of_ble_eq_true rfl, Nat.le_of_ble_eq_true rfl⟩) (fun r u H locs hw hP hD hS => ?_)
                              obtain rfl := hw
                              have hP : va_P g.1 vwCl [(h0, .inr (3, [.ref h37, .int 0])), (h37, .inl (zB g, 60, .inl (fun _ => 0)))] H := hP
                              have hD : va_D A [(h0, .inr (3, [.ref h37, .int 0])), (h37, .inl (zB g, 60, .inl (fun _ => 0)))] := hD
                              refine lv_istore (lv' := [(5, .int (((p1 >>> ((32 : Int32).toInt64 &&& 63)) &&& 255).toInt32)), (4, .int 4), (0, .ref h0), (1, .long p1), (3, .int p2)]) hx hb dX3_append_28 hl (by decide) rfl (fun ls hl => ?_)
                              refine lv_iload hx hb dX3_append_30 (lv_at hl 0 rfl) ?_
                              refine lv_bipush (v := 32) hx hb dX3_append_32 (by decide) ?_
                              refine lv_icmp_lt (tgt := 44) hx hb dX3_append_34 (by decide) (fun c_19 => ?_) (fun c_19 => ?_)
                              · have i_19 : (((p1 >>> ((32 : Int32).toInt64 &&& 63)) &&& 255) : Int64).toInt < 32 := z_lt ((z_b255 _)) (rfl) c_19
                                refine lv_iconst (v := (-1)) hx hb dX3_append_44 (by decide) ?_
                                have hP9 := hP.sub (ws' := []) [] rfl
                                have hD9 := hD.sub (ws' := []) [] (by decide) rfl
                                exact W.iret (v := (-1)) hx hb hr (fun t ht hW => ⟨⟨(-1), 0, rfl, Or.inr (Or.inr (Or.inr (Or.inr (Or.inr (Or.inr (Or.inr (Or.inr (Or.inr (Or.inl ⟨i_0, i_1, i_3, i_4, i_5, i_7, i_8, i_9, i_11, i_12, i_13, i_15, i_16, i_17, i_19, rfl⟩))))))))), by rw [ht]; exact hP9, hD9⟩, hS.F ht⟩) hS.2.2 dX3_append_45
                              · have i_19 : 32 ≤ (((p1 >>> ((32 : Int32).toInt64 &&& 63)) &&& 255) : Int64).toInt := z_nlt ((z_b255 _)) (rfl) c_19
                                refine lv_iload hx hb dX3_append_37 (lv_at hl 0 rfl) ?_
                                refine lv_bipush (v := 126) hx hb dX3_append_39 (by decide) ?_
                                refine lv_icmp_le (tgt := 46) hx hb dX3_append_41 (by decide) (fun c_20 => ?_) (fun c_20 => ?_)
                                · have i_20 : (((p1 >>> ((32 : Int32).toInt64 &&& 63)) &&& 255) : Int64).toInt ≤ 126 := z_le ((z_b255 _)) (rfl) c_20
                                  refine lv_iinc (v := 5) (lv' := [(4, .int 5), (5, .int (((p1 >>> ((32 : Int32).toInt64 &&& 63)) &&& 255).toInt32)), (0, .ref h0), (1, .long p1), (3, .int p2)]) hx hb dX3_append_46 hl (k := 1) rfl (by decide) (by decide) rfl (fun ls hl => ?_)
                                  refine lv_goto (tgt := 16) hx hb dX3_append_49 (by decide) ?_
                                  refine lv_iload hx hb dX3_append_16 (lv_at hl 0 rfl) ?_
                                  refine lv_iload_n hx hb dX3_append_18 rfl (lv_at hl 4 rfl) ?_
                                  refine lv_icmp_ge (tgt := 52) hx hb dX3_append_19 (by decide) (fun c_21 => ?_) (fun c_21 => ?_)
                                  · have i_21 : p2.toInt ≤ 5 := z_le (rfl) (rfl) c_21
                                    refine lv_aload_n hx hb dX3_append_52 rfl (lv_at hl 2 rfl) ?_
                                    refine va_get (D := g.1) (ci := 3) (v := .int 0) (C := RX3) (T := TX3) (N := 2) hx hb hts zl_X3 hown hK hP 0 rfl rfl 1 (by decide) (hts _ m_f_RX3_15) (fun _ h => h) rfl dX3_append_53 ?_
                                    refine lv_if_lt (tgt := 70) hx hb dX3_append_56 (by decide) (fun h => absurd h (by decide +kernel)) (fun _ => ?_)
                                    refine lv_aload_n hx hb dX3_append_59 rfl (lv_at hl 2 rfl) ?_
                                    refine va_get (D := g.1) (ci := 3) (v := .int 0) (C := RX3) (T := TX3) (N := 2) hx hb hts zl_X3 hown hK hP 0 rfl rfl 1 (by decide) (hts _ m_f_RX3_15) (fun _ h => h) rfl dX3_append_60 ?_
                                    refine lv_iload_n hx hb dX3_append_63 rfl (lv_at hl 4 rfl) ?_
                                    obtain rfl : p2 = 5 := Int32.toInt_inj.mp (show p2.toInt = (5 : Int32).toInt from (show p2.toInt = 5 by omega).trans rfl)
                                    refine lv_iadd hx hb dX3_append_64 ?_
                                    refine lv_topi (nm_r (e' := 5) (by decide +kernel) ?_)
                                    refine lv_bipush (v := 60) hx hb dX3_append_65 (by decide) ?_
                                    refine lv_icmp_le (tgt := 73) hx hb dX3_append_67 (by decide) (fun _ => ?_) (fun h => absurd h (by decide +kernel))
                                    refine lv_iload_n hx hb dX3_append_73 rfl (lv_at hl 4 rfl) ?_
                                    refine lv_iconst (v := 1) hx hb dX3_append_74 (by decide) ?_
                                    refine lv_isub hx hb dX3_append_75 ?_
                                    refine lv_topi (nm_r (e' := 4) (by decide +kernel) ?_)
                                    refine lv_istore (lv' := [(4, .int 4), (5, .int (((p1 >>> ((32 : Int32).toInt64 &&& 63)) &&& 255).toInt32)), (0, .ref h0), (1, .long p1), (3, .int 5)]) hx hb dX3_append_76 hl (by decide) rfl (fun ls hl => ?_)
                                    refine lv_iload hx hb dX3_append_78 (lv_at hl 0 rfl) ?_
                                    refine lv_if_lt (tgt := 115) hx hb dX3_append_80 (by decide) (fun h => absurd h (by decide +kernel)) (fun _ => ?_)
                                    refine lv_aload_n hx hb dX3_append_83 rfl (lv_at hl 2 rfl) ?_
                                    refine va_get (D := g.1) (ci := 3) (v := .ref h37) (C := RX3) (T := TX3) (N := 2) hx hb hts zl_X3 hown hK hP 0 rfl rfl 0 (by decide) (hts _ m_f_RX3_11) (fun _ h => h) rfl dX3_append_84 ?_
                                    refine lv_aload_n hx hb dX3_append_87 rfl (lv_at hl 2 rfl) ?_
                                    refine va_get (D := g.1) (ci := 3) (v := .int 0) (C := RX3) (T := TX3) (N := 2) hx hb hts zl_X3 hown hK hP 0 rfl rfl 1 (by decide) (hts _ m_f_RX3_15) (fun _ h => h) rfl dX3_append_88 ?_
                                    refine lv_lload_n hx hb dX3_append_91 rfl (lv_at hl 3 rfl) ?_
                                    refine lv_iload hx hb dX3_append_92 (lv_at hl 0 rfl) ?_
                                    refine z_calli (wr := [(h0, .inr (3, [.ref h37, .int 0])), (h37, .inl (zB g, 60, .inl (fun _ => 0)))]) hP hD hS hA [] [0, 1] (by decide) rfl rfl (by decide) (va_runS (As := [.long p1, .int 4]) (rest := [.int 0, .ref h37]) ⟨hx, hb, hml, hown, hts⟩ (kX3_byteOf_47 l g  H.size p1) ⟨callB_of 2 hts (zGood m_o_yX3_byteOf) rfl rfl rfl (hts _ m_z_RX3) (hts _ m_m_RX3_19) ⟨by decide +kernel, by decide +kernel, by decide +kernel⟩ ⟨Nat.le_of_ble_eq_true rfl, Nat.le_of_ble_eq_true rfl⟩, hts _ m_s_yX3_byteOf⟩ (zPreS hK hN hZ hP hD hS hA [] (by decide) rfl rfl) rfl rfl hl.1 rfl (lv_room (Nat.le_of_ble_eq_true rfl)) dX3_append_94 ⟨Nat.le_of_ble_eq_true rfl, Nat.le_of_ble_eq_true rfl⟩) (fun r u H locs hw hP hD hS => ?_)
                                    obtain rfl := hw
                                    have hP : va_P g.1 vwCl [(h0, .inr (3, [.ref h37, .int 0])), (h37, .inl (zB g, 60, .inl (fun _ => 0)))] H := hP
                                    have hD : va_D A [(h0, .inr (3, [.ref h37, .int 0])), (h37, .inl (zB g, 60, .inl (fun _ => 0)))] := hD
                                    refine lv_i2b (v := (((p1 >>> ((32 : Int32).toInt64 &&& 63)) &&& 255).toInt32).toInt8.toInt32) hx hb dX3_append_97 rfl ?_
                                    refine va_bast (D := g.1) hx hb hK hP hD hS 1 2 rfl rfl (vp_in_iff.mpr (by decide +kernel)) dX3_append_98 (fun H locs hP hD hS => ?_)
                                    have hP : va_P g.1 vwCl [(h0, .inr (3, [.ref h37, .int 0])), (h37, .inl (zB g, 60, .inl (upd (fun _ => 0) 0 (vp_nar .byte ((((p1 >>> ((32 : Int32).toInt64 &&& 63)) &&& 255).toInt32).toInt8.toInt32)))))] H := hP
                                    have hD : va_D A [(h0, .inr (3, [.ref h37, .int 0])), (h37, .inl (zB g, 60, .inl (upd (fun _ => 0) 0 (vp_nar .byte ((((p1 >>> ((32 : Int32).toInt64 &&& 63)) &&& 255).toInt32).toInt8.toInt32)))))] := hD
                                    refine lv_aload_n hx hb dX3_append_99 rfl (lv_at hl 2 rfl) ?_
                                    refine lv_dup hx hb dX3_append_100 rfl ?_
                                    refine va_get (D := g.1) (ci := 3) (v := .int 0) (C := RX3) (T := TX3) (N := 2) hx hb hts zl_X3 hown hK hP 0 rfl rfl 1 (by decide) (hts _ m_f_RX3_15) (fun _ h => h) rfl dX3_append_101 ?_
                                    refine lv_iconst (v := 1) hx hb dX3_append_104 (by decide) ?_
                                    refine lv_iadd hx hb dX3_append_105 ?_
                                    refine lv_topi (nm_r (e' := 1) (by decide +kernel) ?_)
                                    refine va_put (D := g.1) (ci := 3) (v := .int 1) (ty := .int) (C := RX3) (T := TX3) (N := 2) hx hb hts zl_X3 tyX3 tyX3_ok nmX3 hown hK hP hD hS 0 rfl rfl 1 (by decide) (hts _ m_f_RX3_15) (fun _ h => h) rfl (by decide +kernel) rfl rfl (Nat.le_of_ble_eq_true rfl) dX3_append_106 (fun H locs hP hD hS => ?_)
                                    have hP : va_P g.1 vwCl [(h0, .inr (3, [.ref h37, .int 1])), (h37, .inl (zB g, 60, .inl (upd (fun _ => 0) 0 (vp_nar .byte ((((p1 >>> ((32 : Int32).toInt64 &&& 63)) &&& 255).toInt32).toInt8.toInt32)))))] H := hP
                                    have hD : va_D A [(h0, .inr (3, [.ref h37, .int 1])), (h37, .inl (zB g, 60, .inl (upd (fun _ => 0) 0 (vp_nar .byte ((((p1 >>> ((32 : Int32).toInt64 &&& 63)) &&& 255).toInt32).toInt8.toInt32)))))] := hD
                                    refine lv_iinc (v := 3) (lv' := [(4, .int 3), (5, .int (((p1 >>> ((32 : Int32).toInt64 &&& 63)) &&& 255).toInt32)), (0, .ref h0), (1, .long p1), (3, .int 5)]) hx hb dX3_append_109 hl (k := 0) rfl (by decide) (by decide) rfl (fun ls hl => ?_)
                                    refine lv_goto (tgt := 78) hx hb dX3_append_112 (by decide) ?_
                                    refine lv_iload hx hb dX3_append_78 (lv_at hl 0 rfl) ?_
                                    refine lv_if_lt (tgt := 115) hx hb dX3_append_80 (by decide) (fun h => absurd h (by decide +kernel)) (fun _ => ?_)
                                    refine lv_aload_n hx hb dX3_append_83 rfl (lv_at hl 2 rfl) ?_
                                    refine va_get (D := g.1) (ci := 3) (v := .ref h37) (C := RX3) (T := TX3) (N := 2) hx hb hts zl_X3 hown hK hP 0 rfl rfl 0 (by decide) (hts _ m_f_RX3_11) (fun _ h => h) rfl dX3_append_84 ?_
                                    refine lv_aload_n hx hb dX3_append_87 rfl (lv_at hl 2 rfl) ?_
                                    refine va_get (D := g.1) (ci := 3) (v := .int 1) (C := RX3) (T := TX3) (N := 2) hx hb hts zl_X3 hown hK hP 0 rfl rfl 1 (by decide) (hts _ m_f_RX3_15) (fun _ h => h) rfl dX3_append_88 ?_
                                    refine lv_lload_n hx hb dX3_append_91 rfl (lv_at hl 3 rfl) ?_
                                    refine lv_iload hx hb dX3_append_92 (lv_at hl 0 rfl) ?_
                                    refine z_calli (wr := [(h0, .inr (3, [.ref h37, .int 1])), (h37, .inl (zB g, 60, .inl (upd (fun _ => 0) 0 (vp_nar .byte ((((p1 >>> ((32 : Int32).toInt64 &&& 63)) &&& 255).toInt32).toInt8.toInt32)))))]) hP hD hS hA [] [0, 1] (by decide) rfl rfl (by decide) (va_runS (As := [.long p1, .int 3]) (rest := [.int 1, .ref h37]) ⟨hx, hb, hml, hown, hts⟩ (kX3_byteOf_48 l g  H.size p1) ⟨callB_of 2 hts (zGood m_o_yX3_byteOf) rfl rfl rfl (hts _ m_z_RX3) (hts _ m_m_RX3_19) ⟨by decide +kernel, by decide +kernel, by decide +kernel⟩ ⟨Nat.le_of_ble_eq_true rfl, Nat.le_of_ble_eq_true rfl⟩, hts _ m_s_yX3_byteOf⟩ (zPreS hK hN hZ hP hD hS hA [] (by decide) rfl rfl) rfl rfl hl.1 rfl (lv_room (Nat.le_of_ble_eq_true rfl)) dX3_append_94 ⟨Nat.le_of_ble_eq_true rfl, Nat.le_of_ble_eq_true rfl⟩) (fun r u H locs hw hP hD hS => ?_)
                                    obtain rfl := hw
                                    have hP : va_P g.1 vwCl [(h0, .inr (3, [.ref h37, .int 1])), (h37, .inl (zB g, 60, .inl (upd (fun _ => 0) 0 (vp_nar .byte ((((p1 >>> ((32 : Int32).toInt64 &&& 63)) &&& 255).toInt32).toInt8.toInt32)))))] H := hP
                                    have hD : va_D A [(h0, .inr (3, [.ref h37, .int 1])), (h37, .inl (zB g, 60, .inl (upd (fun _ => 0) 0 (vp_nar .byte ((((p1 >>> ((32 : Int32).toInt64 &&& 63)) &&& 255).toInt32).toInt8.toInt32)))))] := hD
                                    refine lv_i2b (v := (((p1 >>> ((24 : Int32).toInt64 &&& 63)) &&& 255).toInt32).toInt8.toInt32) hx hb dX3_append_97 rfl ?_
                                    refine va_bast (D := g.1) hx hb hK hP hD hS 1 2 rfl rfl (vp_in_iff.mpr (by decide +kernel)) dX3_append_98 (fun H locs hP hD hS => ?_)
                                    have hP : va_P g.1 vwCl [(h0, .inr (3, [.ref h37, .int 1])), (h37, .inl (zB g, 60, .inl (upd (upd (fun _ => 0) 0 (vp_nar .byte ((((p1 >>> ((32 : Int32).toInt64 &&& 63)) &&& 255).toInt32).toInt8.toInt32))) 1 (vp_nar .byte ((((p1 >>> ((24 : Int32).toInt64 &&& 63)) &&& 255).toInt32).toInt8.toInt32)))))] H := hP
                                    have hD : va_D A [(h0, .inr (3, [.ref h37, .int 1])), (h37, .inl (zB g, 60, .inl (upd (upd (fun _ => 0) 0 (vp_nar .byte ((((p1 >>> ((32 : Int32).toInt64 &&& 63)) &&& 255).toInt32).toInt8.toInt32))) 1 (vp_nar .byte ((((p1 >>> ((24 : Int32).toInt64 &&& 63)) &&& 255).toInt32).toInt8.toInt32)))))] := hD
                                    refine lv_aload_n hx hb dX3_append_99 rfl (lv_at hl 2 rfl) ?_
                                    refine lv_dup hx hb dX3_append_100 rfl ?_
                                    refine va_get (D := g.1) (ci := 3) (v := .int 1) (C := RX3) (T := TX3) (N := 2) hx hb hts zl_X3 hown hK hP 0 rfl rfl 1 (by decide) (hts _ m_f_RX3_15) (fun _ h => h) rfl dX3_append_101 ?_
                                    refine lv_iconst (v := 1) hx hb dX3_append_104 (by decide) ?_
                                    refine lv_iadd hx hb dX3_append_105 ?_
                                    refine lv_topi (nm_r (e' := 2) (by decide +kernel) ?_)
                                    refine va_put (D := g.1) (ci := 3) (v := .int 2) (ty := .int) (C := RX3) (T := TX3) (N := 2) hx hb hts zl_X3 tyX3 tyX3_ok nmX3 hown hK hP hD hS 0 rfl rfl 1 (by decide) (hts _ m_f_RX3_15) (fun _ h => h) rfl (by decide +kernel) rfl rfl (Nat.le_of_ble_eq_true rfl) dX3_append_106 (fun H locs hP hD hS => ?_)
                                    have hP : va_P g.1 vwCl [(h0, .inr (3, [.ref h37, .int 2])), (h37, .inl (zB g, 60, .inl (upd (upd (fun _ => 0) 0 (vp_nar .byte ((((p1 >>> ((32 : Int32).toInt64 &&& 63)) &&& 255).toInt32).toInt8.toInt32))) 1 (vp_nar .byte ((((p1 >>> ((24 : Int32).toInt64 &&& 63)) &&& 255).toInt32).toInt8.toInt32)))))] H := hP
                                    have hD : va_D A [(h0, .inr (3, [.ref h37, .int 2])), (h37, .inl (zB g, 60, .inl (upd (upd (fun _ => 0) 0 (vp_nar .byte ((((p1 >>> ((32 : Int32).toInt64 &&& 63)) &&& 255).toInt32).toInt8.toInt32))) 1 (vp_nar .byte ((((p1 >>> ((24 : Int32).toInt64 &&& 63)) &&& 255).toInt32).toInt8.toInt32)))))] := hD
                                    refine lv_iinc (v := 2) (lv' := [(4, .int 2), (5, .int (((p1 >>> ((32 : Int32).toInt64 &&& 63)) &&& 255).toInt32)), (0, .ref h0), (1, .long p1), (3, .int 5)]) hx hb dX3_append_109 hl (k := 0) rfl (by decide) (by decide) rfl (fun ls hl => ?_)
                                    refine lv_goto (tgt := 78) hx hb dX3_append_112 (by decide) ?_
                                    refine lv_iload hx hb dX3_append_78 (lv_at hl 0 rfl) ?_
                                    refine lv_if_lt (tgt := 115) hx hb dX3_append_80 (by decide) (fun h => absurd h (by decide +kernel)) (fun _ => ?_)
                                    refine lv_aload_n hx hb dX3_append_83 rfl (lv_at hl 2 rfl) ?_
                                    refine va_get (D := g.1) (ci := 3) (v := .ref h37) (C := RX3) (T := TX3) (N := 2) hx hb hts zl_X3 hown hK hP 0 rfl rfl 0 (by decide) (hts _ m_f_RX3_11) (fun _ h => h) rfl dX3_append_84 ?_
                                    refine lv_aload_n hx hb dX3_append_87 rfl (lv_at hl 2 rfl) ?_
                                    refine va_get (D := g.1) (ci := 3) (v := .int 2) (C := RX3) (T := TX3) (N := 2) hx hb hts zl_X3 hown hK hP 0 rfl rfl 1 (by decide) (hts _ m_f_RX3_15) (fun _ h => h) rfl dX3_append_88 ?_
                                    refine lv_lload_n hx hb dX3_append_91 rfl (lv_at hl 3 rfl) ?_
                                    refine lv_iload hx hb dX3_append_92 (lv_at hl 0 rfl) ?_
                                    refine z_calli (wr := [(h0, .inr (3, [.ref h37, .int 2])), (h37, .inl (zB g, 60, .inl (upd (upd (fun _ => 0) 0 (vp_nar .byte ((((p1 >>> ((32 : Int32).toInt64 &&& 63)) &&& 255).toInt32).toInt8.toInt32))) 1 (vp_nar .byte ((((p1 >>> ((24 : Int32).toInt64 &&& 63)) &&& 255).toInt32).toInt8.toInt32)))))]) hP hD hS hA [] [0, 1] (by decide) rfl rfl (by decide) (va_runS (As := [.long p1, .int 2]) (rest := [.int 2, .ref h37]) ⟨hx, hb, hml, hown, hts⟩ (kX3_byteOf_49 l g  H.size p1) ⟨callB_of 2 hts (zGood m_o_yX3_byteOf) rfl rfl rfl (hts _ m_z_RX3) (hts _ m_m_RX3_19) ⟨by decide +kernel, by decide +kernel, by decide +kernel⟩ ⟨Nat.le_of_ble_eq_true rfl, Nat.le_of_ble_eq_true rfl⟩, hts _ m_s_yX3_byteOf⟩ (zPreS hK hN hZ hP hD hS hA [] (by decide) rfl rfl) rfl rfl hl.1 rfl (lv_room (Nat.le_of_ble_eq_true rfl)) dX3_append_94 ⟨Nat.le_of_ble_eq_true rfl, Nat.le_of_ble_eq_true rfl⟩) (fun r u H locs hw hP hD hS => ?_)
                                    obtain rfl := hw
                                    have hP : va_P g.1 vwCl [(h0, .inr (3, [.ref h37, .int 2])), (h37, .inl (zB g, 60, .inl (upd (upd (fun _ => 0) 0 (vp_nar .byte ((((p1 >>> ((32 : Int32).toInt64 &&& 63)) &&& 255).toInt32).toInt8.toInt32))) 1 (vp_nar .byte ((((p1 >>> ((24 : Int32).toInt64 &&& 63)) &&& 255).toInt32).toInt8.toInt32)))))] H := hP
                                    have hD : va_D A [(h0, .inr (3, [.ref h37, .int 2])), (h37, .inl (zB g, 60, .inl (upd (upd (fun _ => 0) 0 (vp_nar .byte ((((p1 >>> ((32 : Int32).toInt64 &&& 63)) &&& 255).toInt32).toInt8.toInt32))) 1 (vp_nar .byte ((((p1 >>> ((24 : Int32).toInt64 &&& 63)) &&& 255).toInt32).toInt8.toInt32)))))] := hD
                                    refine lv_i2b (v := (((p1 >>> ((16 : Int32).toInt64 &&& 63)) &&& 255).toInt32).toInt8.toInt32) hx hb dX3_append_97 rfl ?_
                                    refine va_bast (D := g.1) hx hb hK hP hD hS 1 2 rfl rfl (vp_in_iff.mpr (by decide +kernel)) dX3_append_98 (fun H locs hP hD hS => ?_)
                                    have hP : va_P g.1 vwCl [(h0, .inr (3, [.ref h37, .int 2])), (h37, .inl (zB g, 60, .inl (upd (upd (upd (fun _ => 0) 0 (vp_nar .byte ((((p1 >>> ((32 : Int32).toInt64 &&& 63)) &&& 255).toInt32).toInt8.toInt32))) 1 (vp_nar .byte ((((p1 >>> ((24 : Int32).toInt64 &&& 63)) &&& 255).toInt32).toInt8.toInt32))) 2 (vp_nar .byte ((((p1 >>> ((16 : Int32).toInt64 &&& 63)) &&& 255).toInt32).toInt8.toInt32)))))] H := hP
                                    have hD : va_D A [(h0, .inr (3, [.ref h37, .int 2])), (h37, .inl (zB g, 60, .inl (upd (upd (upd (fun _ => 0) 0 (vp_nar .byte ((((p1 >>> ((32 : Int32).toInt64 &&& 63)) &&& 255).toInt32).toInt8.toInt32))) 1 (vp_nar .byte ((((p1 >>> ((24 : Int32).toInt64 &&& 63)) &&& 255).toInt32).toInt8.toInt32))) 2 (vp_nar .byte ((((p1 >>> ((16 : Int32).toInt64 &&& 63)) &&& 255).toInt32).toInt8.toInt32)))))] := hD
                                    refine lv_aload_n hx hb dX3_append_99 rfl (lv_at hl 2 rfl) ?_
                                    refine lv_dup hx hb dX3_append_100 rfl ?_
                                    refine va_get (D := g.1) (ci := 3) (v := .int 2) (C := RX3) (T := TX3) (N := 2) hx hb hts zl_X3 hown hK hP 0 rfl rfl 1 (by decide) (hts _ m_f_RX3_15) (fun _ h => h) rfl dX3_append_101 ?_
                                    refine lv_iconst (v := 1) hx hb dX3_append_104 (by decide) ?_
                                    refine lv_iadd hx hb dX3_append_105 ?_
                                    refine lv_topi (nm_r (e' := 3) (by decide +kernel) ?_)
                                    refine va_put (D := g.1) (ci := 3) (v := .int 3) (ty := .int) (C := RX3) (T := TX3) (N := 2) hx hb hts zl_X3 tyX3 tyX3_ok nmX3 hown hK hP hD hS 0 rfl rfl 1 (by decide) (hts _ m_f_RX3_15) (fun _ h => h) rfl (by decide +kernel) rfl rfl (Nat.le_of_ble_eq_true rfl) dX3_append_106 (fun H locs hP hD hS => ?_)
                                    have hP : va_P g.1 vwCl [(h0, .inr (3, [.ref h37, .int 3])), (h37, .inl (zB g, 60, .inl (upd (upd (upd (fun _ => 0) 0 (vp_nar .byte ((((p1 >>> ((32 : Int32).toInt64 &&& 63)) &&& 255).toInt32).toInt8.toInt32))) 1 (vp_nar .byte ((((p1 >>> ((24 : Int32).toInt64 &&& 63)) &&& 255).toInt32).toInt8.toInt32))) 2 (vp_nar .byte ((((p1 >>> ((16 : Int32).toInt64 &&& 63)) &&& 255).toInt32).toInt8.toInt32)))))] H := hP
                                    have hD : va_D A [(h0, .inr (3, [.ref h37, .int 3])), (h37, .inl (zB g, 60, .inl (upd (upd (upd (fun _ => 0) 0 (vp_nar .byte ((((p1 >>> ((32 : Int32).toInt64 &&& 63)) &&& 255).toInt32).toInt8.toInt32))) 1 (vp_nar .byte ((((p1 >>> ((24 : Int32).toInt64 &&& 63)) &&& 255).toInt32).toInt8.toInt32))) 2 (vp_nar .byte ((((p1 >>> ((16 : Int32).toInt64 &&& 63)) &&& 255).toInt32).toInt8.toInt32)))))] := hD
                                    refine lv_iinc (v := 1) (lv' := [(4, .int 1), (5, .int (((p1 >>> ((32 : Int32).toInt64 &&& 63)) &&& 255).toInt32)), (0, .ref h0), (1, .long p1), (3, .int 5)]) hx hb dX3_append_109 hl (k := 0) rfl (by decide) (by decide) rfl (fun ls hl => ?_)
                                    refine lv_goto (tgt := 78) hx hb dX3_append_112 (by decide) ?_
                                    refine lv_iload hx hb dX3_append_78 (lv_at hl 0 rfl) ?_
                                    refine lv_if_lt (tgt := 115) hx hb dX3_append_80 (by decide) (fun h => absurd h (by decide +kernel)) (fun _ => ?_)
                                    refine lv_aload_n hx hb dX3_append_83 rfl (lv_at hl 2 rfl) ?_
                                    refine va_get (D := g.1) (ci := 3) (v := .ref h37) (C := RX3) (T := TX3) (N := 2) hx hb hts zl_X3 hown hK hP 0 rfl rfl 0 (by decide) (hts _ m_f_RX3_11) (fun _ h => h) rfl dX3_append_84 ?_
                                    refine lv_aload_n hx hb dX3_append_87 rfl (lv_at hl 2 rfl) ?_
                                    refine va_get (D := g.1) (ci := 3) (v := .int 3) (C := RX3) (T := TX3) (N := 2) hx hb hts zl_X3 hown hK hP 0 rfl rfl 1 (by decide) (hts _ m_f_RX3_15) (fun _ h => h) rfl dX3_append_88 ?_
                                    refine lv_lload_n hx hb dX3_append_91 rfl (lv_at hl 3 rfl) ?_
                                    refine lv_iload hx hb dX3_append_92 (lv_at hl 0 rfl) ?_
                                    refine z_calli (wr := [(h0, .inr (3, [.ref h37, .int 3])), (h37, .inl (zB g, 60, .inl (upd (upd (upd (fun _ => 0) 0 (vp_nar .byte ((((p1 >>> ((32 : Int32).toInt64 &&& 63)) &&& 255).toInt32).toInt8.toInt32))) 1 (vp_nar .byte ((((p1 >>> ((24 : Int32).toInt64 &&& 63)) &&& 255).toInt32).toInt8.toInt32))) 2 (vp_nar .byte ((((p1 >>> ((16 : Int32).toInt64 &&& 63)) &&& 255).toInt32).toInt8.toInt32)))))]) hP hD hS hA [] [0, 1] (by decide) rfl rfl (by decide) (va_runS (As := [.long p1, .int 1]) (rest := [.int 3, .ref h37]) ⟨hx, hb, hml, hown, hts⟩ (kX3_byteOf_50 l g  H.size p1) ⟨callB_of 2 hts (zGood m_o_yX3_byteOf) rfl rfl rfl (hts _ m_z_RX3) (hts _ m_m_RX3_19) ⟨by decide +kernel, by decide +kernel, by decide +kernel⟩ ⟨Nat.le_of_ble_eq_true rfl, Nat.le_of_ble_eq_true rfl⟩, hts _ m_s_yX3_byteOf⟩ (zPreS hK hN hZ hP hD hS hA [] (by decide) rfl rfl) rfl rfl hl.1 rfl (lv_room (Nat.le_of_ble_eq_true rfl)) dX3_append_94 ⟨Nat.le_of_ble_eq_true rfl, Nat.le_of_ble_eq_true rfl⟩) (fun r u H locs hw hP hD hS => ?_)
                                    obtain rfl := hw
                                    have hP : va_P g.1 vwCl [(h0, .inr (3, [.ref h37, .int 3])), (h37, .inl (zB g, 60, .inl (upd (upd (upd (fun _ => 0) 0 (vp_nar .byte ((((p1 >>> ((32 : Int32).toInt64 &&& 63)) &&& 255).toInt32).toInt8.toInt32))) 1 (vp_nar .byte ((((p1 >>> ((24 : Int32).toInt64 &&& 63)) &&& 255).toInt32).toInt8.toInt32))) 2 (vp_nar .byte ((((p1 >>> ((16 : Int32).toInt64 &&& 63)) &&& 255).toInt32).toInt8.toInt32)))))] H := hP
                                    have hD : va_D A [(h0, .inr (3, [.ref h37, .int 3])), (h37, .inl (zB g, 60, .inl (upd (upd (upd (fun _ => 0) 0 (vp_nar .byte ((((p1 >>> ((32 : Int32).toInt64 &&& 63)) &&& 255).toInt32).toInt8.toInt32))) 1 (vp_nar .byte ((((p1 >>> ((24 : Int32).toInt64 &&& 63)) &&& 255).toInt32).toInt8.toInt32))) 2 (vp_nar .byte ((((p1 >>> ((16 : Int32).toInt64 &&& 63)) &&& 255).toInt32).toInt8.toInt32)))))] := hD
                                    refine lv_i2b (v := (((p1 >>> ((8 : Int32).toInt64 &&& 63)) &&& 255).toInt32).toInt8.toInt32) hx hb dX3_append_97 rfl ?_
                                    refine va_bast (D := g.1) hx hb hK hP hD hS 1 2 rfl rfl (vp_in_iff.mpr (by decide +kernel)) dX3_append_98 (fun H locs hP hD hS => ?_)
                                    have hP : va_P g.1 vwCl [(h0, .inr (3, [.ref h37, .int 3])), (h37, .inl (zB g, 60, .inl (upd (upd (upd (upd (fun _ => 0) 0 (vp_nar .byte ((((p1 >>> ((32 : Int32).toInt64 &&& 63)) &&& 255).toInt32).toInt8.toInt32))) 1 (vp_nar .byte ((((p1 >>> ((24 : Int32).toInt64 &&& 63)) &&& 255).toInt32).toInt8.toInt32))) 2 (vp_nar .byte ((((p1 >>> ((16 : Int32).toInt64 &&& 63)) &&& 255).toInt32).toInt8.toInt32))) 3 (vp_nar .byte ((((p1 >>> ((8 : Int32).toInt64 &&& 63)) &&& 255).toInt32).toInt8.toInt32)))))] H := hP
                                    have hD : va_D A [(h0, .inr (3, [.ref h37, .int 3])), (h37, .inl (zB g, 60, .inl (upd (upd (upd (upd (fun _ => 0) 0 (vp_nar .byte ((((p1 >>> ((32 : Int32).toInt64 &&& 63)) &&& 255).toInt32).toInt8.toInt32))) 1 (vp_nar .byte ((((p1 >>> ((24 : Int32).toInt64 &&& 63)) &&& 255).toInt32).toInt8.toInt32))) 2 (vp_nar .byte ((((p1 >>> ((16 : Int32).toInt64 &&& 63)) &&& 255).toInt32).toInt8.toInt32))) 3 (vp_nar .byte ((((p1 >>> ((8 : Int32).toInt64 &&& 63)) &&& 255).toInt32).toInt8.toInt32)))))] := hD
                                    refine lv_aload_n hx hb dX3_append_99 rfl (lv_at hl 2 rfl) ?_
                                    refine lv_dup hx hb dX3_append_100 rfl ?_
                                    refine va_get (D := g.1) (ci := 3) (v := .int 3) (C := RX3) (T := TX3) (N := 2) hx hb hts zl_X3 hown hK hP 0 rfl rfl 1 (by decide) (hts _ m_f_RX3_15) (fun _ h => h) rfl dX3_append_101 ?_
                                    refine lv_iconst (v := 1) hx hb dX3_append_104 (by decide) ?_
                                    refine lv_iadd hx hb dX3_append_105 ?_
                                    refine lv_topi (nm_r (e' := 4) (by decide +kernel) ?_)
                                    refine va_put (D := g.1) (ci := 3) (v := .int 4) (ty := .int) (C := RX3) (T := TX3) (N := 2) hx hb hts zl_X3 tyX3 tyX3_ok nmX3 hown hK hP hD hS 0 rfl rfl 1 (by decide) (hts _ m_f_RX3_15) (fun _ h => h) rfl (by decide +kernel) rfl rfl (Nat.le_of_ble_eq_true rfl) dX3_append_106 (fun H locs hP hD hS => ?_)
                                    have hP : va_P g.1 vwCl [(h0, .inr (3, [.ref h37, .int 4])), (h37, .inl (zB g, 60, .inl (upd (upd (upd (upd (fun _ => 0) 0 (vp_nar .byte ((((p1 >>> ((32 : Int32).toInt64 &&& 63)) &&& 255).toInt32).toInt8.toInt32))) 1 (vp_nar .byte ((((p1 >>> ((24 : Int32).toInt64 &&& 63)) &&& 255).toInt32).toInt8.toInt32))) 2 (vp_nar .byte ((((p1 >>> ((16 : Int32).toInt64 &&& 63)) &&& 255).toInt32).toInt8.toInt32))) 3 (vp_nar .byte ((((p1 >>> ((8 : Int32).toInt64 &&& 63)) &&& 255).toInt32).toInt8.toInt32)))))] H := hP
                                    have hD : va_D A [(h0, .inr (3, [.ref h37, .int 4])), (h37, .inl (zB g, 60, .inl (upd (upd (upd (upd (fun _ => 0) 0 (vp_nar .byte ((((p1 >>> ((32 : Int32).toInt64 &&& 63)) &&& 255).toInt32).toInt8.toInt32))) 1 (vp_nar .byte ((((p1 >>> ((24 : Int32).toInt64 &&& 63)) &&& 255).toInt32).toInt8.toInt32))) 2 (vp_nar .byte ((((p1 >>> ((16 : Int32).toInt64 &&& 63)) &&& 255).toInt32).toInt8.toInt32))) 3 (vp_nar .byte ((((p1 >>> ((8 : Int32).toInt64 &&& 63)) &&& 255).toInt32).toInt8.toInt32)))))] := hD
                                    refine lv_iinc (v := 0) (lv' := [(4, .int 0), (5, .int (((p1 >>> ((32 : Int32).toInt64 &&& 63)) &&& 255).toInt32)), (0, .ref h0), (1, .long p1), (3, .int 5)]) hx hb dX3_append_109 hl (k := 0) rfl (by decide) (by decide) rfl (fun ls hl => ?_)
                                    refine lv_goto (tgt := 78) hx hb dX3_append_112 (by decide) ?_
                                    refine lv_iload hx hb dX3_append_78 (lv_at hl 0 rfl) ?_
                                    refine lv_if_lt (tgt := 115) hx hb dX3_append_80 (by decide) (fun h => absurd h (by decide +kernel)) (fun _ => ?_)
                                    refine lv_aload_n hx hb dX3_append_83 rfl (lv_at hl 2 rfl) ?_
                                    refine va_get (D := g.1) (ci := 3) (v := .ref h37) (C := RX3) (T := TX3) (N := 2) hx hb hts zl_X3 hown hK hP 0 rfl rfl 0 (by decide) (hts _ m_f_RX3_11) (fun _ h => h) rfl dX3_append_84 ?_
                                    refine lv_aload_n hx hb dX3_append_87 rfl (lv_at hl 2 rfl) ?_
                                    refine va_get (D := g.1) (ci := 3) (v := .int 4) (C := RX3) (T := TX3) (N := 2) hx hb hts zl_X3 hown hK hP 0 rfl rfl 1 (by decide) (hts _ m_f_RX3_15) (fun _ h => h) rfl dX3_append_88 ?_
                                    refine lv_lload_n hx hb dX3_append_91 rfl (lv_at hl 3 rfl) ?_
                                    refine lv_iload hx hb dX3_append_92 (lv_at hl 0 rfl) ?_
                                    refine z_calli (wr := [(h0, .inr (3, [.ref h37, .int 4])), (h37, .inl (zB g, 60, .inl (upd (upd (upd (upd (fun _ => 0) 0 (vp_nar .byte ((((p1 >>> ((32 : Int32).toInt64 &&& 63)) &&& 255).toInt32).toInt8.toInt32))) 1 (vp_nar .byte ((((p1 >>> ((24 : Int32).toInt64 &&& 63)) &&& 255).toInt32).toInt8.toInt32))) 2 (vp_nar .byte ((((p1 >>> ((16 : Int32).toInt64 &&& 63)) &&& 255).toInt32).toInt8.toInt32))) 3 (vp_nar .byte ((((p1 >>> ((8 : Int32).toInt64 &&& 63)) &&& 255).toInt32).toInt8.toInt32)))))]) hP hD hS hA [] [0, 1] (by decide) rfl rfl (by decide) (va_runS (As := [.long p1, .int 0]) (rest := [.int 4, .ref h37]) ⟨hx, hb, hml, hown, hts⟩ (kX3_byteOf_51 l g  H.size p1) ⟨callB_of 2 hts (zGood m_o_yX3_byteOf) rfl rfl rfl (hts _ m_z_RX3) (hts _ m_m_RX3_19) ⟨by decide +kernel, by decide +kernel, by decide +kernel⟩ ⟨Nat.le_of_ble_eq_true rfl, Nat.le_of_ble_eq_true rfl⟩, hts _ m_s_yX3_byteOf⟩ (zPreS hK hN hZ hP hD hS hA [] (by decide) rfl rfl) rfl rfl hl.1 rfl (lv_room (Nat.le_of_ble_eq_true rfl)) dX3_append_94 ⟨Nat.le_of_ble_eq_true rfl, Nat.le_of_ble_eq_true rfl⟩) (fun r u H locs hw hP hD hS => ?_)
                                    obtain rfl := hw
                                    have hP : va_P g.1 vwCl [(h0, .inr (3, [.ref h37, .int 4])), (h37, .inl (zB g, 60, .inl (upd (upd (upd (upd (fun _ => 0) 0 (vp_nar .byte ((((p1 >>> ((32 : Int32).toInt64 &&& 63)) &&& 255).toInt32).toInt8.toInt32))) 1 (vp_nar .byte ((((p1 >>> ((24 : Int32).toInt64 &&& 63)) &&& 255).toInt32).toInt8.toInt32))) 2 (vp_nar .byte ((((p1 >>> ((16 : Int32).toInt64 &&& 63)) &&& 255).toInt32).toInt8.toInt32))) 3 (vp_nar .byte ((((p1 >>> ((8 : Int32).toInt64 &&& 63)) &&& 255).toInt32).toInt8.toInt32)))))] H := hP
                                    have hD : va_D A [(h0, .inr (3, [.ref h37, .int 4])), (h37, .inl (zB g, 60, .inl (upd (upd (upd (upd (fun _ => 0) 0 (vp_nar .byte ((((p1 >>> ((32 : Int32).toInt64 &&& 63)) &&& 255).toInt32).toInt8.toInt32))) 1 (vp_nar .byte ((((p1 >>> ((24 : Int32).toInt64 &&& 63)) &&& 255).toInt32).toInt8.toInt32))) 2 (vp_nar .byte ((((p1 >>> ((16 : Int32).toInt64 &&& 63)) &&& 255).toInt32).toInt8.toInt32))) 3 (vp_nar .byte ((((p1 >>> ((8 : Int32).toInt64 &&& 63)) &&& 255).toInt32).toInt8.toInt32)))))] := hD
                                    refine lv_i2b (v := (((p1 >>> ((0 : Int32).toInt64 &&& 63)) &&& 255).toInt32).toInt8.toInt32) hx hb dX3_append_97 rfl ?_
                                    refine va_bast (D := g.1) hx hb hK hP hD hS 1 2 rfl rfl (vp_in_iff.mpr (by decide +kernel)) dX3_append_98 (fun H locs hP hD hS => ?_)
                                    have hP : va_P g.1 vwCl [(h0, .inr (3, [.ref h37, .int 4])), (h37, .inl (zB g, 60, .inl (upd (upd (upd (upd (upd (fun _ => 0) 0 (vp_nar .byte ((((p1 >>> ((32 : Int32).toInt64 &&& 63)) &&& 255).toInt32).toInt8.toInt32))) 1 (vp_nar .byte ((((p1 >>> ((24 : Int32).toInt64 &&& 63)) &&& 255).toInt32).toInt8.toInt32))) 2 (vp_nar .byte ((((p1 >>> ((16 : Int32).toInt64 &&& 63)) &&& 255).toInt32).toInt8.toInt32))) 3 (vp_nar .byte ((((p1 >>> ((8 : Int32).toInt64 &&& 63)) &&& 255).toInt32).toInt8.toInt32))) 4 (vp_nar .byte ((((p1 >>> ((0 : Int32).toInt64 &&& 63)) &&& 255).toInt32).toInt8.toInt32)))))] H := hP
                                    have hD : va_D A [(h0, .inr (3, [.ref h37, .int 4])), (h37, .inl (zB g, 60, .inl (upd (upd (upd (upd (upd (fun _ => 0) 0 (vp_nar .byte ((((p1 >>> ((32 : Int32).toInt64 &&& 63)) &&& 255).toInt32).toInt8.toInt32))) 1 (vp_nar .byte ((((p1 >>> ((24 : Int32).toInt64 &&& 63)) &&& 255).toInt32).toInt8.toInt32))) 2 (vp_nar .byte ((((p1 >>> ((16 : Int32).toInt64 &&& 63)) &&& 255).toInt32).toInt8.toInt32))) 3 (vp_nar .byte ((((p1 >>> ((8 : Int32).toInt64 &&& 63)) &&& 255).toInt32).toInt8.toInt32))) 4 (vp_nar .byte ((((p1 >>> ((0 : Int32).toInt64 &&& 63)) &&& 255).toInt32).toInt8.toInt32)))))] := hD
                                    refine lv_aload_n hx hb dX3_append_99 rfl (lv_at hl 2 rfl) ?_
                                    refine lv_dup hx hb dX3_append_100 rfl ?_
                                    refine va_get (D := g.1) (ci := 3) (v := .int 4) (C := RX3) (T := TX3) (N := 2) hx hb hts zl_X3 hown hK hP 0 rfl rfl 1 (by decide) (hts _ m_f_RX3_15) (fun _ h => h) rfl dX3_append_101 ?_
                                    refine lv_iconst (v := 1) hx hb dX3_append_104 (by decide) ?_
                                    refine lv_iadd hx hb dX3_append_105 ?_
                                    refine lv_topi (nm_r (e' := 5) (by decide +kernel) ?_)
                                    refine va_put (D := g.1) (ci := 3) (v := .int 5) (ty := .int) (C := RX3) (T := TX3) (N := 2) hx hb hts zl_X3 tyX3 tyX3_ok nmX3 hown hK hP hD hS 0 rfl rfl 1 (by decide) (hts _ m_f_RX3_15) (fun _ h => h) rfl (by decide +kernel) rfl rfl (Nat.le_of_ble_eq_true rfl) dX3_append_106 (fun H locs hP hD hS => ?_)
                                    have hP : va_P g.1 vwCl [(h0, .inr (3, [.ref h37, .int 5])), (h37, .inl (zB g, 60, .inl (upd (upd (upd (upd (upd (fun _ => 0) 0 (vp_nar .byte ((((p1 >>> ((32 : Int32).toInt64 &&& 63)) &&& 255).toInt32).toInt8.toInt32))) 1 (vp_nar .byte ((((p1 >>> ((24 : Int32).toInt64 &&& 63)) &&& 255).toInt32).toInt8.toInt32))) 2 (vp_nar .byte ((((p1 >>> ((16 : Int32).toInt64 &&& 63)) &&& 255).toInt32).toInt8.toInt32))) 3 (vp_nar .byte ((((p1 >>> ((8 : Int32).toInt64 &&& 63)) &&& 255).toInt32).toInt8.toInt32))) 4 (vp_nar .byte ((((p1 >>> ((0 : Int32).toInt64 &&& 63)) &&& 255).toInt32).toInt8.toInt32)))))] H := hP
                                    have hD : va_D A [(h0, .inr (3, [.ref h37, .int 5])), (h37, .inl (zB g, 60, .inl (upd (upd (upd (upd (upd (fun _ => 0) 0 (vp_nar .byte ((((p1 >>> ((32 : Int32).toInt64 &&& 63)) &&& 255).toInt32).toInt8.toInt32))) 1 (vp_nar .byte ((((p1 >>> ((24 : Int32).toInt64 &&& 63)) &&& 255).toInt32).toInt8.toInt32))) 2 (vp_nar .byte ((((p1 >>> ((16 : Int32).toInt64 &&& 63)) &&& 255).toInt32).toInt8.toInt32))) 3 (vp_nar .byte ((((p1 >>> ((8 : Int32).toInt64 &&& 63)) &&& 255).toInt32).toInt8.toInt32))) 4 (vp_nar .byte ((((p1 >>> ((0 : Int32).toInt64 &&& 63)) &&& 255).toInt32).toInt8.toInt32)))))] := hD
                                    refine lv_iinc (v := (-1)) (lv' := [(4, .int (-1)), (5, .int (((p1 >>> ((32 : Int32).toInt64 &&& 63)) &&& 255).toInt32)), (0, .ref h0), (1, .long p1), (3, .int 5)]) hx hb dX3_append_109 hl (k := 0) rfl (by decide) (by decide) rfl (fun ls hl => ?_)
                                    refine lv_goto (tgt := 78) hx hb dX3_append_112 (by decide) ?_
                                    refine lv_iload hx hb dX3_append_78 (lv_at hl 0 rfl) ?_
                                    refine lv_if_lt (tgt := 115) hx hb dX3_append_80 (by decide) (fun _ => ?_) (fun h => absurd h (by decide +kernel))
                                    refine lv_aload_n hx hb dX3_append_115 rfl (lv_at hl 2 rfl) ?_
                                    refine va_get (D := g.1) (ci := 3) (v := .int 5) (C := RX3) (T := TX3) (N := 2) hx hb hts zl_X3 hown hK hP 0 rfl rfl 1 (by decide) (hts _ m_f_RX3_15) (fun _ h => h) rfl dX3_append_116 ?_
                                    have hP9 := hP.sub (ws' := []) [] rfl
                                    have hD9 := hD.sub (ws' := []) [] (by decide) rfl
                                    exact W.iret (v := 5) hx hb hr (fun t ht hW => ⟨⟨5, 0, rfl, Or.inr (Or.inr (Or.inr (Or.inr (Or.inr (Or.inr (Or.inr (Or.inr (Or.inr (Or.inr (Or.inl ⟨i_0, i_1, i_3, i_4, i_5, i_7, i_8, i_9, i_11, i_12, i_13, i_15, i_16, i_17, i_19, i_20, i_21, rfl⟩)))))))))), by rw [ht]; exact hP9, hD9⟩, hS.F ht⟩) hS.2.2 dX3_append_119
                                  · have i_21 : 5 < p2.toInt := z_nle (rfl) (rfl) c_21
                                    refine lv_lload_n hx hb dX3_append_22 rfl (lv_at hl 3 rfl) ?_
                                    refine lv_iload hx hb dX3_append_23 (lv_at hl 0 rfl) ?_
                                    refine z_calli (wr := [(h0, .inr (3, [.ref h37, .int 0])), (h37, .inl (zB g, 60, .inl (fun _ => 0)))]) hP hD hS hA [] [0, 1] (by decide) rfl rfl (by decide) (va_runS (As := [.long p1, .int 5]) (rest := []) ⟨hx, hb, hml, hown, hts⟩ (kX3_byteOf_52 l g  H.size p1) ⟨callB_of 2 hts (zGood m_o_yX3_byteOf) rfl rfl rfl (hts _ m_z_RX3) (hts _ m_m_RX3_19) ⟨by decide +kernel, by decide +kernel, by decide +kernel⟩ ⟨Nat.le_of_ble_eq_true rfl, Nat.le_of_ble_eq_true rfl⟩, hts _ m_s_yX3_byteOf⟩ (zPreS hK hN hZ hP hD hS hA [] (by decide) rfl rfl) rfl rfl hl.1 rfl (lv_room (Nat.le_of_ble_eq_true rfl)) dX3_append_25 ⟨Nat.le_of_ble_eq_true rfl, Nat.le_of_ble_eq_true rfl⟩) (fun r u H locs hw hP hD hS => ?_)
                                    obtain rfl := hw
                                    have hP : va_P g.1 vwCl [(h0, .inr (3, [.ref h37, .int 0])), (h37, .inl (zB g, 60, .inl (fun _ => 0)))] H := hP
                                    have hD : va_D A [(h0, .inr (3, [.ref h37, .int 0])), (h37, .inl (zB g, 60, .inl (fun _ => 0)))] := hD
                                    refine lv_istore (lv' := [(5, .int (((p1 >>> ((40 : Int32).toInt64 &&& 63)) &&& 255).toInt32)), (4, .int 5), (0, .ref h0), (1, .long p1), (3, .int p2)]) hx hb dX3_append_28 hl (by decide) rfl (fun ls hl => ?_)
                                    refine lv_iload hx hb dX3_append_30 (lv_at hl 0 rfl) ?_
                                    refine lv_bipush (v := 32) hx hb dX3_append_32 (by decide) ?_
                                    refine lv_icmp_lt (tgt := 44) hx hb dX3_append_34 (by decide) (fun c_23 => ?_) (fun c_23 => ?_)
                                    · have i_23 : (((p1 >>> ((40 : Int32).toInt64 &&& 63)) &&& 255) : Int64).toInt < 32 := z_lt ((z_b255 _)) (rfl) c_23
                                      refine lv_iconst (v := (-1)) hx hb dX3_append_44 (by decide) ?_
                                      have hP9 := hP.sub (ws' := []) [] rfl
                                      have hD9 := hD.sub (ws' := []) [] (by decide) rfl
                                      exact W.iret (v := (-1)) hx hb hr (fun t ht hW => ⟨⟨(-1), 0, rfl, Or.inr (Or.inr (Or.inr (Or.inr (Or.inr (Or.inr (Or.inr (Or.inr (Or.inr (Or.inr (Or.inr (Or.inl ⟨i_0, i_1, i_3, i_4, i_5, i_7, i_8, i_9, i_11, i_12, i_13, i_15, i_16, i_17, i_19, i_20, i_21, i_23, rfl⟩))))))))))), by rw [ht]; exact hP9, hD9⟩, hS.F ht⟩) hS.2.2 dX3_append_45
                                    · have i_23 : 32 ≤ (((p1 >>> ((40 : Int32).toInt64 &&& 63)) &&& 255) : Int64).toInt := z_nlt ((z_b255 _)) (rfl) c_23
                                      refine lv_iload hx hb dX3_append_37 (lv_at hl 0 rfl) ?_
                                      refine lv_bipush (v := 126) hx hb dX3_append_39 (by decide) ?_
                                      refine lv_icmp_le (tgt := 46) hx hb dX3_append_41 (by decide) (fun c_24 => ?_) (fun c_24 => ?_)
                                      · have i_24 : (((p1 >>> ((40 : Int32).toInt64 &&& 63)) &&& 255) : Int64).toInt ≤ 126 := z_le ((z_b255 _)) (rfl) c_24
                                        refine lv_iinc (v := 6) (lv' := [(4, .int 6), (5, .int (((p1 >>> ((40 : Int32).toInt64 &&& 63)) &&& 255).toInt32)), (0, .ref h0), (1, .long p1), (3, .int p2)]) hx hb dX3_append_46 hl (k := 1) rfl (by decide) (by decide) rfl (fun ls hl => ?_)
                                        refine lv_goto (tgt := 16) hx hb dX3_append_49 (by decide) ?_
                                        refine lv_iload hx hb dX3_append_16 (lv_at hl 0 rfl) ?_
                                        refine lv_iload_n hx hb dX3_append_18 rfl (lv_at hl 4 rfl) ?_
                                        refine lv_icmp_ge (tgt := 52) hx hb dX3_append_19 (by decide) (fun c_25 => ?_) (fun c_25 => ?_)
                                        · have i_25 : p2.toInt ≤ 6 := z_le (rfl) (rfl) c_25
                                          refine lv_aload_n hx hb dX3_append_52 rfl (lv_at hl 2 rfl) ?_
                                          refine va_get (D := g.1) (ci := 3) (v := .int 0) (C := RX3) (T := TX3) (N := 2) hx hb hts zl_X3 hown hK hP 0 rfl rfl 1 (by decide) (hts _ m_f_RX3_15) (fun _ h => h) rfl dX3_append_53 ?_
                                          refine lv_if_lt (tgt := 70) hx hb dX3_append_56 (by decide) (fun h => absurd h (by decide +kernel)) (fun _ => ?_)
                                          refine lv_aload_n hx hb dX3_append_59 rfl (lv_at hl 2 rfl) ?_
                                          refine va_get (D := g.1) (ci := 3) (v := .int 0) (C := RX3) (T := TX3) (N := 2) hx hb hts zl_X3 hown hK hP 0 rfl rfl 1 (by decide) (hts _ m_f_RX3_15) (fun _ h => h) rfl dX3_append_60 ?_
                                          refine lv_iload_n hx hb dX3_append_63 rfl (lv_at hl 4 rfl) ?_
                                          obtain rfl : p2 = 6 := Int32.toInt_inj.mp (show p2.toInt = (6 : Int32).toInt from (show p2.toInt = 6 by omega).trans rfl)
                                          refine lv_iadd hx hb dX3_append_64 ?_
                                          refine lv_topi (nm_r (e' := 6) (by decide +kernel) ?_)
                                          refine lv_bipush (v := 60) hx hb dX3_append_65 (by decide) ?_
                                          refine lv_icmp_le (tgt := 73) hx hb dX3_append_67 (by decide) (fun _ => ?_) (fun h => absurd h (by decide +kernel))
                                          refine lv_iload_n hx hb dX3_append_73 rfl (lv_at hl 4 rfl) ?_
                                          refine lv_iconst (v := 1) hx hb dX3_append_74 (by decide) ?_
                                          refine lv_isub hx hb dX3_append_75 ?_
                                          refine lv_topi (nm_r (e' := 5) (by decide +kernel) ?_)
                                          refine lv_istore (lv' := [(4, .int 5), (5, .int (((p1 >>> ((40 : Int32).toInt64 &&& 63)) &&& 255).toInt32)), (0, .ref h0), (1, .long p1), (3, .int 6)]) hx hb dX3_append_76 hl (by decide) rfl (fun ls hl => ?_)
                                          refine lv_iload hx hb dX3_append_78 (lv_at hl 0 rfl) ?_
                                          refine lv_if_lt (tgt := 115) hx hb dX3_append_80 (by decide) (fun h => absurd h (by decide +kernel)) (fun _ => ?_)
                                          refine lv_aload_n hx hb dX3_append_83 rfl (lv_at hl 2 rfl) ?_
                                          refine va_get (D := g.1) (ci := 3) (v := .ref h37) (C := RX3) (T := TX3) (N := 2) hx hb hts zl_X3 hown hK hP 0 rfl rfl 0 (by decide) (hts _ m_f_RX3_11) (fun _ h => h) rfl dX3_append_84 ?_
                                          refine lv_aload_n hx hb dX3_append_87 rfl (lv_at hl 2 rfl) ?_
                                          refine va_get (D := g.1) (ci := 3) (v := .int 0) (C := RX3) (T := TX3) (N := 2) hx hb hts zl_X3 hown hK hP 0 rfl rfl 1 (by decide) (hts _ m_f_RX3_15) (fun _ h => h) rfl dX3_append_88 ?_
                                          refine lv_lload_n hx hb dX3_append_91 rfl (lv_at hl 3 rfl) ?_
                                          refine lv_iload hx hb dX3_append_92 (lv_at hl 0 rfl) ?_
                                          refine z_calli (wr := [(h0, .inr (3, [.ref h37, .int 0])), (h37, .inl (zB g, 60, .inl (fun _ => 0)))]) hP hD hS hA [] [0, 1] (by decide) rfl rfl (by decide) (va_runS (As := [.long p1, .int 5]) (rest := [.int 0, .ref h37]) ⟨hx, hb, hml, hown, hts⟩ (kX3_byteOf_52 l g  H.size p1) ⟨callB_of 2 hts (zGood m_o_yX3_byteOf) rfl rfl rfl (hts _ m_z_RX3) (hts _ m_m_RX3_19) ⟨by decide +kernel, by decide +kernel, by decide +kernel⟩ ⟨Nat.le_of_ble_eq_true rfl, Nat.le_of_ble_eq_true rfl⟩, hts _ m_s_yX3_byteOf⟩ (zPreS hK hN hZ hP hD hS hA [] (by decide) rfl rfl) rfl rfl hl.1 rfl (lv_room (Nat.le_of_ble_eq_true rfl)) dX3_append_94 ⟨Nat.le_of_ble_eq_true rfl, Nat.le_of_ble_eq_true rfl⟩) (fun r u H locs hw hP hD hS => ?_)
                                          obtain rfl := hw
                                          have hP : va_P g.1 vwCl [(h0, .inr (3, [.ref h37, .int 0])), (h37, .inl (zB g, 60, .inl (fun _ => 0)))] H := hP
                                          have hD : va_D A [(h0, .inr (3, [.ref h37, .int 0])), (h37, .inl (zB g, 60, .inl (fun _ => 0)))] := hD
                                          refine lv_i2b (v := (((p1 >>> ((40 : Int32).toInt64 &&& 63)) &&& 255).toInt32).toInt8.toInt32) hx hb dX3_append_97 rfl ?_
                                          refine va_bast (D := g.1) hx hb hK hP hD hS 1 2 rfl rfl (vp_in_iff.mpr (by decide +kernel)) dX3_append_98 (fun H locs hP hD hS => ?_)
                                          have hP : va_P g.1 vwCl [(h0, .inr (3, [.ref h37, .int 0])), (h37, .inl (zB g, 60, .inl (upd (fun _ => 0) 0 (vp_nar .byte ((((p1 >>> ((40 : Int32).toInt64 &&& 63)) &&& 255).toInt32).toInt8.toInt32)))))] H := hP
                                          have hD : va_D A [(h0, .inr (3, [.ref h37, .int 0])), (h37, .inl (zB g, 60, .inl (upd (fun _ => 0) 0 (vp_nar .byte ((((p1 >>> ((40 : Int32).toInt64 &&& 63)) &&& 255).toInt32).toInt8.toInt32)))))] := hD
                                          refine lv_aload_n hx hb dX3_append_99 rfl (lv_at hl 2 rfl) ?_
                                          refine lv_dup hx hb dX3_append_100 rfl ?_
                                          refine va_get (D := g.1) (ci := 3) (v := .int 0) (C := RX3) (T := TX3) (N := 2) hx hb hts zl_X3 hown hK hP 0 rfl rfl 1 (by decide) (hts _ m_f_RX3_15) (fun _ h => h) rfl dX3_append_101 ?_
                                          refine lv_iconst (v := 1) hx hb dX3_append_104 (by decide) ?_
                                          refine lv_iadd hx hb dX3_append_105 ?_
                                          refine lv_topi (nm_r (e' := 1) (by decide +kernel) ?_)
                                          refine va_put (D := g.1) (ci := 3) (v := .int 1) (ty := .int) (C := RX3) (T := TX3) (N := 2) hx hb hts zl_X3 tyX3 tyX3_ok nmX3 hown hK hP hD hS 0 rfl rfl 1 (by decide) (hts _ m_f_RX3_15) (fun _ h => h) rfl (by decide +kernel) rfl rfl (Nat.le_of_ble_eq_true rfl) dX3_append_106 (fun H locs hP hD hS => ?_)
                                          have hP : va_P g.1 vwCl [(h0, .inr (3, [.ref h37, .int 1])), (h37, .inl (zB g, 60, .inl (upd (fun _ => 0) 0 (vp_nar .byte ((((p1 >>> ((40 : Int32).toInt64 &&& 63)) &&& 255).toInt32).toInt8.toInt32)))))] H := hP
                                          have hD : va_D A [(h0, .inr (3, [.ref h37, .int 1])), (h37, .inl (zB g, 60, .inl (upd (fun _ => 0) 0 (vp_nar .byte ((((p1 >>> ((40 : Int32).toInt64 &&& 63)) &&& 255).toInt32).toInt8.toInt32)))))] := hD
                                          refine lv_iinc (v := 4) (lv' := [(4, .int 4), (5, .int (((p1 >>> ((40 : Int32).toInt64 &&& 63)) &&& 255).toInt32)), (0, .ref h0), (1, .long p1), (3, .int 6)]) hx hb dX3_append_109 hl (k := 0) rfl (by decide) (by decide) rfl (fun ls hl => ?_)
                                          refine lv_goto (tgt := 78) hx hb dX3_append_112 (by decide) ?_
                                          refine lv_iload hx hb dX3_append_78 (lv_at hl 0 rfl) ?_
                                          refine lv_if_lt (tgt := 115) hx hb dX3_append_80 (by decide) (fun h => absurd h (by decide +kernel)) (fun _ => ?_)
                                          refine lv_aload_n hx hb dX3_append_83 rfl (lv_at hl 2 rfl) ?_
                                          refine va_get (D := g.1) (ci := 3) (v := .ref h37) (C := RX3) (T := TX3) (N := 2) hx hb hts zl_X3 hown hK hP 0 rfl rfl 0 (by decide) (hts _ m_f_RX3_11) (fun _ h => h) rfl dX3_append_84 ?_
                                          refine lv_aload_n hx hb dX3_append_87 rfl (lv_at hl 2 rfl) ?_
                                          refine va_get (D := g.1) (ci := 3) (v := .int 1) (C := RX3) (T := TX3) (N := 2) hx hb hts zl_X3 hown hK hP 0 rfl rfl 1 (by decide) (hts _ m_f_RX3_15) (fun _ h => h) rfl dX3_append_88 ?_
                                          refine lv_lload_n hx hb dX3_append_91 rfl (lv_at hl 3 rfl) ?_
                                          refine lv_iload hx hb dX3_append_92 (lv_at hl 0 rfl) ?_
                                          refine z_calli (wr := [(h0, .inr (3, [.ref h37, .int 1])), (h37, .inl (zB g, 60, .inl (upd (fun _ => 0) 0 (vp_nar .byte ((((p1 >>> ((40 : Int32).toInt64 &&& 63)) &&& 255).toInt32).toInt8.toInt32)))))]) hP hD hS hA [] [0, 1] (by decide) rfl rfl (by decide) (va_runS (As := [.long p1, .int 4]) (rest := [.int 1, .ref h37]) ⟨hx, hb, hml, hown, hts⟩ (kX3_byteOf_53 l g  H.size p1) ⟨callB_of 2 hts (zGood m_o_yX3_byteOf) rfl rfl rfl (hts _ m_z_RX3) (hts _ m_m_RX3_19) ⟨by decide +kernel, by decide +kernel, by decide +kernel⟩ ⟨Nat.le_of_ble_eq_true rfl, Nat.le_of_ble_eq_true rfl⟩, hts _ m_s_yX3_byteOf⟩ (zPreS hK hN hZ hP hD hS hA [] (by decide) rfl rfl) rfl rfl hl.1 rfl (lv_room (Nat.le_of_ble_eq_true rfl)) dX3_append_94 ⟨Nat.le_of_ble_eq_true rfl, Nat.le_of_ble_eq_true rfl⟩) (fun r u H locs hw hP hD hS => ?_)
                                          obtain rfl := hw
                                          have hP : va_P g.1 vwCl [(h0, .inr (3, [.ref h37, .int 1])), (h37, .inl (zB g, 60, .inl (upd (fun _ => 0) 0 (vp_nar .byte ((((p1 >>> ((40 : Int32).toInt64 &&& 63)) &&& 255).toInt32).toInt8.toInt32)))))] H := hP
                                          have hD : va_D A [(h0, .inr (3, [.ref h37, .int 1])), (h37, .inl (zB g, 60, .inl (upd (fun _ => 0) 0 (vp_nar .byte ((((p1 >>> ((40 : Int32).toInt64 &&& 63)) &&& 255).toInt32).toInt8.toInt32)))))] := hD
                                          refine lv_i2b (v := (((p1 >>> ((32 : Int32).toInt64 &&& 63)) &&& 255).toInt32).toInt8.toInt32) hx hb dX3_append_97 rfl ?_
                                          refine va_bast (D := g.1) hx hb hK hP hD hS 1 2 rfl rfl (vp_in_iff.mpr (by decide +kernel)) dX3_append_98 (fun H locs hP hD hS => ?_)
                                          have hP : va_P g.1 vwCl [(h0, .inr (3, [.ref h37, .int 1])), (h37, .inl (zB g, 60, .inl (upd (upd (fun _ => 0) 0 (vp_nar .byte ((((p1 >>> ((40 : Int32).toInt64 &&& 63)) &&& 255).toInt32).toInt8.toInt32))) 1 (vp_nar .byte ((((p1 >>> ((32 : Int32).toInt64 &&& 63)) &&& 255).toInt32).toInt8.toInt32)))))] H := hP
                                          have hD : va_D A [(h0, .inr (3, [.ref h37, .int 1])), (h37, .inl (zB g, 60, .inl (upd (upd (fun _ => 0) 0 (vp_nar .byte ((((p1 >>> ((40 : Int32).toInt64 &&& 63)) &&& 255).toInt32).toInt8.toInt32))) 1 (vp_nar .byte ((((p1 >>> ((32 : Int32).toInt64 &&& 63)) &&& 255).toInt32).toInt8.toInt32)))))] := hD
                                          refine lv_aload_n hx hb dX3_append_99 rfl (lv_at hl 2 rfl) ?_
                                          refine lv_dup hx hb dX3_append_100 rfl ?_
                                          refine va_get (D := g.1) (ci := 3) (v := .int 1) (C := RX3) (T := TX3) (N := 2) hx hb hts zl_X3 hown hK hP 0 rfl rfl 1 (by decide) (hts _ m_f_RX3_15) (fun _ h => h) rfl dX3_append_101 ?_
                                          refine lv_iconst (v := 1) hx hb dX3_append_104 (by decide) ?_
                                          refine lv_iadd hx hb dX3_append_105 ?_
                                          refine lv_topi (nm_r (e' := 2) (by decide +kernel) ?_)
                                          refine va_put (D := g.1) (ci := 3) (v := .int 2) (ty := .int) (C := RX3) (T := TX3) (N := 2) hx hb hts zl_X3 tyX3 tyX3_ok nmX3 hown hK hP hD hS 0 rfl rfl 1 (by decide) (hts _ m_f_RX3_15) (fun _ h => h) rfl (by decide +kernel) rfl rfl (Nat.le_of_ble_eq_true rfl) dX3_append_106 (fun H locs hP hD hS => ?_)
                                          have hP : va_P g.1 vwCl [(h0, .inr (3, [.ref h37, .int 2])), (h37, .inl (zB g, 60, .inl (upd (upd (fun _ => 0) 0 (vp_nar .byte ((((p1 >>> ((40 : Int32).toInt64 &&& 63)) &&& 255).toInt32).toInt8.toInt32))) 1 (vp_nar .byte ((((p1 >>> ((32 : Int32).toInt64 &&& 63)) &&& 255).toInt32).toInt8.toInt32)))))] H := hP
                                          have hD : va_D A [(h0, .inr (3, [.ref h37, .int 2])), (h37, .inl (zB g, 60, .inl (upd (upd (fun _ => 0) 0 (vp_nar .byte ((((p1 >>> ((40 : Int32).toInt64 &&& 63)) &&& 255).toInt32).toInt8.toInt32))) 1 (vp_nar .byte ((((p1 >>> ((32 : Int32).toInt64 &&& 63)) &&& 255).toInt32).toInt8.toInt32)))))] := hD
                                          refine lv_iinc (v := 3) (lv' := [(4, .int 3), (5, .int (((p1 >>> ((40 : Int32).toInt64 &&& 63)) &&& 255).toInt32)), (0, .ref h0), (1, .long p1), (3, .int 6)]) hx hb dX3_append_109 hl (k := 0) rfl (by decide) (by decide) rfl (fun ls hl => ?_)
                                          refine lv_goto (tgt := 78) hx hb dX3_append_112 (by decide) ?_
                                          refine lv_iload hx hb dX3_append_78 (lv_at hl 0 rfl) ?_
                                          refine lv_if_lt (tgt := 115) hx hb dX3_append_80 (by decide) (fun h => absurd h (by decide +kernel)) (fun _ => ?_)
                                          refine lv_aload_n hx hb dX3_append_83 rfl (lv_at hl 2 rfl) ?_
                                          refine va_get (D := g.1) (ci := 3) (v := .ref h37) (C := RX3) (T := TX3) (N := 2) hx hb hts zl_X3 hown hK hP 0 rfl rfl 0 (by decide) (hts _ m_f_RX3_11) (fun _ h => h) rfl dX3_append_84 ?_
                                          refine lv_aload_n hx hb dX3_append_87 rfl (lv_at hl 2 rfl) ?_
                                          refine va_get (D := g.1) (ci := 3) (v := .int 2) (C := RX3) (T := TX3) (N := 2) hx hb hts zl_X3 hown hK hP 0 rfl rfl 1 (by decide) (hts _ m_f_RX3_15) (fun _ h => h) rfl dX3_append_88 ?_
                                          refine lv_lload_n hx hb dX3_append_91 rfl (lv_at hl 3 rfl) ?_
                                          refine lv_iload hx hb dX3_append_92 (lv_at hl 0 rfl) ?_
                                          refine z_calli (wr := [(h0, .inr (3, [.ref h37, .int 2])), (h37, .inl (zB g, 60, .inl (upd (upd (fun _ => 0) 0 (vp_nar .byte ((((p1 >>> ((40 : Int32).toInt64 &&& 63)) &&& 255).toInt32).toInt8.toInt32))) 1 (vp_nar .byte ((((p1 >>> ((32 : Int32).toInt64 &&& 63)) &&& 255).toInt32).toInt8.toInt32)))))]) hP hD hS hA [] [0, 1] (by decide) rfl rfl (by decide) (va_runS (As := [.long p1, .int 3]) (rest := [.int 2, .ref h37]) ⟨hx, hb, hml, hown, hts⟩ (kX3_byteOf_54 l g  H.size p1) ⟨callB_of 2 hts (zGood m_o_yX3_byteOf) rfl rfl rfl (hts _ m_z_RX3) (hts _ m_m_RX3_19) ⟨by decide +kernel, by decide +kernel, by decide +kernel⟩ ⟨Nat.le_of_ble_eq_true rfl, Nat.le_of_ble_eq_true rfl⟩, hts _ m_s_yX3_byteOf⟩ (zPreS hK hN hZ hP hD hS hA [] (by decide) rfl rfl) rfl rfl hl.1 rfl (lv_room (Nat.le_of_ble_eq_true rfl)) dX3_append_94 ⟨Nat.le_of_ble_eq_true rfl, Nat.le_of_ble_eq_true rfl⟩) (fun r u H locs hw hP hD hS => ?_)
                                          obtain rfl := hw
                                          have hP : va_P g.1 vwCl [(h0, .inr (3, [.ref h37, .int 2])), (h37, .inl (zB g, 60, .inl (upd (upd (fun _ => 0) 0 (vp_nar .byte ((((p1 >>> ((40 : Int32).toInt64 &&& 63)) &&& 255).toInt32).toInt8.toInt32))) 1 (vp_nar .byte ((((p1 >>> ((32 : Int32).toInt64 &&& 63)) &&& 255).toInt32).toInt8.toInt32)))))] H := hP
                                          have hD : va_D A [(h0, .inr (3, [.ref h37, .int 2])), (h37, .inl (zB g, 60, .inl (upd (upd (fun _ => 0) 0 (vp_nar .byte ((((p1 >>> ((40 : Int32).toInt64 &&& 63)) &&& 255).toInt32).toInt8.toInt32))) 1 (vp_nar .byte ((((p1 >>> ((32 : Int32).toInt64 &&& 63)) &&& 255).toInt32).toInt8.toInt32)))))] := hD
                                          refine lv_i2b (v := (((p1 >>> ((24 : Int32).toInt64 &&& 63)) &&& 255).toInt32).toInt8.toInt32) hx hb dX3_append_97 rfl ?_
                                          refine va_bast (D := g.1) hx hb hK hP hD hS 1 2 rfl rfl (vp_in_iff.mpr (by decide +kernel)) dX3_append_98 (fun H locs hP hD hS => ?_)
                                          have hP : va_P g.1 vwCl [(h0, .inr (3, [.ref h37, .int 2])), (h37, .inl (zB g, 60, .inl (upd (upd (upd (fun _ => 0) 0 (vp_nar .byte ((((p1 >>> ((40 : Int32).toInt64 &&& 63)) &&& 255).toInt32).toInt8.toInt32))) 1 (vp_nar .byte ((((p1 >>> ((32 : Int32).toInt64 &&& 63)) &&& 255).toInt32).toInt8.toInt32))) 2 (vp_nar .byte ((((p1 >>> ((24 : Int32).toInt64 &&& 63)) &&& 255).toInt32).toInt8.toInt32)))))] H := hP
                                          have hD : va_D A [(h0, .inr (3, [.ref h37, .int 2])), (h37, .inl (zB g, 60, .inl (upd (upd (upd (fun _ => 0) 0 (vp_nar .byte ((((p1 >>> ((40 : Int32).toInt64 &&& 63)) &&& 255).toInt32).toInt8.toInt32))) 1 (vp_nar .byte ((((p1 >>> ((32 : Int32).toInt64 &&& 63)) &&& 255).toInt32).toInt8.toInt32))) 2 (vp_nar .byte ((((p1 >>> ((24 : Int32).toInt64 &&& 63)) &&& 255).toInt32).toInt8.toInt32)))))] := hD
                                          refine lv_aload_n hx hb dX3_append_99 rfl (lv_at hl 2 rfl) ?_
                                          refine lv_dup hx hb dX3_append_100 rfl ?_
                                          refine va_get (D := g.1) (ci := 3) (v := .int 2) (C := RX3) (T := TX3) (N := 2) hx hb hts zl_X3 hown hK hP 0 rfl rfl 1 (by decide) (hts _ m_f_RX3_15) (fun _ h => h) rfl dX3_append_101 ?_
                                          refine lv_iconst (v := 1) hx hb dX3_append_104 (by decide) ?_
                                          refine lv_iadd hx hb dX3_append_105 ?_
                                          refine lv_topi (nm_r (e' := 3) (by decide +kernel) ?_)
                                          refine va_put (D := g.1) (ci := 3) (v := .int 3) (ty := .int) (C := RX3) (T := TX3) (N := 2) hx hb hts zl_X3 tyX3 tyX3_ok nmX3 hown hK hP hD hS 0 rfl rfl 1 (by decide) (hts _ m_f_RX3_15) (fun _ h => h) rfl (by decide +kernel) rfl rfl (Nat.le_of_ble_eq_true rfl) dX3_append_106 (fun H locs hP hD hS => ?_)
                                          have hP : va_P g.1 vwCl [(h0, .inr (3, [.ref h37, .int 3])), (h37, .inl (zB g, 60, .inl (upd (upd (upd (fun _ => 0) 0 (vp_nar .byte ((((p1 >>> ((40 : Int32).toInt64 &&& 63)) &&& 255).toInt32).toInt8.toInt32))) 1 (vp_nar .byte ((((p1 >>> ((32 : Int32).toInt64 &&& 63)) &&& 255).toInt32).toInt8.toInt32))) 2 (vp_nar .byte ((((p1 >>> ((24 : Int32).toInt64 &&& 63)) &&& 255).toInt32).toInt8.toInt32)))))] H := hP
                                          have hD : va_D A [(h0, .inr (3, [.ref h37, .int 3])), (h37, .inl (zB g, 60, .inl (upd (upd (upd (fun _ => 0) 0 (vp_nar .byte ((((p1 >>> ((40 : Int32).toInt64 &&& 63)) &&& 255).toInt32).toInt8.toInt32))) 1 (vp_nar .byte ((((p1 >>> ((32 : Int32).toInt64 &&& 63)) &&& 255).toInt32).toInt8.toInt32))) 2 (vp_nar .byte ((((p1 >>> ((24 : Int32).toInt64 &&& 63)) &&& 255).toInt32).toInt8.toInt32)))))] := hD
                                          refine lv_iinc (v := 2) (lv' := [(4, .int 2), (5, .int (((p1 >>> ((40 : Int32).toInt64 &&& 63)) &&& 255).toInt32)), (0, .ref h0), (1, .long p1), (3, .int 6)]) hx hb dX3_append_109 hl (k := 0) rfl (by decide) (by decide) rfl (fun ls hl => ?_)
                                          refine lv_goto (tgt := 78) hx hb dX3_append_112 (by decide) ?_
                                          refine lv_iload hx hb dX3_append_78 (lv_at hl 0 rfl) ?_
                                          refine lv_if_lt (tgt := 115) hx hb dX3_append_80 (by decide) (fun h => absurd h (by decide +kernel)) (fun _ => ?_)
                                          refine lv_aload_n hx hb dX3_append_83 rfl (lv_at hl 2 rfl) ?_
                                          refine va_get (D := g.1) (ci := 3) (v := .ref h37) (C := RX3) (T := TX3) (N := 2) hx hb hts zl_X3 hown hK hP 0 rfl rfl 0 (by decide) (hts _ m_f_RX3_11) (fun _ h => h) rfl dX3_append_84 ?_
                                          refine lv_aload_n hx hb dX3_append_87 rfl (lv_at hl 2 rfl) ?_
                                          refine va_get (D := g.1) (ci := 3) (v := .int 3) (C := RX3) (T := TX3) (N := 2) hx hb hts zl_X3 hown hK hP 0 rfl rfl 1 (by decide) (hts _ m_f_RX3_15) (fun _ h => h) rfl dX3_append_88 ?_
                                          refine lv_lload_n hx hb dX3_append_91 rfl (lv_at hl 3 rfl) ?_
                                          refine lv_iload hx hb dX3_append_92 (lv_at hl 0 rfl) ?_
                                          refine z_calli (wr := [(h0, .inr (3, [.ref h37, .int 3])), (h37, .inl (zB g, 60, .inl (upd (upd (upd (fun _ => 0) 0 (vp_nar .byte ((((p1 >>> ((40 : Int32).toInt64 &&& 63)) &&& 255).toInt32).toInt8.toInt32))) 1 (vp_nar .byte ((((p1 >>> ((32 : Int32).toInt64 &&& 63)) &&& 255).toInt32).toInt8.toInt32))) 2 (vp_nar .byte ((((p1 >>> ((24 : Int32).toInt64 &&& 63)) &&& 255).toInt32).toInt8.toInt32)))))]) hP hD hS hA [] [0, 1] (by decide) rfl rfl (by decide) (va_runS (As := [.long p1, .int 2]) (rest := [.int 3, .ref h37]) ⟨hx, hb, hml, hown, hts⟩ (kX3_byteOf_55 l g  H.size p1) ⟨callB_of 2 hts (zGood m_o_yX3_byteOf) rfl rfl rfl (hts _ m_z_RX3) (hts _ m_m_RX3_19) ⟨by decide +kernel, by decide +kernel, by decide +kernel⟩ ⟨Nat.le_of_ble_eq_true rfl, Nat.le_of_ble_eq_true rfl⟩, hts _ m_s_yX3_byteOf⟩ (zPreS hK hN hZ hP hD hS hA [] (by decide) rfl rfl) rfl rfl hl.1 rfl (lv_room (Nat.le_of_ble_eq_true rfl)) dX3_append_94 ⟨Nat.le_of_ble_eq_true rfl, Nat.le_of_ble_eq_true rfl⟩) (fun r u H locs hw hP hD hS => ?_)
                                          obtain rfl := hw
                                          have hP : va_P g.1 vwCl [(h0, .inr (3, [.ref h37, .int 3])), (h37, .inl (zB g, 60, .inl (upd (upd (upd (fun _ => 0) 0 (vp_nar .byte ((((p1 >>> ((40 : Int32).toInt64 &&& 63)) &&& 255).toInt32).toInt8.toInt32))) 1 (vp_nar .byte ((((p1 >>> ((32 : Int32).toInt64 &&& 63)) &&& 255).toInt32).toInt8.toInt32))) 2 (vp_nar .byte ((((p1 >>> ((24 : Int32).toInt64 &&& 63)) &&& 255).toInt32).toInt8.toInt32)))))] H := hP
                                          have hD : va_D A [(h0, .inr (3, [.ref h37, .int 3])), (h37, .inl (zB g, 60, .inl (upd (upd (upd (fun _ => 0) 0 (vp_nar .byte ((((p1 >>> ((40 : Int32).toInt64 &&& 63)) &&& 255).toInt32).toInt8.toInt32))) 1 (vp_nar .byte ((((p1 >>> ((32 : Int32).toInt64 &&& 63)) &&& 255).toInt32).toInt8.toInt32))) 2 (vp_nar .byte ((((p1 >>> ((24 : Int32).toInt64 &&& 63)) &&& 255).toInt32).toInt8.toInt32)))))] := hD
                                          refine lv_i2b (v := (((p1 >>> ((16 : Int32).toInt64 &&& 63)) &&& 255).toInt32).toInt8.toInt32) hx hb dX3_append_97 rfl ?_
                                          refine va_bast (D := g.1) hx hb hK hP hD hS 1 2 rfl rfl (vp_in_iff.mpr (by decide +kernel)) dX3_append_98 (fun H locs hP hD hS => ?_)
                                          have hP : va_P g.1 vwCl [(h0, .inr (3, [.ref h37, .int 3])), (h37, .inl (zB g, 60, .inl (upd (upd (upd (upd (fun _ => 0) 0 (vp_nar .byte ((((p1 >>> ((40 : Int32).toInt64 &&& 63)) &&& 255).toInt32).toInt8.toInt32))) 1 (vp_nar .byte ((((p1 >>> ((32 : Int32).toInt64 &&& 63)) &&& 255).toInt32).toInt8.toInt32))) 2 (vp_nar .byte ((((p1 >>> ((24 : Int32).toInt64 &&& 63)) &&& 255).toInt32).toInt8.toInt32))) 3 (vp_nar .byte ((((p1 >>> ((16 : Int32).toInt64 &&& 63)) &&& 255).toInt32).toInt8.toInt32)))))] H := hP
                                          have hD : va_D A [(h0, .inr (3, [.ref h37, .int 3])), (h37, .inl (zB g, 60, .inl (upd (upd (upd (upd (fun _ => 0) 0 (vp_nar .byte ((((p1 >>> ((40 : Int32).toInt64 &&& 63)) &&& 255).toInt32).toInt8.toInt32))) 1 (vp_nar .byte ((((p1 >>> ((32 : Int32).toInt64 &&& 63)) &&& 255).toInt32).toInt8.toInt32))) 2 (vp_nar .byte ((((p1 >>> ((24 : Int32).toInt64 &&& 63)) &&& 255).toInt32).toInt8.toInt32))) 3 (vp_nar .byte ((((p1 >>> ((16 : Int32).toInt64 &&& 63)) &&& 255).toInt32).toInt8.toInt32)))))] := hD
                                          refine lv_aload_n hx hb dX3_append_99 rfl (lv_at hl 2 rfl) ?_
                                          refine lv_dup hx hb dX3_append_100 rfl ?_
                                          refine va_get (D := g.1) (ci := 3) (v := .int 3) (C := RX3) (T := TX3) (N := 2) hx hb hts zl_X3 hown hK hP 0 rfl rfl 1 (by decide) (hts _ m_f_RX3_15) (fun _ h => h) rfl dX3_append_101 ?_
                                          refine lv_iconst (v := 1) hx hb dX3_append_104 (by decide) ?_
                                          refine lv_iadd hx hb dX3_append_105 ?_
                                          refine lv_topi (nm_r (e' := 4) (by decide +kernel) ?_)
                                          refine va_put (D := g.1) (ci := 3) (v := .int 4) (ty := .int) (C := RX3) (T := TX3) (N := 2) hx hb hts zl_X3 tyX3 tyX3_ok nmX3 hown hK hP hD hS 0 rfl rfl 1 (by decide) (hts _ m_f_RX3_15) (fun _ h => h) rfl (by decide +kernel) rfl rfl (Nat.le_of_ble_eq_true rfl) dX3_append_106 (fun H locs hP hD hS => ?_)
                                          have hP : va_P g.1 vwCl [(h0, .inr (3, [.ref h37, .int 4])), (h37, .inl (zB g, 60, .inl (upd (upd (upd (upd (fun _ => 0) 0 (vp_nar .byte ((((p1 >>> ((40 : Int32).toInt64 &&& 63)) &&& 255).toInt32).toInt8.toInt32))) 1 (vp_nar .byte ((((p1 >>> ((32 : Int32).toInt64 &&& 63)) &&& 255).toInt32).toInt8.toInt32))) 2 (vp_nar .byte ((((p1 >>> ((24 : Int32).toInt64 &&& 63)) &&& 255).toInt32).toInt8.toInt32))) 3 (vp_nar .byte ((((p1 >>> ((16 : Int32).toInt64 &&& 63)) &&& 255).toInt32).toInt8.toInt32)))))] H := hP
                                          have hD : va_D A [(h0, .inr (3, [.ref h37, .int 4])), (h37, .inl (zB g, 60, .inl (upd (upd (upd (upd (fun _ => 0) 0 (vp_nar .byte ((((p1 >>> ((40 : Int32).toInt64 &&& 63)) &&& 255).toInt32).toInt8.toInt32))) 1 (vp_nar .byte ((((p1 >>> ((32 : Int32).toInt64 &&& 63)) &&& 255).toInt32).toInt8.toInt32))) 2 (vp_nar .byte ((((p1 >>> ((24 : Int32).toInt64 &&& 63)) &&& 255).toInt32).toInt8.toInt32))) 3 (vp_nar .byte ((((p1 >>> ((16 : Int32).toInt64 &&& 63)) &&& 255).toInt32).toInt8.toInt32)))))] := hD
                                          refine lv_iinc (v := 1) (lv' := [(4, .int 1), (5, .int (((p1 >>> ((40 : Int32).toInt64 &&& 63)) &&& 255).toInt32)), (0, .ref h0), (1, .long p1), (3, .int 6)]) hx hb dX3_append_109 hl (k := 0) rfl (by decide) (by decide) rfl (fun ls hl => ?_)
                                          refine lv_goto (tgt := 78) hx hb dX3_append_112 (by decide) ?_
                                          refine lv_iload hx hb dX3_append_78 (lv_at hl 0 rfl) ?_
                                          refine lv_if_lt (tgt := 115) hx hb dX3_append_80 (by decide) (fun h => absurd h (by decide +kernel)) (fun _ => ?_)
                                          refine lv_aload_n hx hb dX3_append_83 rfl (lv_at hl 2 rfl) ?_
                                          refine va_get (D := g.1) (ci := 3) (v := .ref h37) (C := RX3) (T := TX3) (N := 2) hx hb hts zl_X3 hown hK hP 0 rfl rfl 0 (by decide) (hts _ m_f_RX3_11) (fun _ h => h) rfl dX3_append_84 ?_
                                          refine lv_aload_n hx hb dX3_append_87 rfl (lv_at hl 2 rfl) ?_
                                          refine va_get (D := g.1) (ci := 3) (v := .int 4) (C := RX3) (T := TX3) (N := 2) hx hb hts zl_X3 hown hK hP 0 rfl rfl 1 (by decide) (hts _ m_f_RX3_15) (fun _ h => h) rfl dX3_append_88 ?_
                                          refine lv_lload_n hx hb dX3_append_91 rfl (lv_at hl 3 rfl) ?_
                                          refine lv_iload hx hb dX3_append_92 (lv_at hl 0 rfl) ?_
                                          refine z_calli (wr := [(h0, .inr (3, [.ref h37, .int 4])), (h37, .inl (zB g, 60, .inl (upd (upd (upd (upd (fun _ => 0) 0 (vp_nar .byte ((((p1 >>> ((40 : Int32).toInt64 &&& 63)) &&& 255).toInt32).toInt8.toInt32))) 1 (vp_nar .byte ((((p1 >>> ((32 : Int32).toInt64 &&& 63)) &&& 255).toInt32).toInt8.toInt32))) 2 (vp_nar .byte ((((p1 >>> ((24 : Int32).toInt64 &&& 63)) &&& 255).toInt32).toInt8.toInt32))) 3 (vp_nar .byte ((((p1 >>> ((16 : Int32).toInt64 &&& 63)) &&& 255).toInt32).toInt8.toInt32)))))]) hP hD hS hA [] [0, 1] (by decide) rfl rfl (by decide) (va_runS (As := [.long p1, .int 1]) (rest := [.int 4, .ref h37]) ⟨hx, hb, hml, hown, hts⟩ (kX3_byteOf_56 l g  H.size p1) ⟨callB_of 2 hts (zGood m_o_yX3_byteOf) rfl rfl rfl (hts _ m_z_RX3) (hts _ m_m_RX3_19) ⟨by decide +kernel, by decide +kernel, by decide +kernel⟩ ⟨Nat.le_of_ble_eq_true rfl, Nat.le_of_ble_eq_true rfl⟩, hts _ m_s_yX3_byteOf⟩ (zPreS hK hN hZ hP hD hS hA [] (by decide) rfl rfl) rfl rfl hl.1 rfl (lv_room (Nat.le_of_ble_eq_true rfl)) dX3_append_94 ⟨Nat.le_of_ble_eq_true rfl, Nat.le_of_ble_eq_true rfl⟩) (fun r u H locs hw hP hD hS => ?_)
                                          obtain rfl := hw
                                          have hP : va_P g.1 vwCl [(h0, .inr (3, [.ref h37, .int 4])), (h37, .inl (zB g, 60, .inl (upd (upd (upd (upd (fun _ => 0) 0 (vp_nar .byte ((((p1 >>> ((40 : Int32).toInt64 &&& 63)) &&& 255).toInt32).toInt8.toInt32))) 1 (vp_nar .byte ((((p1 >>> ((32 : Int32).toInt64 &&& 63)) &&& 255).toInt32).toInt8.toInt32))) 2 (vp_nar .byte ((((p1 >>> ((24 : Int32).toInt64 &&& 63)) &&& 255).toInt32).toInt8.toInt32))) 3 (vp_nar .byte ((((p1 >>> ((16 : Int32).toInt64 &&& 63)) &&& 255).toInt32).toInt8.toInt32)))))] H := hP
                                          have hD : va_D A [(h0, .inr (3, [.ref h37, .int 4])), (h37, .inl (zB g, 60, .inl (upd (upd (upd (upd (fun _ => 0) 0 (vp_nar .byte ((((p1 >>> ((40 : Int32).toInt64 &&& 63)) &&& 255).toInt32).toInt8.toInt32))) 1 (vp_nar .byte ((((p1 >>> ((32 : Int32).toInt64 &&& 63)) &&& 255).toInt32).toInt8.toInt32))) 2 (vp_nar .byte ((((p1 >>> ((24 : Int32).toInt64 &&& 63)) &&& 255).toInt32).toInt8.toInt32))) 3 (vp_nar .byte ((((p1 >>> ((16 : Int32).toInt64 &&& 63)) &&& 255).toInt32).toInt8.toInt32)))))] := hD
                                          refine lv_i2b (v := (((p1 >>> ((8 : Int32).toInt64 &&& 63)) &&& 255).toInt32).toInt8.toInt32) hx hb dX3_append_97 rfl ?_
                                          refine va_bast (D := g.1) hx hb hK hP hD hS 1 2 rfl rfl (vp_in_iff.mpr (by decide +kernel)) dX3_append_98 (fun H locs hP hD hS => ?_)
                                          have hP : va_P g.1 vwCl [(h0, .inr (3, [.ref h37, .int 4])), (h37, .inl (zB g, 60, .inl (upd (upd (upd (upd (upd (fun _ => 0) 0 (vp_nar .byte ((((p1 >>> ((40 : Int32).toInt64 &&& 63)) &&& 255).toInt32).toInt8.toInt32))) 1 (vp_nar .byte ((((p1 >>> ((32 : Int32).toInt64 &&& 63)) &&& 255).toInt32).toInt8.toInt32))) 2 (vp_nar .byte ((((p1 >>> ((24 : Int32).toInt64 &&& 63)) &&& 255).toInt32).toInt8.toInt32))) 3 (vp_nar .byte ((((p1 >>> ((16 : Int32).toInt64 &&& 63)) &&& 255).toInt32).toInt8.toInt32))) 4 (vp_nar .byte ((((p1 >>> ((8 : Int32).toInt64 &&& 63)) &&& 255).toInt32).toInt8.toInt32)))))] H := hP
                                          have hD : va_D A [(h0, .inr (3, [.ref h37, .int 4])), (h37, .inl (zB g, 60, .inl (upd (upd (upd (upd (upd (fun _ => 0) 0 (vp_nar .byte ((((p1 >>> ((40 : Int32).toInt64 &&& 63)) &&& 255).toInt32).toInt8.toInt32))) 1 (vp_nar .byte ((((p1 >>> ((32 : Int32).toInt64 &&& 63)) &&& 255).toInt32).toInt8.toInt32))) 2 (vp_nar .byte ((((p1 >>> ((24 : Int32).toInt64 &&& 63)) &&& 255).toInt32).toInt8.toInt32))) 3 (vp_nar .byte ((((p1 >>> ((16 : Int32).toInt64 &&& 63)) &&& 255).toInt32).toInt8.toInt32))) 4 (vp_nar .byte ((((p1 >>> ((8 : Int32).toInt64 &&& 63)) &&& 255).toInt32).toInt8.toInt32)))))] := hD
                                          refine lv_aload_n hx hb dX3_append_99 rfl (lv_at hl 2 rfl) ?_
                                          refine lv_dup hx hb dX3_append_100 rfl ?_
                                          refine va_get (D := g.1) (ci := 3) (v := .int 4) (C := RX3) (T := TX3) (N := 2) hx hb hts zl_X3 hown hK hP 0 rfl rfl 1 (by decide) (hts _ m_f_RX3_15) (fun _ h => h) rfl dX3_append_101 ?_
                                          refine lv_iconst (v := 1) hx hb dX3_append_104 (by decide) ?_
                                          refine lv_iadd hx hb dX3_append_105 ?_
                                          refine lv_topi (nm_r (e' := 5) (by decide +kernel) ?_)
                                          refine va_put (D := g.1) (ci := 3) (v := .int 5) (ty := .int) (C := RX3) (T := TX3) (N := 2) hx hb hts zl_X3 tyX3 tyX3_ok nmX3 hown hK hP hD hS 0 rfl rfl 1 (by decide) (hts _ m_f_RX3_15) (fun _ h => h) rfl (by decide +kernel) rfl rfl (Nat.le_of_ble_eq_true rfl) dX3_append_106 (fun H locs hP hD hS => ?_)
                                          have hP : va_P g.1 vwCl [(h0, .inr (3, [.ref h37, .int 5])), (h37, .inl (zB g, 60, .inl (upd (upd (upd (upd (upd (fun _ => 0) 0 (vp_nar .byte ((((p1 >>> ((40 : Int32).toInt64 &&& 63)) &&& 255).toInt32).toInt8.toInt32))) 1 (vp_nar .byte ((((p1 >>> ((32 : Int32).toInt64 &&& 63)) &&& 255).toInt32).toInt8.toInt32))) 2 (vp_nar .byte ((((p1 >>> ((24 : Int32).toInt64 &&& 63)) &&& 255).toInt32).toInt8.toInt32))) 3 (vp_nar .byte ((((p1 >>> ((16 : Int32).toInt64 &&& 63)) &&& 255).toInt32).toInt8.toInt32))) 4 (vp_nar .byte ((((p1 >>> ((8 : Int32).toInt64 &&& 63)) &&& 255).toInt32).toInt8.toInt32)))))] H := hP
                                          have hD : va_D A [(h0, .inr (3, [.ref h37, .int 5])), (h37, .inl (zB g, 60, .inl (upd (upd (upd (upd (upd (fun _ => 0) 0 (vp_nar .byte ((((p1 >>> ((40 : Int32).toInt64 &&& 63)) &&& 255).toInt32).toInt8.toInt32))) 1 (vp_nar .byte ((((p1 >>> ((32 : Int32).toInt64 &&& 63)) &&& 255).toInt32).toInt8.toInt32))) 2 (vp_nar .byte ((((p1 >>> ((24 : Int32).toInt64 &&& 63)) &&& 255).toInt32).toInt8.toInt32))) 3 (vp_nar .byte ((((p1 >>> ((16 : Int32).toInt64 &&& 63)) &&& 255).toInt32).toInt8.toInt32))) 4 (vp_nar .byte ((((p1 >>> ((8 : Int32).toInt64 &&& 63)) &&& 255).toInt32).toInt8.toInt32)))))] := hD
                                          refine lv_iinc (v := 0) (lv' := [(4, .int 0), (5, .int (((p1 >>> ((40 : Int32).toInt64 &&& 63)) &&& 255).toInt32)), (0, .ref h0), (1, .long p1), (3, .int 6)]) hx hb dX3_append_109 hl (k := 0) rfl (by decide) (by decide) rfl (fun ls hl => ?_)
                                          refine lv_goto (tgt := 78) hx hb dX3_append_112 (by decide) ?_
                                          refine lv_iload hx hb dX3_append_78 (lv_at hl 0 rfl) ?_
                                          refine lv_if_lt (tgt := 115) hx hb dX3_append_80 (by decide) (fun h => absurd h (by decide +kernel)) (fun _ => ?_)
                                          refine lv_aload_n hx hb dX3_append_83 rfl (lv_at hl 2 rfl) ?_
                                          refine va_get (D := g.1) (ci := 3) (v := .ref h37) (C := RX3) (T := TX3) (N := 2) hx hb hts zl_X3 hown hK hP 0 rfl rfl 0 (by decide) (hts _ m_f_RX3_11) (fun _ h => h) rfl dX3_append_84 ?_
                                          refine lv_aload_n hx hb dX3_append_87 rfl (lv_at hl 2 rfl) ?_
                                          refine va_get (D := g.1) (ci := 3) (v := .int 5) (C := RX3) (T := TX3) (N := 2) hx hb hts zl_X3 hown hK hP 0 rfl rfl 1 (by decide) (hts _ m_f_RX3_15) (fun _ h => h) rfl dX3_append_88 ?_
                                          refine lv_lload_n hx hb dX3_append_91 rfl (lv_at hl 3 rfl) ?_
                                          refine lv_iload hx hb dX3_append_92 (lv_at hl 0 rfl) ?_
                                          refine z_calli (wr := [(h0, .inr (3, [.ref h37, .int 5])), (h37, .inl (zB g, 60, .inl (upd (upd (upd (upd (upd (fun _ => 0) 0 (vp_nar .byte ((((p1 >>> ((40 : Int32).toInt64 &&& 63)) &&& 255).toInt32).toInt8.toInt32))) 1 (vp_nar .byte ((((p1 >>> ((32 : Int32).toInt64 &&& 63)) &&& 255).toInt32).toInt8.toInt32))) 2 (vp_nar .byte ((((p1 >>> ((24 : Int32).toInt64 &&& 63)) &&& 255).toInt32).toInt8.toInt32))) 3 (vp_nar .byte ((((p1 >>> ((16 : Int32).toInt64 &&& 63)) &&& 255).toInt32).toInt8.toInt32))) 4 (vp_nar .byte ((((p1 >>> ((8 : Int32).toInt64 &&& 63)) &&& 255).toInt32).toInt8.toInt32)))))]) hP hD hS hA [] [0, 1] (by decide) rfl rfl (by decide) (va_runS (As := [.long p1, .int 0]) (rest := [.int 5, .ref h37]) ⟨hx, hb, hml, hown, hts⟩ (kX3_byteOf_57 l g  H.size p1) ⟨callB_of 2 hts (zGood m_o_yX3_byteOf) rfl rfl rfl (hts _ m_z_RX3) (hts _ m_m_RX3_19) ⟨by decide +kernel, by decide +kernel, by decide +kernel⟩ ⟨Nat.le_of_ble_eq_true rfl, Nat.le_of_ble_eq_true rfl⟩, hts _ m_s_yX3_byteOf⟩ (zPreS hK hN hZ hP hD hS hA [] (by decide) rfl rfl) rfl rfl hl.1 rfl (lv_room (Nat.le_of_ble_eq_true rfl)) dX3_append_94 ⟨Nat.le_of_ble_eq_true rfl, Nat.le_of_ble_eq_true rfl⟩) (fun r u H locs hw hP hD hS => ?_)
                                          obtain rfl := hw
                                          have hP : va_P g.1 vwCl [(h0, .inr (3, [.ref h37, .int 5])), (h37, .inl (zB g, 60, .inl (upd (upd (upd (upd (upd (fun _ => 0) 0 (vp_nar .byte ((((p1 >>> ((40 : Int32).toInt64 &&& 63)) &&& 255).toInt32).toInt8.toInt32))) 1 (vp_nar .byte ((((p1 >>> ((32 : Int32).toInt64 &&& 63)) &&& 255).toInt32).toInt8.toInt32))) 2 (vp_nar .byte ((((p1 >>> ((24 : Int32).toInt64 &&& 63)) &&& 255).toInt32).toInt8.toInt32))) 3 (vp_nar .byte ((((p1 >>> ((16 : Int32).toInt64 &&& 63)) &&& 255).toInt32).toInt8.toInt32))) 4 (vp_nar .byte ((((p1 >>> ((8 : Int32).toInt64 &&& 63)) &&& 255).toInt32).toInt8.toInt32)))))] H := hP
                                          have hD : va_D A [(h0, .inr (3, [.ref h37, .int 5])), (h37, .inl (zB g, 60, .inl (upd (upd (upd (upd (upd (fun _ => 0) 0 (vp_nar .byte ((((p1 >>> ((40 : Int32).toInt64 &&& 63)) &&& 255).toInt32).toInt8.toInt32))) 1 (vp_nar .byte ((((p1 >>> ((32 : Int32).toInt64 &&& 63)) &&& 255).toInt32).toInt8.toInt32))) 2 (vp_nar .byte ((((p1 >>> ((24 : Int32).toInt64 &&& 63)) &&& 255).toInt32).toInt8.toInt32))) 3 (vp_nar .byte ((((p1 >>> ((16 : Int32).toInt64 &&& 63)) &&& 255).toInt32).toInt8.toInt32))) 4 (vp_nar .byte ((((p1 >>> ((8 : Int32).toInt64 &&& 63)) &&& 255).toInt32).toInt8.toInt32)))))] := hD
                                          refine lv_i2b (v := (((p1 >>> ((0 : Int32).toInt64 &&& 63)) &&& 255).toInt32).toInt8.toInt32) hx hb dX3_append_97 rfl ?_
                                          refine va_bast (D := g.1) hx hb hK hP hD hS 1 2 rfl rfl (vp_in_iff.mpr (by decide +kernel)) dX3_append_98 (fun H locs hP hD hS => ?_)
                                          have hP : va_P g.1 vwCl [(h0, .inr (3, [.ref h37, .int 5])), (h37, .inl (zB g, 60, .inl (upd (upd (upd (upd (upd (upd (fun _ => 0) 0 (vp_nar .byte ((((p1 >>> ((40 : Int32).toInt64 &&& 63)) &&& 255).toInt32).toInt8.toInt32))) 1 (vp_nar .byte ((((p1 >>> ((32 : Int32).toInt64 &&& 63)) &&& 255).toInt32).toInt8.toInt32))) 2 (vp_nar .byte ((((p1 >>> ((24 : Int32).toInt64 &&& 63)) &&& 255).toInt32).toInt8.toInt32))) 3 (vp_nar .byte ((((p1 >>> ((16 : Int32).toInt64 &&& 63)) &&& 255).toInt32).toInt8.toInt32))) 4 (vp_nar .byte ((((p1 >>> ((8 : Int32).toInt64 &&& 63)) &&& 255).toInt32).toInt8.toInt32))) 5 (vp_nar .byte ((((p1 >>> ((0 : Int32).toInt64 &&& 63)) &&& 255).toInt32).toInt8.toInt32)))))] H := hP
                                          have hD : va_D A [(h0, .inr (3, [.ref h37, .int 5])), (h37, .inl (zB g, 60, .inl (upd (upd (upd (upd (upd (upd (fun _ => 0) 0 (vp_nar .byte ((((p1 >>> ((40 : Int32).toInt64 &&& 63)) &&& 255).toInt32).toInt8.toInt32))) 1 (vp_nar .byte ((((p1 >>> ((32 : Int32).toInt64 &&& 63)) &&& 255).toInt32).toInt8.toInt32))) 2 (vp_nar .byte ((((p1 >>> ((24 : Int32).toInt64 &&& 63)) &&& 255).toInt32).toInt8.toInt32))) 3 (vp_nar .byte ((((p1 >>> ((16 : Int32).toInt64 &&& 63)) &&& 255).toInt32).toInt8.toInt32))) 4 (vp_nar .byte ((((p1 >>> ((8 : Int32).toInt64 &&& 63)) &&& 255).toInt32).toInt8.toInt32))) 5 (vp_nar .byte ((((p1 >>> ((0 : Int32).toInt64 &&& 63)) &&& 255).toInt32).toInt8.toInt32)))))] := hD
                                          refine lv_aload_n hx hb dX3_append_99 rfl (lv_at hl 2 rfl) ?_
                                          refine lv_dup hx hb dX3_append_100 rfl ?_
                                          refine va_get (D := g.1) (ci := 3) (v := .int 5) (C := RX3) (T := TX3) (N := 2) hx hb hts zl_X3 hown hK hP 0 rfl rfl 1 (by decide) (hts _ m_f_RX3_15) (fun _ h => h) rfl dX3_append_101 ?_
                                          refine lv_iconst (v := 1) hx hb dX3_append_104 (by decide) ?_
                                          refine lv_iadd hx hb dX3_append_105 ?_
                                          refine lv_topi (nm_r (e' := 6) (by decide +kernel) ?_)
                                          refine va_put (D := g.1) (ci := 3) (v := .int 6) (ty := .int) (C := RX3) (T := TX3) (N := 2) hx hb hts zl_X3 tyX3 tyX3_ok nmX3 hown hK hP hD hS 0 rfl rfl 1 (by decide) (hts _ m_f_RX3_15) (fun _ h => h) rfl (by decide +kernel) rfl rfl (Nat.le_of_ble_eq_true rfl) dX3_append_106 (fun H locs hP hD hS => ?_)
                                          have hP : va_P g.1 vwCl [(h0, .inr (3, [.ref h37, .int 6])), (h37, .inl (zB g, 60, .inl (upd (upd (upd (upd (upd (upd (fun _ => 0) 0 (vp_nar .byte ((((p1 >>> ((40 : Int32).toInt64 &&& 63)) &&& 255).toInt32).toInt8.toInt32))) 1 (vp_nar .byte ((((p1 >>> ((32 : Int32).toInt64 &&& 63)) &&& 255).toInt32).toInt8.toInt32))) 2 (vp_nar .byte ((((p1 >>> ((24 : Int32).toInt64 &&& 63)) &&& 255).toInt32).toInt8.toInt32))) 3 (vp_nar .byte ((((p1 >>> ((16 : Int32).toInt64 &&& 63)) &&& 255).toInt32).toInt8.toInt32))) 4 (vp_nar .byte ((((p1 >>> ((8 : Int32).toInt64 &&& 63)) &&& 255).toInt32).toInt8.toInt32))) 5 (vp_nar .byte ((((p1 >>> ((0 : Int32).toInt64 &&& 63)) &&& 255).toInt32).toInt8.toInt32)))))] H := hP
                                          have hD : va_D A [(h0, .inr (3, [.ref h37, .int 6])), (h37, .inl (zB g, 60, .inl (upd (upd (upd (upd (upd (upd (fun _ => 0) 0 (vp_nar .byte ((((p1 >>> ((40 : Int32).toInt64 &&& 63)) &&& 255).toInt32).toInt8.toInt32))) 1 (vp_nar .byte ((((p1 >>> ((32 : Int32).toInt64 &&& 63)) &&& 255).toInt32).toInt8.toInt32))) 2 (vp_nar .byte ((((p1 >>> ((24 : Int32).toInt64 &&& 63)) &&& 255).toInt32).toInt8.toInt32))) 3 (vp_nar .byte ((((p1 >>> ((16 : Int32).toInt64 &&& 63)) &&& 255).toInt32).toInt8.toInt32))) 4 (vp_nar .byte ((((p1 >>> ((8 : Int32).toInt64 &&& 63)) &&& 255).toInt32).toInt8.toInt32))) 5 (vp_nar .byte ((((p1 >>> ((0 : Int32).toInt64 &&& 63)) &&& 255).toInt32).toInt8.toInt32)))))] := hD
                                          refine lv_iinc (v := (-1)) (lv' := [(4, .int (-1)), (5, .int (((p1 >>> ((40 : Int32).toInt64 &&& 63)) &&& 255).toInt32)), (0, .ref h0), (1, .long p1), (3, .int 6)]) hx hb dX3_append_109 hl (k := 0) rfl (by decide) (by decide) rfl (fun ls hl => ?_)
                                          refine lv_goto (tgt := 78) hx hb dX3_append_112 (by decide) ?_
                                          refine lv_iload hx hb dX3_append_78 (lv_at hl 0 rfl) ?_
                                          refine lv_if_lt (tgt := 115) hx hb dX3_append_80 (by decide) (fun _ => ?_) (fun h => absurd h (by decide +kernel))
                                          refine lv_aload_n hx hb dX3_append_115 rfl (lv_at hl 2 rfl) ?_
                                          refine va_get (D := g.1) (ci := 3) (v := .int 6) (C := RX3) (T := TX3) (N := 2) hx hb hts zl_X3 hown hK hP 0 rfl rfl 1 (by decide) (hts _ m_f_RX3_15) (fun _ h => h) rfl dX3_append_116 ?_
                                          have hP9 := hP.sub (ws' := []) [] rfl
                                          have hD9 := hD.sub (ws' := []) [] (by decide) rfl
                                          exact W.iret (v := 6) hx hb hr (fun t ht hW => ⟨⟨6, 0, rfl, Or.inr (Or.inr (Or.inr (Or.inr (Or.inr (Or.inr (Or.inr (Or.inr (Or.inr (Or.inr (Or.inr (Or.inr (Or.inl ⟨i_0, i_1, i_3, i_4, i_5, i_7, i_8, i_9, i_11, i_12, i_13, i_15, i_16, i_17, i_19, i_20, i_21, i_23, i_24, i_25, rfl⟩)))))))))))), by rw [ht]; exact hP9, hD9⟩, hS.F ht⟩) hS.2.2 dX3_append_119
                                        · have i_25 : 6 < p2.toInt := z_nle (rfl) (rfl) c_25
                                          refine lv_lload_n hx hb dX3_append_22 rfl (lv_at hl 3 rfl) ?_
                                          refine lv_iload hx hb dX3_append_23 (lv_at hl 0 rfl) ?_
                                          refine z_calli (wr := [(h0, .inr (3, [.ref h37, .int 0])), (h37, .inl (zB g, 60, .inl (fun _ => 0)))]) hP hD hS hA [] [0, 1] (by decide) rfl rfl (by decide) (va_runS (As := [.long p1, .int 6]) (rest := []) ⟨hx, hb, hml, hown, hts⟩ (kX3_byteOf_58 l g  H.size p1) ⟨callB_of 2 hts (zGood m_o_yX3_byteOf) rfl rfl rfl (hts _ m_z_RX3) (hts _ m_m_RX3_19) ⟨by decide +kernel, by decide +kernel, by decide +kernel⟩ ⟨Nat.le_of_ble_eq_true rfl, Nat.le_of_ble_eq_true rfl⟩, hts _ m_s_yX3_byteOf⟩ (zPreS hK hN hZ hP hD hS hA [] (by decide) rfl rfl) rfl rfl hl.1 rfl (lv_room (Nat.le_of_ble_eq_true rfl)) dX3_append_25 ⟨Nat.le_of_ble_eq_true rfl, Nat.le_of_ble_eq_true rfl⟩) (fun r u H locs hw hP hD hS => ?_)
                                          obtain rfl := hw
                                          have hP : va_P g.1 vwCl [(h0, .inr (3, [.ref h37, .int 0])), (h37, .inl (zB g, 60, .inl (fun _ => 0)))] H := hP
                                          have hD : va_D A [(h0, .inr (3, [.ref h37, .int 0])), (h37, .inl (zB g, 60, .inl (fun _ => 0)))] := hD
                                          refine lv_istore (lv' := [(5, .int (((p1 >>> ((48 : Int32).toInt64 &&& 63)) &&& 255).toInt32)), (4, .int 6), (0, .ref h0), (1, .long p1), (3, .int p2)]) hx hb dX3_append_28 hl (by decide) rfl (fun ls hl => ?_)
                                          refine lv_iload hx hb dX3_append_30 (lv_at hl 0 rfl) ?_
                                          refine lv_bipush (v := 32) hx hb dX3_append_32 (by decide) ?_
                                          refine lv_icmp_lt (tgt := 44) hx hb dX3_append_34 (by decide) (fun c_27 => ?_) (fun c_27 => ?_)
                                          · have i_27 : (((p1 >>> ((48 : Int32).toInt64 &&& 63)) &&& 255) : Int64).toInt < 32 := z_lt ((z_b255 _)) (rfl) c_27
                                            refine lv_iconst (v := (-1)) hx hb dX3_append_44 (by decide) ?_
                                            have hP9 := hP.sub (ws' := []) [] rfl
                                            have hD9 := hD.sub (ws' := []) [] (by decide) rfl
                                            exact W.iret (v := (-1)) hx hb hr (fun t ht hW => ⟨⟨(-1), 0, rfl, Or.inr (Or.inr (Or.inr (Or.inr (Or.inr (Or.inr (Or.inr (Or.inr (Or.inr (Or.inr (Or.inr (Or.inr (Or.inr (Or.inl ⟨i_0, i_1, i_3, i_4, i_5, i_7, i_8, i_9, i_11, i_12, i_13, i_15, i_16, i_17, i_19, i_20, i_21, i_23, i_24, i_25, i_27, rfl⟩))))))))))))), by rw [ht]; exact hP9, hD9⟩, hS.F ht⟩) hS.2.2 dX3_append_45
                                          · have i_27 : 32 ≤ (((p1 >>> ((48 : Int32).toInt64 &&& 63)) &&& 255) : Int64).toInt := z_nlt ((z_b255 _)) (rfl) c_27
                                            refine lv_iload hx hb dX3_append_37 (lv_at hl 0 rfl) ?_
                                            refine lv_bipush (v := 126) hx hb dX3_append_39 (by decide) ?_
                                            refine lv_icmp_le (tgt := 46) hx hb dX3_append_41 (by decide) (fun c_28 => ?_) (fun c_28 => ?_)
                                            · have i_28 : (((p1 >>> ((48 : Int32).toInt64 &&& 63)) &&& 255) : Int64).toInt ≤ 126 := z_le ((z_b255 _)) (rfl) c_28
                                              refine lv_iinc (v := 7) (lv' := [(4, .int 7), (5, .int (((p1 >>> ((48 : Int32).toInt64 &&& 63)) &&& 255).toInt32)), (0, .ref h0), (1, .long p1), (3, .int p2)]) hx hb dX3_append_46 hl (k := 1) rfl (by decide) (by decide) rfl (fun ls hl => ?_)
                                              refine lv_goto (tgt := 16) hx hb dX3_append_49 (by decide) ?_
                                              refine lv_iload hx hb dX3_append_16 (lv_at hl 0 rfl) ?_
                                              refine lv_iload_n hx hb dX3_append_18 rfl (lv_at hl 4 rfl) ?_
                                              refine lv_icmp_ge (tgt := 52) hx hb dX3_append_19 (by decide) (fun c_29 => ?_) (fun c_29 => ?_)
                                              · have i_29 : p2.toInt ≤ 7 := z_le (rfl) (rfl) c_29
                                                refine lv_aload_n hx hb dX3_append_52 rfl (lv_at hl 2 rfl) ?_
                                                refine va_get (D := g.1) (ci := 3) (v := .int 0) (C := RX3) (T := TX3) (N := 2) hx hb hts zl_X3 hown hK hP 0 rfl rfl 1 (by decide) (hts _ m_f_RX3_15) (fun _ h => h) rfl dX3_append_53 ?_
                                                refine lv_if_lt (tgt := 70) hx hb dX3_append_56 (by decide) (fun h => absurd h (by decide +kernel)) (fun _ => ?_)
                                                refine lv_aload_n hx hb dX3_append_59 rfl (lv_at hl 2 rfl) ?_
                                                refine va_get (D := g.1) (ci := 3) (v := .int 0) (C := RX3) (T := TX3) (N := 2) hx hb hts zl_X3 hown hK hP 0 rfl rfl 1 (by decide) (hts _ m_f_RX3_15) (fun _ h => h) rfl dX3_append_60 ?_
                                                refine lv_iload_n hx hb dX3_append_63 rfl (lv_at hl 4 rfl) ?_
                                                obtain rfl : p2 = 7 := Int32.toInt_inj.mp (show p2.toInt = (7 : Int32).toInt from (show p2.toInt = 7 by omega).trans rfl)
                                                refine lv_iadd hx hb dX3_append_64 ?_
                                                refine lv_topi (nm_r (e' := 7) (by decide +kernel) ?_)
                                                refine lv_bipush (v := 60) hx hb dX3_append_65 (by decide) ?_
                                                refine lv_icmp_le (tgt := 73) hx hb dX3_append_67 (by decide) (fun _ => ?_) (fun h => absurd h (by decide +kernel))
                                                refine lv_iload_n hx hb dX3_append_73 rfl (lv_at hl 4 rfl) ?_
                                                refine lv_iconst (v := 1) hx hb dX3_append_74 (by decide) ?_
                                                refine lv_isub hx hb dX3_append_75 ?_
                                                refine lv_topi (nm_r (e' := 6) (by decide +kernel) ?_)
                                                refine lv_istore (lv' := [(4, .int 6), (5, .int (((p1 >>> ((48 : Int32).toInt64 &&& 63)) &&& 255).toInt32)), (0, .ref h0), (1, .long p1), (3, .int 7)]) hx hb dX3_append_76 hl (by decide) rfl (fun ls hl => ?_)
                                                refine lv_iload hx hb dX3_append_78 (lv_at hl 0 rfl) ?_
                                                refine lv_if_lt (tgt := 115) hx hb dX3_append_80 (by decide) (fun h => absurd h (by decide +kernel)) (fun _ => ?_)
                                                refine lv_aload_n hx hb dX3_append_83 rfl (lv_at hl 2 rfl) ?_
                                                refine va_get (D := g.1) (ci := 3) (v := .ref h37) (C := RX3) (T := TX3) (N := 2) hx hb hts zl_X3 hown hK hP 0 rfl rfl 0 (by decide) (hts _ m_f_RX3_11) (fun _ h => h) rfl dX3_append_84 ?_
                                                refine lv_aload_n hx hb dX3_append_87 rfl (lv_at hl 2 rfl) ?_
                                                refine va_get (D := g.1) (ci := 3) (v := .int 0) (C := RX3) (T := TX3) (N := 2) hx hb hts zl_X3 hown hK hP 0 rfl rfl 1 (by decide) (hts _ m_f_RX3_15) (fun _ h => h) rfl dX3_append_88 ?_
                                                refine lv_lload_n hx hb dX3_append_91 rfl (lv_at hl 3 rfl) ?_
                                                refine lv_iload hx hb dX3_append_92 (lv_at hl 0 rfl) ?_
                                                refine z_calli (wr := [(h0, .inr (3, [.ref h37, .int 0])), (h37, .inl (zB g, 60, .inl (fun _ => 0)))]) hP hD hS hA [] [0, 1] (by decide) rfl rfl (by decide) (va_runS (As := [.long p1, .int 6]) (rest := [.int 0, .ref h37]) ⟨hx, hb, hml, hown, hts⟩ (kX3_byteOf_58 l g  H.size p1) ⟨callB_of 2 hts (zGood m_o_yX3_byteOf) rfl rfl rfl (hts _ m_z_RX3) (hts _ m_m_RX3_19) ⟨by decide +kernel, by decide +kernel, by decide +kernel⟩ ⟨Nat.le_of_ble_eq_true rfl, Nat.le_of_ble_eq_true rfl⟩, hts _ m_s_yX3_byteOf⟩ (zPreS hK hN hZ hP hD hS hA [] (by decide) rfl rfl) rfl rfl hl.1 rfl (lv_room (Nat.le_of_ble_eq_true rfl)) dX3_append_94 ⟨Nat.le_of_ble_eq_true rfl, Nat.le_of_ble_eq_true rfl⟩) (fun r u H locs hw hP hD hS => ?_)
                                                obtain rfl := hw
                                                have hP : va_P g.1 vwCl [(h0, .inr (3, [.ref h37, .int 0])), (h37, .inl (zB g, 60, .inl (fun _ => 0)))] H := hP
                                                have hD : va_D A [(h0, .inr (3, [.ref h37, .int 0])), (h37, .inl (zB g, 60, .inl (fun _ => 0)))] := hD
                                                refine lv_i2b (v := (((p1 >>> ((48 : Int32).toInt64 &&& 63)) &&& 255).toInt32).toInt8.toInt32) hx hb dX3_append_97 rfl ?_
                                                refine va_bast (D := g.1) hx hb hK hP hD hS 1 2 rfl rfl (vp_in_iff.mpr (by decide +kernel)) dX3_append_98 (fun H locs hP hD hS => ?_)
                                                have hP : va_P g.1 vwCl [(h0, .inr (3, [.ref h37, .int 0])), (h37, .inl (zB g, 60, .inl (upd (fun _ => 0) 0 (vp_nar .byte ((((p1 >>> ((48 : Int32).toInt64 &&& 63)) &&& 255).toInt32).toInt8.toInt32)))))] H := hP
                                                have hD : va_D A [(h0, .inr (3, [.ref h37, .int 0])), (h37, .inl (zB g, 60, .inl (upd (fun _ => 0) 0 (vp_nar .byte ((((p1 >>> ((48 : Int32).toInt64 &&& 63)) &&& 255).toInt32).toInt8.toInt32)))))] := hD
                                                refine lv_aload_n hx hb dX3_append_99 rfl (lv_at hl 2 rfl) ?_
                                                refine lv_dup hx hb dX3_append_100 rfl ?_
                                                refine va_get (D := g.1) (ci := 3) (v := .int 0) (C := RX3) (T := TX3) (N := 2) hx hb hts zl_X3 hown hK hP 0 rfl rfl 1 (by decide) (hts _ m_f_RX3_15) (fun _ h => h) rfl dX3_append_101 ?_
                                                refine lv_iconst (v := 1) hx hb dX3_append_104 (by decide) ?_
                                                refine lv_iadd hx hb dX3_append_105 ?_
                                                refine lv_topi (nm_r (e' := 1) (by decide +kernel) ?_)
                                                refine va_put (D := g.1) (ci := 3) (v := .int 1) (ty := .int) (C := RX3) (T := TX3) (N := 2) hx hb hts zl_X3 tyX3 tyX3_ok nmX3 hown hK hP hD hS 0 rfl rfl 1 (by decide) (hts _ m_f_RX3_15) (fun _ h => h) rfl (by decide +kernel) rfl rfl (Nat.le_of_ble_eq_true rfl) dX3_append_106 (fun H locs hP hD hS => ?_)
                                                have hP : va_P g.1 vwCl [(h0, .inr (3, [.ref h37, .int 1])), (h37, .inl (zB g, 60, .inl (upd (fun _ => 0) 0 (vp_nar .byte ((((p1 >>> ((48 : Int32).toInt64 &&& 63)) &&& 255).toInt32).toInt8.toInt32)))))] H := hP
                                                have hD : va_D A [(h0, .inr (3, [.ref h37, .int 1])), (h37, .inl (zB g, 60, .inl (upd (fun _ => 0) 0 (vp_nar .byte ((((p1 >>> ((48 : Int32).toInt64 &&& 63)) &&& 255).toInt32).toInt8.toInt32)))))] := hD
                                                refine lv_iinc (v := 5) (lv' := [(4, .int 5), (5, .int (((p1 >>> ((48 : Int32).toInt64 &&& 63)) &&& 255).toInt32)), (0, .ref h0), (1, .long p1), (3, .int 7)]) hx hb dX3_append_109 hl (k := 0) rfl (by decide) (by decide) rfl (fun ls hl => ?_)
                                                refine lv_goto (tgt := 78) hx hb dX3_append_112 (by decide) ?_
                                                refine lv_iload hx hb dX3_append_78 (lv_at hl 0 rfl) ?_
                                                refine lv_if_lt (tgt := 115) hx hb dX3_append_80 (by decide) (fun h => absurd h (by decide +kernel)) (fun _ => ?_)
                                                refine lv_aload_n hx hb dX3_append_83 rfl (lv_at hl 2 rfl) ?_
                                                refine va_get (D := g.1) (ci := 3) (v := .ref h37) (C := RX3) (T := TX3) (N := 2) hx hb hts zl_X3 hown hK hP 0 rfl rfl 0 (by decide) (hts _ m_f_RX3_11) (fun _ h => h) rfl dX3_append_84 ?_
                                                refine lv_aload_n hx hb dX3_append_87 rfl (lv_at hl 2 rfl) ?_
                                                refine va_get (D := g.1) (ci := 3) (v := .int 1) (C := RX3) (T := TX3) (N := 2) hx hb hts zl_X3 hown hK hP 0 rfl rfl 1 (by decide) (hts _ m_f_RX3_15) (fun _ h => h) rfl dX3_append_88 ?_
                                                refine lv_lload_n hx hb dX3_append_91 rfl (lv_at hl 3 rfl) ?_
                                                refine lv_iload hx hb dX3_append_92 (lv_at hl 0 rfl) ?_
                                                refine z_calli (wr := [(h0, .inr (3, [.ref h37, .int 1])), (h37, .inl (zB g, 60, .inl (upd (fun _ => 0) 0 (vp_nar .byte ((((p1 >>> ((48 : Int32).toInt64 &&& 63)) &&& 255).toInt32).toInt8.toInt32)))))]) hP hD hS hA [] [0, 1] (by decide) rfl rfl (by decide) (va_runS (As := [.long p1, .int 5]) (rest := [.int 1, .ref h37]) ⟨hx, hb, hml, hown, hts⟩ (kX3_byteOf_59 l g  H.size p1) ⟨callB_of 2 hts (zGood m_o_yX3_byteOf) rfl rfl rfl (hts _ m_z_RX3) (hts _ m_m_RX3_19) ⟨by decide +kernel, by decide +kernel, by decide +kernel⟩ ⟨Nat.le_of_ble_eq_true rfl, Nat.le_of_ble_eq_true rfl⟩, hts _ m_s_yX3_byteOf⟩ (zPreS hK hN hZ hP hD hS hA [] (by decide) rfl rfl) rfl rfl hl.1 rfl (lv_room (Nat.le_of_ble_eq_true rfl)) dX3_append_94 ⟨Nat.le_of_ble_eq_true rfl, Nat.le_of_ble_eq_true rfl⟩) (fun r u H locs hw hP hD hS => ?_)
                                                obtain rfl := hw
                                                have hP : va_P g.1 vwCl [(h0, .inr (3, [.ref h37, .int 1])), (h37, .inl (zB g, 60, .inl (upd (fun _ => 0) 0 (vp_nar .byte ((((p1 >>> ((48 : Int32).toInt64 &&& 63)) &&& 255).toInt32).toInt8.toInt32)))))] H := hP
                                                have hD : va_D A [(h0, .inr (3, [.ref h37, .int 1])), (h37, .inl (zB g, 60, .inl (upd (fun _ => 0) 0 (vp_nar .byte ((((p1 >>> ((48 : Int32).toInt64 &&& 63)) &&& 255).toInt32).toInt8.toInt32)))))] := hD
                                                refine lv_i2b (v := (((p1 >>> ((40 : Int32).toInt64 &&& 63)) &&& 255).toInt32).toInt8.toInt32) hx hb dX3_append_97 rfl ?_
                                                refine va_bast (D := g.1) hx hb hK hP hD hS 1 2 rfl rfl (vp_in_iff.mpr (by decide +kernel)) dX3_append_98 (fun H locs hP hD hS => ?_)
                                                have hP : va_P g.1 vwCl [(h0, .inr (3, [.ref h37, .int 1])), (h37, .inl (zB g, 60, .inl (upd (upd (fun _ => 0) 0 (vp_nar .byte ((((p1 >>> ((48 : Int32).toInt64 &&& 63)) &&& 255).toInt32).toInt8.toInt32))) 1 (vp_nar .byte ((((p1 >>> ((40 : Int32).toInt64 &&& 63)) &&& 255).toInt32).toInt8.toInt32)))))] H := hP
                                                have hD : va_D A [(h0, .inr (3, [.ref h37, .int 1])), (h37, .inl (zB g, 60, .inl (upd (upd (fun _ => 0) 0 (vp_nar .byte ((((p1 >>> ((48 : Int32).toInt64 &&& 63)) &&& 255).toInt32).toInt8.toInt32))) 1 (vp_nar .byte ((((p1 >>> ((40 : Int32).toInt64 &&& 63)) &&& 255).toInt32).toInt8.toInt32)))))] := hD
                                                refine lv_aload_n hx hb dX3_append_99 rfl (lv_at hl 2 rfl) ?_
                                                refine lv_dup hx hb dX3_append_100 rfl ?_
                                                refine va_get (D := g.1) (ci := 3) (v := .int 1) (C := RX3) (T := TX3) (N := 2) hx hb hts zl_X3 hown hK hP 0 rfl rfl 1 (by decide) (hts _ m_f_RX3_15) (fun _ h => h) rfl dX3_append_101 ?_
                                                refine lv_iconst (v := 1) hx hb dX3_append_104 (by decide) ?_
                                                refine lv_iadd hx hb dX3_append_105 ?_
                                                refine lv_topi (nm_r (e' := 2) (by decide +kernel) ?_)
                                                refine va_put (D := g.1) (ci := 3) (v := .int 2) (ty := .int) (C := RX3) (T := TX3) (N := 2) hx hb hts zl_X3 tyX3 tyX3_ok nmX3 hown hK hP hD hS 0 rfl rfl 1 (by decide) (hts _ m_f_RX3_15) (fun _ h => h) rfl (by decide +kernel) rfl rfl (Nat.le_of_ble_eq_true rfl) dX3_append_106 (fun H locs hP hD hS => ?_)
                                                have hP : va_P g.1 vwCl [(h0, .inr (3, [.ref h37, .int 2])), (h37, .inl (zB g, 60, .inl (upd (upd (fun _ => 0) 0 (vp_nar .byte ((((p1 >>> ((48 : Int32).toInt64 &&& 63)) &&& 255).toInt32).toInt8.toInt32))) 1 (vp_nar .byte ((((p1 >>> ((40 : Int32).toInt64 &&& 63)) &&& 255).toInt32).toInt8.toInt32)))))] H := hP
                                                have hD : va_D A [(h0, .inr (3, [.ref h37, .int 2])), (h37, .inl (zB g, 60, .inl (upd (upd (fun _ => 0) 0 (vp_nar .byte ((((p1 >>> ((48 : Int32).toInt64 &&& 63)) &&& 255).toInt32).toInt8.toInt32))) 1 (vp_nar .byte ((((p1 >>> ((40 : Int32).toInt64 &&& 63)) &&& 255).toInt32).toInt8.toInt32)))))] := hD
                                                refine lv_iinc (v := 4) (lv' := [(4, .int 4), (5, .int (((p1 >>> ((48 : Int32).toInt64 &&& 63)) &&& 255).toInt32)), (0, .ref h0), (1, .long p1), (3, .int 7)]) hx hb dX3_append_109 hl (k := 0) rfl (by decide) (by decide) rfl (fun ls hl => ?_)
                                                refine lv_goto (tgt := 78) hx hb dX3_append_112 (by decide) ?_
                                                refine lv_iload hx hb dX3_append_78 (lv_at hl 0 rfl) ?_
                                                refine lv_if_lt (tgt := 115) hx hb dX3_append_80 (by decide) (fun h => absurd h (by decide +kernel)) (fun _ => ?_)
                                                refine lv_aload_n hx hb dX3_append_83 rfl (lv_at hl 2 rfl) ?_
                                                refine va_get (D := g.1) (ci := 3) (v := .ref h37) (C := RX3) (T := TX3) (N := 2) hx hb hts zl_X3 hown hK hP 0 rfl rfl 0 (by decide) (hts _ m_f_RX3_11) (fun _ h => h) rfl dX3_append_84 ?_
                                                refine lv_aload_n hx hb dX3_append_87 rfl (lv_at hl 2 rfl) ?_
                                                refine va_get (D := g.1) (ci := 3) (v := .int 2) (C := RX3) (T := TX3) (N := 2) hx hb hts zl_X3 hown hK hP 0 rfl rfl 1 (by decide) (hts _ m_f_RX3_15) (fun _ h => h) rfl dX3_append_88 ?_
                                                refine lv_lload_n hx hb dX3_append_91 rfl (lv_at hl 3 rfl) ?_
                                                refine lv_iload hx hb dX3_append_92 (lv_at hl 0 rfl) ?_
                                                refine z_calli (wr := [(h0, .inr (3, [.ref h37, .int 2])), (h37, .inl (zB g, 60, .inl (upd (upd (fun _ => 0) 0 (vp_nar .byte ((((p1 >>> ((48 : Int32).toInt64 &&& 63)) &&& 255).toInt32).toInt8.toInt32))) 1 (vp_nar .byte ((((p1 >>> ((40 : Int32).toInt64 &&& 63)) &&& 255).toInt32).toInt8.toInt32)))))]) hP hD hS hA [] [0, 1] (by decide) rfl rfl (by decide) (va_runS (As := [.long p1, .int 4]) (rest := [.int 2, .ref h37]) ⟨hx, hb, hml, hown, hts⟩ (kX3_byteOf_60 l g  H.size p1) ⟨callB_of 2 hts (zGood m_o_yX3_byteOf) rfl rfl rfl (hts _ m_z_RX3) (hts _ m_m_RX3_19) ⟨by decide +kernel, by decide +kernel, by decide +kernel⟩ ⟨Nat.le_of_ble_eq_true rfl, Nat.le_of_ble_eq_true rfl⟩, hts _ m_s_yX3_byteOf⟩ (zPreS hK hN hZ hP hD hS hA [] (by decide) rfl rfl) rfl rfl hl.1 rfl (lv_room (Nat.le_of_ble_eq_true rfl)) dX3_append_94 ⟨Nat.le_of_ble_eq_true rfl, Nat.le_of_ble_eq_true rfl⟩) (fun r u H locs hw hP hD hS => ?_)
                                                obtain rfl := hw
                                                have hP : va_P g.1 vwCl [(h0, .inr (3, [.ref h37, .int 2])), (h37, .inl (zB g, 60, .inl (upd (upd (fun _ => 0) 0 (vp_nar .byte ((((p1 >>> ((48 : Int32).toInt64 &&& 63)) &&& 255).toInt32).toInt8.toInt32))) 1 (vp_nar .byte ((((p1 >>> ((40 : Int32).toInt64 &&& 63)) &&& 255).toInt32).toInt8.toInt32)))))] H := hP
                                                have hD : va_D A [(h0, .inr (3, [.ref h37, .int 2])), (h37, .inl (zB g, 60, .inl (upd (upd (fun _ => 0) 0 (vp_nar .byte ((((p1 >>> ((48 : Int32).toInt64 &&& 63)) &&& 255).toInt32).toInt8.toInt32))) 1 (vp_nar .byte ((((p1 >>> ((40 : Int32).toInt64 &&& 63)) &&& 255).toInt32).toInt8.toInt32)))))] := hD
                                                refine lv_i2b (v := (((p1 >>> ((32 : Int32).toInt64 &&& 63)) &&& 255).toInt32).toInt8.toInt32) hx hb dX3_append_97 rfl ?_
                                                refine va_bast (D := g.1) hx hb hK hP hD hS 1 2 rfl rfl (vp_in_iff.mpr (by decide +kernel)) dX3_append_98 (fun H locs hP hD hS => ?_)
                                                have hP : va_P g.1 vwCl [(h0, .inr (3, [.ref h37, .int 2])), (h37, .inl (zB g, 60, .inl (upd (upd (upd (fun _ => 0) 0 (vp_nar .byte ((((p1 >>> ((48 : Int32).toInt64 &&& 63)) &&& 255).toInt32).toInt8.toInt32))) 1 (vp_nar .byte ((((p1 >>> ((40 : Int32).toInt64 &&& 63)) &&& 255).toInt32).toInt8.toInt32))) 2 (vp_nar .byte ((((p1 >>> ((32 : Int32).toInt64 &&& 63)) &&& 255).toInt32).toInt8.toInt32)))))] H := hP
                                                have hD : va_D A [(h0, .inr (3, [.ref h37, .int 2])), (h37, .inl (zB g, 60, .inl (upd (upd (upd (fun _ => 0) 0 (vp_nar .byte ((((p1 >>> ((48 : Int32).toInt64 &&& 63)) &&& 255).toInt32).toInt8.toInt32))) 1 (vp_nar .byte ((((p1 >>> ((40 : Int32).toInt64 &&& 63)) &&& 255).toInt32).toInt8.toInt32))) 2 (vp_nar .byte ((((p1 >>> ((32 : Int32).toInt64 &&& 63)) &&& 255).toInt32).toInt8.toInt32)))))] := hD
                                                refine lv_aload_n hx hb dX3_append_99 rfl (lv_at hl 2 rfl) ?_
                                                refine lv_dup hx hb dX3_append_100 rfl ?_
                                                refine va_get (D := g.1) (ci := 3) (v := .int 2) (C := RX3) (T := TX3) (N := 2) hx hb hts zl_X3 hown hK hP 0 rfl rfl 1 (by decide) (hts _ m_f_RX3_15) (fun _ h => h) rfl dX3_append_101 ?_
                                                refine lv_iconst (v := 1) hx hb dX3_append_104 (by decide) ?_
                                                refine lv_iadd hx hb dX3_append_105 ?_
                                                refine lv_topi (nm_r (e' := 3) (by decide +kernel) ?_)
                                                refine va_put (D := g.1) (ci := 3) (v := .int 3) (ty := .int) (C := RX3) (T := TX3) (N := 2) hx hb hts zl_X3 tyX3 tyX3_ok nmX3 hown hK hP hD hS 0 rfl rfl 1 (by decide) (hts _ m_f_RX3_15) (fun _ h => h) rfl (by decide +kernel) rfl rfl (Nat.le_of_ble_eq_true rfl) dX3_append_106 (fun H locs hP hD hS => ?_)
                                                have hP : va_P g.1 vwCl [(h0, .inr (3, [.ref h37, .int 3])), (h37, .inl (zB g, 60, .inl (upd (upd (upd (fun _ => 0) 0 (vp_nar .byte ((((p1 >>> ((48 : Int32).toInt64 &&& 63)) &&& 255).toInt32).toInt8.toInt32))) 1 (vp_nar .byte ((((p1 >>> ((40 : Int32).toInt64 &&& 63)) &&& 255).toInt32).toInt8.toInt32))) 2 (vp_nar .byte ((((p1 >>> ((32 : Int32).toInt64 &&& 63)) &&& 255).toInt32).toInt8.toInt32)))))] H := hP
                                                have hD : va_D A [(h0, .inr (3, [.ref h37, .int 3])), (h37, .inl (zB g, 60, .inl (upd (upd (upd (fun _ => 0) 0 (vp_nar .byte ((((p1 >>> ((48 : Int32).toInt64 &&& 63)) &&& 255).toInt32).toInt8.toInt32))) 1 (vp_nar .byte ((((p1 >>> ((40 : Int32).toInt64 &&& 63)) &&& 255).toInt32).toInt8.toInt32))) 2 (vp_nar .byte ((((p1 >>> ((32 : Int32).toInt64 &&& 63)) &&& 255).toInt32).toInt8.toInt32)))))] := hD
                                                refine lv_iinc (v := 3) (lv' := [(4, .int 3), (5, .int (((p1 >>> ((48 : Int32).toInt64 &&& 63)) &&& 255).toInt32)), (0, .ref h0), (1, .long p1), (3, .int 7)]) hx hb dX3_append_109 hl (k := 0) rfl (by decide) (by decide) rfl (fun ls hl => ?_)
                                                refine lv_goto (tgt := 78) hx hb dX3_append_112 (by decide) ?_
                                                refine lv_iload hx hb dX3_append_78 (lv_at hl 0 rfl) ?_
                                                refine lv_if_lt (tgt := 115) hx hb dX3_append_80 (by decide) (fun h => absurd h (by decide +kernel)) (fun _ => ?_)
                                                refine lv_aload_n hx hb dX3_append_83 rfl (lv_at hl 2 rfl) ?_
                                                refine va_get (D := g.1) (ci := 3) (v := .ref h37) (C := RX3) (T := TX3) (N := 2) hx hb hts zl_X3 hown hK hP 0 rfl rfl 0 (by decide) (hts _ m_f_RX3_11) (fun _ h => h) rfl dX3_append_84 ?_
                                                refine lv_aload_n hx hb dX3_append_87 rfl (lv_at hl 2 rfl) ?_
                                                refine va_get (D := g.1) (ci := 3) (v := .int 3) (C := RX3) (T := TX3) (N := 2) hx hb hts zl_X3 hown hK hP 0 rfl rfl 1 (by decide) (hts _ m_f_RX3_15) (fun _ h => h) rfl dX3_append_88 ?_
                                                refine lv_lload_n hx hb dX3_append_91 rfl (lv_at hl 3 rfl) ?_
                                                refine lv_iload hx hb dX3_append_92 (lv_at hl 0 rfl) ?_
                                                refine z_calli (wr := [(h0, .inr (3, [.ref h37, .int 3])), (h37, .inl (zB g, 60, .inl (upd (upd (upd (fun _ => 0) 0 (vp_nar .byte ((((p1 >>> ((48 : Int32).toInt64 &&& 63)) &&& 255).toInt32).toInt8.toInt32))) 1 (vp_nar .byte ((((p1 >>> ((40 : Int32).toInt64 &&& 63)) &&& 255).toInt32).toInt8.toInt32))) 2 (vp_nar .byte ((((p1 >>> ((32 : Int32).toInt64 &&& 63)) &&& 255).toInt32).toInt8.toInt32)))))]) hP hD hS hA [] [0, 1] (by decide) rfl rfl (by decide) (va_runS (As := [.long p1, .int 3]) (rest := [.int 3, .ref h37]) ⟨hx, hb, hml, hown, hts⟩ (kX3_byteOf_61 l g  H.size p1) ⟨callB_of 2 hts (zGood m_o_yX3_byteOf) rfl rfl rfl (hts _ m_z_RX3) (hts _ m_m_RX3_19) ⟨by decide +kernel, by decide +kernel, by decide +kernel⟩ ⟨Nat.le_of_ble_eq_true rfl, Nat.le_of_ble_eq_true rfl⟩, hts _ m_s_yX3_byteOf⟩ (zPreS hK hN hZ hP hD hS hA [] (by decide) rfl rfl) rfl rfl hl.1 rfl (lv_room (Nat.le_of_ble_eq_true rfl)) dX3_append_94 ⟨Nat.le_of_ble_eq_true rfl, Nat.le_of_ble_eq_true rfl⟩) (fun r u H locs hw hP hD hS => ?_)
                                                obtain rfl := hw
                                                have hP : va_P g.1 vwCl [(h0, .inr (3, [.ref h37, .int 3])), (h37, .inl (zB g, 60, .inl (upd (upd (upd (fun _ => 0) 0 (vp_nar .byte ((((p1 >>> ((48 : Int32).toInt64 &&& 63)) &&& 255).toInt32).toInt8.toInt32))) 1 (vp_nar .byte ((((p1 >>> ((40 : Int32).toInt64 &&& 63)) &&& 255).toInt32).toInt8.toInt32))) 2 (vp_nar .byte ((((p1 >>> ((32 : Int32).toInt64 &&& 63)) &&& 255).toInt32).toInt8.toInt32)))))] H := hP
                                                have hD : va_D A [(h0, .inr (3, [.ref h37, .int 3])), (h37, .inl (zB g, 60, .inl (upd (upd (upd (fun _ => 0) 0 (vp_nar .byte ((((p1 >>> ((48 : Int32).toInt64 &&& 63)) &&& 255).toInt32).toInt8.toInt32))) 1 (vp_nar .byte ((((p1 >>> ((40 : Int32).toInt64 &&& 63)) &&& 255).toInt32).toInt8.toInt32))) 2 (vp_nar .byte ((((p1 >>> ((32 : Int32).toInt64 &&& 63)) &&& 255).toInt32).toInt8.toInt32)))))] := hD
                                                refine lv_i2b (v := (((p1 >>> ((24 : Int32).toInt64 &&& 63)) &&& 255).toInt32).toInt8.toInt32) hx hb dX3_append_97 rfl ?_
                                                refine va_bast (D := g.1) hx hb hK hP hD hS 1 2 rfl rfl (vp_in_iff.mpr (by decide +kernel)) dX3_append_98 (fun H locs hP hD hS => ?_)
                                                have hP : va_P g.1 vwCl [(h0, .inr (3, [.ref h37, .int 3])), (h37, .inl (zB g, 60, .inl (upd (upd (upd (upd (fun _ => 0) 0 (vp_nar .byte ((((p1 >>> ((48 : Int32).toInt64 &&& 63)) &&& 255).toInt32).toInt8.toInt32))) 1 (vp_nar .byte ((((p1 >>> ((40 : Int32).toInt64 &&& 63)) &&& 255).toInt32).toInt8.toInt32))) 2 (vp_nar .byte ((((p1 >>> ((32 : Int32).toInt64 &&& 63)) &&& 255).toInt32).toInt8.toInt32))) 3 (vp_nar .byte ((((p1 >>> ((24 : Int32).toInt64 &&& 63)) &&& 255).toInt32).toInt8.toInt32)))))] H := hP
                                                have hD : va_D A [(h0, .inr (3, [.ref h37, .int 3])), (h37, .inl (zB g, 60, .inl (upd (upd (upd (upd (fun _ => 0) 0 (vp_nar .byte ((((p1 >>> ((48 : Int32).toInt64 &&& 63)) &&& 255).toInt32).toInt8.toInt32))) 1 (vp_nar .byte ((((p1 >>> ((40 : Int32).toInt64 &&& 63)) &&& 255).toInt32).toInt8.toInt32))) 2 (vp_nar .byte ((((p1 >>> ((32 : Int32).toInt64 &&& 63)) &&& 255).toInt32).toInt8.toInt32))) 3 (vp_nar .byte ((((p1 >>> ((24 : Int32).toInt64 &&& 63)) &&& 255).toInt32).toInt8.toInt32)))))] := hD
                                                refine lv_aload_n hx hb dX3_append_99 rfl (lv_at hl 2 rfl) ?_
                                                refine lv_dup hx hb dX3_append_100 rfl ?_
                                                refine va_get (D := g.1) (ci := 3) (v := .int 3) (C := RX3) (T := TX3) (N := 2) hx hb hts zl_X3 hown hK hP 0 rfl rfl 1 (by decide) (hts _ m_f_RX3_15) (fun _ h => h) rfl dX3_append_101 ?_
                                                refine lv_iconst (v := 1) hx hb dX3_append_104 (by decide) ?_
                                                refine lv_iadd hx hb dX3_append_105 ?_
                                                refine lv_topi (nm_r (e' := 4) (by decide +kernel) ?_)
                                                refine va_put (D := g.1) (ci := 3) (v := .int 4) (ty := .int) (C := RX3) (T := TX3) (N := 2) hx hb hts zl_X3 tyX3 tyX3_ok nmX3 hown hK hP hD hS 0 rfl rfl 1 (by decide) (hts _ m_f_RX3_15) (fun _ h => h) rfl (by decide +kernel) rfl rfl (Nat.le_of_ble_eq_true rfl) dX3_append_106 (fun H locs hP hD hS => ?_)
                                                have hP : va_P g.1 vwCl [(h0, .inr (3, [.ref h37, .int 4])), (h37, .inl (zB g, 60, .inl (upd (upd (upd (upd (fun _ => 0) 0 (vp_nar .byte ((((p1 >>> ((48 : Int32).toInt64 &&& 63)) &&& 255).toInt32).toInt8.toInt32))) 1 (vp_nar .byte ((((p1 >>> ((40 : Int32).toInt64 &&& 63)) &&& 255).toInt32).toInt8.toInt32))) 2 (vp_nar .byte ((((p1 >>> ((32 : Int32).toInt64 &&& 63)) &&& 255).toInt32).toInt8.toInt32))) 3 (vp_nar .byte ((((p1 >>> ((24 : Int32).toInt64 &&& 63)) &&& 255).toInt32).toInt8.toInt32)))))] H := hP
                                                have hD : va_D A [(h0, .inr (3, [.ref h37, .int 4])), (h37, .inl (zB g, 60, .inl (upd (upd (upd (upd (fun _ => 0) 0 (vp_nar .byte ((((p1 >>> ((48 : Int32).toInt64 &&& 63)) &&& 255).toInt32).toInt8.toInt32))) 1 (vp_nar .byte ((((p1 >>> ((40 : Int32).toInt64 &&& 63)) &&& 255).toInt32).toInt8.toInt32))) 2 (vp_nar .byte ((((p1 >>> ((32 : Int32).toInt64 &&& 63)) &&& 255).toInt32).toInt8.toInt32))) 3 (vp_nar .byte ((((p1 >>> ((24 : Int32).toInt64 &&& 63)) &&& 255).toInt32).toInt8.toInt32)))))] := hD
                                                refine lv_iinc (v := 2) (lv' := [(4, .int 2), (5, .int (((p1 >>> ((48 : Int32).toInt64 &&& 63)) &&& 255).toInt32)), (0, .ref h0), (1, .long p1), (3, .int 7)]) hx hb dX3_append_109 hl (k := 0) rfl (by decide) (by decide) rfl (fun ls hl => ?_)
                                                refine lv_goto (tgt := 78) hx hb dX3_append_112 (by decide) ?_
                                                refine lv_iload hx hb dX3_append_78 (lv_at hl 0 rfl) ?_
                                                refine lv_if_lt (tgt := 115) hx hb dX3_append_80 (by decide) (fun h => absurd h (by decide +kernel)) (fun _ => ?_)
                                                refine lv_aload_n hx hb dX3_append_83 rfl (lv_at hl 2 rfl) ?_
                                                refine va_get (D := g.1) (ci := 3) (v := .ref h37) (C := RX3) (T := TX3) (N := 2) hx hb hts zl_X3 hown hK hP 0 rfl rfl 0 (by decide) (hts _ m_f_RX3_11) (fun _ h => h) rfl dX3_append_84 ?_
                                                refine lv_aload_n hx hb dX3_append_87 rfl (lv_at hl 2 rfl) ?_
                                                refine va_get (D := g.1) (ci := 3) (v := .int 4) (C := RX3) (T := TX3) (N := 2) hx hb hts zl_X3 hown hK hP 0 rfl rfl 1 (by decide) (hts _ m_f_RX3_15) (fun _ h => h) rfl dX3_append_88 ?_
                                                refine lv_lload_n hx hb dX3_append_91 rfl (lv_at hl 3 rfl) ?_
                                                refine lv_iload hx hb dX3_append_92 (lv_at hl 0 rfl) ?_
                                                refine z_calli (wr := [(h0, .inr (3, [.ref h37, .int 4])), (h37, .inl (zB g, 60, .inl (upd (upd (upd (upd (fun _ => 0) 0 (vp_nar .byte ((((p1 >>> ((48 : Int32).toInt64 &&& 63)) &&& 255).toInt32).toInt8.toInt32))) 1 (vp_nar .byte ((((p1 >>> ((40 : Int32).toInt64 &&& 63)) &&& 255).toInt32).toInt8.toInt32))) 2 (vp_nar .byte ((((p1 >>> ((32 : Int32).toInt64 &&& 63)) &&& 255).toInt32).toInt8.toInt32))) 3 (vp_nar .byte ((((p1 >>> ((24 : Int32).toInt64 &&& 63)) &&& 255).toInt32).toInt8.toInt32)))))]) hP hD hS hA [] [0, 1] (by decide) rfl rfl (by decide) (va_runS (As := [.long p1, .int 2]) (rest := [.int 4, .ref h37]) ⟨hx, hb, hml, hown, hts⟩ (kX3_byteOf_62 l g  H.size p1) ⟨callB_of 2 hts (zGood m_o_yX3_byteOf) rfl rfl rfl (hts _ m_z_RX3) (hts _ m_m_RX3_19) ⟨by decide +kernel, by decide +kernel, by decide +kernel⟩ ⟨Nat.le_of_ble_eq_true rfl, Nat.le_of_ble_eq_true rfl⟩, hts _ m_s_yX3_byteOf⟩ (zPreS hK hN hZ hP hD hS hA [] (by decide) rfl rfl) rfl rfl hl.1 rfl (lv_room (Nat.le_of_ble_eq_true rfl)) dX3_append_94 ⟨Nat.le_of_ble_eq_true rfl, Nat.le_of_ble_eq_true rfl⟩) (fun r u H locs hw hP hD hS => ?_)
                                                obtain rfl := hw
                                                have hP : va_P g.1 vwCl [(h0, .inr (3, [.ref h37, .int 4])), (h37, .inl (zB g, 60, .inl (upd (upd (upd (upd (fun _ => 0) 0 (vp_nar .byte ((((p1 >>> ((48 : Int32).toInt64 &&& 63)) &&& 255).toInt32).toInt8.toInt32))) 1 (vp_nar .byte ((((p1 >>> ((40 : Int32).toInt64 &&& 63)) &&& 255).toInt32).toInt8.toInt32))) 2 (vp_nar .byte ((((p1 >>> ((32 : Int32).toInt64 &&& 63)) &&& 255).toInt32).toInt8.toInt32))) 3 (vp_nar .byte ((((p1 >>> ((24 : Int32).toInt64 &&& 63)) &&& 255).toInt32).toInt8.toInt32)))))] H := hP
                                                have hD : va_D A [(h0, .inr (3, [.ref h37, .int 4])), (h37, .inl (zB g, 60, .inl (upd (upd (upd (upd (fun _ => 0) 0 (vp_nar .byte ((((p1 >>> ((48 : Int32).toInt64 &&& 63)) &&& 255).toInt32).toInt8.toInt32))) 1 (vp_nar .byte ((((p1 >>> ((40 : Int32).toInt64 &&& 63)) &&& 255).toInt32).toInt8.toInt32))) 2 (vp_nar .byte ((((p1 >>> ((32 : Int32).toInt64 &&& 63)) &&& 255).toInt32).toInt8.toInt32))) 3 (vp_nar .byte ((((p1 >>> ((24 : Int32).toInt64 &&& 63)) &&& 255).toInt32).toInt8.toInt32)))))] := hD
                                                refine lv_i2b (v := (((p1 >>> ((16 : Int32).toInt64 &&& 63)) &&& 255).toInt32).toInt8.toInt32) hx hb dX3_append_97 rfl ?_
                                                refine va_bast (D := g.1) hx hb hK hP hD hS 1 2 rfl rfl (vp_in_iff.mpr (by decide +kernel)) dX3_append_98 (fun H locs hP hD hS => ?_)
                                                have hP : va_P g.1 vwCl [(h0, .inr (3, [.ref h37, .int 4])), (h37, .inl (zB g, 60, .inl (upd (upd (upd (upd (upd (fun _ => 0) 0 (vp_nar .byte ((((p1 >>> ((48 : Int32).toInt64 &&& 63)) &&& 255).toInt32).toInt8.toInt32))) 1 (vp_nar .byte ((((p1 >>> ((40 : Int32).toInt64 &&& 63)) &&& 255).toInt32).toInt8.toInt32))) 2 (vp_nar .byte ((((p1 >>> ((32 : Int32).toInt64 &&& 63)) &&& 255).toInt32).toInt8.toInt32))) 3 (vp_nar .byte ((((p1 >>> ((24 : Int32).toInt64 &&& 63)) &&& 255).toInt32).toInt8.toInt32))) 4 (vp_nar .byte ((((p1 >>> ((16 : Int32).toInt64 &&& 63)) &&& 255).toInt32).toInt8.toInt32)))))] H := hP
                                                have hD : va_D A [(h0, .inr (3, [.ref h37, .int 4])), (h37, .inl (zB g, 60, .inl (upd (upd (upd (upd (upd (fun _ => 0) 0 (vp_nar .byte ((((p1 >>> ((48 : Int32).toInt64 &&& 63)) &&& 255).toInt32).toInt8.toInt32))) 1 (vp_nar .byte ((((p1 >>> ((40 : Int32).toInt64 &&& 63)) &&& 255).toInt32).toInt8.toInt32))) 2 (vp_nar .byte ((((p1 >>> ((32 : Int32).toInt64 &&& 63)) &&& 255).toInt32).toInt8.toInt32))) 3 (vp_nar .byte ((((p1 >>> ((24 : Int32).toInt64 &&& 63)) &&& 255).toInt32).toInt8.toInt32))) 4 (vp_nar .byte ((((p1 >>> ((16 : Int32).toInt64 &&& 63)) &&& 255).toInt32).toInt8.toInt32)))))] := hD
                                                refine lv_aload_n hx hb dX3_append_99 rfl (lv_at hl 2 rfl) ?_
                                                refine lv_dup hx hb dX3_append_100 rfl ?_
                                                refine va_get (D := g.1) (ci := 3) (v := .int 4) (C := RX3) (T := TX3) (N := 2) hx hb hts zl_X3 hown hK hP 0 rfl rfl 1 (by decide) (hts _ m_f_RX3_15) (fun _ h => h) rfl dX3_append_101 ?_
                                                refine lv_iconst (v := 1) hx hb dX3_append_104 (by decide) ?_
                                                refine lv_iadd hx hb dX3_append_105 ?_
                                                refine lv_topi (nm_r (e' := 5) (by decide +kernel) ?_)
                                                refine va_put (D := g.1) (ci := 3) (v := .int 5) (ty := .int) (C := RX3) (T := TX3) (N := 2) hx hb hts zl_X3 tyX3 tyX3_ok nmX3 hown hK hP hD hS 0 rfl rfl 1 (by decide) (hts _ m_f_RX3_15) (fun _ h => h) rfl (by decide +kernel) rfl rfl (Nat.le_of_ble_eq_true rfl) dX3_append_106 (fun H locs hP hD hS => ?_)
                                                have hP : va_P g.1 vwCl [(h0, .inr (3, [.ref h37, .int 5])), (h37, .inl (zB g, 60, .inl (upd (upd (upd (upd (upd (fun _ => 0) 0 (vp_nar .byte ((((p1 >>> ((48 : Int32).toInt64 &&& 63)) &&& 255).toInt32).toInt8.toInt32))) 1 (vp_nar .byte ((((p1 >>> ((40 : Int32).toInt64 &&& 63)) &&& 255).toInt32).toInt8.toInt32))) 2 (vp_nar .byte ((((p1 >>> ((32 : Int32).toInt64 &&& 63)) &&& 255).toInt32).toInt8.toInt32))) 3 (vp_nar .byte ((((p1 >>> ((24 : Int32).toInt64 &&& 63)) &&& 255).toInt32).toInt8.toInt32))) 4 (vp_nar .byte ((((p1 >>> ((16 : Int32).toInt64 &&& 63)) &&& 255).toInt32).toInt8.toInt32)))))] H := hP
                                                have hD : va_D A [(h0, .inr (3, [.ref h37, .int 5])), (h37, .inl (zB g, 60, .inl (upd (upd (upd (upd (upd (fun _ => 0) 0 (vp_nar .byte ((((p1 >>> ((48 : Int32).toInt64 &&& 63)) &&& 255).toInt32).toInt8.toInt32))) 1 (vp_nar .byte ((((p1 >>> ((40 : Int32).toInt64 &&& 63)) &&& 255).toInt32).toInt8.toInt32))) 2 (vp_nar .byte ((((p1 >>> ((32 : Int32).toInt64 &&& 63)) &&& 255).toInt32).toInt8.toInt32))) 3 (vp_nar .byte ((((p1 >>> ((24 : Int32).toInt64 &&& 63)) &&& 255).toInt32).toInt8.toInt32))) 4 (vp_nar .byte ((((p1 >>> ((16 : Int32).toInt64 &&& 63)) &&& 255).toInt32).toInt8.toInt32)))))] := hD
                                                refine lv_iinc (v := 1) (lv' := [(4, .int 1), (5, .int (((p1 >>> ((48 : Int32).toInt64 &&& 63)) &&& 255).toInt32)), (0, .ref h0), (1, .long p1), (3, .int 7)]) hx hb dX3_append_109 hl (k := 0) rfl (by decide) (by decide) rfl (fun ls hl => ?_)
                                                refine lv_goto (tgt := 78) hx hb dX3_append_112 (by decide) ?_
                                                refine lv_iload hx hb dX3_append_78 (lv_at hl 0 rfl) ?_
                                                refine lv_if_lt (tgt := 115) hx hb dX3_append_80 (by decide) (fun h => absurd h (by decide +kernel)) (fun _ => ?_)
                                                refine lv_aload_n hx hb dX3_append_83 rfl (lv_at hl 2 rfl) ?_
                                                refine va_get (D := g.1) (ci := 3) (v := .ref h37) (C := RX3) (T := TX3) (N := 2) hx hb hts zl_X3 hown hK hP 0 rfl rfl 0 (by decide) (hts _ m_f_RX3_11) (fun _ h => h) rfl dX3_append_84 ?_
                                                refine lv_aload_n hx hb dX3_append_87 rfl (lv_at hl 2 rfl) ?_
                                                refine va_get (D := g.1) (ci := 3) (v := .int 5) (C := RX3) (T := TX3) (N := 2) hx hb hts zl_X3 hown hK hP 0 rfl rfl 1 (by decide) (hts _ m_f_RX3_15) (fun _ h => h) rfl dX3_append_88 ?_
                                                refine lv_lload_n hx hb dX3_append_91 rfl (lv_at hl 3 rfl) ?_
                                                refine lv_iload hx hb dX3_append_92 (lv_at hl 0 rfl) ?_
                                                refine z_calli (wr := [(h0, .inr (3, [.ref h37, .int 5])), (h37, .inl (zB g, 60, .inl (upd (upd (upd (upd (upd (fun _ => 0) 0 (vp_nar .byte ((((p1 >>> ((48 : Int32).toInt64 &&& 63)) &&& 255).toInt32).toInt8.toInt32))) 1 (vp_nar .byte ((((p1 >>> ((40 : Int32).toInt64 &&& 63)) &&& 255).toInt32).toInt8.toInt32))) 2 (vp_nar .byte ((((p1 >>> ((32 : Int32).toInt64 &&& 63)) &&& 255).toInt32).toInt8.toInt32))) 3 (vp_nar .byte ((((p1 >>> ((24 : Int32).toInt64 &&& 63)) &&& 255).toInt32).toInt8.toInt32))) 4 (vp_nar .byte ((((p1 >>> ((16 : Int32).toInt64 &&& 63)) &&& 255).toInt32).toInt8.toInt32)))))]) hP hD hS hA [] [0, 1] (by decide) rfl rfl (by decide) (va_runS (As := [.long p1, .int 1]) (rest := [.int 5, .ref h37]) ⟨hx, hb, hml, hown, hts⟩ (kX3_byteOf_63 l g  H.size p1) ⟨callB_of 2 hts (zGood m_o_yX3_byteOf) rfl rfl rfl (hts _ m_z_RX3) (hts _ m_m_RX3_19) ⟨by decide +kernel, by decide +kernel, by decide +kernel⟩ ⟨Nat.le_of_ble_eq_true rfl, Nat.le_of_ble_eq_true rfl⟩, hts _ m_s_yX3_byteOf⟩ (zPreS hK hN hZ hP hD hS hA [] (by decide) rfl rfl) rfl rfl hl.1 rfl (lv_room (Nat.le_of_ble_eq_true rfl)) dX3_append_94 ⟨Nat.le_of_ble_eq_true rfl, Nat.le_of_ble_eq_true rfl⟩) (fun r u H locs hw hP hD hS => ?_)
                                                obtain rfl := hw
                                                have hP : va_P g.1 vwCl [(h0, .inr (3, [.ref h37, .int 5])), (h37, .inl (zB g, 60, .inl (upd (upd (upd (upd (upd (fun _ => 0) 0 (vp_nar .byte ((((p1 >>> ((48 : Int32).toInt64 &&& 63)) &&& 255).toInt32).toInt8.toInt32))) 1 (vp_nar .byte ((((p1 >>> ((40 : Int32).toInt64 &&& 63)) &&& 255).toInt32).toInt8.toInt32))) 2 (vp_nar .byte ((((p1 >>> ((32 : Int32).toInt64 &&& 63)) &&& 255).toInt32).toInt8.toInt32))) 3 (vp_nar .byte ((((p1 >>> ((24 : Int32).toInt64 &&& 63)) &&& 255).toInt32).toInt8.toInt32))) 4 (vp_nar .byte ((((p1 >>> ((16 : Int32).toInt64 &&& 63)) &&& 255).toInt32).toInt8.toInt32)))))] H := hP
                                                have hD : va_D A [(h0, .inr (3, [.ref h37, .int 5])), (h37, .inl (zB g, 60, .inl (upd (upd (upd (upd (upd (fun _ => 0) 0 (vp_nar .byte ((((p1 >>> ((48 : Int32).toInt64 &&& 63)) &&& 255).toInt32).toInt8.toInt32))) 1 (vp_nar .byte ((((p1 >>> ((40 : Int32).toInt64 &&& 63)) &&& 255).toInt32).toInt8.toInt32))) 2 (vp_nar .byte ((((p1 >>> ((32 : Int32).toInt64 &&& 63)) &&& 255).toInt32).toInt8.toInt32))) 3 (vp_nar .byte ((((p1 >>> ((24 : Int32).toInt64 &&& 63)) &&& 255).toInt32).toInt8.toInt32))) 4 (vp_nar .byte ((((p1 >>> ((16 : Int32).toInt64 &&& 63)) &&& 255).toInt32).toInt8.toInt32)))))] := hD
                                                refine lv_i2b (v := (((p1 >>> ((8 : Int32).toInt64 &&& 63)) &&& 255).toInt32).toInt8.toInt32) hx hb dX3_append_97 rfl ?_
                                                refine va_bast (D := g.1) hx hb hK hP hD hS 1 2 rfl rfl (vp_in_iff.mpr (by decide +kernel)) dX3_append_98 (fun H locs hP hD hS => ?_)
                                                have hP : va_P g.1 vwCl [(h0, .inr (3, [.ref h37, .int 5])), (h37, .inl (zB g, 60, .inl (upd (upd (upd (upd (upd (upd (fun _ => 0) 0 (vp_nar .byte ((((p1 >>> ((48 : Int32).toInt64 &&& 63)) &&& 255).toInt32).toInt8.toInt32))) 1 (vp_nar .byte ((((p1 >>> ((40 : Int32).toInt64 &&& 63)) &&& 255).toInt32).toInt8.toInt32))) 2 (vp_nar .byte ((((p1 >>> ((32 : Int32).toInt64 &&& 63)) &&& 255).toInt32).toInt8.toInt32))) 3 (vp_nar .byte ((((p1 >>> ((24 : Int32).toInt64 &&& 63)) &&& 255).toInt32).toInt8.toInt32))) 4 (vp_nar .byte ((((p1 >>> ((16 : Int32).toInt64 &&& 63)) &&& 255).toInt32).toInt8.toInt32))) 5 (vp_nar .byte ((((p1 >>> ((8 : Int32).toInt64 &&& 63)) &&& 255).toInt32).toInt8.toInt32)))))] H := hP
                                                have hD : va_D A [(h0, .inr (3, [.ref h37, .int 5])), (h37, .inl (zB g, 60, .inl (upd (upd (upd (upd (upd (upd (fun _ => 0) 0 (vp_nar .byte ((((p1 >>> ((48 : Int32).toInt64 &&& 63)) &&& 255).toInt32).toInt8.toInt32))) 1 (vp_nar .byte ((((p1 >>> ((40 : Int32).toInt64 &&& 63)) &&& 255).toInt32).toInt8.toInt32))) 2 (vp_nar .byte ((((p1 >>> ((32 : Int32).toInt64 &&& 63)) &&& 255).toInt32).toInt8.toInt32))) 3 (vp_nar .byte ((((p1 >>> ((24 : Int32).toInt64 &&& 63)) &&& 255).toInt32).toInt8.toInt32))) 4 (vp_nar .byte ((((p1 >>> ((16 : Int32).toInt64 &&& 63)) &&& 255).toInt32).toInt8.toInt32))) 5 (vp_nar .byte ((((p1 >>> ((8 : Int32).toInt64 &&& 63)) &&& 255).toInt32).toInt8.toInt32)))))] := hD
                                                refine lv_aload_n hx hb dX3_append_99 rfl (lv_at hl 2 rfl) ?_
                                                refine lv_dup hx hb dX3_append_100 rfl ?_
                                                refine va_get (D := g.1) (ci := 3) (v := .int 5) (C := RX3) (T := TX3) (N := 2) hx hb hts zl_X3 hown hK hP 0 rfl rfl 1 (by decide) (hts _ m_f_RX3_15) (fun _ h => h) rfl dX3_append_101 ?_
                                                refine lv_iconst (v := 1) hx hb dX3_append_104 (by decide) ?_
                                                refine lv_iadd hx hb dX3_append_105 ?_
                                                refine lv_topi (nm_r (e' := 6) (by decide +kernel) ?_)
                                                refine va_put (D := g.1) (ci := 3) (v := .int 6) (ty := .int) (C := RX3) (T := TX3) (N := 2) hx hb hts zl_X3 tyX3 tyX3_ok nmX3 hown hK hP hD hS 0 rfl rfl 1 (by decide) (hts _ m_f_RX3_15) (fun _ h => h) rfl (by decide +kernel) rfl rfl (Nat.le_of_ble_eq_true rfl) dX3_append_106 (fun H locs hP hD hS => ?_)
                                                have hP : va_P g.1 vwCl [(h0, .inr (3, [.ref h37, .int 6])), (h37, .inl (zB g, 60, .inl (upd (upd (upd (upd (upd (upd (fun _ => 0) 0 (vp_nar .byte ((((p1 >>> ((48 : Int32).toInt64 &&& 63)) &&& 255).toInt32).toInt8.toInt32))) 1 (vp_nar .byte ((((p1 >>> ((40 : Int32).toInt64 &&& 63)) &&& 255).toInt32).toInt8.toInt32))) 2 (vp_nar .byte ((((p1 >>> ((32 : Int32).toInt64 &&& 63)) &&& 255).toInt32).toInt8.toInt32))) 3 (vp_nar .byte ((((p1 >>> ((24 : Int32).toInt64 &&& 63)) &&& 255).toInt32).toInt8.toInt32))) 4 (vp_nar .byte ((((p1 >>> ((16 : Int32).toInt64 &&& 63)) &&& 255).toInt32).toInt8.toInt32))) 5 (vp_nar .byte ((((p1 >>> ((8 : Int32).toInt64 &&& 63)) &&& 255).toInt32).toInt8.toInt32)))))] H := hP
                                                have hD : va_D A [(h0, .inr (3, [.ref h37, .int 6])), (h37, .inl (zB g, 60, .inl (upd (upd (upd (upd (upd (upd (fun _ => 0) 0 (vp_nar .byte ((((p1 >>> ((48 : Int32).toInt64 &&& 63)) &&& 255).toInt32).toInt8.toInt32))) 1 (vp_nar .byte ((((p1 >>> ((40 : Int32).toInt64 &&& 63)) &&& 255).toInt32).toInt8.toInt32))) 2 (vp_nar .byte ((((p1 >>> ((32 : Int32).toInt64 &&& 63)) &&& 255).toInt32).toInt8.toInt32))) 3 (vp_nar .byte ((((p1 >>> ((24 : Int32).toInt64 &&& 63)) &&& 255).toInt32).toInt8.toInt32))) 4 (vp_nar .byte ((((p1 >>> ((16 : Int32).toInt64 &&& 63)) &&& 255).toInt32).toInt8.toInt32))) 5 (vp_nar .byte ((((p1 >>> ((8 : Int32).toInt64 &&& 63)) &&& 255).toInt32).toInt8.toInt32)))))] := hD
                                                refine lv_iinc (v := 0) (lv' := [(4, .int 0), (5, .int (((p1 >>> ((48 : Int32).toInt64 &&& 63)) &&& 255).toInt32)), (0, .ref h0), (1, .long p1), (3, .int 7)]) hx hb dX3_append_109 hl (k := 0) rfl (by decide) (by decide) rfl (fun ls hl => ?_)
                                                refine lv_goto (tgt := 78) hx hb dX3_append_112 (by decide) ?_
                                                refine lv_iload hx hb dX3_append_78 (lv_at hl 0 rfl) ?_
                                                refine lv_if_lt (tgt := 115) hx hb dX3_append_80 (by decide) (fun h => absurd h (by decide +kernel)) (fun _ => ?_)
                                                refine lv_aload_n hx hb dX3_append_83 rfl (lv_at hl 2 rfl) ?_
                                                refine va_get (D := g.1) (ci := 3) (v := .ref h37) (C := RX3) (T := TX3) (N := 2) hx hb hts zl_X3 hown hK hP 0 rfl rfl 0 (by decide) (hts _ m_f_RX3_11) (fun _ h => h) rfl dX3_append_84 ?_
                                                refine lv_aload_n hx hb dX3_append_87 rfl (lv_at hl 2 rfl) ?_
                                                refine va_get (D := g.1) (ci := 3) (v := .int 6) (C := RX3) (T := TX3) (N := 2) hx hb hts zl_X3 hown hK hP 0 rfl rfl 1 (by decide) (hts _ m_f_RX3_15) (fun _ h => h) rfl dX3_append_88 ?_
                                                refine lv_lload_n hx hb dX3_append_91 rfl (lv_at hl 3 rfl) ?_
                                                refine lv_iload hx hb dX3_append_92 (lv_at hl 0 rfl) ?_
                                                refine z_calli (wr := [(h0, .inr (3, [.ref h37, .int 6])), (h37, .inl (zB g, 60, .inl (upd (upd (upd (upd (upd (upd (fun _ => 0) 0 (vp_nar .byte ((((p1 >>> ((48 : Int32).toInt64 &&& 63)) &&& 255).toInt32).toInt8.toInt32))) 1 (vp_nar .byte ((((p1 >>> ((40 : Int32).toInt64 &&& 63)) &&& 255).toInt32).toInt8.toInt32))) 2 (vp_nar .byte ((((p1 >>> ((32 : Int32).toInt64 &&& 63)) &&& 255).toInt32).toInt8.toInt32))) 3 (vp_nar .byte ((((p1 >>> ((24 : Int32).toInt64 &&& 63)) &&& 255).toInt32).toInt8.toInt32))) 4 (vp_nar .byte ((((p1 >>> ((16 : Int32).toInt64 &&& 63)) &&& 255).toInt32).toInt8.toInt32))) 5 (vp_nar .byte ((((p1 >>> ((8 : Int32).toInt64 &&& 63)) &&& 255).toInt32).toInt8.toInt32)))))]) hP hD hS hA [] [0, 1] (by decide) rfl rfl (by decide) (va_runS (As := [.long p1, .int 0]) (rest := [.int 6, .ref h37]) ⟨hx, hb, hml, hown, hts⟩ (kX3_byteOf_64 l g  H.size p1) ⟨callB_of 2 hts (zGood m_o_yX3_byteOf) rfl rfl rfl (hts _ m_z_RX3) (hts _ m_m_RX3_19) ⟨by decide +kernel, by decide +kernel, by decide +kernel⟩ ⟨Nat.le_of_ble_eq_true rfl, Nat.le_of_ble_eq_true rfl⟩, hts _ m_s_yX3_byteOf⟩ (zPreS hK hN hZ hP hD hS hA [] (by decide) rfl rfl) rfl rfl hl.1 rfl (lv_room (Nat.le_of_ble_eq_true rfl)) dX3_append_94 ⟨Nat.le_of_ble_eq_true rfl, Nat.le_of_ble_eq_true rfl⟩) (fun r u H locs hw hP hD hS => ?_)
                                                obtain rfl := hw
                                                have hP : va_P g.1 vwCl [(h0, .inr (3, [.ref h37, .int 6])), (h37, .inl (zB g, 60, .inl (upd (upd (upd (upd (upd (upd (fun _ => 0) 0 (vp_nar .byte ((((p1 >>> ((48 : Int32).toInt64 &&& 63)) &&& 255).toInt32).toInt8.toInt32))) 1 (vp_nar .byte ((((p1 >>> ((40 : Int32).toInt64 &&& 63)) &&& 255).toInt32).toInt8.toInt32))) 2 (vp_nar .byte ((((p1 >>> ((32 : Int32).toInt64 &&& 63)) &&& 255).toInt32).toInt8.toInt32))) 3 (vp_nar .byte ((((p1 >>> ((24 : Int32).toInt64 &&& 63)) &&& 255).toInt32).toInt8.toInt32))) 4 (vp_nar .byte ((((p1 >>> ((16 : Int32).toInt64 &&& 63)) &&& 255).toInt32).toInt8.toInt32))) 5 (vp_nar .byte ((((p1 >>> ((8 : Int32).toInt64 &&& 63)) &&& 255).toInt32).toInt8.toInt32)))))] H := hP
                                                have hD : va_D A [(h0, .inr (3, [.ref h37, .int 6])), (h37, .inl (zB g, 60, .inl (upd (upd (upd (upd (upd (upd (fun _ => 0) 0 (vp_nar .byte ((((p1 >>> ((48 : Int32).toInt64 &&& 63)) &&& 255).toInt32).toInt8.toInt32))) 1 (vp_nar .byte ((((p1 >>> ((40 : Int32).toInt64 &&& 63)) &&& 255).toInt32).toInt8.toInt32))) 2 (vp_nar .byte ((((p1 >>> ((32 : Int32).toInt64 &&& 63)) &&& 255).toInt32).toInt8.toInt32))) 3 (vp_nar .byte ((((p1 >>> ((24 : Int32).toInt64 &&& 63)) &&& 255).toInt32).toInt8.toInt32))) 4 (vp_nar .byte ((((p1 >>> ((16 : Int32).toInt64 &&& 63)) &&& 255).toInt32).toInt8.toInt32))) 5 (vp_nar .byte ((((p1 >>> ((8 : Int32).toInt64 &&& 63)) &&& 255).toInt32).toInt8.toInt32)))))] := hD
                                                refine lv_i2b (v := (((p1 >>> ((0 : Int32).toInt64 &&& 63)) &&& 255).toInt32).toInt8.toInt32) hx hb dX3_append_97 rfl ?_
                                                refine va_bast (D := g.1) hx hb hK hP hD hS 1 2 rfl rfl (vp_in_iff.mpr (by decide +kernel)) dX3_append_98 (fun H locs hP hD hS => ?_)
                                                have hP : va_P g.1 vwCl [(h0, .inr (3, [.ref h37, .int 6])), (h37, .inl (zB g, 60, .inl (upd (upd (upd (upd (upd (upd (upd (fun _ => 0) 0 (vp_nar .byte ((((p1 >>> ((48 : Int32).toInt64 &&& 63)) &&& 255).toInt32).toInt8.toInt32))) 1 (vp_nar .byte ((((p1 >>> ((40 : Int32).toInt64 &&& 63)) &&& 255).toInt32).toInt8.toInt32))) 2 (vp_nar .byte ((((p1 >>> ((32 : Int32).toInt64 &&& 63)) &&& 255).toInt32).toInt8.toInt32))) 3 (vp_nar .byte ((((p1 >>> ((24 : Int32).toInt64 &&& 63)) &&& 255).toInt32).toInt8.toInt32))) 4 (vp_nar .byte ((((p1 >>> ((16 : Int32).toInt64 &&& 63)) &&& 255).toInt32).toInt8.toInt32))) 5 (vp_nar .byte ((((p1 >>> ((8 : Int32).toInt64 &&& 63)) &&& 255).toInt32).toInt8.toInt32))) 6 (vp_nar .byte ((((p1 >>> ((0 : Int32).toInt64 &&& 63)) &&& 255).toInt32).toInt8.toInt32)))))] H := hP
                                                have hD : va_D A [(h0, .inr (3, [.ref h37, .int 6])), (h37, .inl (zB g, 60, .inl (upd (upd (upd (upd (upd (upd (upd (fun _ => 0) 0 (vp_nar .byte ((((p1 >>> ((48 : Int32).toInt64 &&& 63)) &&& 255).toInt32).toInt8.toInt32))) 1 (vp_nar .byte ((((p1 >>> ((40 : Int32).toInt64 &&& 63)) &&& 255).toInt32).toInt8.toInt32))) 2 (vp_nar .byte ((((p1 >>> ((32 : Int32).toInt64 &&& 63)) &&& 255).toInt32).toInt8.toInt32))) 3 (vp_nar .byte ((((p1 >>> ((24 : Int32).toInt64 &&& 63)) &&& 255).toInt32).toInt8.toInt32))) 4 (vp_nar .byte ((((p1 >>> ((16 : Int32).toInt64 &&& 63)) &&& 255).toInt32).toInt8.toInt32))) 5 (vp_nar .byte ((((p1 >>> ((8 : Int32).toInt64 &&& 63)) &&& 255).toInt32).toInt8.toInt32))) 6 (vp_nar .byte ((((p1 >>> ((0 : Int32).toInt64 &&& 63)) &&& 255).toInt32).toInt8.toInt32)))))] := hD
                                                refine lv_aload_n hx hb dX3_append_99 rfl (lv_at hl 2 rfl) ?_
                                                refine lv_dup hx hb dX3_append_100 rfl ?_
                                                refine va_get (D := g.1) (ci := 3) (v := .int 6) (C := RX3) (T := TX3) (N := 2) hx hb hts zl_X3 hown hK hP 0 rfl rfl 1 (by decide) (hts _ m_f_RX3_15) (fun _ h => h) rfl dX3_append_101 ?_
                                                refine lv_iconst (v := 1) hx hb dX3_append_104 (by decide) ?_
                                                refine lv_iadd hx hb dX3_append_105 ?_
                                                refine lv_topi (nm_r (e' := 7) (by decide +kernel) ?_)
                                                refine va_put (D := g.1) (ci := 3) (v := .int 7) (ty := .int) (C := RX3) (T := TX3) (N := 2) hx hb hts zl_X3 tyX3 tyX3_ok nmX3 hown hK hP hD hS 0 rfl rfl 1 (by decide) (hts _ m_f_RX3_15) (fun _ h => h) rfl (by decide +kernel) rfl rfl (Nat.le_of_ble_eq_true rfl) dX3_append_106 (fun H locs hP hD hS => ?_)
                                                have hP : va_P g.1 vwCl [(h0, .inr (3, [.ref h37, .int 7])), (h37, .inl (zB g, 60, .inl (upd (upd (upd (upd (upd (upd (upd (fun _ => 0) 0 (vp_nar .byte ((((p1 >>> ((48 : Int32).toInt64 &&& 63)) &&& 255).toInt32).toInt8.toInt32))) 1 (vp_nar .byte ((((p1 >>> ((40 : Int32).toInt64 &&& 63)) &&& 255).toInt32).toInt8.toInt32))) 2 (vp_nar .byte ((((p1 >>> ((32 : Int32).toInt64 &&& 63)) &&& 255).toInt32).toInt8.toInt32))) 3 (vp_nar .byte ((((p1 >>> ((24 : Int32).toInt64 &&& 63)) &&& 255).toInt32).toInt8.toInt32))) 4 (vp_nar .byte ((((p1 >>> ((16 : Int32).toInt64 &&& 63)) &&& 255).toInt32).toInt8.toInt32))) 5 (vp_nar .byte ((((p1 >>> ((8 : Int32).toInt64 &&& 63)) &&& 255).toInt32).toInt8.toInt32))) 6 (vp_nar .byte ((((p1 >>> ((0 : Int32).toInt64 &&& 63)) &&& 255).toInt32).toInt8.toInt32)))))] H := hP
                                                have hD : va_D A [(h0, .inr (3, [.ref h37, .int 7])), (h37, .inl (zB g, 60, .inl (upd (upd (upd (upd (upd (upd (upd (fun _ => 0) 0 (vp_nar .byte ((((p1 >>> ((48 : Int32).toInt64 &&& 63)) &&& 255).toInt32).toInt8.toInt32))) 1 (vp_nar .byte ((((p1 >>> ((40 : Int32).toInt64 &&& 63)) &&& 255).toInt32).toInt8.toInt32))) 2 (vp_nar .byte ((((p1 >>> ((32 : Int32).toInt64 &&& 63)) &&& 255).toInt32).toInt8.toInt32))) 3 (vp_nar .byte ((((p1 >>> ((24 : Int32).toInt64 &&& 63)) &&& 255).toInt32).toInt8.toInt32))) 4 (vp_nar .byte ((((p1 >>> ((16 : Int32).toInt64 &&& 63)) &&& 255).toInt32).toInt8.toInt32))) 5 (vp_nar .byte ((((p1 >>> ((8 : Int32).toInt64 &&& 63)) &&& 255).toInt32).toInt8.toInt32))) 6 (vp_nar .byte ((((p1 >>> ((0 : Int32).toInt64 &&& 63)) &&& 255).toInt32).toInt8.toInt32)))))] := hD
                                                refine lv_iinc (v := (-1)) (lv' := [(4, .int (-1)), (5, .int (((p1 >>> ((48 : Int32).toInt64 &&& 63)) &&& 255).toInt32)), (0, .ref h0), (1, .long p1), (3, .int 7)]) hx hb dX3_append_109 hl (k := 0) rfl (by decide) (by decide) rfl (fun ls hl => ?_)
                                                refine lv_goto (tgt := 78) hx hb dX3_append_112 (by decide) ?_
                                                refine lv_iload hx hb dX3_append_78 (lv_at hl 0 rfl) ?_
                                                refine lv_if_lt (tgt := 115) hx hb dX3_append_80 (by decide) (fun _ => ?_) (fun h => absurd h (by decide +kernel))
                                                refine lv_aload_n hx hb dX3_append_115 rfl (lv_at hl 2 rfl) ?_
                                                refine va_get (D := g.1) (ci := 3) (v := .int 7) (C := RX3) (T := TX3) (N := 2) hx hb hts zl_X3 hown hK hP 0 rfl rfl 1 (by decide) (hts _ m_f_RX3_15) (fun _ h => h) rfl dX3_append_116 ?_
                                                have hP9 := hP.sub (ws' := []) [] rfl
                                                have hD9 := hD.sub (ws' := []) [] (by decide) rfl
                                                exact W.iret (v := 7) hx hb hr (fun t ht hW => ⟨⟨7, 0, rfl, Or.inr (Or.inr (Or.inr (Or.inr (Or.inr (Or.inr (Or.inr (Or.inr (Or.inr (Or.inr (Or.inr (Or.inr (Or.inr (Or.inr (Or.inl ⟨i_0, i_1, i_3, i_4, i_5, i_7, i_8, i_9, i_11, i_12, i_13, i_15, i_16, i_17, i_19, i_20, i_21, i_23, i_24, i_25, i_27, i_28, i_29, rfl⟩)))))))))))))), by rw [ht]; exact hP9, hD9⟩, hS.F ht⟩) hS.2.2 dX3_append_119
                                              · have i_29 : 7 < p2.toInt := z_nle (rfl) (rfl) c_29
                                                refine lv_lload_n hx hb dX3_append_22 rfl (lv_at hl 3 rfl) ?_
                                                refine lv_iload hx hb dX3_append_23 (lv_at hl 0 rfl) ?_
                                                refine z_calli (wr := [(h0, .inr (3, [.ref h37, .int 0])), (h37, .inl (zB g, 60, .inl (fun _ => 0)))]) hP hD hS hA [] [0, 1] (by decide) rfl rfl (by decide) (va_runS (As := [.long p1, .int 7]) (rest := []) ⟨hx, hb, hml, hown, hts⟩ (kX3_byteOf_65 l g  H.size p1) ⟨callB_of 2 hts (zGood m_o_yX3_byteOf) rfl rfl rfl (hts _ m_z_RX3) (hts _ m_m_RX3_19) ⟨by decide +kernel, by decide +kernel, by decide +kernel⟩ ⟨Nat.le_of_ble_eq_true rfl, Nat.le_of_ble_eq_true rfl⟩, hts _ m_s_yX3_byteOf⟩ (zPreS hK hN hZ hP hD hS hA [] (by decide) rfl rfl) rfl rfl hl.1 rfl (lv_room (Nat.le_of_ble_eq_true rfl)) dX3_append_25 ⟨Nat.le_of_ble_eq_true rfl, Nat.le_of_ble_eq_true rfl⟩) (fun r u H locs hw hP hD hS => ?_)
                                                obtain rfl := hw
                                                have hP : va_P g.1 vwCl [(h0, .inr (3, [.ref h37, .int 0])), (h37, .inl (zB g, 60, .inl (fun _ => 0)))] H := hP
                                                have hD : va_D A [(h0, .inr (3, [.ref h37, .int 0])), (h37, .inl (zB g, 60, .inl (fun _ => 0)))] := hD
                                                refine lv_istore (lv' := [(5, .int (((p1 >>> ((56 : Int32).toInt64 &&& 63)) &&& 255).toInt32)), (4, .int 7), (0, .ref h0), (1, .long p1), (3, .int p2)]) hx hb dX3_append_28 hl (by decide) rfl (fun ls hl => ?_)
                                                refine lv_iload hx hb dX3_append_30 (lv_at hl 0 rfl) ?_
                                                refine lv_bipush (v := 32) hx hb dX3_append_32 (by decide) ?_
                                                refine lv_icmp_lt (tgt := 44) hx hb dX3_append_34 (by decide) (fun c_31 => ?_) (fun c_31 => ?_)
                                                · have i_31 : (((p1 >>> ((56 : Int32).toInt64 &&& 63)) &&& 255) : Int64).toInt < 32 := z_lt ((z_b255 _)) (rfl) c_31
                                                  refine lv_iconst (v := (-1)) hx hb dX3_append_44 (by decide) ?_
                                                  have hP9 := hP.sub (ws' := []) [] rfl
                                                  have hD9 := hD.sub (ws' := []) [] (by decide) rfl
                                                  exact W.iret (v := (-1)) hx hb hr (fun t ht hW => ⟨⟨(-1), 0, rfl, Or.inr (Or.inr (Or.inr (Or.inr (Or.inr (Or.inr (Or.inr (Or.inr (Or.inr (Or.inr (Or.inr (Or.inr (Or.inr (Or.inr (Or.inr (Or.inl ⟨i_0, i_1, i_3, i_4, i_5, i_7, i_8, i_9, i_11, i_12, i_13, i_15, i_16, i_17, i_19, i_20, i_21, i_23, i_24, i_25, i_27, i_28, i_29, i_31, rfl⟩))))))))))))))), by rw [ht]; exact hP9, hD9⟩, hS.F ht⟩) hS.2.2 dX3_append_45
                                                · have i_31 : 32 ≤ (((p1 >>> ((56 : Int32).toInt64 &&& 63)) &&& 255) : Int64).toInt := z_nlt ((z_b255 _)) (rfl) c_31
                                                  refine lv_iload hx hb dX3_append_37 (lv_at hl 0 rfl) ?_
                                                  refine lv_bipush (v := 126) hx hb dX3_append_39 (by decide) ?_
                                                  refine lv_icmp_le (tgt := 46) hx hb dX3_append_41 (by decide) (fun c_32 => ?_) (fun c_32 => ?_)
                                                  · have i_32 : (((p1 >>> ((56 : Int32).toInt64 &&& 63)) &&& 255) : Int64).toInt ≤ 126 := z_le ((z_b255 _)) (rfl) c_32
                                                    refine lv_iinc (v := 8) (lv' := [(4, .int 8), (5, .int (((p1 >>> ((56 : Int32).toInt64 &&& 63)) &&& 255).toInt32)), (0, .ref h0), (1, .long p1), (3, .int p2)]) hx hb dX3_append_46 hl (k := 1) rfl (by decide) (by decide) rfl (fun ls hl => ?_)
                                                    refine lv_goto (tgt := 16) hx hb dX3_append_49 (by decide) ?_
                                                    refine lv_iload hx hb dX3_append_16 (lv_at hl 0 rfl) ?_
                                                    refine lv_iload_n hx hb dX3_append_18 rfl (lv_at hl 4 rfl) ?_
                                                    refine lv_icmp_ge (tgt := 52) hx hb dX3_append_19 (by decide) (fun c_33 => ?_) (fun c_33 => absurd (show 8 < p2.toInt from z_nle (rfl) (rfl) c_33) (by omega))
                                                    have i_33 : p2.toInt ≤ 8 := z_le (rfl) (rfl) c_33
                                                    refine lv_aload_n hx hb dX3_append_52 rfl (lv_at hl 2 rfl) ?_
                                                    refine va_get (D := g.1) (ci := 3) (v := .int 0) (C := RX3) (T := TX3) (N := 2) hx hb hts zl_X3 hown hK hP 0 rfl rfl 1 (by decide) (hts _ m_f_RX3_15) (fun _ h => h) rfl dX3_append_53 ?_
                                                    refine lv_if_lt (tgt := 70) hx hb dX3_append_56 (by decide) (fun h => absurd h (by decide +kernel)) (fun _ => ?_)
                                                    refine lv_aload_n hx hb dX3_append_59 rfl (lv_at hl 2 rfl) ?_
                                                    refine va_get (D := g.1) (ci := 3) (v := .int 0) (C := RX3) (T := TX3) (N := 2) hx hb hts zl_X3 hown hK hP 0 rfl rfl 1 (by decide) (hts _ m_f_RX3_15) (fun _ h => h) rfl dX3_append_60 ?_
                                                    refine lv_iload_n hx hb dX3_append_63 rfl (lv_at hl 4 rfl) ?_
                                                    obtain rfl : p2 = 8 := Int32.toInt_inj.mp (show p2.toInt = (8 : Int32).toInt from (show p2.toInt = 8 by omega).trans rfl)
                                                    refine lv_iadd hx hb dX3_append_64 ?_
                                                    refine lv_topi (nm_r (e' := 8) (by decide +kernel) ?_)
                                                    refine lv_bipush (v := 60) hx hb dX3_append_65 (by decide) ?_
                                                    refine lv_icmp_le (tgt := 73) hx hb dX3_append_67 (by decide) (fun _ => ?_) (fun h => absurd h (by decide +kernel))
                                                    refine lv_iload_n hx hb dX3_append_73 rfl (lv_at hl 4 rfl) ?_
                                                    refine lv_iconst (v := 1) hx hb dX3_append_74 (by decide) ?_
                                                    refine lv_isub hx hb dX3_append_75 ?_
                                                    refine lv_topi (nm_r (e' := 7) (by decide +kernel) ?_)
                                                    refine lv_istore (lv' := [(4, .int 7), (5, .int (((p1 >>> ((56 : Int32).toInt64 &&& 63)) &&& 255).toInt32)), (0, .ref h0), (1, .long p1), (3, .int 8)]) hx hb dX3_append_76 hl (by decide) rfl (fun ls hl => ?_)
                                                    refine lv_iload hx hb dX3_append_78 (lv_at hl 0 rfl) ?_
                                                    refine lv_if_lt (tgt := 115) hx hb dX3_append_80 (by decide) (fun h => absurd h (by decide +kernel)) (fun _ => ?_)
                                                    refine lv_aload_n hx hb dX3_append_83 rfl (lv_at hl 2 rfl) ?_
                                                    refine va_get (D := g.1) (ci := 3) (v := .ref h37) (C := RX3) (T := TX3) (N := 2) hx hb hts zl_X3 hown hK hP 0 rfl rfl 0 (by decide) (hts _ m_f_RX3_11) (fun _ h => h) rfl dX3_append_84 ?_
                                                    refine lv_aload_n hx hb dX3_append_87 rfl (lv_at hl 2 rfl) ?_
                                                    refine va_get (D := g.1) (ci := 3) (v := .int 0) (C := RX3) (T := TX3) (N := 2) hx hb hts zl_X3 hown hK hP 0 rfl rfl 1 (by decide) (hts _ m_f_RX3_15) (fun _ h => h) rfl dX3_append_88 ?_
                                                    refine lv_lload_n hx hb dX3_append_91 rfl (lv_at hl 3 rfl) ?_
                                                    refine lv_iload hx hb dX3_append_92 (lv_at hl 0 rfl) ?_
                                                    refine z_calli (wr := [(h0, .inr (3, [.ref h37, .int 0])), (h37, .inl (zB g, 60, .inl (fun _ => 0)))]) hP hD hS hA [] [0, 1] (by decide) rfl rfl (by decide) (va_runS (As := [.long p1, .int 7]) (rest := [.int 0, .ref h37]) ⟨hx, hb, hml, hown, hts⟩ (kX3_byteOf_65 l g  H.size p1) ⟨callB_of 2 hts (zGood m_o_yX3_byteOf) rfl rfl rfl (hts _ m_z_RX3) (hts _ m_m_RX3_19) ⟨by decide +kernel, by decide +kernel, by decide +kernel⟩ ⟨Nat.le_of_ble_eq_true rfl, Nat.le_of_ble_eq_true rfl⟩, hts _ m_s_yX3_byteOf⟩ (zPreS hK hN hZ hP hD hS hA [] (by decide) rfl rfl) rfl rfl hl.1 rfl (lv_room (Nat.le_of_ble_eq_true rfl)) dX3_append_94 ⟨Nat.le_of_ble_eq_true rfl, Nat.le_of_ble_eq_true rfl⟩) (fun r u H locs hw hP hD hS => ?_)
                                                    obtain rfl := hw
                                                    have hP : va_P g.1 vwCl [(h0, .inr (3, [.ref h37, .int 0])), (h37, .inl (zB g, 60, .inl (fun _ => 0)))] H := hP
                                                    have hD : va_D A [(h0, .inr (3, [.ref h37, .int 0])), (h37, .inl (zB g, 60, .inl (fun _ => 0)))] := hD
                                                    refine lv_i2b (v := (((p1 >>> ((56 : Int32).toInt64 &&& 63)) &&& 255).toInt32).toInt8.toInt32) hx hb dX3_append_97 rfl ?_
                                                    refine va_bast (D := g.1) hx hb hK hP hD hS 1 2 rfl rfl (vp_in_iff.mpr (by decide +kernel)) dX3_append_98 (fun H locs hP hD hS => ?_)
                                                    have hP : va_P g.1 vwCl [(h0, .inr (3, [.ref h37, .int 0])), (h37, .inl (zB g, 60, .inl (upd (fun _ => 0) 0 (vp_nar .byte ((((p1 >>> ((56 : Int32).toInt64 &&& 63)) &&& 255).toInt32).toInt8.toInt32)))))] H := hP
                                                    have hD : va_D A [(h0, .inr (3, [.ref h37, .int 0])), (h37, .inl (zB g, 60, .inl (upd (fun _ => 0) 0 (vp_nar .byte ((((p1 >>> ((56 : Int32).toInt64 &&& 63)) &&& 255).toInt32).toInt8.toInt32)))))] := hD
                                                    refine lv_aload_n hx hb dX3_append_99 rfl (lv_at hl 2 rfl) ?_
                                                    refine lv_dup hx hb dX3_append_100 rfl ?_
                                                    refine va_get (D := g.1) (ci := 3) (v := .int 0) (C := RX3) (T := TX3) (N := 2) hx hb hts zl_X3 hown hK hP 0 rfl rfl 1 (by decide) (hts _ m_f_RX3_15) (fun _ h => h) rfl dX3_append_101 ?_
                                                    refine lv_iconst (v := 1) hx hb dX3_append_104 (by decide) ?_
                                                    refine lv_iadd hx hb dX3_append_105 ?_
                                                    refine lv_topi (nm_r (e' := 1) (by decide +kernel) ?_)
                                                    refine va_put (D := g.1) (ci := 3) (v := .int 1) (ty := .int) (C := RX3) (T := TX3) (N := 2) hx hb hts zl_X3 tyX3 tyX3_ok nmX3 hown hK hP hD hS 0 rfl rfl 1 (by decide) (hts _ m_f_RX3_15) (fun _ h => h) rfl (by decide +kernel) rfl rfl (Nat.le_of_ble_eq_true rfl) dX3_append_106 (fun H locs hP hD hS => ?_)
                                                    have hP : va_P g.1 vwCl [(h0, .inr (3, [.ref h37, .int 1])), (h37, .inl (zB g, 60, .inl (upd (fun _ => 0) 0 (vp_nar .byte ((((p1 >>> ((56 : Int32).toInt64 &&& 63)) &&& 255).toInt32).toInt8.toInt32)))))] H := hP
                                                    have hD : va_D A [(h0, .inr (3, [.ref h37, .int 1])), (h37, .inl (zB g, 60, .inl (upd (fun _ => 0) 0 (vp_nar .byte ((((p1 >>> ((56 : Int32).toInt64 &&& 63)) &&& 255).toInt32).toInt8.toInt32)))))] := hD
                                                    refine lv_iinc (v := 6) (lv' := [(4, .int 6), (5, .int (((p1 >>> ((56 : Int32).toInt64 &&& 63)) &&& 255).toInt32)), (0, .ref h0), (1, .long p1), (3, .int 8)]) hx hb dX3_append_109 hl (k := 0) rfl (by decide) (by decide) rfl (fun ls hl => ?_)
                                                    refine lv_goto (tgt := 78) hx hb dX3_append_112 (by decide) ?_
                                                    refine lv_iload hx hb dX3_append_78 (lv_at hl 0 rfl) ?_
                                                    refine lv_if_lt (tgt := 115) hx hb dX3_append_80 (by decide) (fun h => absurd h (by decide +kernel)) (fun _ => ?_)
                                                    refine lv_aload_n hx hb dX3_append_83 rfl (lv_at hl 2 rfl) ?_
                                                    refine va_get (D := g.1) (ci := 3) (v := .ref h37) (C := RX3) (T := TX3) (N := 2) hx hb hts zl_X3 hown hK hP 0 rfl rfl 0 (by decide) (hts _ m_f_RX3_11) (fun _ h => h) rfl dX3_append_84 ?_
                                                    refine lv_aload_n hx hb dX3_append_87 rfl (lv_at hl 2 rfl) ?_
                                                    refine va_get (D := g.1) (ci := 3) (v := .int 1) (C := RX3) (T := TX3) (N := 2) hx hb hts zl_X3 hown hK hP 0 rfl rfl 1 (by decide) (hts _ m_f_RX3_15) (fun _ h => h) rfl dX3_append_88 ?_
                                                    refine lv_lload_n hx hb dX3_append_91 rfl (lv_at hl 3 rfl) ?_
                                                    refine lv_iload hx hb dX3_append_92 (lv_at hl 0 rfl) ?_
                                                    refine z_calli (wr := [(h0, .inr (3, [.ref h37, .int 1])), (h37, .inl (zB g, 60, .inl (upd (fun _ => 0) 0 (vp_nar .byte ((((p1 >>> ((56 : Int32).toInt64 &&& 63)) &&& 255).toInt32).toInt8.toInt32)))))]) hP hD hS hA [] [0, 1] (by decide) rfl rfl (by decide) (va_runS (As := [.long p1, .int 6]) (rest := [.int 1, .ref h37]) ⟨hx, hb, hml, hown, hts⟩ (kX3_byteOf_66 l g  H.size p1) ⟨callB_of 2 hts (zGood m_o_yX3_byteOf) rfl rfl rfl (hts _ m_z_RX3) (hts _ m_m_RX3_19) ⟨by decide +kernel, by decide +kernel, by decide +kernel⟩ ⟨Nat.le_of_ble_eq_true rfl, Nat.le_of_ble_eq_true rfl⟩, hts _ m_s_yX3_byteOf⟩ (zPreS hK hN hZ hP hD hS hA [] (by decide) rfl rfl) rfl rfl hl.1 rfl (lv_room (Nat.le_of_ble_eq_true rfl)) dX3_append_94 ⟨Nat.le_of_ble_eq_true rfl, Nat.le_of_ble_eq_true rfl⟩) (fun r u H locs hw hP hD hS => ?_)
                                                    obtain rfl := hw
                                                    have hP : va_P g.1 vwCl [(h0, .inr (3, [.ref h37, .int 1])), (h37, .inl (zB g, 60, .inl (upd (fun _ => 0) 0 (vp_nar .byte ((((p1 >>> ((56 : Int32).toInt64 &&& 63)) &&& 255).toInt32).toInt8.toInt32)))))] H := hP
                                                    have hD : va_D A [(h0, .inr (3, [.ref h37, .int 1])), (h37, .inl (zB g, 60, .inl (upd (fun _ => 0) 0 (vp_nar .byte ((((p1 >>> ((56 : Int32).toInt64 &&& 63)) &&& 255).toInt32).toInt8.toInt32)))))] := hD
                                                    refine lv_i2b (v := (((p1 >>> ((48 : Int32).toInt64 &&& 63)) &&& 255).toInt32).toInt8.toInt32) hx hb dX3_append_97 rfl ?_
                                                    refine va_bast (D := g.1) hx hb hK hP hD hS 1 2 rfl rfl (vp_in_iff.mpr (by decide +kernel)) dX3_append_98 (fun H locs hP hD hS => ?_)
                                                    have hP : va_P g.1 vwCl [(h0, .inr (3, [.ref h37, .int 1])), (h37, .inl (zB g, 60, .inl (upd (upd (fun _ => 0) 0 (vp_nar .byte ((((p1 >>> ((56 : Int32).toInt64 &&& 63)) &&& 255).toInt32).toInt8.toInt32))) 1 (vp_nar .byte ((((p1 >>> ((48 : Int32).toInt64 &&& 63)) &&& 255).toInt32).toInt8.toInt32)))))] H := hP
                                                    have hD : va_D A [(h0, .inr (3, [.ref h37, .int 1])), (h37, .inl (zB g, 60, .inl (upd (upd (fun _ => 0) 0 (vp_nar .byte ((((p1 >>> ((56 : Int32).toInt64 &&& 63)) &&& 255).toInt32).toInt8.toInt32))) 1 (vp_nar .byte ((((p1 >>> ((48 : Int32).toInt64 &&& 63)) &&& 255).toInt32).toInt8.toInt32)))))] := hD
                                                    refine lv_aload_n hx hb dX3_append_99 rfl (lv_at hl 2 rfl) ?_
                                                    refine lv_dup hx hb dX3_append_100 rfl ?_
                                                    refine va_get (D := g.1) (ci := 3) (v := .int 1) (C := RX3) (T := TX3) (N := 2) hx hb hts zl_X3 hown hK hP 0 rfl rfl 1 (by decide) (hts _ m_f_RX3_15) (fun _ h => h) rfl dX3_append_101 ?_
                                                    refine lv_iconst (v := 1) hx hb dX3_append_104 (by decide) ?_
                                                    refine lv_iadd hx hb dX3_append_105 ?_
                                                    refine lv_topi (nm_r (e' := 2) (by decide +kernel) ?_)
                                                    refine va_put (D := g.1) (ci := 3) (v := .int 2) (ty := .int) (C := RX3) (T := TX3) (N := 2) hx hb hts zl_X3 tyX3 tyX3_ok nmX3 hown hK hP hD hS 0 rfl rfl 1 (by decide) (hts _ m_f_RX3_15) (fun _ h => h) rfl (by decide +kernel) rfl rfl (Nat.le_of_ble_eq_true rfl) dX3_append_106 (fun H locs hP hD hS => ?_)
                                                    have hP : va_P g.1 vwCl [(h0, .inr (3, [.ref h37, .int 2])), (h37, .inl (zB g, 60, .inl (upd (upd (fun _ => 0) 0 (vp_nar .byte ((((p1 >>> ((56 : Int32).toInt64 &&& 63)) &&& 255).toInt32).toInt8.toInt32))) 1 (vp_nar .byte ((((p1 >>> ((48 : Int32).toInt64 &&& 63)) &&& 255).toInt32).toInt8.toInt32)))))] H := hP
                                                    have hD : va_D A [(h0, .inr (3, [.ref h37, .int 2])), (h37, .inl (zB g, 60, .inl (upd (upd (fun _ => 0) 0 (vp_nar .byte ((((p1 >>> ((56 : Int32).toInt64 &&& 63)) &&& 255).toInt32).toInt8.toInt32))) 1 (vp_nar .byte ((((p1 >>> ((48 : Int32).toInt64 &&& 63)) &&& 255).toInt32).toInt8.toInt32)))))] := hD
                                                    refine lv_iinc (v := 5) (lv' := [(4, .int 5), (5, .int (((p1 >>> ((56 : Int32).toInt64 &&& 63)) &&& 255).toInt32)), (0, .ref h0), (1, .long p1), (3, .int 8)]) hx hb dX3_append_109 hl (k := 0) rfl (by decide) (by decide) rfl (fun ls hl => ?_)
                                                    refine lv_goto (tgt := 78) hx hb dX3_append_112 (by decide) ?_
                                                    refine lv_iload hx hb dX3_append_78 (lv_at hl 0 rfl) ?_
                                                    refine lv_if_lt (tgt := 115) hx hb dX3_append_80 (by decide) (fun h => absurd h (by decide +kernel)) (fun _ => ?_)
                                                    refine lv_aload_n hx hb dX3_append_83 rfl (lv_at hl 2 rfl) ?_
                                                    refine va_get (D := g.1) (ci := 3) (v := .ref h37) (C := RX3) (T := TX3) (N := 2) hx hb hts zl_X3 hown hK hP 0 rfl rfl 0 (by decide) (hts _ m_f_RX3_11) (fun _ h => h) rfl dX3_append_84 ?_
                                                    refine lv_aload_n hx hb dX3_append_87 rfl (lv_at hl 2 rfl) ?_
                                                    refine va_get (D := g.1) (ci := 3) (v := .int 2) (C := RX3) (T := TX3) (N := 2) hx hb hts zl_X3 hown hK hP 0 rfl rfl 1 (by decide) (hts _ m_f_RX3_15) (fun _ h => h) rfl dX3_append_88 ?_
                                                    refine lv_lload_n hx hb dX3_append_91 rfl (lv_at hl 3 rfl) ?_
                                                    refine lv_iload hx hb dX3_append_92 (lv_at hl 0 rfl) ?_
                                                    refine z_calli (wr := [(h0, .inr (3, [.ref h37, .int 2])), (h37, .inl (zB g, 60, .inl (upd (upd (fun _ => 0) 0 (vp_nar .byte ((((p1 >>> ((56 : Int32).toInt64 &&& 63)) &&& 255).toInt32).toInt8.toInt32))) 1 (vp_nar .byte ((((p1 >>> ((48 : Int32).toInt64 &&& 63)) &&& 255).toInt32).toInt8.toInt32)))))]) hP hD hS hA [] [0, 1] (by decide) rfl rfl (by decide) (va_runS (As := [.long p1, .int 5]) (rest := [.int 2, .ref h37]) ⟨hx, hb, hml, hown, hts⟩ (kX3_byteOf_67 l g  H.size p1) ⟨callB_of 2 hts (zGood m_o_yX3_byteOf) rfl rfl rfl (hts _ m_z_RX3) (hts _ m_m_RX3_19) ⟨by decide +kernel, by decide +kernel, by decide +kernel⟩ ⟨Nat.le_of_ble_eq_true rfl, Nat.le_of_ble_eq_true rfl⟩, hts _ m_s_yX3_byteOf⟩ (zPreS hK hN hZ hP hD hS hA [] (by decide) rfl rfl) rfl rfl hl.1 rfl (lv_room (Nat.le_of_ble_eq_true rfl)) dX3_append_94 ⟨Nat.le_of_ble_eq_true rfl, Nat.le_of_ble_eq_true rfl⟩) (fun r u H locs hw hP hD hS => ?_)
                                                    obtain rfl := hw
                                                    have hP : va_P g.1 vwCl [(h0, .inr (3, [.ref h37, .int 2])), (h37, .inl (zB g, 60, .inl (upd (upd (fun _ => 0) 0 (vp_nar .byte ((((p1 >>> ((56 : Int32).toInt64 &&& 63)) &&& 255).toInt32).toInt8.toInt32))) 1 (vp_nar .byte ((((p1 >>> ((48 : Int32).toInt64 &&& 63)) &&& 255).toInt32).toInt8.toInt32)))))] H := hP
                                                    have hD : va_D A [(h0, .inr (3, [.ref h37, .int 2])), (h37, .inl (zB g, 60, .inl (upd (upd (fun _ => 0) 0 (vp_nar .byte ((((p1 >>> ((56 : Int32).toInt64 &&& 63)) &&& 255).toInt32).toInt8.toInt32))) 1 (vp_nar .byte ((((p1 >>> ((48 : Int32).toInt64 &&& 63)) &&& 255).toInt32).toInt8.toInt32)))))] := hD
                                                    refine lv_i2b (v := (((p1 >>> ((40 : Int32).toInt64 &&& 63)) &&& 255).toInt32).toInt8.toInt32) hx hb dX3_append_97 rfl ?_
                                                    refine va_bast (D := g.1) hx hb hK hP hD hS 1 2 rfl rfl (vp_in_iff.mpr (by decide +kernel)) dX3_append_98 (fun H locs hP hD hS => ?_)
                                                    have hP : va_P g.1 vwCl [(h0, .inr (3, [.ref h37, .int 2])), (h37, .inl (zB g, 60, .inl (upd (upd (upd (fun _ => 0) 0 (vp_nar .byte ((((p1 >>> ((56 : Int32).toInt64 &&& 63)) &&& 255).toInt32).toInt8.toInt32))) 1 (vp_nar .byte ((((p1 >>> ((48 : Int32).toInt64 &&& 63)) &&& 255).toInt32).toInt8.toInt32))) 2 (vp_nar .byte ((((p1 >>> ((40 : Int32).toInt64 &&& 63)) &&& 255).toInt32).toInt8.toInt32)))))] H := hP
                                                    have hD : va_D A [(h0, .inr (3, [.ref h37, .int 2])), (h37, .inl (zB g, 60, .inl (upd (upd (upd (fun _ => 0) 0 (vp_nar .byte ((((p1 >>> ((56 : Int32).toInt64 &&& 63)) &&& 255).toInt32).toInt8.toInt32))) 1 (vp_nar .byte ((((p1 >>> ((48 : Int32).toInt64 &&& 63)) &&& 255).toInt32).toInt8.toInt32))) 2 (vp_nar .byte ((((p1 >>> ((40 : Int32).toInt64 &&& 63)) &&& 255).toInt32).toInt8.toInt32)))))] := hD
                                                    refine lv_aload_n hx hb dX3_append_99 rfl (lv_at hl 2 rfl) ?_
                                                    refine lv_dup hx hb dX3_append_100 rfl ?_
                                                    refine va_get (D := g.1) (ci := 3) (v := .int 2) (C := RX3) (T := TX3) (N := 2) hx hb hts zl_X3 hown hK hP 0 rfl rfl 1 (by decide) (hts _ m_f_RX3_15) (fun _ h => h) rfl dX3_append_101 ?_
                                                    refine lv_iconst (v := 1) hx hb dX3_append_104 (by decide) ?_
                                                    refine lv_iadd hx hb dX3_append_105 ?_
                                                    refine lv_topi (nm_r (e' := 3) (by decide +kernel) ?_)
                                                    refine va_put (D := g.1) (ci := 3) (v := .int 3) (ty := .int) (C := RX3) (T := TX3) (N := 2) hx hb hts zl_X3 tyX3 tyX3_ok nmX3 hown hK hP hD hS 0 rfl rfl 1 (by decide) (hts _ m_f_RX3_15) (fun _ h => h) rfl (by decide +kernel) rfl rfl (Nat.le_of_ble_eq_true rfl) dX3_append_106 (fun H locs hP hD hS => ?_)
                                                    have hP : va_P g.1 vwCl [(h0, .inr (3, [.ref h37, .int 3])), (h37, .inl (zB g, 60, .inl (upd (upd (upd (fun _ => 0) 0 (vp_nar .byte ((((p1 >>> ((56 : Int32).toInt64 &&& 63)) &&& 255).toInt32).toInt8.toInt32))) 1 (vp_nar .byte ((((p1 >>> ((48 : Int32).toInt64 &&& 63)) &&& 255).toInt32).toInt8.toInt32))) 2 (vp_nar .byte ((((p1 >>> ((40 : Int32).toInt64 &&& 63)) &&& 255).toInt32).toInt8.toInt32)))))] H := hP
                                                    have hD : va_D A [(h0, .inr (3, [.ref h37, .int 3])), (h37, .inl (zB g, 60, .inl (upd (upd (upd (fun _ => 0) 0 (vp_nar .byte ((((p1 >>> ((56 : Int32).toInt64 &&& 63)) &&& 255).toInt32).toInt8.toInt32))) 1 (vp_nar .byte ((((p1 >>> ((48 : Int32).toInt64 &&& 63)) &&& 255).toInt32).toInt8.toInt32))) 2 (vp_nar .byte ((((p1 >>> ((40 : Int32).toInt64 &&& 63)) &&& 255).toInt32).toInt8.toInt32)))))] := hD
                                                    refine lv_iinc (v := 4) (lv' := [(4, .int 4), (5, .int (((p1 >>> ((56 : Int32).toInt64 &&& 63)) &&& 255).toInt32)), (0, .ref h0), (1, .long p1), (3, .int 8)]) hx hb dX3_append_109 hl (k := 0) rfl (by decide) (by decide) rfl (fun ls hl => ?_)
                                                    refine lv_goto (tgt := 78) hx hb dX3_append_112 (by decide) ?_
                                                    refine lv_iload hx hb dX3_append_78 (lv_at hl 0 rfl) ?_
                                                    refine lv_if_lt (tgt := 115) hx hb dX3_append_80 (by decide) (fun h => absurd h (by decide +kernel)) (fun _ => ?_)
                                                    refine lv_aload_n hx hb dX3_append_83 rfl (lv_at hl 2 rfl) ?_
                                                    refine va_get (D := g.1) (ci := 3) (v := .ref h37) (C := RX3) (T := TX3) (N := 2) hx hb hts zl_X3 hown hK hP 0 rfl rfl 0 (by decide) (hts _ m_f_RX3_11) (fun _ h => h) rfl dX3_append_84 ?_
                                                    refine lv_aload_n hx hb dX3_append_87 rfl (lv_at hl 2 rfl) ?_
                                                    refine va_get (D := g.1) (ci := 3) (v := .int 3) (C := RX3) (T := TX3) (N := 2) hx hb hts zl_X3 hown hK hP 0 rfl rfl 1 (by decide) (hts _ m_f_RX3_15) (fun _ h => h) rfl dX3_append_88 ?_
                                                    refine lv_lload_n hx hb dX3_append_91 rfl (lv_at hl 3 rfl) ?_
                                                    refine lv_iload hx hb dX3_append_92 (lv_at hl 0 rfl) ?_
                                                    refine z_calli (wr := [(h0, .inr (3, [.ref h37, .int 3])), (h37, .inl (zB g, 60, .inl (upd (upd (upd (fun _ => 0) 0 (vp_nar .byte ((((p1 >>> ((56 : Int32).toInt64 &&& 63)) &&& 255).toInt32).toInt8.toInt32))) 1 (vp_nar .byte ((((p1 >>> ((48 : Int32).toInt64 &&& 63)) &&& 255).toInt32).toInt8.toInt32))) 2 (vp_nar .byte ((((p1 >>> ((40 : Int32).toInt64 &&& 63)) &&& 255).toInt32).toInt8.toInt32)))))]) hP hD hS hA [] [0, 1] (by decide) rfl rfl (by decide) (va_runS (As := [.long p1, .int 4]) (rest := [.int 3, .ref h37]) ⟨hx, hb, hml, hown, hts⟩ (kX3_byteOf_68 l g  H.size p1) ⟨callB_of 2 hts (zGood m_o_yX3_byteOf) rfl rfl rfl (hts _ m_z_RX3) (hts _ m_m_RX3_19) ⟨by decide +kernel, by decide +kernel, by decide +kernel⟩ ⟨Nat.le_of_ble_eq_true rfl, Nat.le_of_ble_eq_true rfl⟩, hts _ m_s_yX3_byteOf⟩ (zPreS hK hN hZ hP hD hS hA [] (by decide) rfl rfl) rfl rfl hl.1 rfl (lv_room (Nat.le_of_ble_eq_true rfl)) dX3_append_94 ⟨Nat.le_of_ble_eq_true rfl, Nat.le_of_ble_eq_true rfl⟩) (fun r u H locs hw hP hD hS => ?_)
                                                    obtain rfl := hw
                                                    have hP : va_P g.1 vwCl [(h0, .inr (3, [.ref h37, .int 3])), (h37, .inl (zB g, 60, .inl (upd (upd (upd (fun _ => 0) 0 (vp_nar .byte ((((p1 >>> ((56 : Int32).toInt64 &&& 63)) &&& 255).toInt32).toInt8.toInt32))) 1 (vp_nar .byte ((((p1 >>> ((48 : Int32).toInt64 &&& 63)) &&& 255).toInt32).toInt8.toInt32))) 2 (vp_nar .byte ((((p1 >>> ((40 : Int32).toInt64 &&& 63)) &&& 255).toInt32).toInt8.toInt32)))))] H := hP
                                                    have hD : va_D A [(h0, .inr (3, [.ref h37, .int 3])), (h37, .inl (zB g, 60, .inl (upd (upd (upd (fun _ => 0) 0 (vp_nar .byte ((((p1 >>> ((56 : Int32).toInt64 &&& 63)) &&& 255).toInt32).toInt8.toInt32))) 1 (vp_nar .byte ((((p1 >>> ((48 : Int32).toInt64 &&& 63)) &&& 255).toInt32).toInt8.toInt32))) 2 (vp_nar .byte ((((p1 >>> ((40 : Int32).toInt64 &&& 63)) &&& 255).toInt32).toInt8.toInt32)))))] := hD
                                                    refine lv_i2b (v := (((p1 >>> ((32 : Int32).toInt64 &&& 63)) &&& 255).toInt32).toInt8.toInt32) hx hb dX3_append_97 rfl ?_
                                                    refine va_bast (D := g.1) hx hb hK hP hD hS 1 2 rfl rfl (vp_in_iff.mpr (by decide +kernel)) dX3_append_98 (fun H locs hP hD hS => ?_)
                                                    have hP : va_P g.1 vwCl [(h0, .inr (3, [.ref h37, .int 3])), (h37, .inl (zB g, 60, .inl (upd (upd (upd (upd (fun _ => 0) 0 (vp_nar .byte ((((p1 >>> ((56 : Int32).toInt64 &&& 63)) &&& 255).toInt32).toInt8.toInt32))) 1 (vp_nar .byte ((((p1 >>> ((48 : Int32).toInt64 &&& 63)) &&& 255).toInt32).toInt8.toInt32))) 2 (vp_nar .byte ((((p1 >>> ((40 : Int32).toInt64 &&& 63)) &&& 255).toInt32).toInt8.toInt32))) 3 (vp_nar .byte ((((p1 >>> ((32 : Int32).toInt64 &&& 63)) &&& 255).toInt32).toInt8.toInt32)))))] H := hP
                                                    have hD : va_D A [(h0, .inr (3, [.ref h37, .int 3])), (h37, .inl (zB g, 60, .inl (upd (upd (upd (upd (fun _ => 0) 0 (vp_nar .byte ((((p1 >>> ((56 : Int32).toInt64 &&& 63)) &&& 255).toInt32).toInt8.toInt32))) 1 (vp_nar .byte ((((p1 >>> ((48 : Int32).toInt64 &&& 63)) &&& 255).toInt32).toInt8.toInt32))) 2 (vp_nar .byte ((((p1 >>> ((40 : Int32).toInt64 &&& 63)) &&& 255).toInt32).toInt8.toInt32))) 3 (vp_nar .byte ((((p1 >>> ((32 : Int32).toInt64 &&& 63)) &&& 255).toInt32).toInt8.toInt32)))))] := hD
                                                    refine lv_aload_n hx hb dX3_append_99 rfl (lv_at hl 2 rfl) ?_
                                                    refine lv_dup hx hb dX3_append_100 rfl ?_
                                                    refine va_get (D := g.1) (ci := 3) (v := .int 3) (C := RX3) (T := TX3) (N := 2) hx hb hts zl_X3 hown hK hP 0 rfl rfl 1 (by decide) (hts _ m_f_RX3_15) (fun _ h => h) rfl dX3_append_101 ?_
                                                    refine lv_iconst (v := 1) hx hb dX3_append_104 (by decide) ?_
                                                    refine lv_iadd hx hb dX3_append_105 ?_
                                                    refine lv_topi (nm_r (e' := 4) (by decide +kernel) ?_)
                                                    refine va_put (D := g.1) (ci := 3) (v := .int 4) (ty := .int) (C := RX3) (T := TX3) (N := 2) hx hb hts zl_X3 tyX3 tyX3_ok nmX3 hown hK hP hD hS 0 rfl rfl 1 (by decide) (hts _ m_f_RX3_15) (fun _ h => h) rfl (by decide +kernel) rfl rfl (Nat.le_of_ble_eq_true rfl) dX3_append_106 (fun H locs hP hD hS => ?_)
                                                    have hP : va_P g.1 vwCl [(h0, .inr (3, [.ref h37, .int 4])), (h37, .inl (zB g, 60, .inl (upd (upd (upd (upd (fun _ => 0) 0 (vp_nar .byte ((((p1 >>> ((56 : Int32).toInt64 &&& 63)) &&& 255).toInt32).toInt8.toInt32))) 1 (vp_nar .byte ((((p1 >>> ((48 : Int32).toInt64 &&& 63)) &&& 255).toInt32).toInt8.toInt32))) 2 (vp_nar .byte ((((p1 >>> ((40 : Int32).toInt64 &&& 63)) &&& 255).toInt32).toInt8.toInt32))) 3 (vp_nar .byte ((((p1 >>> ((32 : Int32).toInt64 &&& 63)) &&& 255).toInt32).toInt8.toInt32)))))] H := hP
                                                    have hD : va_D A [(h0, .inr (3, [.ref h37, .int 4])), (h37, .inl (zB g, 60, .inl (upd (upd (upd (upd (fun _ => 0) 0 (vp_nar .byte ((((p1 >>> ((56 : Int32).toInt64 &&& 63)) &&& 255).toInt32).toInt8.toInt32))) 1 (vp_nar .byte ((((p1 >>> ((48 : Int32).toInt64 &&& 63)) &&& 255).toInt32).toInt8.toInt32))) 2 (vp_nar .byte ((((p1 >>> ((40 : Int32).toInt64 &&& 63)) &&& 255).toInt32).toInt8.toInt32))) 3 (vp_nar .byte ((((p1 >>> ((32 : Int32).toInt64 &&& 63)) &&& 255).toInt32).toInt8.toInt32)))))] := hD
                                                    refine lv_iinc (v := 3) (lv' := [(4, .int 3), (5, .int (((p1 >>> ((56 : Int32).toInt64 &&& 63)) &&& 255).toInt32)), (0, .ref h0), (1, .long p1), (3, .int 8)]) hx hb dX3_append_109 hl (k := 0) rfl (by decide) (by decide) rfl (fun ls hl => ?_)
                                                    refine lv_goto (tgt := 78) hx hb dX3_append_112 (by decide) ?_
                                                    refine lv_iload hx hb dX3_append_78 (lv_at hl 0 rfl) ?_
                                                    refine lv_if_lt (tgt := 115) hx hb dX3_append_80 (by decide) (fun h => absurd h (by decide +kernel)) (fun _ => ?_)
                                                    refine lv_aload_n hx hb dX3_append_83 rfl (lv_at hl 2 rfl) ?_
                                                    refine va_get (D := g.1) (ci := 3) (v := .ref h37) (C := RX3) (T := TX3) (N := 2) hx hb hts zl_X3 hown hK hP 0 rfl rfl 0 (by decide) (hts _ m_f_RX3_11) (fun _ h => h) rfl dX3_append_84 ?_
                                                    refine lv_aload_n hx hb dX3_append_87 rfl (lv_at hl 2 rfl) ?_
                                                    refine va_get (D := g.1) (ci := 3) (v := .int 4) (C := RX3) (T := TX3) (N := 2) hx hb hts zl_X3 hown hK hP 0 rfl rfl 1 (by decide) (hts _ m_f_RX3_15) (fun _ h => h) rfl dX3_append_88 ?_
                                                    refine lv_lload_n hx hb dX3_append_91 rfl (lv_at hl 3 rfl) ?_
                                                    refine lv_iload hx hb dX3_append_92 (lv_at hl 0 rfl) ?_
                                                    refine z_calli (wr := [(h0, .inr (3, [.ref h37, .int 4])), (h37, .inl (zB g, 60, .inl (upd (upd (upd (upd (fun _ => 0) 0 (vp_nar .byte ((((p1 >>> ((56 : Int32).toInt64 &&& 63)) &&& 255).toInt32).toInt8.toInt32))) 1 (vp_nar .byte ((((p1 >>> ((48 : Int32).toInt64 &&& 63)) &&& 255).toInt32).toInt8.toInt32))) 2 (vp_nar .byte ((((p1 >>> ((40 : Int32).toInt64 &&& 63)) &&& 255).toInt32).toInt8.toInt32))) 3 (vp_nar .byte ((((p1 >>> ((32 : Int32).toInt64 &&& 63)) &&& 255).toInt32).toInt8.toInt32)))))]) hP hD hS hA [] [0, 1] (by decide) rfl rfl (by decide) (va_runS (As := [.long p1, .int 3]) (rest := [.int 4, .ref h37]) ⟨hx, hb, hml, hown, hts⟩ (kX3_byteOf_69 l g  H.size p1) ⟨callB_of 2 hts (zGood m_o_yX3_byteOf) rfl rfl rfl (hts _ m_z_RX3) (hts _ m_m_RX3_19) ⟨by decide +kernel, by decide +kernel, by decide +kernel⟩ ⟨Nat.le_of_ble_eq_true rfl, Nat.le_of_ble_eq_true rfl⟩, hts _ m_s_yX3_byteOf⟩ (zPreS hK hN hZ hP hD hS hA [] (by decide) rfl rfl) rfl rfl hl.1 rfl (lv_room (Nat.le_of_ble_eq_true rfl)) dX3_append_94 ⟨Nat.le_of_ble_eq_true rfl, Nat.le_of_ble_eq_true rfl⟩) (fun r u H locs hw hP hD hS => ?_)
                                                    obtain rfl := hw
                                                    have hP : va_P g.1 vwCl [(h0, .inr (3, [.ref h37, .int 4])), (h37, .inl (zB g, 60, .inl (upd (upd (upd (upd (fun _ => 0) 0 (vp_nar .byte ((((p1 >>> ((56 : Int32).toInt64 &&& 63)) &&& 255).toInt32).toInt8.toInt32))) 1 (vp_nar .byte ((((p1 >>> ((48 : Int32).toInt64 &&& 63)) &&& 255).toInt32).toInt8.toInt32))) 2 (vp_nar .byte ((((p1 >>> ((40 : Int32).toInt64 &&& 63)) &&& 255).toInt32).toInt8.toInt32))) 3 (vp_nar .byte ((((p1 >>> ((32 : Int32).toInt64 &&& 63)) &&& 255).toInt32).toInt8.toInt32)))))] H := hP
                                                    have hD : va_D A [(h0, .inr (3, [.ref h37, .int 4])), (h37, .inl (zB g, 60, .inl (upd (upd (upd (upd (fun _ => 0) 0 (vp_nar .byte ((((p1 >>> ((56 : Int32).toInt64 &&& 63)) &&& 255).toInt32).toInt8.toInt32))) 1 (vp_nar .byte ((((p1 >>> ((48 : Int32).toInt64 &&& 63)) &&& 255).toInt32).toInt8.toInt32))) 2 (vp_nar .byte ((((p1 >>> ((40 : Int32).toInt64 &&& 63)) &&& 255).toInt32).toInt8.toInt32))) 3 (vp_nar .byte ((((p1 >>> ((32 : Int32).toInt64 &&& 63)) &&& 255).toInt32).toInt8.toInt32)))))] := hD
                                                    refine lv_i2b (v := (((p1 >>> ((24 : Int32).toInt64 &&& 63)) &&& 255).toInt32).toInt8.toInt32) hx hb dX3_append_97 rfl ?_
                                                    refine va_bast (D := g.1) hx hb hK hP hD hS 1 2 rfl rfl (vp_in_iff.mpr (by decide +kernel)) dX3_append_98 (fun H locs hP hD hS => ?_)
                                                    have hP : va_P g.1 vwCl [(h0, .inr (3, [.ref h37, .int 4])), (h37, .inl (zB g, 60, .inl (upd (upd (upd (upd (upd (fun _ => 0) 0 (vp_nar .byte ((((p1 >>> ((56 : Int32).toInt64 &&& 63)) &&& 255).toInt32).toInt8.toInt32))) 1 (vp_nar .byte ((((p1 >>> ((48 : Int32).toInt64 &&& 63)) &&& 255).toInt32).toInt8.toInt32))) 2 (vp_nar .byte ((((p1 >>> ((40 : Int32).toInt64 &&& 63)) &&& 255).toInt32).toInt8.toInt32))) 3 (vp_nar .byte ((((p1 >>> ((32 : Int32).toInt64 &&& 63)) &&& 255).toInt32).toInt8.toInt32))) 4 (vp_nar .byte ((((p1 >>> ((24 : Int32).toInt64 &&& 63)) &&& 255).toInt32).toInt8.toInt32)))))] H := hP
                                                    have hD : va_D A [(h0, .inr (3, [.ref h37, .int 4])), (h37, .inl (zB g, 60, .inl (upd (upd (upd (upd (upd (fun _ => 0) 0 (vp_nar .byte ((((p1 >>> ((56 : Int32).toInt64 &&& 63)) &&& 255).toInt32).toInt8.toInt32))) 1 (vp_nar .byte ((((p1 >>> ((48 : Int32).toInt64 &&& 63)) &&& 255).toInt32).toInt8.toInt32))) 2 (vp_nar .byte ((((p1 >>> ((40 : Int32).toInt64 &&& 63)) &&& 255).toInt32).toInt8.toInt32))) 3 (vp_nar .byte ((((p1 >>> ((32 : Int32).toInt64 &&& 63)) &&& 255).toInt32).toInt8.toInt32))) 4 (vp_nar .byte ((((p1 >>> ((24 : Int32).toInt64 &&& 63)) &&& 255).toInt32).toInt8.toInt32)))))] := hD
                                                    refine lv_aload_n hx hb dX3_append_99 rfl (lv_at hl 2 rfl) ?_
                                                    refine lv_dup hx hb dX3_append_100 rfl ?_
                                                    refine va_get (D := g.1) (ci := 3) (v := .int 4) (C := RX3) (T := TX3) (N := 2) hx hb hts zl_X3 hown hK hP 0 rfl rfl 1 (by decide) (hts _ m_f_RX3_15) (fun _ h => h) rfl dX3_append_101 ?_
                                                    refine lv_iconst (v := 1) hx hb dX3_append_104 (by decide) ?_
                                                    refine lv_iadd hx hb dX3_append_105 ?_
                                                    refine lv_topi (nm_r (e' := 5) (by decide +kernel) ?_)
                                                    refine va_put (D := g.1) (ci := 3) (v := .int 5) (ty := .int) (C := RX3) (T := TX3) (N := 2) hx hb hts zl_X3 tyX3 tyX3_ok nmX3 hown hK hP hD hS 0 rfl rfl 1 (by decide) (hts _ m_f_RX3_15) (fun _ h => h) rfl (by decide +kernel) rfl rfl (Nat.le_of_ble_eq_true rfl) dX3_append_106 (fun H locs hP hD hS => ?_)
                                                    have hP : va_P g.1 vwCl [(h0, .inr (3, [.ref h37, .int 5])), (h37, .inl (zB g, 60, .inl (upd (upd (upd (upd (upd (fun _ => 0) 0 (vp_nar .byte ((((p1 >>> ((56 : Int32).toInt64 &&& 63)) &&& 255).toInt32).toInt8.toInt32))) 1 (vp_nar .byte ((((p1 >>> ((48 : Int32).toInt64 &&& 63)) &&& 255).toInt32).toInt8.toInt32))) 2 (vp_nar .byte ((((p1 >>> ((40 : Int32).toInt64 &&& 63)) &&& 255).toInt32).toInt8.toInt32))) 3 (vp_nar .byte ((((p1 >>> ((32 : Int32).toInt64 &&& 63)) &&& 255).toInt32).toInt8.toInt32))) 4 (vp_nar .byte ((((p1 >>> ((24 : Int32).toInt64 &&& 63)) &&& 255).toInt32).toInt8.toInt32)))))] H := hP
                                                    have hD : va_D A [(h0, .inr (3, [.ref h37, .int 5])), (h37, .inl (zB g, 60, .inl (upd (upd (upd (upd (upd (fun _ => 0) 0 (vp_nar .byte ((((p1 >>> ((56 : Int32).toInt64 &&& 63)) &&& 255).toInt32).toInt8.toInt32))) 1 (vp_nar .byte ((((p1 >>> ((48 : Int32).toInt64 &&& 63)) &&& 255).toInt32).toInt8.toInt32))) 2 (vp_nar .byte ((((p1 >>> ((40 : Int32).toInt64 &&& 63)) &&& 255).toInt32).toInt8.toInt32))) 3 (vp_nar .byte ((((p1 >>> ((32 : Int32).toInt64 &&& 63)) &&& 255).toInt32).toInt8.toInt32))) 4 (vp_nar .byte ((((p1 >>> ((24 : Int32).toInt64 &&& 63)) &&& 255).toInt32).toInt8.toInt32)))))] := hD
                                                    refine lv_iinc (v := 2) (lv' := [(4, .int 2), (5, .int (((p1 >>> ((56 : Int32).toInt64 &&& 63)) &&& 255).toInt32)), (0, .ref h0), (1, .long p1), (3, .int 8)]) hx hb dX3_append_109 hl (k := 0) rfl (by decide) (by decide) rfl (fun ls hl => ?_)
                                                    refine lv_goto (tgt := 78) hx hb dX3_append_112 (by decide) ?_
                                                    refine lv_iload hx hb dX3_append_78 (lv_at hl 0 rfl) ?_
                                                    refine lv_if_lt (tgt := 115) hx hb dX3_append_80 (by decide) (fun h => absurd h (by decide +kernel)) (fun _ => ?_)
                                                    refine lv_aload_n hx hb dX3_append_83 rfl (lv_at hl 2 rfl) ?_
                                                    refine va_get (D := g.1) (ci := 3) (v := .ref h37) (C := RX3) (T := TX3) (N := 2) hx hb hts zl_X3 hown hK hP 0 rfl rfl 0 (by decide) (hts _ m_f_RX3_11) (fun _ h => h) rfl dX3_append_84 ?_
                                                    refine lv_aload_n hx hb dX3_append_87 rfl (lv_at hl 2 rfl) ?_
                                                    refine va_get (D := g.1) (ci := 3) (v := .int 5) (C := RX3) (T := TX3) (N := 2) hx hb hts zl_X3 hown hK hP 0 rfl rfl 1 (by decide) (hts _ m_f_RX3_15) (fun _ h => h) rfl dX3_append_88 ?_
                                                    refine lv_lload_n hx hb dX3_append_91 rfl (lv_at hl 3 rfl) ?_
                                                    refine lv_iload hx hb dX3_append_92 (lv_at hl 0 rfl) ?_
                                                    refine z_calli (wr := [(h0, .inr (3, [.ref h37, .int 5])), (h37, .inl (zB g, 60, .inl (upd (upd (upd (upd (upd (fun _ => 0) 0 (vp_nar .byte ((((p1 >>> ((56 : Int32).toInt64 &&& 63)) &&& 255).toInt32).toInt8.toInt32))) 1 (vp_nar .byte ((((p1 >>> ((48 : Int32).toInt64 &&& 63)) &&& 255).toInt32).toInt8.toInt32))) 2 (vp_nar .byte ((((p1 >>> ((40 : Int32).toInt64 &&& 63)) &&& 255).toInt32).toInt8.toInt32))) 3 (vp_nar .byte ((((p1 >>> ((32 : Int32).toInt64 &&& 63)) &&& 255).toInt32).toInt8.toInt32))) 4 (vp_nar .byte ((((p1 >>> ((24 : Int32).toInt64 &&& 63)) &&& 255).toInt32).toInt8.toInt32)))))]) hP hD hS hA [] [0, 1] (by decide) rfl rfl (by decide) (va_runS (As := [.long p1, .int 2]) (rest := [.int 5, .ref h37]) ⟨hx, hb, hml, hown, hts⟩ (kX3_byteOf_70 l g  H.size p1) ⟨callB_of 2 hts (zGood m_o_yX3_byteOf) rfl rfl rfl (hts _ m_z_RX3) (hts _ m_m_RX3_19) ⟨by decide +kernel, by decide +kernel, by decide +kernel⟩ ⟨Nat.le_of_ble_eq_true rfl, Nat.le_of_ble_eq_true rfl⟩, hts _ m_s_yX3_byteOf⟩ (zPreS hK hN hZ hP hD hS hA [] (by decide) rfl rfl) rfl rfl hl.1 rfl (lv_room (Nat.le_of_ble_eq_true rfl)) dX3_append_94 ⟨Nat.le_of_ble_eq_true rfl, Nat.le_of_ble_eq_true rfl⟩) (fun r u H locs hw hP hD hS => ?_)
                                                    obtain rfl := hw
                                                    have hP : va_P g.1 vwCl [(h0, .inr (3, [.ref h37, .int 5])), (h37, .inl (zB g, 60, .inl (upd (upd (upd (upd (upd (fun _ => 0) 0 (vp_nar .byte ((((p1 >>> ((56 : Int32).toInt64 &&& 63)) &&& 255).toInt32).toInt8.toInt32))) 1 (vp_nar .byte ((((p1 >>> ((48 : Int32).toInt64 &&& 63)) &&& 255).toInt32).toInt8.toInt32))) 2 (vp_nar .byte ((((p1 >>> ((40 : Int32).toInt64 &&& 63)) &&& 255).toInt32).toInt8.toInt32))) 3 (vp_nar .byte ((((p1 >>> ((32 : Int32).toInt64 &&& 63)) &&& 255).toInt32).toInt8.toInt32))) 4 (vp_nar .byte ((((p1 >>> ((24 : Int32).toInt64 &&& 63)) &&& 255).toInt32).toInt8.toInt32)))))] H := hP
                                                    have hD : va_D A [(h0, .inr (3, [.ref h37, .int 5])), (h37, .inl (zB g, 60, .inl (upd (upd (upd (upd (upd (fun _ => 0) 0 (vp_nar .byte ((((p1 >>> ((56 : Int32).toInt64 &&& 63)) &&& 255).toInt32).toInt8.toInt32))) 1 (vp_nar .byte ((((p1 >>> ((48 : Int32).toInt64 &&& 63)) &&& 255).toInt32).toInt8.toInt32))) 2 (vp_nar .byte ((((p1 >>> ((40 : Int32).toInt64 &&& 63)) &&& 255).toInt32).toInt8.toInt32))) 3 (vp_nar .byte ((((p1 >>> ((32 : Int32).toInt64 &&& 63)) &&& 255).toInt32).toInt8.toInt32))) 4 (vp_nar .byte ((((p1 >>> ((24 : Int32).toInt64 &&& 63)) &&& 255).toInt32).toInt8.toInt32)))))] := hD
                                                    refine lv_i2b (v := (((p1 >>> ((16 : Int32).toInt64 &&& 63)) &&& 255).toInt32).toInt8.toInt32) hx hb dX3_append_97 rfl ?_
                                                    refine va_bast (D := g.1) hx hb hK hP hD hS 1 2 rfl rfl (vp_in_iff.mpr (by decide +kernel)) dX3_append_98 (fun H locs hP hD hS => ?_)
                                                    have hP : va_P g.1 vwCl [(h0, .inr (3, [.ref h37, .int 5])), (h37, .inl (zB g, 60, .inl (upd (upd (upd (upd (upd (upd (fun _ => 0) 0 (vp_nar .byte ((((p1 >>> ((56 : Int32).toInt64 &&& 63)) &&& 255).toInt32).toInt8.toInt32))) 1 (vp_nar .byte ((((p1 >>> ((48 : Int32).toInt64 &&& 63)) &&& 255).toInt32).toInt8.toInt32))) 2 (vp_nar .byte ((((p1 >>> ((40 : Int32).toInt64 &&& 63)) &&& 255).toInt32).toInt8.toInt32))) 3 (vp_nar .byte ((((p1 >>> ((32 : Int32).toInt64 &&& 63)) &&& 255).toInt32).toInt8.toInt32))) 4 (vp_nar .byte ((((p1 >>> ((24 : Int32).toInt64 &&& 63)) &&& 255).toInt32).toInt8.toInt32))) 5 (vp_nar .byte ((((p1 >>> ((16 : Int32).toInt64 &&& 63)) &&& 255).toInt32).toInt8.toInt32)))))] H := hP
                                                    have hD : va_D A [(h0, .inr (3, [.ref h37, .int 5])), (h37, .inl (zB g, 60, .inl (upd (upd (upd (upd (upd (upd (fun _ => 0) 0 (vp_nar .byte ((((p1 >>> ((56 : Int32).toInt64 &&& 63)) &&& 255).toInt32).toInt8.toInt32))) 1 (vp_nar .byte ((((p1 >>> ((48 : Int32).toInt64 &&& 63)) &&& 255).toInt32).toInt8.toInt32))) 2 (vp_nar .byte ((((p1 >>> ((40 : Int32).toInt64 &&& 63)) &&& 255).toInt32).toInt8.toInt32))) 3 (vp_nar .byte ((((p1 >>> ((32 : Int32).toInt64 &&& 63)) &&& 255).toInt32).toInt8.toInt32))) 4 (vp_nar .byte ((((p1 >>> ((24 : Int32).toInt64 &&& 63)) &&& 255).toInt32).toInt8.toInt32))) 5 (vp_nar .byte ((((p1 >>> ((16 : Int32).toInt64 &&& 63)) &&& 255).toInt32).toInt8.toInt32)))))] := hD
                                                    refine lv_aload_n hx hb dX3_append_99 rfl (lv_at hl 2 rfl) ?_
                                                    refine lv_dup hx hb dX3_append_100 rfl ?_
                                                    refine va_get (D := g.1) (ci := 3) (v := .int 5) (C := RX3) (T := TX3) (N := 2) hx hb hts zl_X3 hown hK hP 0 rfl rfl 1 (by decide) (hts _ m_f_RX3_15) (fun _ h => h) rfl dX3_append_101 ?_
                                                    refine lv_iconst (v := 1) hx hb dX3_append_104 (by decide) ?_
                                                    refine lv_iadd hx hb dX3_append_105 ?_
                                                    refine lv_topi (nm_r (e' := 6) (by decide +kernel) ?_)
                                                    refine va_put (D := g.1) (ci := 3) (v := .int 6) (ty := .int) (C := RX3) (T := TX3) (N := 2) hx hb hts zl_X3 tyX3 tyX3_ok nmX3 hown hK hP hD hS 0 rfl rfl 1 (by decide) (hts _ m_f_RX3_15) (fun _ h => h) rfl (by decide +kernel) rfl rfl (Nat.le_of_ble_eq_true rfl) dX3_append_106 (fun H locs hP hD hS => ?_)
                                                    have hP : va_P g.1 vwCl [(h0, .inr (3, [.ref h37, .int 6])), (h37, .inl (zB g, 60, .inl (upd (upd (upd (upd (upd (upd (fun _ => 0) 0 (vp_nar .byte ((((p1 >>> ((56 : Int32).toInt64 &&& 63)) &&& 255).toInt32).toInt8.toInt32))) 1 (vp_nar .byte ((((p1 >>> ((48 : Int32).toInt64 &&& 63)) &&& 255).toInt32).toInt8.toInt32))) 2 (vp_nar .byte ((((p1 >>> ((40 : Int32).toInt64 &&& 63)) &&& 255).toInt32).toInt8.toInt32))) 3 (vp_nar .byte ((((p1 >>> ((32 : Int32).toInt64 &&& 63)) &&& 255).toInt32).toInt8.toInt32))) 4 (vp_nar .byte ((((p1 >>> ((24 : Int32).toInt64 &&& 63)) &&& 255).toInt32).toInt8.toInt32))) 5 (vp_nar .byte ((((p1 >>> ((16 : Int32).toInt64 &&& 63)) &&& 255).toInt32).toInt8.toInt32)))))] H := hP
                                                    have hD : va_D A [(h0, .inr (3, [.ref h37, .int 6])), (h37, .inl (zB g, 60, .inl (upd (upd (upd (upd (upd (upd (fun _ => 0) 0 (vp_nar .byte ((((p1 >>> ((56 : Int32).toInt64 &&& 63)) &&& 255).toInt32).toInt8.toInt32))) 1 (vp_nar .byte ((((p1 >>> ((48 : Int32).toInt64 &&& 63)) &&& 255).toInt32).toInt8.toInt32))) 2 (vp_nar .byte ((((p1 >>> ((40 : Int32).toInt64 &&& 63)) &&& 255).toInt32).toInt8.toInt32))) 3 (vp_nar .byte ((((p1 >>> ((32 : Int32).toInt64 &&& 63)) &&& 255).toInt32).toInt8.toInt32))) 4 (vp_nar .byte ((((p1 >>> ((24 : Int32).toInt64 &&& 63)) &&& 255).toInt32).toInt8.toInt32))) 5 (vp_nar .byte ((((p1 >>> ((16 : Int32).toInt64 &&& 63)) &&& 255).toInt32).toInt8.toInt32)))))] := hD
                                                    refine lv_iinc (v := 1) (lv' := [(4, .int 1), (5, .int (((p1 >>> ((56 : Int32).toInt64 &&& 63)) &&& 255).toInt32)), (0, .ref h0), (1, .long p1), (3, .int 8)]) hx hb dX3_append_109 hl (k := 0) rfl (by decide) (by decide) rfl (fun ls hl => ?_)
                                                    refine lv_goto (tgt := 78) hx hb dX3_append_112 (by decide) ?_
                                                    refine lv_iload hx hb dX3_append_78 (lv_at hl 0 rfl) ?_
                                                    refine lv_if_lt (tgt := 115) hx hb dX3_append_80 (by decide) (fun h => absurd h (by decide +kernel)) (fun _ => ?_)
                                                    refine lv_aload_n hx hb dX3_append_83 rfl (lv_at hl 2 rfl) ?_
                                                    refine va_get (D := g.1) (ci := 3) (v := .ref h37) (C := RX3) (T := TX3) (N := 2) hx hb hts zl_X3 hown hK hP 0 rfl rfl 0 (by decide) (hts _ m_f_RX3_11) (fun _ h => h) rfl dX3_append_84 ?_
                                                    refine lv_aload_n hx hb dX3_append_87 rfl (lv_at hl 2 rfl) ?_
                                                    refine va_get (D := g.1) (ci := 3) (v := .int 6) (C := RX3) (T := TX3) (N := 2) hx hb hts zl_X3 hown hK hP 0 rfl rfl 1 (by decide) (hts _ m_f_RX3_15) (fun _ h => h) rfl dX3_append_88 ?_
                                                    refine lv_lload_n hx hb dX3_append_91 rfl (lv_at hl 3 rfl) ?_
                                                    refine lv_iload hx hb dX3_append_92 (lv_at hl 0 rfl) ?_
                                                    refine z_calli (wr := [(h0, .inr (3, [.ref h37, .int 6])), (h37, .inl (zB g, 60, .inl (upd (upd (upd (upd (upd (upd (fun _ => 0) 0 (vp_nar .byte ((((p1 >>> ((56 : Int32).toInt64 &&& 63)) &&& 255).toInt32).toInt8.toInt32))) 1 (vp_nar .byte ((((p1 >>> ((48 : Int32).toInt64 &&& 63)) &&& 255).toInt32).toInt8.toInt32))) 2 (vp_nar .byte ((((p1 >>> ((40 : Int32).toInt64 &&& 63)) &&& 255).toInt32).toInt8.toInt32))) 3 (vp_nar .byte ((((p1 >>> ((32 : Int32).toInt64 &&& 63)) &&& 255).toInt32).toInt8.toInt32))) 4 (vp_nar .byte ((((p1 >>> ((24 : Int32).toInt64 &&& 63)) &&& 255).toInt32).toInt8.toInt32))) 5 (vp_nar .byte ((((p1 >>> ((16 : Int32).toInt64 &&& 63)) &&& 255).toInt32).toInt8.toInt32)))))]) hP hD hS hA [] [0, 1] (by decide) rfl rfl (by decide) (va_runS (As := [.long p1, .int 1]) (rest := [.int 6, .ref h37]) ⟨hx, hb, hml, hown, hts⟩ (kX3_byteOf_71 l g  H.size p1) ⟨callB_of 2 hts (zGood m_o_yX3_byteOf) rfl rfl rfl (hts _ m_z_RX3) (hts _ m_m_RX3_19) ⟨by decide +kernel, by decide +kernel, by decide +kernel⟩ ⟨Nat.le_of_ble_eq_true rfl, Nat.le_of_ble_eq_true rfl⟩, hts _ m_s_yX3_byteOf⟩ (zPreS hK hN hZ hP hD hS hA [] (by decide) rfl rfl) rfl rfl hl.1 rfl (lv_room (Nat.le_of_ble_eq_true rfl)) dX3_append_94 ⟨Nat.le_of_ble_eq_true rfl, Nat.le_of_ble_eq_true rfl⟩) (fun r u H locs hw hP hD hS => ?_)
                                                    obtain rfl := hw
                                                    have hP : va_P g.1 vwCl [(h0, .inr (3, [.ref h37, .int 6])), (h37, .inl (zB g, 60, .inl (upd (upd (upd (upd (upd (upd (fun _ => 0) 0 (vp_nar .byte ((((p1 >>> ((56 : Int32).toInt64 &&& 63)) &&& 255).toInt32).toInt8.toInt32))) 1 (vp_nar .byte ((((p1 >>> ((48 : Int32).toInt64 &&& 63)) &&& 255).toInt32).toInt8.toInt32))) 2 (vp_nar .byte ((((p1 >>> ((40 : Int32).toInt64 &&& 63)) &&& 255).toInt32).toInt8.toInt32))) 3 (vp_nar .byte ((((p1 >>> ((32 : Int32).toInt64 &&& 63)) &&& 255).toInt32).toInt8.toInt32))) 4 (vp_nar .byte ((((p1 >>> ((24 : Int32).toInt64 &&& 63)) &&& 255).toInt32).toInt8.toInt32))) 5 (vp_nar .byte ((((p1 >>> ((16 : Int32).toInt64 &&& 63)) &&& 255).toInt32).toInt8.toInt32)))))] H := hP
                                                    have hD : va_D A [(h0, .inr (3, [.ref h37, .int 6])), (h37, .inl (zB g, 60, .inl (upd (upd (upd (upd (upd (upd (fun _ => 0) 0 (vp_nar .byte ((((p1 >>> ((56 : Int32).toInt64 &&& 63)) &&& 255).toInt32).toInt8.toInt32))) 1 (vp_nar .byte ((((p1 >>> ((48 : Int32).toInt64 &&& 63)) &&& 255).toInt32).toInt8.toInt32))) 2 (vp_nar .byte ((((p1 >>> ((40 : Int32).toInt64 &&& 63)) &&& 255).toInt32).toInt8.toInt32))) 3 (vp_nar .byte ((((p1 >>> ((32 : Int32).toInt64 &&& 63)) &&& 255).toInt32).toInt8.toInt32))) 4 (vp_nar .byte ((((p1 >>> ((24 : Int32).toInt64 &&& 63)) &&& 255).toInt32).toInt8.toInt32))) 5 (vp_nar .byte ((((p1 >>> ((16 : Int32).toInt64 &&& 63)) &&& 255).toInt32).toInt8.toInt32)))))] := hD
                                                    refine lv_i2b (v := (((p1 >>> ((8 : Int32).toInt64 &&& 63)) &&& 255).toInt32).toInt8.toInt32) hx hb dX3_append_97 rfl ?_
                                                    refine va_bast (D := g.1) hx hb hK hP hD hS 1 2 rfl rfl (vp_in_iff.mpr (by decide +kernel)) dX3_append_98 (fun H locs hP hD hS => ?_)
                                                    have hP : va_P g.1 vwCl [(h0, .inr (3, [.ref h37, .int 6])), (h37, .inl (zB g, 60, .inl (upd (upd (upd (upd (upd (upd (upd (fun _ => 0) 0 (vp_nar .byte ((((p1 >>> ((56 : Int32).toInt64 &&& 63)) &&& 255).toInt32).toInt8.toInt32))) 1 (vp_nar .byte ((((p1 >>> ((48 : Int32).toInt64 &&& 63)) &&& 255).toInt32).toInt8.toInt32))) 2 (vp_nar .byte ((((p1 >>> ((40 : Int32).toInt64 &&& 63)) &&& 255).toInt32).toInt8.toInt32))) 3 (vp_nar .byte ((((p1 >>> ((32 : Int32).toInt64 &&& 63)) &&& 255).toInt32).toInt8.toInt32))) 4 (vp_nar .byte ((((p1 >>> ((24 : Int32).toInt64 &&& 63)) &&& 255).toInt32).toInt8.toInt32))) 5 (vp_nar .byte ((((p1 >>> ((16 : Int32).toInt64 &&& 63)) &&& 255).toInt32).toInt8.toInt32))) 6 (vp_nar .byte ((((p1 >>> ((8 : Int32).toInt64 &&& 63)) &&& 255).toInt32).toInt8.toInt32)))))] H := hP
                                                    have hD : va_D A [(h0, .inr (3, [.ref h37, .int 6])), (h37, .inl (zB g, 60, .inl (upd (upd (upd (upd (upd (upd (upd (fun _ => 0) 0 (vp_nar .byte ((((p1 >>> ((56 : Int32).toInt64 &&& 63)) &&& 255).toInt32).toInt8.toInt32))) 1 (vp_nar .byte ((((p1 >>> ((48 : Int32).toInt64 &&& 63)) &&& 255).toInt32).toInt8.toInt32))) 2 (vp_nar .byte ((((p1 >>> ((40 : Int32).toInt64 &&& 63)) &&& 255).toInt32).toInt8.toInt32))) 3 (vp_nar .byte ((((p1 >>> ((32 : Int32).toInt64 &&& 63)) &&& 255).toInt32).toInt8.toInt32))) 4 (vp_nar .byte ((((p1 >>> ((24 : Int32).toInt64 &&& 63)) &&& 255).toInt32).toInt8.toInt32))) 5 (vp_nar .byte ((((p1 >>> ((16 : Int32).toInt64 &&& 63)) &&& 255).toInt32).toInt8.toInt32))) 6 (vp_nar .byte ((((p1 >>> ((8 : Int32).toInt64 &&& 63)) &&& 255).toInt32).toInt8.toInt32)))))] := hD
                                                    refine lv_aload_n hx hb dX3_append_99 rfl (lv_at hl 2 rfl) ?_
                                                    refine lv_dup hx hb dX3_append_100 rfl ?_
                                                    refine va_get (D := g.1) (ci := 3) (v := .int 6) (C := RX3) (T := TX3) (N := 2) hx hb hts zl_X3 hown hK hP 0 rfl rfl 1 (by decide) (hts _ m_f_RX3_15) (fun _ h => h) rfl dX3_append_101 ?_
                                                    refine lv_iconst (v := 1) hx hb dX3_append_104 (by decide) ?_
                                                    refine lv_iadd hx hb dX3_append_105 ?_
                                                    refine lv_topi (nm_r (e' := 7) (by decide +kernel) ?_)
                                                    refine va_put (D := g.1) (ci := 3) (v := .int 7) (ty := .int) (C := RX3) (T := TX3) (N := 2) hx hb hts zl_X3 tyX3 tyX3_ok nmX3 hown hK hP hD hS 0 rfl rfl 1 (by decide) (hts _ m_f_RX3_15) (fun _ h => h) rfl (by decide +kernel) rfl rfl (Nat.le_of_ble_eq_true rfl) dX3_append_106 (fun H locs hP hD hS => ?_)
                                                    have hP : va_P g.1 vwCl [(h0, .inr (3, [.ref h37, .int 7])), (h37, .inl (zB g, 60, .inl (upd (upd (upd (upd (upd (upd (upd (fun _ => 0) 0 (vp_nar .byte ((((p1 >>> ((56 : Int32).toInt64 &&& 63)) &&& 255).toInt32).toInt8.toInt32))) 1 (vp_nar .byte ((((p1 >>> ((48 : Int32).toInt64 &&& 63)) &&& 255).toInt32).toInt8.toInt32))) 2 (vp_nar .byte ((((p1 >>> ((40 : Int32).toInt64 &&& 63)) &&& 255).toInt32).toInt8.toInt32))) 3 (vp_nar .byte ((((p1 >>> ((32 : Int32).toInt64 &&& 63)) &&& 255).toInt32).toInt8.toInt32))) 4 (vp_nar .byte ((((p1 >>> ((24 : Int32).toInt64 &&& 63)) &&& 255).toInt32).toInt8.toInt32))) 5 (vp_nar .byte ((((p1 >>> ((16 : Int32).toInt64 &&& 63)) &&& 255).toInt32).toInt8.toInt32))) 6 (vp_nar .byte ((((p1 >>> ((8 : Int32).toInt64 &&& 63)) &&& 255).toInt32).toInt8.toInt32)))))] H := hP
                                                    have hD : va_D A [(h0, .inr (3, [.ref h37, .int 7])), (h37, .inl (zB g, 60, .inl (upd (upd (upd (upd (upd (upd (upd (fun _ => 0) 0 (vp_nar .byte ((((p1 >>> ((56 : Int32).toInt64 &&& 63)) &&& 255).toInt32).toInt8.toInt32))) 1 (vp_nar .byte ((((p1 >>> ((48 : Int32).toInt64 &&& 63)) &&& 255).toInt32).toInt8.toInt32))) 2 (vp_nar .byte ((((p1 >>> ((40 : Int32).toInt64 &&& 63)) &&& 255).toInt32).toInt8.toInt32))) 3 (vp_nar .byte ((((p1 >>> ((32 : Int32).toInt64 &&& 63)) &&& 255).toInt32).toInt8.toInt32))) 4 (vp_nar .byte ((((p1 >>> ((24 : Int32).toInt64 &&& 63)) &&& 255).toInt32).toInt8.toInt32))) 5 (vp_nar .byte ((((p1 >>> ((16 : Int32).toInt64 &&& 63)) &&& 255).toInt32).toInt8.toInt32))) 6 (vp_nar .byte ((((p1 >>> ((8 : Int32).toInt64 &&& 63)) &&& 255).toInt32).toInt8.toInt32)))))] := hD
                                                    refine lv_iinc (v := 0) (lv' := [(4, .int 0), (5, .int (((p1 >>> ((56 : Int32).toInt64 &&& 63)) &&& 255).toInt32)), (0, .ref h0), (1, .long p1), (3, .int 8)]) hx hb dX3_append_109 hl (k := 0) rfl (by decide) (by decide) rfl (fun ls hl => ?_)
                                                    refine lv_goto (tgt := 78) hx hb dX3_append_112 (by decide) ?_
                                                    refine lv_iload hx hb dX3_append_78 (lv_at hl 0 rfl) ?_
                                                    refine lv_if_lt (tgt := 115) hx hb dX3_append_80 (by decide) (fun h => absurd h (by decide +kernel)) (fun _ => ?_)
                                                    refine lv_aload_n hx hb dX3_append_83 rfl (lv_at hl 2 rfl) ?_
                                                    refine va_get (D := g.1) (ci := 3) (v := .ref h37) (C := RX3) (T := TX3) (N := 2) hx hb hts zl_X3 hown hK hP 0 rfl rfl 0 (by decide) (hts _ m_f_RX3_11) (fun _ h => h) rfl dX3_append_84 ?_
                                                    refine lv_aload_n hx hb dX3_append_87 rfl (lv_at hl 2 rfl) ?_
                                                    refine va_get (D := g.1) (ci := 3) (v := .int 7) (C := RX3) (T := TX3) (N := 2) hx hb hts zl_X3 hown hK hP 0 rfl rfl 1 (by decide) (hts _ m_f_RX3_15) (fun _ h => h) rfl dX3_append_88 ?_
                                                    refine lv_lload_n hx hb dX3_append_91 rfl (lv_at hl 3 rfl) ?_
                                                    refine lv_iload hx hb dX3_append_92 (lv_at hl 0 rfl) ?_
                                                    refine z_calli (wr := [(h0, .inr (3, [.ref h37, .int 7])), (h37, .inl (zB g, 60, .inl (upd (upd (upd (upd (upd (upd (upd (fun _ => 0) 0 (vp_nar .byte ((((p1 >>> ((56 : Int32).toInt64 &&& 63)) &&& 255).toInt32).toInt8.toInt32))) 1 (vp_nar .byte ((((p1 >>> ((48 : Int32).toInt64 &&& 63)) &&& 255).toInt32).toInt8.toInt32))) 2 (vp_nar .byte ((((p1 >>> ((40 : Int32).toInt64 &&& 63)) &&& 255).toInt32).toInt8.toInt32))) 3 (vp_nar .byte ((((p1 >>> ((32 : Int32).toInt64 &&& 63)) &&& 255).toInt32).toInt8.toInt32))) 4 (vp_nar .byte ((((p1 >>> ((24 : Int32).toInt64 &&& 63)) &&& 255).toInt32).toInt8.toInt32))) 5 (vp_nar .byte ((((p1 >>> ((16 : Int32).toInt64 &&& 63)) &&& 255).toInt32).toInt8.toInt32))) 6 (vp_nar .byte ((((p1 >>> ((8 : Int32).toInt64 &&& 63)) &&& 255).toInt32).toInt8.toInt32)))))]) hP hD hS hA [] [0, 1] (by decide) rfl rfl (by decide) (va_runS (As := [.long p1, .int 0]) (rest := [.int 7, .ref h37]) ⟨hx, hb, hml, hown, hts⟩ (kX3_byteOf_72 l g  H.size p1) ⟨callB_of 2 hts (zGood m_o_yX3_byteOf) rfl rfl rfl (hts _ m_z_RX3) (hts _ m_m_RX3_19) ⟨by decide +kernel, by decide +kernel, by decide +kernel⟩ ⟨Nat.le_of_ble_eq_true rfl, Nat.le_of_ble_eq_true rfl⟩, hts _ m_s_yX3_byteOf⟩ (zPreS hK hN hZ hP hD hS hA [] (by decide) rfl rfl) rfl rfl hl.1 rfl (lv_room (Nat.le_of_ble_eq_true rfl)) dX3_append_94 ⟨Nat.le_of_ble_eq_true rfl, Nat.le_of_ble_eq_true rfl⟩) (fun r u H locs hw hP hD hS => ?_)
                                                    obtain rfl := hw
                                                    have hP : va_P g.1 vwCl [(h0, .inr (3, [.ref h37, .int 7])), (h37, .inl (zB g, 60, .inl (upd (upd (upd (upd (upd (upd (upd (fun _ => 0) 0 (vp_nar .byte ((((p1 >>> ((56 : Int32).toInt64 &&& 63)) &&& 255).toInt32).toInt8.toInt32))) 1 (vp_nar .byte ((((p1 >>> ((48 : Int32).toInt64 &&& 63)) &&& 255).toInt32).toInt8.toInt32))) 2 (vp_nar .byte ((((p1 >>> ((40 : Int32).toInt64 &&& 63)) &&& 255).toInt32).toInt8.toInt32))) 3 (vp_nar .byte ((((p1 >>> ((32 : Int32).toInt64 &&& 63)) &&& 255).toInt32).toInt8.toInt32))) 4 (vp_nar .byte ((((p1 >>> ((24 : Int32).toInt64 &&& 63)) &&& 255).toInt32).toInt8.toInt32))) 5 (vp_nar .byte ((((p1 >>> ((16 : Int32).toInt64 &&& 63)) &&& 255).toInt32).toInt8.toInt32))) 6 (vp_nar .byte ((((p1 >>> ((8 : Int32).toInt64 &&& 63)) &&& 255).toInt32).toInt8.toInt32)))))] H := hP
                                                    have hD : va_D A [(h0, .inr (3, [.ref h37, .int 7])), (h37, .inl (zB g, 60, .inl (upd (upd (upd (upd (upd (upd (upd (fun _ => 0) 0 (vp_nar .byte ((((p1 >>> ((56 : Int32).toInt64 &&& 63)) &&& 255).toInt32).toInt8.toInt32))) 1 (vp_nar .byte ((((p1 >>> ((48 : Int32).toInt64 &&& 63)) &&& 255).toInt32).toInt8.toInt32))) 2 (vp_nar .byte ((((p1 >>> ((40 : Int32).toInt64 &&& 63)) &&& 255).toInt32).toInt8.toInt32))) 3 (vp_nar .byte ((((p1 >>> ((32 : Int32).toInt64 &&& 63)) &&& 255).toInt32).toInt8.toInt32))) 4 (vp_nar .byte ((((p1 >>> ((24 : Int32).toInt64 &&& 63)) &&& 255).toInt32).toInt8.toInt32))) 5 (vp_nar .byte ((((p1 >>> ((16 : Int32).toInt64 &&& 63)) &&& 255).toInt32).toInt8.toInt32))) 6 (vp_nar .byte ((((p1 >>> ((8 : Int32).toInt64 &&& 63)) &&& 255).toInt32).toInt8.toInt32)))))] := hD
                                                    refine lv_i2b (v := (((p1 >>> ((0 : Int32).toInt64 &&& 63)) &&& 255).toInt32).toInt8.toInt32) hx hb dX3_append_97 rfl ?_
                                                    refine va_bast (D := g.1) hx hb hK hP hD hS 1 2 rfl rfl (vp_in_iff.mpr (by decide +kernel)) dX3_append_98 (fun H locs hP hD hS => ?_)
                                                    have hP : va_P g.1 vwCl [(h0, .inr (3, [.ref h37, .int 7])), (h37, .inl (zB g, 60, .inl (upd (upd (upd (upd (upd (upd (upd (upd (fun _ => 0) 0 (vp_nar .byte ((((p1 >>> ((56 : Int32).toInt64 &&& 63)) &&& 255).toInt32).toInt8.toInt32))) 1 (vp_nar .byte ((((p1 >>> ((48 : Int32).toInt64 &&& 63)) &&& 255).toInt32).toInt8.toInt32))) 2 (vp_nar .byte ((((p1 >>> ((40 : Int32).toInt64 &&& 63)) &&& 255).toInt32).toInt8.toInt32))) 3 (vp_nar .byte ((((p1 >>> ((32 : Int32).toInt64 &&& 63)) &&& 255).toInt32).toInt8.toInt32))) 4 (vp_nar .byte ((((p1 >>> ((24 : Int32).toInt64 &&& 63)) &&& 255).toInt32).toInt8.toInt32))) 5 (vp_nar .byte ((((p1 >>> ((16 : Int32).toInt64 &&& 63)) &&& 255).toInt32).toInt8.toInt32))) 6 (vp_nar .byte ((((p1 >>> ((8 : Int32).toInt64 &&& 63)) &&& 255).toInt32).toInt8.toInt32))) 7 (vp_nar .byte ((((p1 >>> ((0 : Int32).toInt64 &&& 63)) &&& 255).toInt32).toInt8.toInt32)))))] H := hP
                                                    have hD : va_D A [(h0, .inr (3, [.ref h37, .int 7])), (h37, .inl (zB g, 60, .inl (upd (upd (upd (upd (upd (upd (upd (upd (fun _ => 0) 0 (vp_nar .byte ((((p1 >>> ((56 : Int32).toInt64 &&& 63)) &&& 255).toInt32).toInt8.toInt32))) 1 (vp_nar .byte ((((p1 >>> ((48 : Int32).toInt64 &&& 63)) &&& 255).toInt32).toInt8.toInt32))) 2 (vp_nar .byte ((((p1 >>> ((40 : Int32).toInt64 &&& 63)) &&& 255).toInt32).toInt8.toInt32))) 3 (vp_nar .byte ((((p1 >>> ((32 : Int32).toInt64 &&& 63)) &&& 255).toInt32).toInt8.toInt32))) 4 (vp_nar .byte ((((p1 >>> ((24 : Int32).toInt64 &&& 63)) &&& 255).toInt32).toInt8.toInt32))) 5 (vp_nar .byte ((((p1 >>> ((16 : Int32).toInt64 &&& 63)) &&& 255).toInt32).toInt8.toInt32))) 6 (vp_nar .byte ((((p1 >>> ((8 : Int32).toInt64 &&& 63)) &&& 255).toInt32).toInt8.toInt32))) 7 (vp_nar .byte ((((p1 >>> ((0 : Int32).toInt64 &&& 63)) &&& 255).toInt32).toInt8.toInt32)))))] := hD
                                                    refine lv_aload_n hx hb dX3_append_99 rfl (lv_at hl 2 rfl) ?_
                                                    refine lv_dup hx hb dX3_append_100 rfl ?_
                                                    refine va_get (D := g.1) (ci := 3) (v := .int 7) (C := RX3) (T := TX3) (N := 2) hx hb hts zl_X3 hown hK hP 0 rfl rfl 1 (by decide) (hts _ m_f_RX3_15) (fun _ h => h) rfl dX3_append_101 ?_
                                                    refine lv_iconst (v := 1) hx hb dX3_append_104 (by decide) ?_
                                                    refine lv_iadd hx hb dX3_append_105 ?_
                                                    refine lv_topi (nm_r (e' := 8) (by decide +kernel) ?_)
                                                    refine va_put (D := g.1) (ci := 3) (v := .int 8) (ty := .int) (C := RX3) (T := TX3) (N := 2) hx hb hts zl_X3 tyX3 tyX3_ok nmX3 hown hK hP hD hS 0 rfl rfl 1 (by decide) (hts _ m_f_RX3_15) (fun _ h => h) rfl (by decide +kernel) rfl rfl (Nat.le_of_ble_eq_true rfl) dX3_append_106 (fun H locs hP hD hS => ?_)
                                                    have hP : va_P g.1 vwCl [(h0, .inr (3, [.ref h37, .int 8])), (h37, .inl (zB g, 60, .inl (upd (upd (upd (upd (upd (upd (upd (upd (fun _ => 0) 0 (vp_nar .byte ((((p1 >>> ((56 : Int32).toInt64 &&& 63)) &&& 255).toInt32).toInt8.toInt32))) 1 (vp_nar .byte ((((p1 >>> ((48 : Int32).toInt64 &&& 63)) &&& 255).toInt32).toInt8.toInt32))) 2 (vp_nar .byte ((((p1 >>> ((40 : Int32).toInt64 &&& 63)) &&& 255).toInt32).toInt8.toInt32))) 3 (vp_nar .byte ((((p1 >>> ((32 : Int32).toInt64 &&& 63)) &&& 255).toInt32).toInt8.toInt32))) 4 (vp_nar .byte ((((p1 >>> ((24 : Int32).toInt64 &&& 63)) &&& 255).toInt32).toInt8.toInt32))) 5 (vp_nar .byte ((((p1 >>> ((16 : Int32).toInt64 &&& 63)) &&& 255).toInt32).toInt8.toInt32))) 6 (vp_nar .byte ((((p1 >>> ((8 : Int32).toInt64 &&& 63)) &&& 255).toInt32).toInt8.toInt32))) 7 (vp_nar .byte ((((p1 >>> ((0 : Int32).toInt64 &&& 63)) &&& 255).toInt32).toInt8.toInt32)))))] H := hP
                                                    have hD : va_D A [(h0, .inr (3, [.ref h37, .int 8])), (h37, .inl (zB g, 60, .inl (upd (upd (upd (upd (upd (upd (upd (upd (fun _ => 0) 0 (vp_nar .byte ((((p1 >>> ((56 : Int32).toInt64 &&& 63)) &&& 255).toInt32).toInt8.toInt32))) 1 (vp_nar .byte ((((p1 >>> ((48 : Int32).toInt64 &&& 63)) &&& 255).toInt32).toInt8.toInt32))) 2 (vp_nar .byte ((((p1 >>> ((40 : Int32).toInt64 &&& 63)) &&& 255).toInt32).toInt8.toInt32))) 3 (vp_nar .byte ((((p1 >>> ((32 : Int32).toInt64 &&& 63)) &&& 255).toInt32).toInt8.toInt32))) 4 (vp_nar .byte ((((p1 >>> ((24 : Int32).toInt64 &&& 63)) &&& 255).toInt32).toInt8.toInt32))) 5 (vp_nar .byte ((((p1 >>> ((16 : Int32).toInt64 &&& 63)) &&& 255).toInt32).toInt8.toInt32))) 6 (vp_nar .byte ((((p1 >>> ((8 : Int32).toInt64 &&& 63)) &&& 255).toInt32).toInt8.toInt32))) 7 (vp_nar .byte ((((p1 >>> ((0 : Int32).toInt64 &&& 63)) &&& 255).toInt32).toInt8.toInt32)))))] := hD
                                                    refine lv_iinc (v := (-1)) (lv' := [(4, .int (-1)), (5, .int (((p1 >>> ((56 : Int32).toInt64 &&& 63)) &&& 255).toInt32)), (0, .ref h0), (1, .long p1), (3, .int 8)]) hx hb dX3_append_109 hl (k := 0) rfl (by decide) (by decide) rfl (fun ls hl => ?_)
                                                    refine lv_goto (tgt := 78) hx hb dX3_append_112 (by decide) ?_
                                                    refine lv_iload hx hb dX3_append_78 (lv_at hl 0 rfl) ?_
                                                    refine lv_if_lt (tgt := 115) hx hb dX3_append_80 (by decide) (fun _ => ?_) (fun h => absurd h (by decide +kernel))
                                                    refine lv_aload_n hx hb dX3_append_115 rfl (lv_at hl 2 rfl) ?_
                                                    refine va_get (D := g.1) (ci := 3) (v := .int 8) (C := RX3) (T := TX3) (N := 2) hx hb hts zl_X3 hown hK hP 0 rfl rfl 1 (by decide) (hts _ m_f_RX3_15) (fun _ h => h) rfl dX3_append_116 ?_
                                                    have hP9 := hP.sub (ws' := []) [] rfl
                                                    have hD9 := hD.sub (ws' := []) [] (by decide) rfl
                                                    exact W.iret (v := 8) hx hb hr (fun t ht hW => ⟨⟨8, 0, rfl, Or.inr (Or.inr (Or.inr (Or.inr (Or.inr (Or.inr (Or.inr (Or.inr (Or.inr (Or.inr (Or.inr (Or.inr (Or.inr (Or.inr (Or.inr (Or.inr (Or.inl ⟨i_0, i_1, i_3, i_4, i_5, i_7, i_8, i_9, i_11, i_12, i_13, i_15, i_16, i_17, i_19, i_20, i_21, i_23, i_24, i_25, i_27, i_28, i_29, i_31, i_32, rfl⟩)))))))))))))))), by rw [ht]; exact hP9, hD9⟩, hS.F ht⟩) hS.2.2 dX3_append_119
                                                  · have i_32 : 126 < (((p1 >>> ((56 : Int32).toInt64 &&& 63)) &&& 255) : Int64).toInt := z_nle ((z_b255 _)) (rfl) c_32
                                                    refine lv_iconst (v := (-1)) hx hb dX3_append_44 (by decide) ?_
                                                    have hP9 := hP.sub (ws' := []) [] rfl
                                                    have hD9 := hD.sub (ws' := []) [] (by decide) rfl
                                                    exact W.iret (v := (-1)) hx hb hr (fun t ht hW => ⟨⟨(-1), 0, rfl, Or.inr (Or.inr (Or.inr (Or.inr (Or.inr (Or.inr (Or.inr (Or.inr (Or.inr (Or.inr (Or.inr (Or.inr (Or.inr (Or.inr (Or.inr (Or.inr (Or.inr (Or.inl ⟨i_0, i_1, i_3, i_4, i_5, i_7, i_8, i_9, i_11, i_12, i_13, i_15, i_16, i_17, i_19, i_20, i_21, i_23, i_24, i_25, i_27, i_28, i_29, i_31, i_32, rfl⟩))))))))))))))))), by rw [ht]; exact hP9, hD9⟩, hS.F ht⟩) hS.2.2 dX3_append_45
                                            · have i_28 : 126 < (((p1 >>> ((48 : Int32).toInt64 &&& 63)) &&& 255) : Int64).toInt := z_nle ((z_b255 _)) (rfl) c_28
                                              refine lv_iconst (v := (-1)) hx hb dX3_append_44 (by decide) ?_
                                              have hP9 := hP.sub (ws' := []) [] rfl
                                              have hD9 := hD.sub (ws' := []) [] (by decide) rfl
                                              exact W.iret (v := (-1)) hx hb hr (fun t ht hW => ⟨⟨(-1), 0, rfl, Or.inr (Or.inr (Or.inr (Or.inr (Or.inr (Or.inr (Or.inr (Or.inr (Or.inr (Or.inr (Or.inr (Or.inr (Or.inr (Or.inr (Or.inr (Or.inr (Or.inr (Or.inr (Or.inl ⟨i_0, i_1, i_3, i_4, i_5, i_7, i_8, i_9, i_11, i_12, i_13, i_15, i_16, i_17, i_19, i_20, i_21, i_23, i_24, i_25, i_27, i_28, rfl⟩)))))))))))))))))), by rw [ht]; exact hP9, hD9⟩, hS.F ht⟩) hS.2.2 dX3_append_45
                                      · have i_24 : 126 < (((p1 >>> ((40 : Int32).toInt64 &&& 63)) &&& 255) : Int64).toInt := z_nle ((z_b255 _)) (rfl) c_24
                                        refine lv_iconst (v := (-1)) hx hb dX3_append_44 (by decide) ?_
                                        have hP9 := hP.sub (ws' := []) [] rfl
                                        have hD9 := hD.sub (ws' := []) [] (by decide) rfl
                                        exact W.iret (v := (-1)) hx hb hr (fun t ht hW => ⟨⟨(-1), 0, rfl, Or.inr (Or.inr (Or.inr (Or.inr (Or.inr (Or.inr (Or.inr (Or.inr (Or.inr (Or.inr (Or.inr (Or.inr (Or.inr (Or.inr (Or.inr (Or.inr (Or.inr (Or.inr (Or.inr (Or.inl ⟨i_0, i_1, i_3, i_4, i_5, i_7, i_8, i_9, i_11, i_12, i_13, i_15, i_16, i_17, i_19, i_20, i_21, i_23, i_24, rfl⟩))))))))))))))))))), by rw [ht]; exact hP9, hD9⟩, hS.F ht⟩) hS.2.2 dX3_append_45
                                · have i_20 : 126 < (((p1 >>> ((32 : Int32).toInt64 &&& 63)) &&& 255) : Int64).toInt := z_nle ((z_b255 _)) (rfl) c_20
                                  refine lv_iconst (v := (-1)) hx hb dX3_append_44 (by decide) ?_
                                  have hP9 := hP.sub (ws' := []) [] rfl
                                  have hD9 := hD.sub (ws' := []) [] (by decide) rfl
                                  exact W.iret (v := (-1)) hx hb hr (fun t ht hW => ⟨⟨(-1), 0, rfl, Or.inr (Or.inr (Or.inr (Or.inr (Or.inr (Or.inr (Or.inr (Or.inr (Or.inr (Or.inr (Or.inr (Or.inr (Or.inr (Or.inr (Or.inr (Or.inr (Or.inr (Or.inr (Or.inr (Or.inr (Or.inl ⟨i_0, i_1, i_3, i_4, i_5, i_7, i_8, i_9, i_11, i_12, i_13, i_15, i_16, i_17, i_19, i_20, rfl⟩)))))))))))))))))))), by rw [ht]; exact hP9, hD9⟩, hS.F ht⟩) hS.2.2 dX3_append_45
                          · have i_16 : 126 < (((p1 >>> ((24 : Int32).toInt64 &&& 63)) &&& 255) : Int64).toInt := z_nle ((z_b255 _)) (rfl) c_16
                            refine lv_iconst (v := (-1)) hx hb dX3_append_44 (by decide) ?_
                            have hP9 := hP.sub (ws' := []) [] rfl
                            have hD9 := hD.sub (ws' := []) [] (by decide) rfl
                            exact W.iret (v := (-1)) hx hb hr (fun t ht hW => ⟨⟨(-1), 0, rfl, Or.inr (Or.inr (Or.inr (Or.inr (Or.inr (Or.inr (Or.inr (Or.inr (Or.inr (Or.inr (Or.inr (Or.inr (Or.inr (Or.inr (Or.inr (Or.inr (Or.inr (Or.inr (Or.inr (Or.inr (Or.inr (Or.inl ⟨i_0, i_1, i_3, i_4, i_5, i_7, i_8, i_9, i_11, i_12, i_13, i_15, i_16, rfl⟩))))))))))))))))))))), by rw [ht]; exact hP9, hD9⟩, hS.F ht⟩) hS.2.2 dX3_append_45
                    · have i_12 : 126 < (((p1 >>> ((16 : Int32).toInt64 &&& 63)) &&& 255) : Int64).toInt := z_nle ((z_b255 _)) (rfl) c_12
                      refine lv_iconst (v := (-1)) hx hb dX3_append_44 (by decide) ?_
                      have hP9 := hP.sub (ws' := []) [] rfl
                      have hD9 := hD.sub (ws' := []) [] (by decide) rfl
                      exact W.iret (v := (-1)) hx hb hr (fun t ht hW => ⟨⟨(-1), 0, rfl, Or.inr (Or.inr (Or.inr (Or.inr (Or.inr (Or.inr (Or.inr (Or.inr (Or.inr (Or.inr (Or.inr (Or.inr (Or.inr (Or.inr (Or.inr (Or.inr (Or.inr (Or.inr (Or.inr (Or.inr (Or.inr (Or.inr (Or.inl ⟨i_0, i_1, i_3, i_4, i_5, i_7, i_8, i_9, i_11, i_12, rfl⟩)))))))))))))))))))))), by rw [ht]; exact hP9, hD9⟩, hS.F ht⟩) hS.2.2 dX3_append_45
              · have i_8 : 126 < (((p1 >>> ((8 : Int32).toInt64 &&& 63)) &&& 255) : Int64).toInt := z_nle ((z_b255 _)) (rfl) c_8
                refine lv_iconst (v := (-1)) hx hb dX3_append_44 (by decide) ?_
                have hP9 := hP.sub (ws' := []) [] rfl
                have hD9 := hD.sub (ws' := []) [] (by decide) rfl
                exact W.iret (v := (-1)) hx hb hr (fun t ht hW => ⟨⟨(-1), 0, rfl, Or.inr (Or.inr (Or.inr (Or.inr (Or.inr (Or.inr (Or.inr (Or.inr (Or.inr (Or.inr (Or.inr (Or.inr (Or.inr (Or.inr (Or.inr (Or.inr (Or.inr (Or.inr (Or.inr (Or.inr (Or.inr (Or.inr (Or.inr (Or.inl ⟨i_0, i_1, i_3, i_4, i_5, i_7, i_8, rfl⟩))))))))))))))))))))))), by rw [ht]; exact hP9, hD9⟩, hS.F ht⟩) hS.2.2 dX3_append_45
        · have i_4 : 126 < (((p1 >>> ((0 : Int32).toInt64 &&& 63)) &&& 255) : Int64).toInt := z_nle ((z_b255 _)) (rfl) c_4
          refine lv_iconst (v := (-1)) hx hb dX3_append_44 (by decide) ?_
          have hP9 := hP.sub (ws' := []) [] rfl
          have hD9 := hD.sub (ws' := []) [] (by decide) rfl
          exact W.iret (v := (-1)) hx hb hr (fun t ht hW => ⟨⟨(-1), 0, rfl, Or.inr (Or.inr (Or.inr (Or.inr (Or.inr (Or.inr (Or.inr (Or.inr (Or.inr (Or.inr (Or.inr (Or.inr (Or.inr (Or.inr (Or.inr (Or.inr (Or.inr (Or.inr (Or.inr (Or.inr (Or.inr (Or.inr (Or.inr (Or.inr (Or.inl ⟨i_0, i_1, i_3, i_4, rfl⟩)))))))))))))))))))))))), by rw [ht]; exact hP9, hD9⟩, hS.F ht⟩) hS.2.2 dX3_append_45
    · have i_1 : 8 < p2.toInt := z_nle (rfl) (rfl) c_1
      refine lv_iconst (v := (-1)) hx hb dX3_append_11 (by decide) ?_
      have hP9 := hP.sub (ws' := []) [] rfl
      have hD9 := hD.sub (ws' := []) [] (by decide) rfl
      exact W.iret (v := (-1)) hx hb hr (fun t ht hW => ⟨⟨(-1), 0, rfl, Or.inr (Or.inr (Or.inr (Or.inr (Or.inr (Or.inr (Or.inr (Or.inr (Or.inr (Or.inr (Or.inr (Or.inr (Or.inr (Or.inr (Or.inr (Or.inr (Or.inr (Or.inr (Or.inr (Or.inr (Or.inr (Or.inr (Or.inr (Or.inr (Or.inr (⟨i_0, i_1, rfl⟩))))))))))))))))))))))))), by rw [ht]; exact hP9, hD9⟩, hS.F ht⟩) hS.2.2 dX3_append_12
set_option maxHeartbeats 4000000 in
set_option maxRecDepth 100000 in
theorem kX3_byteOf_73 (l : Launch) (g : zG) (sz : Nat) (p0 : Int64) : Met l yX3_byteOf (.code yX3_byteOf cX3_byteOf 3 (some .int) :: zBig) ({ frames := 0, cells := 0, slots := 0, locals := 0 }) (va_Pc [.long p0, .int 0] (zPre g [] sz)) (va_Qi (fun (r : Int32) (_ : Nat) => r = ((p0 >>> ((0 : Int32).toInt64 &&& 63)) &&& 255).toInt32) (zPost g (fun _ : Nat => []) (va_A [] sz)) (va_A [] sz)) 0 0 (va_A [] sz) := by
  refine zMetI rfl (Nat.le_of_ble_eq_true rfl) ?_
  intro p e s m args below meth c A ls hx hb hml hr hlocks hin hown hts hK hN hZ hP hD hA hS hAe hl
  have hown : s.vm.findClass RX3 = some m.cls := hown
  have hl : lv_has ls 3 [(0, .long p0), (2, .int 0)] := hl
  refine lv_lload_n hx hb dX3_byteOf_0 rfl (lv_at hl 0 rfl) ?_
  refine lv_bipush (v := 8) hx hb dX3_byteOf_1 (by decide) ?_
  refine lv_iload_n hx hb dX3_byteOf_3 rfl (lv_at hl 1 rfl) ?_
  refine lv_imul hx hb dX3_byteOf_4 ?_
  refine lv_topi (nm_r (e' := 0) (by decide +kernel) ?_)
  refine lv_lshr (v := (p0 >>> ((0 : Int32).toInt64 &&& 63))) hx hb dX3_byteOf_5 rfl ?_
  refine lv_ldc2 (v := 255) hx hb hown (hts _ m_k_RX3_23) dX3_byteOf_6 ?_
  refine lv_land hx hb dX3_byteOf_9 ?_
  refine lv_l2i (v := ((p0 >>> ((0 : Int32).toInt64 &&& 63)) &&& 255).toInt32) hx hb dX3_byteOf_10 rfl ?_
  have hP9 := hP.sub (ws' := []) [] rfl
  have hD9 := hD.sub (ws' := []) [] (by decide) rfl
  exact W.iret (v := ((p0 >>> ((0 : Int32).toInt64 &&& 63)) &&& 255).toInt32) hx hb hr (fun t ht hW => ⟨⟨((p0 >>> ((0 : Int32).toInt64 &&& 63)) &&& 255).toInt32, 0, rfl, rfl, by rw [ht]; exact hP9, hD9⟩, hS.F ht⟩) hS.2.2 dX3_byteOf_11
set_option maxHeartbeats 4000000 in
set_option maxRecDepth 100000 in
theorem kX3_byteOf_74 (l : Launch) (g : zG) (sz : Nat) (p0 : Int64) : Met l yX3_byteOf (.code yX3_byteOf cX3_byteOf 3 (some .int) :: zBig) ({ frames := 0, cells := 0, slots := 0, locals := 0 }) (va_Pc [.long p0, .int 1] (zPre g [] sz)) (va_Qi (fun (r : Int32) (_ : Nat) => r = ((p0 >>> ((8 : Int32).toInt64 &&& 63)) &&& 255).toInt32) (zPost g (fun _ : Nat => []) (va_A [] sz)) (va_A [] sz)) 0 0 (va_A [] sz) := by
  refine zMetI rfl (Nat.le_of_ble_eq_true rfl) ?_
  intro p e s m args below meth c A ls hx hb hml hr hlocks hin hown hts hK hN hZ hP hD hA hS hAe hl
  have hown : s.vm.findClass RX3 = some m.cls := hown
  have hl : lv_has ls 3 [(0, .long p0), (2, .int 1)] := hl
  refine lv_lload_n hx hb dX3_byteOf_0 rfl (lv_at hl 0 rfl) ?_
  refine lv_bipush (v := 8) hx hb dX3_byteOf_1 (by decide) ?_
  refine lv_iload_n hx hb dX3_byteOf_3 rfl (lv_at hl 1 rfl) ?_
  refine lv_imul hx hb dX3_byteOf_4 ?_
  refine lv_topi (nm_r (e' := 8) (by decide +kernel) ?_)
  refine lv_lshr (v := (p0 >>> ((8 : Int32).toInt64 &&& 63))) hx hb dX3_byteOf_5 rfl ?_
  refine lv_ldc2 (v := 255) hx hb hown (hts _ m_k_RX3_23) dX3_byteOf_6 ?_
  refine lv_land hx hb dX3_byteOf_9 ?_
  refine lv_l2i (v := ((p0 >>> ((8 : Int32).toInt64 &&& 63)) &&& 255).toInt32) hx hb dX3_byteOf_10 rfl ?_
  have hP9 := hP.sub (ws' := []) [] rfl
  have hD9 := hD.sub (ws' := []) [] (by decide) rfl
  exact W.iret (v := ((p0 >>> ((8 : Int32).toInt64 &&& 63)) &&& 255).toInt32) hx hb hr (fun t ht hW => ⟨⟨((p0 >>> ((8 : Int32).toInt64 &&& 63)) &&& 255).toInt32, 0, rfl, rfl, by rw [ht]; exact hP9, hD9⟩, hS.F ht⟩) hS.2.2 dX3_byteOf_11
set_option maxHeartbeats 4000000 in
set_option maxRecDepth 100000 in
theorem kX3_byteOf_75 (l : Launch) (g : zG) (sz : Nat) (p0 : Int64) : Met l yX3_byteOf (.code yX3_byteOf cX3_byteOf 3 (some .int) :: zBig) ({ frames := 0, cells := 0, slots := 0, locals := 0 }) (va_Pc [.long p0, .int 0] (zPre g [] sz)) (va_Qi (fun (r : Int32) (_ : Nat) => r = ((p0 >>> ((0 : Int32).toInt64 &&& 63)) &&& 255).toInt32) (zPost g (fun _ : Nat => []) (va_A [] sz)) (va_A [] sz)) 0 0 (va_A [] sz) := by
  refine zMetI rfl (Nat.le_of_ble_eq_true rfl) ?_
  intro p e s m args below meth c A ls hx hb hml hr hlocks hin hown hts hK hN hZ hP hD hA hS hAe hl
  have hown : s.vm.findClass RX3 = some m.cls := hown
  have hl : lv_has ls 3 [(0, .long p0), (2, .int 0)] := hl
  refine lv_lload_n hx hb dX3_byteOf_0 rfl (lv_at hl 0 rfl) ?_
  refine lv_bipush (v := 8) hx hb dX3_byteOf_1 (by decide) ?_
  refine lv_iload_n hx hb dX3_byteOf_3 rfl (lv_at hl 1 rfl) ?_
  refine lv_imul hx hb dX3_byteOf_4 ?_
  refine lv_topi (nm_r (e' := 0) (by decide +kernel) ?_)
  refine lv_lshr (v := (p0 >>> ((0 : Int32).toInt64 &&& 63))) hx hb dX3_byteOf_5 rfl ?_
  refine lv_ldc2 (v := 255) hx hb hown (hts _ m_k_RX3_23) dX3_byteOf_6 ?_
  refine lv_land hx hb dX3_byteOf_9 ?_
  refine lv_l2i (v := ((p0 >>> ((0 : Int32).toInt64 &&& 63)) &&& 255).toInt32) hx hb dX3_byteOf_10 rfl ?_
  have hP9 := hP.sub (ws' := []) [] rfl
  have hD9 := hD.sub (ws' := []) [] (by decide) rfl
  exact W.iret (v := ((p0 >>> ((0 : Int32).toInt64 &&& 63)) &&& 255).toInt32) hx hb hr (fun t ht hW => ⟨⟨((p0 >>> ((0 : Int32).toInt64 &&& 63)) &&& 255).toInt32, 0, rfl, rfl, by rw [ht]; exact hP9, hD9⟩, hS.F ht⟩) hS.2.2 dX3_byteOf_11
set_option maxHeartbeats 4000000 in
set_option maxRecDepth 100000 in
theorem kX3_byteOf_76 (l : Launch) (g : zG) (sz : Nat) (p0 : Int64) : Met l yX3_byteOf (.code yX3_byteOf cX3_byteOf 3 (some .int) :: zBig) ({ frames := 0, cells := 0, slots := 0, locals := 0 }) (va_Pc [.long p0, .int 2] (zPre g [] sz)) (va_Qi (fun (r : Int32) (_ : Nat) => r = ((p0 >>> ((16 : Int32).toInt64 &&& 63)) &&& 255).toInt32) (zPost g (fun _ : Nat => []) (va_A [] sz)) (va_A [] sz)) 0 0 (va_A [] sz) := by
  refine zMetI rfl (Nat.le_of_ble_eq_true rfl) ?_
  intro p e s m args below meth c A ls hx hb hml hr hlocks hin hown hts hK hN hZ hP hD hA hS hAe hl
  have hown : s.vm.findClass RX3 = some m.cls := hown
  have hl : lv_has ls 3 [(0, .long p0), (2, .int 2)] := hl
  refine lv_lload_n hx hb dX3_byteOf_0 rfl (lv_at hl 0 rfl) ?_
  refine lv_bipush (v := 8) hx hb dX3_byteOf_1 (by decide) ?_
  refine lv_iload_n hx hb dX3_byteOf_3 rfl (lv_at hl 1 rfl) ?_
  refine lv_imul hx hb dX3_byteOf_4 ?_
  refine lv_topi (nm_r (e' := 16) (by decide +kernel) ?_)
  refine lv_lshr (v := (p0 >>> ((16 : Int32).toInt64 &&& 63))) hx hb dX3_byteOf_5 rfl ?_
  refine lv_ldc2 (v := 255) hx hb hown (hts _ m_k_RX3_23) dX3_byteOf_6 ?_
  refine lv_land hx hb dX3_byteOf_9 ?_
  refine lv_l2i (v := ((p0 >>> ((16 : Int32).toInt64 &&& 63)) &&& 255).toInt32) hx hb dX3_byteOf_10 rfl ?_
  have hP9 := hP.sub (ws' := []) [] rfl
  have hD9 := hD.sub (ws' := []) [] (by decide) rfl
  exact W.iret (v := ((p0 >>> ((16 : Int32).toInt64 &&& 63)) &&& 255).toInt32) hx hb hr (fun t ht hW => ⟨⟨((p0 >>> ((16 : Int32).toInt64 &&& 63)) &&& 255).toInt32, 0, rfl, rfl, by rw [ht]; exact hP9, hD9⟩, hS.F ht⟩) hS.2.2 dX3_byteOf_11
set_option maxHeartbeats 4000000 in
set_option maxRecDepth 100000 in
theorem kX3_byteOf_77 (l : Launch) (g : zG) (sz : Nat) (p0 : Int64) : Met l yX3_byteOf (.code yX3_byteOf cX3_byteOf 3 (some .int) :: zBig) ({ frames := 0, cells := 0, slots := 0, locals := 0 }) (va_Pc [.long p0, .int 1] (zPre g [] sz)) (va_Qi (fun (r : Int32) (_ : Nat) => r = ((p0 >>> ((8 : Int32).toInt64 &&& 63)) &&& 255).toInt32) (zPost g (fun _ : Nat => []) (va_A [] sz)) (va_A [] sz)) 0 0 (va_A [] sz) := by
  refine zMetI rfl (Nat.le_of_ble_eq_true rfl) ?_
  intro p e s m args below meth c A ls hx hb hml hr hlocks hin hown hts hK hN hZ hP hD hA hS hAe hl
  have hown : s.vm.findClass RX3 = some m.cls := hown
  have hl : lv_has ls 3 [(0, .long p0), (2, .int 1)] := hl
  refine lv_lload_n hx hb dX3_byteOf_0 rfl (lv_at hl 0 rfl) ?_
  refine lv_bipush (v := 8) hx hb dX3_byteOf_1 (by decide) ?_
  refine lv_iload_n hx hb dX3_byteOf_3 rfl (lv_at hl 1 rfl) ?_
  refine lv_imul hx hb dX3_byteOf_4 ?_
  refine lv_topi (nm_r (e' := 8) (by decide +kernel) ?_)
  refine lv_lshr (v := (p0 >>> ((8 : Int32).toInt64 &&& 63))) hx hb dX3_byteOf_5 rfl ?_
  refine lv_ldc2 (v := 255) hx hb hown (hts _ m_k_RX3_23) dX3_byteOf_6 ?_
  refine lv_land hx hb dX3_byteOf_9 ?_
  refine lv_l2i (v := ((p0 >>> ((8 : Int32).toInt64 &&& 63)) &&& 255).toInt32) hx hb dX3_byteOf_10 rfl ?_
  have hP9 := hP.sub (ws' := []) [] rfl
  have hD9 := hD.sub (ws' := []) [] (by decide) rfl
  exact W.iret (v := ((p0 >>> ((8 : Int32).toInt64 &&& 63)) &&& 255).toInt32) hx hb hr (fun t ht hW => ⟨⟨((p0 >>> ((8 : Int32).toInt64 &&& 63)) &&& 255).toInt32, 0, rfl, rfl, by rw [ht]; exact hP9, hD9⟩, hS.F ht⟩) hS.2.2 dX3_byteOf_11
set_option maxHeartbeats 4000000 in
set_option maxRecDepth 100000 in
theorem kX3_byteOf_78 (l : Launch) (g : zG) (sz : Nat) (p0 : Int64) : Met l yX3_byteOf (.code yX3_byteOf cX3_byteOf 3 (some .int) :: zBig) ({ frames := 0, cells := 0, slots := 0, locals := 0 }) (va_Pc [.long p0, .int 0] (zPre g [] sz)) (va_Qi (fun (r : Int32) (_ : Nat) => r = ((p0 >>> ((0 : Int32).toInt64 &&& 63)) &&& 255).toInt32) (zPost g (fun _ : Nat => []) (va_A [] sz)) (va_A [] sz)) 0 0 (va_A [] sz) := by
  refine zMetI rfl (Nat.le_of_ble_eq_true rfl) ?_
  intro p e s m args below meth c A ls hx hb hml hr hlocks hin hown hts hK hN hZ hP hD hA hS hAe hl
  have hown : s.vm.findClass RX3 = some m.cls := hown
  have hl : lv_has ls 3 [(0, .long p0), (2, .int 0)] := hl
  refine lv_lload_n hx hb dX3_byteOf_0 rfl (lv_at hl 0 rfl) ?_
  refine lv_bipush (v := 8) hx hb dX3_byteOf_1 (by decide) ?_
  refine lv_iload_n hx hb dX3_byteOf_3 rfl (lv_at hl 1 rfl) ?_
  refine lv_imul hx hb dX3_byteOf_4 ?_
  refine lv_topi (nm_r (e' := 0) (by decide +kernel) ?_)
  refine lv_lshr (v := (p0 >>> ((0 : Int32).toInt64 &&& 63))) hx hb dX3_byteOf_5 rfl ?_
  refine lv_ldc2 (v := 255) hx hb hown (hts _ m_k_RX3_23) dX3_byteOf_6 ?_
  refine lv_land hx hb dX3_byteOf_9 ?_
  refine lv_l2i (v := ((p0 >>> ((0 : Int32).toInt64 &&& 63)) &&& 255).toInt32) hx hb dX3_byteOf_10 rfl ?_
  have hP9 := hP.sub (ws' := []) [] rfl
  have hD9 := hD.sub (ws' := []) [] (by decide) rfl
  exact W.iret (v := ((p0 >>> ((0 : Int32).toInt64 &&& 63)) &&& 255).toInt32) hx hb hr (fun t ht hW => ⟨⟨((p0 >>> ((0 : Int32).toInt64 &&& 63)) &&& 255).toInt32, 0, rfl, rfl, by rw [ht]; exact hP9, hD9⟩, hS.F ht⟩) hS.2.2 dX3_byteOf_11
set_option maxHeartbeats 4000000 in
set_option maxRecDepth 100000 in
theorem kX3_byteOf_79 (l : Launch) (g : zG) (sz : Nat) (p0 : Int64) : Met l yX3_byteOf (.code yX3_byteOf cX3_byteOf 3 (some .int) :: zBig) ({ frames := 0, cells := 0, slots := 0, locals := 0 }) (va_Pc [.long p0, .int 3] (zPre g [] sz)) (va_Qi (fun (r : Int32) (_ : Nat) => r = ((p0 >>> ((24 : Int32).toInt64 &&& 63)) &&& 255).toInt32) (zPost g (fun _ : Nat => []) (va_A [] sz)) (va_A [] sz)) 0 0 (va_A [] sz) := by
  refine zMetI rfl (Nat.le_of_ble_eq_true rfl) ?_
  intro p e s m args below meth c A ls hx hb hml hr hlocks hin hown hts hK hN hZ hP hD hA hS hAe hl
  have hown : s.vm.findClass RX3 = some m.cls := hown
  have hl : lv_has ls 3 [(0, .long p0), (2, .int 3)] := hl
  refine lv_lload_n hx hb dX3_byteOf_0 rfl (lv_at hl 0 rfl) ?_
  refine lv_bipush (v := 8) hx hb dX3_byteOf_1 (by decide) ?_
  refine lv_iload_n hx hb dX3_byteOf_3 rfl (lv_at hl 1 rfl) ?_
  refine lv_imul hx hb dX3_byteOf_4 ?_
  refine lv_topi (nm_r (e' := 24) (by decide +kernel) ?_)
  refine lv_lshr (v := (p0 >>> ((24 : Int32).toInt64 &&& 63))) hx hb dX3_byteOf_5 rfl ?_
  refine lv_ldc2 (v := 255) hx hb hown (hts _ m_k_RX3_23) dX3_byteOf_6 ?_
  refine lv_land hx hb dX3_byteOf_9 ?_
  refine lv_l2i (v := ((p0 >>> ((24 : Int32).toInt64 &&& 63)) &&& 255).toInt32) hx hb dX3_byteOf_10 rfl ?_
  have hP9 := hP.sub (ws' := []) [] rfl
  have hD9 := hD.sub (ws' := []) [] (by decide) rfl
  exact W.iret (v := ((p0 >>> ((24 : Int32).toInt64 &&& 63)) &&& 255).toInt32) hx hb hr (fun t ht hW => ⟨⟨((p0 >>> ((24 : Int32).toInt64 &&& 63)) &&& 255).toInt32, 0, rfl, rfl, by rw [ht]; exact hP9, hD9⟩, hS.F ht⟩) hS.2.2 dX3_byteOf_11
set_option maxHeartbeats 4000000 in
set_option maxRecDepth 100000 in
theorem kX3_byteOf_80 (l : Launch) (g : zG) (sz : Nat) (p0 : Int64) : Met l yX3_byteOf (.code yX3_byteOf cX3_byteOf 3 (some .int) :: zBig) ({ frames := 0, cells := 0, slots := 0, locals := 0 }) (va_Pc [.long p0, .int 2] (zPre g [] sz)) (va_Qi (fun (r : Int32) (_ : Nat) => r = ((p0 >>> ((16 : Int32).toInt64 &&& 63)) &&& 255).toInt32) (zPost g (fun _ : Nat => []) (va_A [] sz)) (va_A [] sz)) 0 0 (va_A [] sz) := by
  refine zMetI rfl (Nat.le_of_ble_eq_true rfl) ?_
  intro p e s m args below meth c A ls hx hb hml hr hlocks hin hown hts hK hN hZ hP hD hA hS hAe hl
  have hown : s.vm.findClass RX3 = some m.cls := hown
  have hl : lv_has ls 3 [(0, .long p0), (2, .int 2)] := hl
  refine lv_lload_n hx hb dX3_byteOf_0 rfl (lv_at hl 0 rfl) ?_
  refine lv_bipush (v := 8) hx hb dX3_byteOf_1 (by decide) ?_
  refine lv_iload_n hx hb dX3_byteOf_3 rfl (lv_at hl 1 rfl) ?_
  refine lv_imul hx hb dX3_byteOf_4 ?_
  refine lv_topi (nm_r (e' := 16) (by decide +kernel) ?_)
  refine lv_lshr (v := (p0 >>> ((16 : Int32).toInt64 &&& 63))) hx hb dX3_byteOf_5 rfl ?_
  refine lv_ldc2 (v := 255) hx hb hown (hts _ m_k_RX3_23) dX3_byteOf_6 ?_
  refine lv_land hx hb dX3_byteOf_9 ?_
  refine lv_l2i (v := ((p0 >>> ((16 : Int32).toInt64 &&& 63)) &&& 255).toInt32) hx hb dX3_byteOf_10 rfl ?_
  have hP9 := hP.sub (ws' := []) [] rfl
  have hD9 := hD.sub (ws' := []) [] (by decide) rfl
  exact W.iret (v := ((p0 >>> ((16 : Int32).toInt64 &&& 63)) &&& 255).toInt32) hx hb hr (fun t ht hW => ⟨⟨((p0 >>> ((16 : Int32).toInt64 &&& 63)) &&& 255).toInt32, 0, rfl, rfl, by rw [ht]; exact hP9, hD9⟩, hS.F ht⟩) hS.2.2 dX3_byteOf_11
set_option maxHeartbeats 4000000 in
set_option maxRecDepth 100000 in
theorem kX3_byteOf_81 (l : Launch) (g : zG) (sz : Nat) (p0 : Int64) : Met l yX3_byteOf (.code yX3_byteOf cX3_byteOf 3 (some .int) :: zBig) ({ frames := 0, cells := 0, slots := 0, locals := 0 }) (va_Pc [.long p0, .int 1] (zPre g [] sz)) (va_Qi (fun (r : Int32) (_ : Nat) => r = ((p0 >>> ((8 : Int32).toInt64 &&& 63)) &&& 255).toInt32) (zPost g (fun _ : Nat => []) (va_A [] sz)) (va_A [] sz)) 0 0 (va_A [] sz) := by
  refine zMetI rfl (Nat.le_of_ble_eq_true rfl) ?_
  intro p e s m args below meth c A ls hx hb hml hr hlocks hin hown hts hK hN hZ hP hD hA hS hAe hl
  have hown : s.vm.findClass RX3 = some m.cls := hown
  have hl : lv_has ls 3 [(0, .long p0), (2, .int 1)] := hl
  refine lv_lload_n hx hb dX3_byteOf_0 rfl (lv_at hl 0 rfl) ?_
  refine lv_bipush (v := 8) hx hb dX3_byteOf_1 (by decide) ?_
  refine lv_iload_n hx hb dX3_byteOf_3 rfl (lv_at hl 1 rfl) ?_
  refine lv_imul hx hb dX3_byteOf_4 ?_
  refine lv_topi (nm_r (e' := 8) (by decide +kernel) ?_)
  refine lv_lshr (v := (p0 >>> ((8 : Int32).toInt64 &&& 63))) hx hb dX3_byteOf_5 rfl ?_
  refine lv_ldc2 (v := 255) hx hb hown (hts _ m_k_RX3_23) dX3_byteOf_6 ?_
  refine lv_land hx hb dX3_byteOf_9 ?_
  refine lv_l2i (v := ((p0 >>> ((8 : Int32).toInt64 &&& 63)) &&& 255).toInt32) hx hb dX3_byteOf_10 rfl ?_
  have hP9 := hP.sub (ws' := []) [] rfl
  have hD9 := hD.sub (ws' := []) [] (by decide) rfl
  exact W.iret (v := ((p0 >>> ((8 : Int32).toInt64 &&& 63)) &&& 255).toInt32) hx hb hr (fun t ht hW => ⟨⟨((p0 >>> ((8 : Int32).toInt64 &&& 63)) &&& 255).toInt32, 0, rfl, rfl, by rw [ht]; exact hP9, hD9⟩, hS.F ht⟩) hS.2.2 dX3_byteOf_11
set_option maxHeartbeats 4000000 in
set_option maxRecDepth 100000 in
theorem kX3_byteOf_82 (l : Launch) (g : zG) (sz : Nat) (p0 : Int64) : Met l yX3_byteOf (.code yX3_byteOf cX3_byteOf 3 (some .int) :: zBig) ({ frames := 0, cells := 0, slots := 0, locals := 0 }) (va_Pc [.long p0, .int 0] (zPre g [] sz)) (va_Qi (fun (r : Int32) (_ : Nat) => r = ((p0 >>> ((0 : Int32).toInt64 &&& 63)) &&& 255).toInt32) (zPost g (fun _ : Nat => []) (va_A [] sz)) (va_A [] sz)) 0 0 (va_A [] sz) := by
  refine zMetI rfl (Nat.le_of_ble_eq_true rfl) ?_
  intro p e s m args below meth c A ls hx hb hml hr hlocks hin hown hts hK hN hZ hP hD hA hS hAe hl
  have hown : s.vm.findClass RX3 = some m.cls := hown
  have hl : lv_has ls 3 [(0, .long p0), (2, .int 0)] := hl
  refine lv_lload_n hx hb dX3_byteOf_0 rfl (lv_at hl 0 rfl) ?_
  refine lv_bipush (v := 8) hx hb dX3_byteOf_1 (by decide) ?_
  refine lv_iload_n hx hb dX3_byteOf_3 rfl (lv_at hl 1 rfl) ?_
  refine lv_imul hx hb dX3_byteOf_4 ?_
  refine lv_topi (nm_r (e' := 0) (by decide +kernel) ?_)
  refine lv_lshr (v := (p0 >>> ((0 : Int32).toInt64 &&& 63))) hx hb dX3_byteOf_5 rfl ?_
  refine lv_ldc2 (v := 255) hx hb hown (hts _ m_k_RX3_23) dX3_byteOf_6 ?_
  refine lv_land hx hb dX3_byteOf_9 ?_
  refine lv_l2i (v := ((p0 >>> ((0 : Int32).toInt64 &&& 63)) &&& 255).toInt32) hx hb dX3_byteOf_10 rfl ?_
  have hP9 := hP.sub (ws' := []) [] rfl
  have hD9 := hD.sub (ws' := []) [] (by decide) rfl
  exact W.iret (v := ((p0 >>> ((0 : Int32).toInt64 &&& 63)) &&& 255).toInt32) hx hb hr (fun t ht hW => ⟨⟨((p0 >>> ((0 : Int32).toInt64 &&& 63)) &&& 255).toInt32, 0, rfl, rfl, by rw [ht]; exact hP9, hD9⟩, hS.F ht⟩) hS.2.2 dX3_byteOf_11
set_option maxHeartbeats 4000000 in
set_option maxRecDepth 100000 in
theorem kX3_byteOf_83 (l : Launch) (g : zG) (sz : Nat) (p0 : Int64) : Met l yX3_byteOf (.code yX3_byteOf cX3_byteOf 3 (some .int) :: zBig) ({ frames := 0, cells := 0, slots := 0, locals := 0 }) (va_Pc [.long p0, .int 4] (zPre g [] sz)) (va_Qi (fun (r : Int32) (_ : Nat) => r = ((p0 >>> ((32 : Int32).toInt64 &&& 63)) &&& 255).toInt32) (zPost g (fun _ : Nat => []) (va_A [] sz)) (va_A [] sz)) 0 0 (va_A [] sz) := by
  refine zMetI rfl (Nat.le_of_ble_eq_true rfl) ?_
  intro p e s m args below meth c A ls hx hb hml hr hlocks hin hown hts hK hN hZ hP hD hA hS hAe hl
  have hown : s.vm.findClass RX3 = some m.cls := hown
  have hl : lv_has ls 3 [(0, .long p0), (2, .int 4)] := hl
  refine lv_lload_n hx hb dX3_byteOf_0 rfl (lv_at hl 0 rfl) ?_
  refine lv_bipush (v := 8) hx hb dX3_byteOf_1 (by decide) ?_
  refine lv_iload_n hx hb dX3_byteOf_3 rfl (lv_at hl 1 rfl) ?_
  refine lv_imul hx hb dX3_byteOf_4 ?_
  refine lv_topi (nm_r (e' := 32) (by decide +kernel) ?_)
  refine lv_lshr (v := (p0 >>> ((32 : Int32).toInt64 &&& 63))) hx hb dX3_byteOf_5 rfl ?_
  refine lv_ldc2 (v := 255) hx hb hown (hts _ m_k_RX3_23) dX3_byteOf_6 ?_
  refine lv_land hx hb dX3_byteOf_9 ?_
  refine lv_l2i (v := ((p0 >>> ((32 : Int32).toInt64 &&& 63)) &&& 255).toInt32) hx hb dX3_byteOf_10 rfl ?_
  have hP9 := hP.sub (ws' := []) [] rfl
  have hD9 := hD.sub (ws' := []) [] (by decide) rfl
  exact W.iret (v := ((p0 >>> ((32 : Int32).toInt64 &&& 63)) &&& 255).toInt32) hx hb hr (fun t ht hW => ⟨⟨((p0 >>> ((32 : Int32).toInt64 &&& 63)) &&& 255).toInt32, 0, rfl, rfl, by rw [ht]; exact hP9, hD9⟩, hS.F ht⟩) hS.2.2 dX3_byteOf_11
set_option maxHeartbeats 4000000 in
set_option maxRecDepth 100000 in
theorem kX3_byteOf_84 (l : Launch) (g : zG) (sz : Nat) (p0 : Int64) : Met l yX3_byteOf (.code yX3_byteOf cX3_byteOf 3 (some .int) :: zBig) ({ frames := 0, cells := 0, slots := 0, locals := 0 }) (va_Pc [.long p0, .int 3] (zPre g [] sz)) (va_Qi (fun (r : Int32) (_ : Nat) => r = ((p0 >>> ((24 : Int32).toInt64 &&& 63)) &&& 255).toInt32) (zPost g (fun _ : Nat => []) (va_A [] sz)) (va_A [] sz)) 0 0 (va_A [] sz) := by
  refine zMetI rfl (Nat.le_of_ble_eq_true rfl) ?_
  intro p e s m args below meth c A ls hx hb hml hr hlocks hin hown hts hK hN hZ hP hD hA hS hAe hl
  have hown : s.vm.findClass RX3 = some m.cls := hown
  have hl : lv_has ls 3 [(0, .long p0), (2, .int 3)] := hl
  refine lv_lload_n hx hb dX3_byteOf_0 rfl (lv_at hl 0 rfl) ?_
  refine lv_bipush (v := 8) hx hb dX3_byteOf_1 (by decide) ?_
  refine lv_iload_n hx hb dX3_byteOf_3 rfl (lv_at hl 1 rfl) ?_
  refine lv_imul hx hb dX3_byteOf_4 ?_
  refine lv_topi (nm_r (e' := 24) (by decide +kernel) ?_)
  refine lv_lshr (v := (p0 >>> ((24 : Int32).toInt64 &&& 63))) hx hb dX3_byteOf_5 rfl ?_
  refine lv_ldc2 (v := 255) hx hb hown (hts _ m_k_RX3_23) dX3_byteOf_6 ?_
  refine lv_land hx hb dX3_byteOf_9 ?_
  refine lv_l2i (v := ((p0 >>> ((24 : Int32).toInt64 &&& 63)) &&& 255).toInt32) hx hb dX3_byteOf_10 rfl ?_
  have hP9 := hP.sub (ws' := []) [] rfl
  have hD9 := hD.sub (ws' := []) [] (by decide) rfl
  exact W.iret (v := ((p0 >>> ((24 : Int32).toInt64 &&& 63)) &&& 255).toInt32) hx hb hr (fun t ht hW => ⟨⟨((p0 >>> ((24 : Int32).toInt64 &&& 63)) &&& 255).toInt32, 0, rfl, rfl, by rw [ht]; exact hP9, hD9⟩, hS.F ht⟩) hS.2.2 dX3_byteOf_11
set_option maxHeartbeats 4000000 in
set_option maxRecDepth 100000 in
theorem kX3_byteOf_85 (l : Launch) (g : zG) (sz : Nat) (p0 : Int64) : Met l yX3_byteOf (.code yX3_byteOf cX3_byteOf 3 (some .int) :: zBig) ({ frames := 0, cells := 0, slots := 0, locals := 0 }) (va_Pc [.long p0, .int 2] (zPre g [] sz)) (va_Qi (fun (r : Int32) (_ : Nat) => r = ((p0 >>> ((16 : Int32).toInt64 &&& 63)) &&& 255).toInt32) (zPost g (fun _ : Nat => []) (va_A [] sz)) (va_A [] sz)) 0 0 (va_A [] sz) := by
  refine zMetI rfl (Nat.le_of_ble_eq_true rfl) ?_
  intro p e s m args below meth c A ls hx hb hml hr hlocks hin hown hts hK hN hZ hP hD hA hS hAe hl
  have hown : s.vm.findClass RX3 = some m.cls := hown
  have hl : lv_has ls 3 [(0, .long p0), (2, .int 2)] := hl
  refine lv_lload_n hx hb dX3_byteOf_0 rfl (lv_at hl 0 rfl) ?_
  refine lv_bipush (v := 8) hx hb dX3_byteOf_1 (by decide) ?_
  refine lv_iload_n hx hb dX3_byteOf_3 rfl (lv_at hl 1 rfl) ?_
  refine lv_imul hx hb dX3_byteOf_4 ?_
  refine lv_topi (nm_r (e' := 16) (by decide +kernel) ?_)
  refine lv_lshr (v := (p0 >>> ((16 : Int32).toInt64 &&& 63))) hx hb dX3_byteOf_5 rfl ?_
  refine lv_ldc2 (v := 255) hx hb hown (hts _ m_k_RX3_23) dX3_byteOf_6 ?_
  refine lv_land hx hb dX3_byteOf_9 ?_
  refine lv_l2i (v := ((p0 >>> ((16 : Int32).toInt64 &&& 63)) &&& 255).toInt32) hx hb dX3_byteOf_10 rfl ?_
  have hP9 := hP.sub (ws' := []) [] rfl
  have hD9 := hD.sub (ws' := []) [] (by decide) rfl
  exact W.iret (v := ((p0 >>> ((16 : Int32).toInt64 &&& 63)) &&& 255).toInt32) hx hb hr (fun t ht hW => ⟨⟨((p0 >>> ((16 : Int32).toInt64 &&& 63)) &&& 255).toInt32, 0, rfl, rfl, by rw [ht]; exact hP9, hD9⟩, hS.F ht⟩) hS.2.2 dX3_byteOf_11
set_option maxHeartbeats 4000000 in
set_option maxRecDepth 100000 in
theorem kX3_byteOf_86 (l : Launch) (g : zG) (sz : Nat) (p0 : Int64) : Met l yX3_byteOf (.code yX3_byteOf cX3_byteOf 3 (some .int) :: zBig) ({ frames := 0, cells := 0, slots := 0, locals := 0 }) (va_Pc [.long p0, .int 1] (zPre g [] sz)) (va_Qi (fun (r : Int32) (_ : Nat) => r = ((p0 >>> ((8 : Int32).toInt64 &&& 63)) &&& 255).toInt32) (zPost g (fun _ : Nat => []) (va_A [] sz)) (va_A [] sz)) 0 0 (va_A [] sz) := by
  refine zMetI rfl (Nat.le_of_ble_eq_true rfl) ?_
  intro p e s m args below meth c A ls hx hb hml hr hlocks hin hown hts hK hN hZ hP hD hA hS hAe hl
  have hown : s.vm.findClass RX3 = some m.cls := hown
  have hl : lv_has ls 3 [(0, .long p0), (2, .int 1)] := hl
  refine lv_lload_n hx hb dX3_byteOf_0 rfl (lv_at hl 0 rfl) ?_
  refine lv_bipush (v := 8) hx hb dX3_byteOf_1 (by decide) ?_
  refine lv_iload_n hx hb dX3_byteOf_3 rfl (lv_at hl 1 rfl) ?_
  refine lv_imul hx hb dX3_byteOf_4 ?_
  refine lv_topi (nm_r (e' := 8) (by decide +kernel) ?_)
  refine lv_lshr (v := (p0 >>> ((8 : Int32).toInt64 &&& 63))) hx hb dX3_byteOf_5 rfl ?_
  refine lv_ldc2 (v := 255) hx hb hown (hts _ m_k_RX3_23) dX3_byteOf_6 ?_
  refine lv_land hx hb dX3_byteOf_9 ?_
  refine lv_l2i (v := ((p0 >>> ((8 : Int32).toInt64 &&& 63)) &&& 255).toInt32) hx hb dX3_byteOf_10 rfl ?_
  have hP9 := hP.sub (ws' := []) [] rfl
  have hD9 := hD.sub (ws' := []) [] (by decide) rfl
  exact W.iret (v := ((p0 >>> ((8 : Int32).toInt64 &&& 63)) &&& 255).toInt32) hx hb hr (fun t ht hW => ⟨⟨((p0 >>> ((8 : Int32).toInt64 &&& 63)) &&& 255).toInt32, 0, rfl, rfl, by rw [ht]; exact hP9, hD9⟩, hS.F ht⟩) hS.2.2 dX3_byteOf_11
set_option maxHeartbeats 4000000 in
set_option maxRecDepth 100000 in
theorem kX3_byteOf_87 (l : Launch) (g : zG) (sz : Nat) (p0 : Int64) : Met l yX3_byteOf (.code yX3_byteOf cX3_byteOf 3 (some .int) :: zBig) ({ frames := 0, cells := 0, slots := 0, locals := 0 }) (va_Pc [.long p0, .int 0] (zPre g [] sz)) (va_Qi (fun (r : Int32) (_ : Nat) => r = ((p0 >>> ((0 : Int32).toInt64 &&& 63)) &&& 255).toInt32) (zPost g (fun _ : Nat => []) (va_A [] sz)) (va_A [] sz)) 0 0 (va_A [] sz) := by
  refine zMetI rfl (Nat.le_of_ble_eq_true rfl) ?_
  intro p e s m args below meth c A ls hx hb hml hr hlocks hin hown hts hK hN hZ hP hD hA hS hAe hl
  have hown : s.vm.findClass RX3 = some m.cls := hown
  have hl : lv_has ls 3 [(0, .long p0), (2, .int 0)] := hl
  refine lv_lload_n hx hb dX3_byteOf_0 rfl (lv_at hl 0 rfl) ?_
  refine lv_bipush (v := 8) hx hb dX3_byteOf_1 (by decide) ?_
  refine lv_iload_n hx hb dX3_byteOf_3 rfl (lv_at hl 1 rfl) ?_
  refine lv_imul hx hb dX3_byteOf_4 ?_
  refine lv_topi (nm_r (e' := 0) (by decide +kernel) ?_)
  refine lv_lshr (v := (p0 >>> ((0 : Int32).toInt64 &&& 63))) hx hb dX3_byteOf_5 rfl ?_
  refine lv_ldc2 (v := 255) hx hb hown (hts _ m_k_RX3_23) dX3_byteOf_6 ?_
  refine lv_land hx hb dX3_byteOf_9 ?_
  refine lv_l2i (v := ((p0 >>> ((0 : Int32).toInt64 &&& 63)) &&& 255).toInt32) hx hb dX3_byteOf_10 rfl ?_
  have hP9 := hP.sub (ws' := []) [] rfl
  have hD9 := hD.sub (ws' := []) [] (by decide) rfl
  exact W.iret (v := ((p0 >>> ((0 : Int32).toInt64 &&& 63)) &&& 255).toInt32) hx hb hr (fun t ht hW => ⟨⟨((p0 >>> ((0 : Int32).toInt64 &&& 63)) &&& 255).toInt32, 0, rfl, rfl, by rw [ht]; exact hP9, hD9⟩, hS.F ht⟩) hS.2.2 dX3_byteOf_11
set_option maxHeartbeats 4000000 in
set_option maxRecDepth 100000 in
theorem kX3_byteOf_88 (l : Launch) (g : zG) (sz : Nat) (p0 : Int64) : Met l yX3_byteOf (.code yX3_byteOf cX3_byteOf 3 (some .int) :: zBig) ({ frames := 0, cells := 0, slots := 0, locals := 0 }) (va_Pc [.long p0, .int 5] (zPre g [] sz)) (va_Qi (fun (r : Int32) (_ : Nat) => r = ((p0 >>> ((40 : Int32).toInt64 &&& 63)) &&& 255).toInt32) (zPost g (fun _ : Nat => []) (va_A [] sz)) (va_A [] sz)) 0 0 (va_A [] sz) := by
  refine zMetI rfl (Nat.le_of_ble_eq_true rfl) ?_
  intro p e s m args below meth c A ls hx hb hml hr hlocks hin hown hts hK hN hZ hP hD hA hS hAe hl
  have hown : s.vm.findClass RX3 = some m.cls := hown
  have hl : lv_has ls 3 [(0, .long p0), (2, .int 5)] := hl
  refine lv_lload_n hx hb dX3_byteOf_0 rfl (lv_at hl 0 rfl) ?_
  refine lv_bipush (v := 8) hx hb dX3_byteOf_1 (by decide) ?_
  refine lv_iload_n hx hb dX3_byteOf_3 rfl (lv_at hl 1 rfl) ?_
  refine lv_imul hx hb dX3_byteOf_4 ?_
  refine lv_topi (nm_r (e' := 40) (by decide +kernel) ?_)
  refine lv_lshr (v := (p0 >>> ((40 : Int32).toInt64 &&& 63))) hx hb dX3_byteOf_5 rfl ?_
  refine lv_ldc2 (v := 255) hx hb hown (hts _ m_k_RX3_23) dX3_byteOf_6 ?_
  refine lv_land hx hb dX3_byteOf_9 ?_
  refine lv_l2i (v := ((p0 >>> ((40 : Int32).toInt64 &&& 63)) &&& 255).toInt32) hx hb dX3_byteOf_10 rfl ?_
  have hP9 := hP.sub (ws' := []) [] rfl
  have hD9 := hD.sub (ws' := []) [] (by decide) rfl
  exact W.iret (v := ((p0 >>> ((40 : Int32).toInt64 &&& 63)) &&& 255).toInt32) hx hb hr (fun t ht hW => ⟨⟨((p0 >>> ((40 : Int32).toInt64 &&& 63)) &&& 255).toInt32, 0, rfl, rfl, by rw [ht]; exact hP9, hD9⟩, hS.F ht⟩) hS.2.2 dX3_byteOf_11
set_option maxHeartbeats 4000000 in
set_option maxRecDepth 100000 in
theorem kX3_byteOf_89 (l : Launch) (g : zG) (sz : Nat) (p0 : Int64) : Met l yX3_byteOf (.code yX3_byteOf cX3_byteOf 3 (some .int) :: zBig) ({ frames := 0, cells := 0, slots := 0, locals := 0 }) (va_Pc [.long p0, .int 4] (zPre g [] sz)) (va_Qi (fun (r : Int32) (_ : Nat) => r = ((p0 >>> ((32 : Int32).toInt64 &&& 63)) &&& 255).toInt32) (zPost g (fun _ : Nat => []) (va_A [] sz)) (va_A [] sz)) 0 0 (va_A [] sz) := by
  refine zMetI rfl (Nat.le_of_ble_eq_true rfl) ?_
  intro p e s m args below meth c A ls hx hb hml hr hlocks hin hown hts hK hN hZ hP hD hA hS hAe hl
  have hown : s.vm.findClass RX3 = some m.cls := hown
  have hl : lv_has ls 3 [(0, .long p0), (2, .int 4)] := hl
  refine lv_lload_n hx hb dX3_byteOf_0 rfl (lv_at hl 0 rfl) ?_
  refine lv_bipush (v := 8) hx hb dX3_byteOf_1 (by decide) ?_
  refine lv_iload_n hx hb dX3_byteOf_3 rfl (lv_at hl 1 rfl) ?_
  refine lv_imul hx hb dX3_byteOf_4 ?_
  refine lv_topi (nm_r (e' := 32) (by decide +kernel) ?_)
  refine lv_lshr (v := (p0 >>> ((32 : Int32).toInt64 &&& 63))) hx hb dX3_byteOf_5 rfl ?_
  refine lv_ldc2 (v := 255) hx hb hown (hts _ m_k_RX3_23) dX3_byteOf_6 ?_
  refine lv_land hx hb dX3_byteOf_9 ?_
  refine lv_l2i (v := ((p0 >>> ((32 : Int32).toInt64 &&& 63)) &&& 255).toInt32) hx hb dX3_byteOf_10 rfl ?_
  have hP9 := hP.sub (ws' := []) [] rfl
  have hD9 := hD.sub (ws' := []) [] (by decide) rfl
  exact W.iret (v := ((p0 >>> ((32 : Int32).toInt64 &&& 63)) &&& 255).toInt32) hx hb hr (fun t ht hW => ⟨⟨((p0 >>> ((32 : Int32).toInt64 &&& 63)) &&& 255).toInt32, 0, rfl, rfl, by rw [ht]; exact hP9, hD9⟩, hS.F ht⟩) hS.2.2 dX3_byteOf_11
set_option maxHeartbeats 4000000 in
set_option maxRecDepth 100000 in
theorem kX3_byteOf_90 (l : Launch) (g : zG) (sz : Nat) (p0 : Int64) : Met l yX3_byteOf (.code yX3_byteOf cX3_byteOf 3 (some .int) :: zBig) ({ frames := 0, cells := 0, slots := 0, locals := 0 }) (va_Pc [.long p0, .int 3] (zPre g [] sz)) (va_Qi (fun (r : Int32) (_ : Nat) => r = ((p0 >>> ((24 : Int32).toInt64 &&& 63)) &&& 255).toInt32) (zPost g (fun _ : Nat => []) (va_A [] sz)) (va_A [] sz)) 0 0 (va_A [] sz) := by
  refine zMetI rfl (Nat.le_of_ble_eq_true rfl) ?_
  intro p e s m args below meth c A ls hx hb hml hr hlocks hin hown hts hK hN hZ hP hD hA hS hAe hl
  have hown : s.vm.findClass RX3 = some m.cls := hown
  have hl : lv_has ls 3 [(0, .long p0), (2, .int 3)] := hl
  refine lv_lload_n hx hb dX3_byteOf_0 rfl (lv_at hl 0 rfl) ?_
  refine lv_bipush (v := 8) hx hb dX3_byteOf_1 (by decide) ?_
  refine lv_iload_n hx hb dX3_byteOf_3 rfl (lv_at hl 1 rfl) ?_
  refine lv_imul hx hb dX3_byteOf_4 ?_
  refine lv_topi (nm_r (e' := 24) (by decide +kernel) ?_)
  refine lv_lshr (v := (p0 >>> ((24 : Int32).toInt64 &&& 63))) hx hb dX3_byteOf_5 rfl ?_
  refine lv_ldc2 (v := 255) hx hb hown (hts _ m_k_RX3_23) dX3_byteOf_6 ?_
  refine lv_land hx hb dX3_byteOf_9 ?_
  refine lv_l2i (v := ((p0 >>> ((24 : Int32).toInt64 &&& 63)) &&& 255).toInt32) hx hb dX3_byteOf_10 rfl ?_
  have hP9 := hP.sub (ws' := []) [] rfl
  have hD9 := hD.sub (ws' := []) [] (by decide) rfl
  exact W.iret (v := ((p0 >>> ((24 : Int32).toInt64 &&& 63)) &&& 255).toInt32) hx hb hr (fun t ht hW => ⟨⟨((p0 >>> ((24 : Int32).toInt64 &&& 63)) &&& 255).toInt32, 0, rfl, rfl, by rw [ht]; exact hP9, hD9⟩, hS.F ht⟩) hS.2.2 dX3_byteOf_11
set_option maxHeartbeats 4000000 in
set_option maxRecDepth 100000 in
theorem kX3_byteOf_91 (l : Launch) (g : zG) (sz : Nat) (p0 : Int64) : Met l yX3_byteOf (.code yX3_byteOf cX3_byteOf 3 (some .int) :: zBig) ({ frames := 0, cells := 0, slots := 0, locals := 0 }) (va_Pc [.long p0, .int 2] (zPre g [] sz)) (va_Qi (fun (r : Int32) (_ : Nat) => r = ((p0 >>> ((16 : Int32).toInt64 &&& 63)) &&& 255).toInt32) (zPost g (fun _ : Nat => []) (va_A [] sz)) (va_A [] sz)) 0 0 (va_A [] sz) := by
  refine zMetI rfl (Nat.le_of_ble_eq_true rfl) ?_
  intro p e s m args below meth c A ls hx hb hml hr hlocks hin hown hts hK hN hZ hP hD hA hS hAe hl
  have hown : s.vm.findClass RX3 = some m.cls := hown
  have hl : lv_has ls 3 [(0, .long p0), (2, .int 2)] := hl
  refine lv_lload_n hx hb dX3_byteOf_0 rfl (lv_at hl 0 rfl) ?_
  refine lv_bipush (v := 8) hx hb dX3_byteOf_1 (by decide) ?_
  refine lv_iload_n hx hb dX3_byteOf_3 rfl (lv_at hl 1 rfl) ?_
  refine lv_imul hx hb dX3_byteOf_4 ?_
  refine lv_topi (nm_r (e' := 16) (by decide +kernel) ?_)
  refine lv_lshr (v := (p0 >>> ((16 : Int32).toInt64 &&& 63))) hx hb dX3_byteOf_5 rfl ?_
  refine lv_ldc2 (v := 255) hx hb hown (hts _ m_k_RX3_23) dX3_byteOf_6 ?_
  refine lv_land hx hb dX3_byteOf_9 ?_
  refine lv_l2i (v := ((p0 >>> ((16 : Int32).toInt64 &&& 63)) &&& 255).toInt32) hx hb dX3_byteOf_10 rfl ?_
  have hP9 := hP.sub (ws' := []) [] rfl
  have hD9 := hD.sub (ws' := []) [] (by decide) rfl
  exact W.iret (v := ((p0 >>> ((16 : Int32).toInt64 &&& 63)) &&& 255).toInt32) hx hb hr (fun t ht hW => ⟨⟨((p0 >>> ((16 : Int32).toInt64 &&& 63)) &&& 255).toInt32, 0, rfl, rfl, by rw [ht]; exact hP9, hD9⟩, hS.F ht⟩) hS.2.2 dX3_byteOf_11
