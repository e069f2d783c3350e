set_option maxHeartbeats 4000000 in
set_option maxRecDepth 100000 in
theorem kX4_fitsRule (l : Launch) (g : zG) (sz : Nat) (p0 : Int32) (p1 : Int32) : Met l yX4_fitsRule (.code yX4_fitsRule cX4_fitsRule 2 (some .boolean) :: zBig) ({ frames := 0, cells := 0, slots := 0, locals := 0 }) (va_Pc [.int p0, .int p1] (zPre g [] sz)) (va_Qi (fun (r : Int32) (_ : Nat) => (p0.toInt < 0 ∧ r = 0) ∨ (0 ≤ p0.toInt ∧ 5 ≤ p0.toInt ∧ r = 0) ∨ (0 ≤ p0.toInt ∧ p0.toInt < 5 ∧ p0.toInt = 0 ∧ p1.toInt < 1 ∧ r = 0) ∨ (0 ≤ p0.toInt ∧ p0.toInt < 5 ∧ p0.toInt = 0 ∧ 1 ≤ p1.toInt ∧ 99 < p1.toInt ∧ r = 0) ∨ (0 ≤ p0.toInt ∧ p0.toInt < 5 ∧ p0.toInt = 0 ∧ 1 ≤ p1.toInt ∧ p1.toInt ≤ 99 ∧ r = 1) ∨ (0 ≤ p0.toInt ∧ p0.toInt < 5 ∧ p0.toInt = 1 ∧ p1.toInt < 1 ∧ r = 0) ∨ (0 ≤ p0.toInt ∧ p0.toInt < 5 ∧ p0.toInt = 1 ∧ 1 ≤ p1.toInt ∧ 9 < p1.toInt ∧ r = 0) ∨ (0 ≤ p0.toInt ∧ p0.toInt < 5 ∧ p0.toInt = 1 ∧ 1 ≤ p1.toInt ∧ p1.toInt ≤ 9 ∧ r = 1) ∨ (0 ≤ p0.toInt ∧ p0.toInt < 5 ∧ p0.toInt = 2 ∧ p1.toInt < 0 ∧ r = 0) ∨ (0 ≤ p0.toInt ∧ p0.toInt < 5 ∧ p0.toInt = 2 ∧ 0 ≤ p1.toInt ∧ 99 < p1.toInt ∧ r = 0) ∨ (0 ≤ p0.toInt ∧ p0.toInt < 5 ∧ p0.toInt = 2 ∧ 0 ≤ p1.toInt ∧ p1.toInt ≤ 99 ∧ r = 1) ∨ (0 ≤ p0.toInt ∧ p0.toInt < 5 ∧ p0.toInt = 3 ∧ p1.toInt < 0 ∧ r = 0) ∨ (0 ≤ p0.toInt ∧ p0.toInt < 5 ∧ p0.toInt = 3 ∧ 0 ≤ p1.toInt ∧ 1 < p1.toInt ∧ r = 0) ∨ (0 ≤ p0.toInt ∧ p0.toInt < 5 ∧ p0.toInt = 3 ∧ 0 ≤ p1.toInt ∧ p1.toInt ≤ 1 ∧ r = 1) ∨ (0 ≤ p0.toInt ∧ p0.toInt < 5 ∧ p0.toInt = 4 ∧ p1.toInt < 0 ∧ r = 0) ∨ (0 ≤ p0.toInt ∧ p0.toInt < 5 ∧ p0.toInt = 4 ∧ 0 ≤ p1.toInt ∧ 99 < p1.toInt ∧ r = 0) ∨ (0 ≤ p0.toInt ∧ p0.toInt < 5 ∧ p0.toInt = 4 ∧ 0 ≤ p1.toInt ∧ p1.toInt ≤ 99 ∧ r = 1)) (zPost g (fun _ : Nat => []) (va_A [] sz)) (va_A [] sz)) 0 0 (va_A [] sz) := by
  refine zMetI rfl (Nat.le_of_ble_eq_true rfl) ?_
  intro p e s m args below meth c A ls hx hb hml hr hlocks hin hown hts hK hN hZ hP hD hA hS hAe hl
  have hown : s.vm.findClass RX4 = some m.cls := hown
  have hl : lv_has ls 2 [(0, .int p0), (1, .int p1)] := hl
  refine lv_iload_n hx hb dX4_fitsRule_0 rfl (lv_at hl 0 rfl) ?_
  refine lv_if_lt (tgt := 31) hx hb dX4_fitsRule_1 (by decide) (fun c_0 => ?_) (fun c_0 => ?_)
  · have i_0 : p0.toInt < 0 := z_lt (rfl) (rfl) c_0
    refine lv_iconst (v := 0) hx hb dX4_fitsRule_31 (by decide) ?_
    have hP9 := hP.sub (ws' := []) [] rfl
    have hD9 := hD.sub (ws' := []) [] (by decide) rfl
    exact W.zret (v := 0) hx hb hr (by decide) (fun t ht hW => ⟨⟨0, 0, rfl, Or.inl ⟨i_0, rfl⟩, by rw [ht]; exact hP9, hD9⟩, hS.F ht⟩) hS.2.2 dX4_fitsRule_32
  · have i_0 : 0 ≤ p0.toInt := z_nlt (rfl) (rfl) c_0
    refine lv_iload_n hx hb dX4_fitsRule_4 rfl (lv_at hl 0 rfl) ?_
    refine lv_iconst (v := 5) hx hb dX4_fitsRule_5 (by decide) ?_
    refine lv_icmp_ge (tgt := 31) hx hb dX4_fitsRule_6 (by decide) (fun c_1 => ?_) (fun c_1 => ?_)
    · have i_1 : 5 ≤ p0.toInt := z_le (rfl) (rfl) c_1
      refine lv_iconst (v := 0) hx hb dX4_fitsRule_31 (by decide) ?_
      have hP9 := hP.sub (ws' := []) [] rfl
      have hD9 := hD.sub (ws' := []) [] (by decide) rfl
      exact W.zret (v := 0) hx hb hr (by decide) (fun t ht hW => ⟨⟨0, 0, rfl, Or.inr (Or.inl ⟨i_0, i_1, rfl⟩), by rw [ht]; exact hP9, hD9⟩, hS.F ht⟩) hS.2.2 dX4_fitsRule_32
    · have i_1 : p0.toInt < 5 := z_nle (rfl) (rfl) c_1
      refine lv_iload_n hx hb dX4_fitsRule_9 rfl (lv_at hl 1 rfl) ?_
      refine va_gets (C := "FishSteps") (n := "RULE_LEAST") (d := "[I") hx hb hZ.2.1.1 hS hown (hts _ m_f_RX4_245) (fun _ h => h) dX4_fitsRule_10 ?_
      refine lv_iload_n hx hb dX4_fitsRule_13 rfl (lv_at hl 0 rfl) ?_
      rcases (show p0.toInt = 0 ∨ p0.toInt = 1 ∨ p0.toInt = 2 ∨ p0.toInt = 3 ∨ p0.toInt = 4 by omega) with j_2 | j_2 | j_2 | j_2 | j_2
      · obtain rfl : p0 = 0 := Int32.toInt_inj.mp (show p0.toInt = (0 : Int32).toInt from j_2.trans rfl)
        refine va_ti hx hb hZ.2.1.2.1 hS (vp_in_iff.mpr (by decide +kernel)) (v := .int 1) rfl dX4_fitsRule_14 ?_
        refine lv_icmp_lt (tgt := 31) hx hb dX4_fitsRule_15 (by decide) (fun c_3 => ?_) (fun c_3 => ?_)
        · have i_3 : p1.toInt < 1 := z_lt (rfl) (rfl) c_3
          refine lv_iconst (v := 0) hx hb dX4_fitsRule_31 (by decide) ?_
          have hP9 := hP.sub (ws' := []) [] rfl
          have hD9 := hD.sub (ws' := []) [] (by decide) rfl
          exact W.zret (v := 0) hx hb hr (by decide) (fun t ht hW => ⟨⟨0, 0, rfl, Or.inr (Or.inr (Or.inl ⟨i_0, i_1, j_2, i_3, rfl⟩)), by rw [ht]; exact hP9, hD9⟩, hS.F ht⟩) hS.2.2 dX4_fitsRule_32
        · have i_3 : 1 ≤ p1.toInt := z_nlt (rfl) (rfl) c_3
          refine lv_iload_n hx hb dX4_fitsRule_18 rfl (lv_at hl 1 rfl) ?_
          refine va_gets (C := "FishSteps") (n := "RULE_MOST") (d := "[I") hx hb hZ.2.2.1 hS hown (hts _ m_f_RX4_248) (fun _ h => h) dX4_fitsRule_19 ?_
          refine lv_iload_n hx hb dX4_fitsRule_22 rfl (lv_at hl 0 rfl) ?_
          refine va_ti hx hb hZ.2.2.2.1 hS (vp_in_iff.mpr (by decide +kernel)) (v := .int 99) rfl dX4_fitsRule_23 ?_
          refine lv_icmp_gt (tgt := 31) hx hb dX4_fitsRule_24 (by decide) (fun c_4 => ?_) (fun c_4 => ?_)
          · have i_4 : 99 < p1.toInt := z_lt (rfl) (rfl) c_4
            refine lv_iconst (v := 0) hx hb dX4_fitsRule_31 (by decide) ?_
            have hP9 := hP.sub (ws' := []) [] rfl
            have hD9 := hD.sub (ws' := []) [] (by decide) rfl
            exact W.zret (v := 0) hx hb hr (by decide) (fun t ht hW => ⟨⟨0, 0, rfl, Or.inr (Or.inr (Or.inr (Or.inl ⟨i_0, i_1, j_2, i_3, i_4, rfl⟩))), by rw [ht]; exact hP9, hD9⟩, hS.F ht⟩) hS.2.2 dX4_fitsRule_32
          · have i_4 : p1.toInt ≤ 99 := z_nlt (rfl) (rfl) c_4
            refine lv_iconst (v := 1) hx hb dX4_fitsRule_27 (by decide) ?_
            refine lv_goto (tgt := 32) hx hb dX4_fitsRule_28 (by decide) ?_
            have hP9 := hP.sub (ws' := []) [] rfl
            have hD9 := hD.sub (ws' := []) [] (by decide) rfl
            exact W.zret (v := 1) hx hb hr (by decide) (fun t ht hW => ⟨⟨1, 0, rfl, Or.inr (Or.inr (Or.inr (Or.inr (Or.inl ⟨i_0, i_1, j_2, i_3, i_4, rfl⟩)))), by rw [ht]; exact hP9, hD9⟩, hS.F ht⟩) hS.2.2 dX4_fitsRule_32
      · obtain rfl : p0 = 1 := Int32.toInt_inj.mp (show p0.toInt = (1 : Int32).toInt from j_2.trans rfl)
        refine va_ti hx hb hZ.2.1.2.1 hS (vp_in_iff.mpr (by decide +kernel)) (v := .int 1) rfl dX4_fitsRule_14 ?_
        refine lv_icmp_lt (tgt := 31) hx hb dX4_fitsRule_15 (by decide) (fun c_5 => ?_) (fun c_5 => ?_)
        · have i_5 : p1.toInt < 1 := z_lt (rfl) (rfl) c_5
          refine lv_iconst (v := 0) hx hb dX4_fitsRule_31 (by decide) ?_
          have hP9 := hP.sub (ws' := []) [] rfl
          have hD9 := hD.sub (ws' := []) [] (by decide) rfl
          exact W.zret (v := 0) hx hb hr (by decide) (fun t ht hW => ⟨⟨0, 0, rfl, Or.inr (Or.inr (Or.inr (Or.inr (Or.inr (Or.inl ⟨i_0, i_1, j_2, i_5, rfl⟩))))), by rw [ht]; exact hP9, hD9⟩, hS.F ht⟩) hS.2.2 dX4_fitsRule_32
        · have i_5 : 1 ≤ p1.toInt := z_nlt (rfl) (rfl) c_5
          refine lv_iload_n hx hb dX4_fitsRule_18 rfl (lv_at hl 1 rfl) ?_
          refine va_gets (C := "FishSteps") (n := "RULE_MOST") (d := "[I") hx hb hZ.2.2.1 hS hown (hts _ m_f_RX4_248) (fun _ h => h) dX4_fitsRule_19 ?_
          refine lv_iload_n hx hb dX4_fitsRule_22 rfl (lv_at hl 0 rfl) ?_
          refine va_ti hx hb hZ.2.2.2.1 hS (vp_in_iff.mpr (by decide +kernel)) (v := .int 9) rfl dX4_fitsRule_23 ?_
          refine lv_icmp_gt (tgt := 31) hx hb dX4_fitsRule_24 (by decide) (fun c_6 => ?_) (fun c_6 => ?_)
          · have i_6 : 9 < p1.toInt := z_lt (rfl) (rfl) c_6
            refine lv_iconst (v := 0) hx hb dX4_fitsRule_31 (by decide) ?_
            have hP9 := hP.sub (ws' := []) [] rfl
            have hD9 := hD.sub (ws' := []) [] (by decide) rfl
            exact W.zret (v := 0) hx hb hr (by decide) (fun t ht hW => ⟨⟨0, 0, rfl, Or.inr (Or.inr (Or.inr (Or.inr (Or.inr (Or.inr (Or.inl ⟨i_0, i_1, j_2, i_5, i_6, rfl⟩)))))), by rw [ht]; exact hP9, hD9⟩, hS.F ht⟩) hS.2.2 dX4_fitsRule_32
          · have i_6 : p1.toInt ≤ 9 := z_nlt (rfl) (rfl) c_6
            refine lv_iconst (v := 1) hx hb dX4_fitsRule_27 (by decide) ?_
            refine lv_goto (tgt := 32) hx hb dX4_fitsRule_28 (by decide) ?_
            have hP9 := hP.sub (ws' := []) [] rfl
            have hD9 := hD.sub (ws' := []) [] (by decide) rfl
            exact W.zret (v := 1) hx hb hr (by decide) (fun t ht hW => ⟨⟨1, 0, rfl, Or.inr (Or.inr (Or.inr (Or.inr (Or.inr (Or.inr (Or.inr (Or.inl ⟨i_0, i_1, j_2, i_5, i_6, rfl⟩))))))), by rw [ht]; exact hP9, hD9⟩, hS.F ht⟩) hS.2.2 dX4_fitsRule_32
      · obtain rfl : p0 = 2 := Int32.toInt_inj.mp (show p0.toInt = (2 : Int32).toInt from j_2.trans rfl)
        refine va_ti hx hb hZ.2.1.2.1 hS (vp_in_iff.mpr (by decide +kernel)) (v := .int 0) rfl dX4_fitsRule_14 ?_
        refine lv_icmp_lt (tgt := 31) hx hb dX4_fitsRule_15 (by decide) (fun c_7 => ?_) (fun c_7 => ?_)
        · have i_7 : p1.toInt < 0 := z_lt (rfl) (rfl) c_7
          refine lv_iconst (v := 0) hx hb dX4_fitsRule_31 (by decide) ?_
          have hP9 := hP.sub (ws' := []) [] rfl
          have hD9 := hD.sub (ws' := []) [] (by decide) rfl
          exact W.zret (v := 0) hx hb hr (by decide) (fun t ht hW => ⟨⟨0, 0, rfl, Or.inr (Or.inr (Or.inr (Or.inr (Or.inr (Or.inr (Or.inr (Or.inr (Or.inl ⟨i_0, i_1, j_2, i_7, rfl⟩)))))))), by rw [ht]; exact hP9, hD9⟩, hS.F ht⟩) hS.2.2 dX4_fitsRule_32
        · have i_7 : 0 ≤ p1.toInt := z_nlt (rfl) (rfl) c_7
          refine lv_iload_n hx hb dX4_fitsRule_18 rfl (lv_at hl 1 rfl) ?_
          refine va_gets (C := "FishSteps") (n := "RULE_MOST") (d := "[I") hx hb hZ.2.2.1 hS hown (hts _ m_f_RX4_248) (fun _ h => h) dX4_fitsRule_19 ?_
          refine lv_iload_n hx hb dX4_fitsRule_22 rfl (lv_at hl 0 rfl) ?_
          refine va_ti hx hb hZ.2.2.2.1 hS (vp_in_iff.mpr (by decide +kernel)) (v := .int 99) rfl dX4_fitsRule_23 ?_
          refine lv_icmp_gt (tgt := 31) hx hb dX4_fitsRule_24 (by decide) (fun c_8 => ?_) (fun c_8 => ?_)
          · have i_8 : 99 < p1.toInt := z_lt (rfl) (rfl) c_8
            refine lv_iconst (v := 0) hx hb dX4_fitsRule_31 (by decide) ?_
            have hP9 := hP.sub (ws' := []) [] rfl
            have hD9 := hD.sub (ws' := []) [] (by decide) rfl
            exact W.zret (v := 0) hx hb hr (by decide) (fun t ht hW => ⟨⟨0, 0, rfl, Or.inr (Or.inr (Or.inr (Or.inr (Or.inr (Or.inr (Or.inr (Or.inr (Or.inr (Or.inl ⟨i_0, i_1, j_2, i_7, i_8, rfl⟩))))))))), by rw [ht]; exact hP9, hD9⟩, hS.F ht⟩) hS.2.2 dX4_fitsRule_32
          · have i_8 : p1.toInt ≤ 99 := z_nlt (rfl) (rfl) c_8
            refine lv_iconst (v := 1) hx hb dX4_fitsRule_27 (by decide) ?_
            refine lv_goto (tgt := 32) hx hb dX4_fitsRule_28 (by decide) ?_
            have hP9 := hP.sub (ws' := []) [] rfl
            have hD9 := hD.sub (ws' := []) [] (by decide) rfl
            exact W.zret (v := 1) hx hb hr (by decide) (fun t ht hW => ⟨⟨1, 0, rfl, Or.inr (Or.inr (Or.inr (Or.inr (Or.inr (Or.inr (Or.inr (Or.inr (Or.inr (Or.inr (Or.inl ⟨i_0, i_1, j_2, i_7, i_8, rfl⟩)))))))))), by rw [ht]; exact hP9, hD9⟩, hS.F ht⟩) hS.2.2 dX4_fitsRule_32
      · obtain rfl : p0 = 3 := Int32.toInt_inj.mp (show p0.toInt = (3 : Int32).toInt from j_2.trans rfl)
        refine va_ti hx hb hZ.2.1.2.1 hS (vp_in_iff.mpr (by decide +kernel)) (v := .int 0) rfl dX4_fitsRule_14 ?_
        refine lv_icmp_lt (tgt := 31) hx hb dX4_fitsRule_15 (by decide) (fun c_9 => ?_) (fun c_9 => ?_)
        · have i_9 : p1.toInt < 0 := z_lt (rfl) (rfl) c_9
          refine lv_iconst (v := 0) hx hb dX4_fitsRule_31 (by decide) ?_
          have hP9 := hP.sub (ws' := []) [] rfl
          have hD9 := hD.sub (ws' := []) [] (by decide) rfl
          exact W.zret (v := 0) hx hb hr (by decide) (fun t ht hW => ⟨⟨0, 0, rfl, Or.inr (Or.inr (Or.inr (Or.inr (Or.inr (Or.inr (Or.inr (Or.inr (Or.inr (Or.inr (Or.inr (Or.inl ⟨i_0, i_1, j_2, i_9, rfl⟩))))))))))), by rw [ht]; exact hP9, hD9⟩, hS.F ht⟩) hS.2.2 dX4_fitsRule_32
        · have i_9 : 0 ≤ p1.toInt := z_nlt (rfl) (rfl) c_9
          refine lv_iload_n hx hb dX4_fitsRule_18 rfl (lv_at hl 1 rfl) ?_
          refine va_gets (C := "FishSteps") (n := "RULE_MOST") (d := "[I") hx hb hZ.2.2.1 hS hown (hts _ m_f_RX4_248) (fun _ h => h) dX4_fitsRule_19 ?_
          refine lv_iload_n hx hb dX4_fitsRule_22 rfl (lv_at hl 0 rfl) ?_
          refine va_ti hx hb hZ.2.2.2.1 hS (vp_in_iff.mpr (by decide +kernel)) (v := .int 1) rfl dX4_fitsRule_23 ?_
          refine lv_icmp_gt (tgt := 31) hx hb dX4_fitsRule_24 (by decide) (fun c_10 => ?_) (fun c_10 => ?_)
          · have i_10 : 1 < p1.toInt := z_lt (rfl) (rfl) c_10
            refine lv_iconst (v := 0) hx hb dX4_fitsRule_31 (by decide) ?_
            have hP9 := hP.sub (ws' := []) [] rfl
            have hD9 := hD.sub (ws' := []) [] (by decide) rfl
            exact W.zret (v := 0) hx hb hr (by decide) (fun t ht hW => ⟨⟨0, 0, rfl, Or.inr (Or.inr (Or.inr (Or.inr (Or.inr (Or.inr (Or.inr (Or.inr (Or.inr (Or.inr (Or.inr (Or.inr (Or.inl ⟨i_0, i_1, j_2, i_9, i_10, rfl⟩)))))))))))), by rw [ht]; exact hP9, hD9⟩, hS.F ht⟩) hS.2.2 dX4_fitsRule_32
          · have i_10 : p1.toInt ≤ 1 := z_nlt (rfl) (rfl) c_10
            refine lv_iconst (v := 1) hx hb dX4_fitsRule_27 (by decide) ?_
            refine lv_goto (tgt := 32) hx hb dX4_fitsRule_28 (by decide) ?_
            have hP9 := hP.sub (ws' := []) [] rfl
            have hD9 := hD.sub (ws' := []) [] (by decide) rfl
            exact W.zret (v := 1) hx hb hr (by decide) (fun t ht hW => ⟨⟨1, 0, rfl, Or.inr (Or.inr (Or.inr (Or.inr (Or.inr (Or.inr (Or.inr (Or.inr (Or.inr (Or.inr (Or.inr (Or.inr (Or.inr (Or.inl ⟨i_0, i_1, j_2, i_9, i_10, rfl⟩))))))))))))), by rw [ht]; exact hP9, hD9⟩, hS.F ht⟩) hS.2.2 dX4_fitsRule_32
      · obtain rfl : p0 = 4 := Int32.toInt_inj.mp (show p0.toInt = (4 : Int32).toInt from j_2.trans rfl)
        refine va_ti hx hb hZ.2.1.2.1 hS (vp_in_iff.mpr (by decide +kernel)) (v := .int 0) rfl dX4_fitsRule_14 ?_
        refine lv_icmp_lt (tgt := 31) hx hb dX4_fitsRule_15 (by decide) (fun c_11 => ?_) (fun c_11 => ?_)
        · have i_11 : p1.toInt < 0 := z_lt (rfl) (rfl) c_11
          refine lv_iconst (v := 0) hx hb dX4_fitsRule_31 (by decide) ?_
          have hP9 := hP.sub (ws' := []) [] rfl
          have hD9 := hD.sub (ws' := []) [] (by decide) rfl
          exact W.zret (v := 0) hx hb hr (by decide) (fun t ht hW => ⟨⟨0, 0, rfl, Or.inr (Or.inr (Or.inr (Or.inr (Or.inr (Or.inr (Or.inr (Or.inr (Or.inr (Or.inr (Or.inr (Or.inr (Or.inr (Or.inr (Or.inl ⟨i_0, i_1, j_2, i_11, rfl⟩)))))))))))))), by rw [ht]; exact hP9, hD9⟩, hS.F ht⟩) hS.2.2 dX4_fitsRule_32
        · have i_11 : 0 ≤ p1.toInt := z_nlt (rfl) (rfl) c_11
          refine lv_iload_n hx hb dX4_fitsRule_18 rfl (lv_at hl 1 rfl) ?_
          refine va_gets (C := "FishSteps") (n := "RULE_MOST") (d := "[I") hx hb hZ.2.2.1 hS hown (hts _ m_f_RX4_248) (fun _ h => h) dX4_fitsRule_19 ?_
          refine lv_iload_n hx hb dX4_fitsRule_22 rfl (lv_at hl 0 rfl) ?_
          refine va_ti hx hb hZ.2.2.2.1 hS (vp_in_iff.mpr (by decide +kernel)) (v := .int 99) rfl dX4_fitsRule_23 ?_
          refine lv_icmp_gt (tgt := 31) hx hb dX4_fitsRule_24 (by decide) (fun c_12 => ?_) (fun c_12 => ?_)
          · have i_12 : 99 < p1.toInt := z_lt (rfl) (rfl) c_12
            refine lv_iconst (v := 0) hx hb dX4_fitsRule_31 (by decide) ?_
            have hP9 := hP.sub (ws' := []) [] rfl
            have hD9 := hD.sub (ws' := []) [] (by decide) rfl
            exact W.zret (v := 0) hx hb hr (by decide) (fun t ht hW => ⟨⟨0, 0, rfl, Or.inr (Or.inr (Or.inr (Or.inr (Or.inr (Or.inr (Or.inr (Or.inr (Or.inr (Or.inr (Or.inr (Or.inr (Or.inr (Or.inr (Or.inr (Or.inl ⟨i_0, i_1, j_2, i_11, i_12, rfl⟩))))))))))))))), by rw [ht]; exact hP9, hD9⟩, hS.F ht⟩) hS.2.2 dX4_fitsRule_32
          · have i_12 : p1.toInt ≤ 99 := z_nlt (rfl) (rfl) c_12
            refine lv_iconst (v := 1) hx hb dX4_fitsRule_27 (by decide) ?_
            refine lv_goto (tgt := 32) hx hb dX4_fitsRule_28 (by decide) ?_
            have hP9 := hP.sub (ws' := []) [] rfl
            have hD9 := hD.sub (ws' := []) [] (by decide) rfl
            exact W.zret (v := 1) hx hb hr (by decide) (fun t ht hW => ⟨⟨1, 0, rfl, Or.inr (Or.inr (Or.inr (Or.inr (Or.inr (Or.inr (Or.inr (Or.inr (Or.inr (Or.inr (Or.inr (Or.inr (Or.inr (Or.inr (Or.inr (Or.inr (⟨i_0, i_1, j_2, i_11, i_12, rfl⟩)))))))))))))))), by rw [ht]; exact hP9, hD9⟩, hS.F ht⟩) hS.2.2 dX4_fitsRule_32
set_option maxHeartbeats 4000000 in
set_option maxRecDepth 100000 in
theorem kX4_fitsRule_2 (l : Launch) (g : zG) (sz : Nat) (p0 : Int32) (p1 : Int32) : Met l yX4_fitsRule (.code yX4_fitsRule cX4_fitsRule 2 (some .boolean) :: zBig) ({ frames := 0, cells := 0, slots := 0, locals := 0 }) (va_Pc [.int p0, .int p1] (zPre g [] sz)) (va_Qi (fun (r : Int32) (_ : Nat) => (p0.toInt < 0 ∧ r = 0) ∨ (0 ≤ p0.toInt ∧ 5 ≤ p0.toInt ∧ r = 0) ∨ (0 ≤ p0.toInt ∧ p0.toInt < 5 ∧ p0.toInt = 0 ∧ p1.toInt < 1 ∧ r = 0) ∨ (0 ≤ p0.toInt ∧ p0.toInt < 5 ∧ p0.toInt = 0 ∧ 1 ≤ p1.toInt ∧ 99 < p1.toInt ∧ r = 0) ∨ (0 ≤ p0.toInt ∧ p0.toInt < 5 ∧ p0.toInt = 0 ∧ 1 ≤ p1.toInt ∧ p1.toInt ≤ 99 ∧ r = 1) ∨ (0 ≤ p0.toInt ∧ p0.toInt < 5 ∧ p0.toInt = 1 ∧ p1.toInt < 1 ∧ r = 0) ∨ (0 ≤ p0.toInt ∧ p0.toInt < 5 ∧ p0.toInt = 1 ∧ 1 ≤ p1.toInt ∧ 9 < p1.toInt ∧ r = 0) ∨ (0 ≤ p0.toInt ∧ p0.toInt < 5 ∧ p0.toInt = 1 ∧ 1 ≤ p1.toInt ∧ p1.toInt ≤ 9 ∧ r = 1) ∨ (0 ≤ p0.toInt ∧ p0.toInt < 5 ∧ p0.toInt = 2 ∧ p1.toInt < 0 ∧ r = 0) ∨ (0 ≤ p0.toInt ∧ p0.toInt < 5 ∧ p0.toInt = 2 ∧ 0 ≤ p1.toInt ∧ 99 < p1.toInt ∧ r = 0) ∨ (0 ≤ p0.toInt ∧ p0.toInt < 5 ∧ p0.toInt = 2 ∧ 0 ≤ p1.toInt ∧ p1.toInt ≤ 99 ∧ r = 1) ∨ (0 ≤ p0.toInt ∧ p0.toInt < 5 ∧ p0.toInt = 3 ∧ p1.toInt < 0 ∧ r = 0) ∨ (0 ≤ p0.toInt ∧ p0.toInt < 5 ∧ p0.toInt = 3 ∧ 0 ≤ p1.toInt ∧ 1 < p1.toInt ∧ r = 0) ∨ (0 ≤ p0.toInt ∧ p0.toInt < 5 ∧ p0.toInt = 3 ∧ 0 ≤ p1.toInt ∧ p1.toInt ≤ 1 ∧ r = 1) ∨ (0 ≤ p0.toInt ∧ p0.toInt < 5 ∧ p0.toInt = 4 ∧ p1.toInt < 0 ∧ r = 0) ∨ (0 ≤ p0.toInt ∧ p0.toInt < 5 ∧ p0.toInt = 4 ∧ 0 ≤ p1.toInt ∧ 99 < p1.toInt ∧ r = 0) ∨ (0 ≤ p0.toInt ∧ p0.toInt < 5 ∧ p0.toInt = 4 ∧ 0 ≤ p1.toInt ∧ p1.toInt ≤ 99 ∧ r = 1)) (zPost g (fun _ : Nat => []) (va_A [] sz)) (va_A [] sz)) 0 0 (va_A [] sz) := by
  refine zMetI rfl (Nat.le_of_ble_eq_true rfl) ?_
  intro p e s m args below meth c A ls hx hb hml hr hlocks hin hown hts hK hN hZ hP hD hA hS hAe hl
  have hown : s.vm.findClass RX4 = some m.cls := hown
  have hl : lv_has ls 2 [(0, .int p0), (1, .int p1)] := hl
  refine lv_iload_n hx hb dX4_fitsRule_0 rfl (lv_at hl 0 rfl) ?_
  refine lv_if_lt (tgt := 31) hx hb dX4_fitsRule_1 (by decide) (fun c_0 => ?_) (fun c_0 => ?_)
  · have i_0 : p0.toInt < 0 := z_lt (rfl) (rfl) c_0
    refine lv_iconst (v := 0) hx hb dX4_fitsRule_31 (by decide) ?_
    have hP9 := hP.sub (ws' := []) [] rfl
    have hD9 := hD.sub (ws' := []) [] (by decide) rfl
    exact W.zret (v := 0) hx hb hr (by decide) (fun t ht hW => ⟨⟨0, 0, rfl, Or.inl ⟨i_0, rfl⟩, by rw [ht]; exact hP9, hD9⟩, hS.F ht⟩) hS.2.2 dX4_fitsRule_32
  · have i_0 : 0 ≤ p0.toInt := z_nlt (rfl) (rfl) c_0
    refine lv_iload_n hx hb dX4_fitsRule_4 rfl (lv_at hl 0 rfl) ?_
    refine lv_iconst (v := 5) hx hb dX4_fitsRule_5 (by decide) ?_
    refine lv_icmp_ge (tgt := 31) hx hb dX4_fitsRule_6 (by decide) (fun c_1 => ?_) (fun c_1 => ?_)
    · have i_1 : 5 ≤ p0.toInt := z_le (rfl) (rfl) c_1
      refine lv_iconst (v := 0) hx hb dX4_fitsRule_31 (by decide) ?_
      have hP9 := hP.sub (ws' := []) [] rfl
      have hD9 := hD.sub (ws' := []) [] (by decide) rfl
      exact W.zret (v := 0) hx hb hr (by decide) (fun t ht hW => ⟨⟨0, 0, rfl, Or.inr (Or.inl ⟨i_0, i_1, rfl⟩), by rw [ht]; exact hP9, hD9⟩, hS.F ht⟩) hS.2.2 dX4_fitsRule_32
    · have i_1 : p0.toInt < 5 := z_nle (rfl) (rfl) c_1
      refine lv_iload_n hx hb dX4_fitsRule_9 rfl (lv_at hl 1 rfl) ?_
      refine va_gets (C := "FishSteps") (n := "RULE_LEAST") (d := "[I") hx hb hZ.2.1.1 hS hown (hts _ m_f_RX4_245) (fun _ h => h) dX4_fitsRule_10 ?_
      refine lv_iload_n hx hb dX4_fitsRule_13 rfl (lv_at hl 0 rfl) ?_
      rcases (show p0.toInt = 0 ∨ p0.toInt = 1 ∨ p0.toInt = 2 ∨ p0.toInt = 3 ∨ p0.toInt = 4 by omega) with j_2 | j_2 | j_2 | j_2 | j_2
      · obtain rfl : p0 = 0 := Int32.toInt_inj.mp (show p0.toInt = (0 : Int32).toInt from j_2.trans rfl)
        refine va_ti hx hb hZ.2.1.2.1 hS (vp_in_iff.mpr (by decide +kernel)) (v := .int 1) rfl dX4_fitsRule_14 ?_
        refine lv_icmp_lt (tgt := 31) hx hb dX4_fitsRule_15 (by decide) (fun c_3 => ?_) (fun c_3 => ?_)
        · have i_3 : p1.toInt < 1 := z_lt (rfl) (rfl) c_3
          refine lv_iconst (v := 0) hx hb dX4_fitsRule_31 (by decide) ?_
          have hP9 := hP.sub (ws' := []) [] rfl
          have hD9 := hD.sub (ws' := []) [] (by decide) rfl
          exact W.zret (v := 0) hx hb hr (by decide) (fun t ht hW => ⟨⟨0, 0, rfl, Or.inr (Or.inr (Or.inl ⟨i_0, i_1, j_2, i_3, rfl⟩)), by rw [ht]; exact hP9, hD9⟩, hS.F ht⟩) hS.2.2 dX4_fitsRule_32
        · have i_3 : 1 ≤ p1.toInt := z_nlt (rfl) (rfl) c_3
          refine lv_iload_n hx hb dX4_fitsRule_18 rfl (lv_at hl 1 rfl) ?_
          refine va_gets (C := "FishSteps") (n := "RULE_MOST") (d := "[I") hx hb hZ.2.2.1 hS hown (hts _ m_f_RX4_248) (fun _ h => h) dX4_fitsRule_19 ?_
          refine lv_iload_n hx hb dX4_fitsRule_22 rfl (lv_at hl 0 rfl) ?_
          refine va_ti hx hb hZ.2.2.2.1 hS (vp_in_iff.mpr (by decide +kernel)) (v := .int 99) rfl dX4_fitsRule_23 ?_
          refine lv_icmp_gt (tgt := 31) hx hb dX4_fitsRule_24 (by decide) (fun c_4 => ?_) (fun c_4 => ?_)
          · have i_4 : 99 < p1.toInt := z_lt (rfl) (rfl) c_4
            refine lv_iconst (v := 0) hx hb dX4_fitsRule_31 (by decide) ?_
            have hP9 := hP.sub (ws' := []) [] rfl
            have hD9 := hD.sub (ws' := []) [] (by decide) rfl
            exact W.zret (v := 0) hx hb hr (by decide) (fun t ht hW => ⟨⟨0, 0, rfl, Or.inr (Or.inr (Or.inr (Or.inl ⟨i_0, i_1, j_2, i_3, i_4, rfl⟩))), by rw [ht]; exact hP9, hD9⟩, hS.F ht⟩) hS.2.2 dX4_fitsRule_32
          · have i_4 : p1.toInt ≤ 99 := z_nlt (rfl) (rfl) c_4
            refine lv_iconst (v := 1) hx hb dX4_fitsRule_27 (by decide) ?_
            refine lv_goto (tgt := 32) hx hb dX4_fitsRule_28 (by decide) ?_
            have hP9 := hP.sub (ws' := []) [] rfl
            have hD9 := hD.sub (ws' := []) [] (by decide) rfl
            exact W.zret (v := 1) hx hb hr (by decide) (fun t ht hW => ⟨⟨1, 0, rfl, Or.inr (Or.inr (Or.inr (Or.inr (Or.inl ⟨i_0, i_1, j_2, i_3, i_4, rfl⟩)))), by rw [ht]; exact hP9, hD9⟩, hS.F ht⟩) hS.2.2 dX4_fitsRule_32
      · obtain rfl : p0 = 1 := Int32.toInt_inj.mp (show p0.toInt = (1 : Int32).toInt from j_2.trans rfl)
        refine va_ti hx hb hZ.2.1.2.1 hS (vp_in_iff.mpr (by decide +kernel)) (v := .int 1) rfl dX4_fitsRule_14 ?_
        refine lv_icmp_lt (tgt := 31) hx hb dX4_fitsRule_15 (by decide) (fun c_5 => ?_) (fun c_5 => ?_)
        · have i_5 : p1.toInt < 1 := z_lt (rfl) (rfl) c_5
          refine lv_iconst (v := 0) hx hb dX4_fitsRule_31 (by decide) ?_
          have hP9 := hP.sub (ws' := []) [] rfl
          have hD9 := hD.sub (ws' := []) [] (by decide) rfl
          exact W.zret (v := 0) hx hb hr (by decide) (fun t ht hW => ⟨⟨0, 0, rfl, Or.inr (Or.inr (Or.inr (Or.inr (Or.inr (Or.inl ⟨i_0, i_1, j_2, i_5, rfl⟩))))), by rw [ht]; exact hP9, hD9⟩, hS.F ht⟩) hS.2.2 dX4_fitsRule_32
        · have i_5 : 1 ≤ p1.toInt := z_nlt (rfl) (rfl) c_5
          refine lv_iload_n hx hb dX4_fitsRule_18 rfl (lv_at hl 1 rfl) ?_
          refine va_gets (C := "FishSteps") (n := "RULE_MOST") (d := "[I") hx hb hZ.2.2.1 hS hown (hts _ m_f_RX4_248) (fun _ h => h) dX4_fitsRule_19 ?_
          refine lv_iload_n hx hb dX4_fitsRule_22 rfl (lv_at hl 0 rfl) ?_
          refine va_ti hx hb hZ.2.2.2.1 hS (vp_in_iff.mpr (by decide +kernel)) (v := .int 9) rfl dX4_fitsRule_23 ?_
          refine lv_icmp_gt (tgt := 31) hx hb dX4_fitsRule_24 (by decide) (fun c_6 => ?_) (fun c_6 => ?_)
          · have i_6 : 9 < p1.toInt := z_lt (rfl) (rfl) c_6
            refine lv_iconst (v := 0) hx hb dX4_fitsRule_31 (by decide) ?_
            have hP9 := hP.sub (ws' := []) [] rfl
            have hD9 := hD.sub (ws' := []) [] (by decide) rfl
            exact W.zret (v := 0) hx hb hr (by decide) (fun t ht hW => ⟨⟨0, 0, rfl, Or.inr (Or.inr (Or.inr (Or.inr (Or.inr (Or.inr (Or.inl ⟨i_0, i_1, j_2, i_5, i_6, rfl⟩)))))), by rw [ht]; exact hP9, hD9⟩, hS.F ht⟩) hS.2.2 dX4_fitsRule_32
          · have i_6 : p1.toInt ≤ 9 := z_nlt (rfl) (rfl) c_6
            refine lv_iconst (v := 1) hx hb dX4_fitsRule_27 (by decide) ?_
            refine lv_goto (tgt := 32) hx hb dX4_fitsRule_28 (by decide) ?_
            have hP9 := hP.sub (ws' := []) [] rfl
            have hD9 := hD.sub (ws' := []) [] (by decide) rfl
            exact W.zret (v := 1) hx hb hr (by decide) (fun t ht hW => ⟨⟨1, 0, rfl, Or.inr (Or.inr (Or.inr (Or.inr (Or.inr (Or.inr (Or.inr (Or.inl ⟨i_0, i_1, j_2, i_5, i_6, rfl⟩))))))), by rw [ht]; exact hP9, hD9⟩, hS.F ht⟩) hS.2.2 dX4_fitsRule_32
      · obtain rfl : p0 = 2 := Int32.toInt_inj.mp (show p0.toInt = (2 : Int32).toInt from j_2.trans rfl)
        refine va_ti hx hb hZ.2.1.2.1 hS (vp_in_iff.mpr (by decide +kernel)) (v := .int 0) rfl dX4_fitsRule_14 ?_
        refine lv_icmp_lt (tgt := 31) hx hb dX4_fitsRule_15 (by decide) (fun c_7 => ?_) (fun c_7 => ?_)
        · have i_7 : p1.toInt < 0 := z_lt (rfl) (rfl) c_7
          refine lv_iconst (v := 0) hx hb dX4_fitsRule_31 (by decide) ?_
          have hP9 := hP.sub (ws' := []) [] rfl
          have hD9 := hD.sub (ws' := []) [] (by decide) rfl
          exact W.zret (v := 0) hx hb hr (by decide) (fun t ht hW => ⟨⟨0, 0, rfl, Or.inr (Or.inr (Or.inr (Or.inr (Or.inr (Or.inr (Or.inr (Or.inr (Or.inl ⟨i_0, i_1, j_2, i_7, rfl⟩)))))))), by rw [ht]; exact hP9, hD9⟩, hS.F ht⟩) hS.2.2 dX4_fitsRule_32
        · have i_7 : 0 ≤ p1.toInt := z_nlt (rfl) (rfl) c_7
          refine lv_iload_n hx hb dX4_fitsRule_18 rfl (lv_at hl 1 rfl) ?_
          refine va_gets (C := "FishSteps") (n := "RULE_MOST") (d := "[I") hx hb hZ.2.2.1 hS hown (hts _ m_f_RX4_248) (fun _ h => h) dX4_fitsRule_19 ?_
          refine lv_iload_n hx hb dX4_fitsRule_22 rfl (lv_at hl 0 rfl) ?_
          refine va_ti hx hb hZ.2.2.2.1 hS (vp_in_iff.mpr (by decide +kernel)) (v := .int 99) rfl dX4_fitsRule_23 ?_
          refine lv_icmp_gt (tgt := 31) hx hb dX4_fitsRule_24 (by decide) (fun c_8 => ?_) (fun c_8 => ?_)
          · have i_8 : 99 < p1.toInt := z_lt (rfl) (rfl) c_8
            refine lv_iconst (v := 0) hx hb dX4_fitsRule_31 (by decide) ?_
            have hP9 := hP.sub (ws' := []) [] rfl
            have hD9 := hD.sub (ws' := []) [] (by decide) rfl
            exact W.zret (v := 0) hx hb hr (by decide) (fun t ht hW => ⟨⟨0, 0, rfl, Or.inr (Or.inr (Or.inr (Or.inr (Or.inr (Or.inr (Or.inr (Or.inr (Or.inr (Or.inl ⟨i_0, i_1, j_2, i_7, i_8, rfl⟩))))))))), by rw [ht]; exact hP9, hD9⟩, hS.F ht⟩) hS.2.2 dX4_fitsRule_32
          · have i_8 : p1.toInt ≤ 99 := z_nlt (rfl) (rfl) c_8
            refine lv_iconst (v := 1) hx hb dX4_fitsRule_27 (by decide) ?_
            refine lv_goto (tgt := 32) hx hb dX4_fitsRule_28 (by decide) ?_
            have hP9 := hP.sub (ws' := []) [] rfl
            have hD9 := hD.sub (ws' := []) [] (by decide) rfl
            exact W.zret (v := 1) hx hb hr (by decide) (fun t ht hW => ⟨⟨1, 0, rfl, Or.inr (Or.inr (Or.inr (Or.inr (Or.inr (Or.inr (Or.inr (Or.inr (Or.inr (Or.inr (Or.inl ⟨i_0, i_1, j_2, i_7, i_8, rfl⟩)))))))))), by rw [ht]; exact hP9, hD9⟩, hS.F ht⟩) hS.2.2 dX4_fitsRule_32
      · obtain rfl : p0 = 3 := Int32.toInt_inj.mp (show p0.toInt = (3 : Int32).toInt from j_2.trans rfl)
        refine va_ti hx hb hZ.2.1.2.1 hS (vp_in_iff.mpr (by decide +kernel)) (v := .int 0) rfl dX4_fitsRule_14 ?_
        refine lv_icmp_lt (tgt := 31) hx hb dX4_fitsRule_15 (by decide) (fun c_9 => ?_) (fun c_9 => ?_)
        · have i_9 : p1.toInt < 0 := z_lt (rfl) (rfl) c_9
          refine lv_iconst (v := 0) hx hb dX4_fitsRule_31 (by decide) ?_
          have hP9 := hP.sub (ws' := []) [] rfl
          have hD9 := hD.sub (ws' := []) [] (by decide) rfl
          exact W.zret (v := 0) hx hb hr (by decide) (fun t ht hW => ⟨⟨0, 0, rfl, Or.inr (Or.inr (Or.inr (Or.inr (Or.inr (Or.inr (Or.inr (Or.inr (Or.inr (Or.inr (Or.inr (Or.inl ⟨i_0, i_1, j_2, i_9, rfl⟩))))))))))), by rw [ht]; exact hP9, hD9⟩, hS.F ht⟩) hS.2.2 dX4_fitsRule_32
        · have i_9 : 0 ≤ p1.toInt := z_nlt (rfl) (rfl) c_9
          refine lv_iload_n hx hb dX4_fitsRule_18 rfl (lv_at hl 1 rfl) ?_
          refine va_gets (C := "FishSteps") (n := "RULE_MOST") (d := "[I") hx hb hZ.2.2.1 hS hown (hts _ m_f_RX4_248) (fun _ h => h) dX4_fitsRule_19 ?_
          refine lv_iload_n hx hb dX4_fitsRule_22 rfl (lv_at hl 0 rfl) ?_
          refine va_ti hx hb hZ.2.2.2.1 hS (vp_in_iff.mpr (by decide +kernel)) (v := .int 1) rfl dX4_fitsRule_23 ?_
          refine lv_icmp_gt (tgt := 31) hx hb dX4_fitsRule_24 (by decide) (fun c_10 => ?_) (fun c_10 => ?_)
          · have i_10 : 1 < p1.toInt := z_lt (rfl) (rfl) c_10
            refine lv_iconst (v := 0) hx hb dX4_fitsRule_31 (by decide) ?_
            have hP9 := hP.sub (ws' := []) [] rfl
            have hD9 := hD.sub (ws' := []) [] (by decide) rfl
            exact W.zret (v := 0) hx hb hr (by decide) (fun t ht hW => ⟨⟨0, 0, rfl, Or.inr (Or.inr (Or.inr (Or.inr (Or.inr (Or.inr (Or.inr (Or.inr (Or.inr (Or.inr (Or.inr (Or.inr (Or.inl ⟨i_0, i_1, j_2, i_9, i_10, rfl⟩)))))))))))), by rw [ht]; exact hP9, hD9⟩, hS.F ht⟩) hS.2.2 dX4_fitsRule_32
          · have i_10 : p1.toInt ≤ 1 := z_nlt (rfl) (rfl) c_10
            refine lv_iconst (v := 1) hx hb dX4_fitsRule_27 (by decide) ?_
            refine lv_goto (tgt := 32) hx hb dX4_fitsRule_28 (by decide) ?_
            have hP9 := hP.sub (ws' := []) [] rfl
            have hD9 := hD.sub (ws' := []) [] (by decide) rfl
            exact W.zret (v := 1) hx hb hr (by decide) (fun t ht hW => ⟨⟨1, 0, rfl, Or.inr (Or.inr (Or.inr (Or.inr (Or.inr (Or.inr (Or.inr (Or.inr (Or.inr (Or.inr (Or.inr (Or.inr (Or.inr (Or.inl ⟨i_0, i_1, j_2, i_9, i_10, rfl⟩))))))))))))), by rw [ht]; exact hP9, hD9⟩, hS.F ht⟩) hS.2.2 dX4_fitsRule_32
      · obtain rfl : p0 = 4 := Int32.toInt_inj.mp (show p0.toInt = (4 : Int32).toInt from j_2.trans rfl)
        refine va_ti hx hb hZ.2.1.2.1 hS (vp_in_iff.mpr (by decide +kernel)) (v := .int 0) rfl dX4_fitsRule_14 ?_
        refine lv_icmp_lt (tgt := 31) hx hb dX4_fitsRule_15 (by decide) (fun c_11 => ?_) (fun c_11 => ?_)
        · have i_11 : p1.toInt < 0 := z_lt (rfl) (rfl) c_11
          refine lv_iconst (v := 0) hx hb dX4_fitsRule_31 (by decide) ?_
          have hP9 := hP.sub (ws' := []) [] rfl
          have hD9 := hD.sub (ws' := []) [] (by decide) rfl
          exact W.zret (v := 0) hx hb hr (by decide) (fun t ht hW => ⟨⟨0, 0, rfl, Or.inr (Or.inr (Or.inr (Or.inr (Or.inr (Or.inr (Or.inr (Or.inr (Or.inr (Or.inr (Or.inr (Or.inr (Or.inr (Or.inr (Or.inl ⟨i_0, i_1, j_2, i_11, rfl⟩)))))))))))))), by rw [ht]; exact hP9, hD9⟩, hS.F ht⟩) hS.2.2 dX4_fitsRule_32
        · have i_11 : 0 ≤ p1.toInt := z_nlt (rfl) (rfl) c_11
          refine lv_iload_n hx hb dX4_fitsRule_18 rfl (lv_at hl 1 rfl) ?_
          refine va_gets (C := "FishSteps") (n := "RULE_MOST") (d := "[I") hx hb hZ.2.2.1 hS hown (hts _ m_f_RX4_248) (fun _ h => h) dX4_fitsRule_19 ?_
          refine lv_iload_n hx hb dX4_fitsRule_22 rfl (lv_at hl 0 rfl) ?_
          refine va_ti hx hb hZ.2.2.2.1 hS (vp_in_iff.mpr (by decide +kernel)) (v := .int 99) rfl dX4_fitsRule_23 ?_
          refine lv_icmp_gt (tgt := 31) hx hb dX4_fitsRule_24 (by decide) (fun c_12 => ?_) (fun c_12 => ?_)
          · have i_12 : 99 < p1.toInt := z_lt (rfl) (rfl) c_12
            refine lv_iconst (v := 0) hx hb dX4_fitsRule_31 (by decide) ?_
            have hP9 := hP.sub (ws' := []) [] rfl
            have hD9 := hD.sub (ws' := []) [] (by decide) rfl
            exact W.zret (v := 0) hx hb hr (by decide) (fun t ht hW => ⟨⟨0, 0, rfl, Or.inr (Or.inr (Or.inr (Or.inr (Or.inr (Or.inr (Or.inr (Or.inr (Or.inr (Or.inr (Or.inr (Or.inr (Or.inr (Or.inr (Or.inr (Or.inl ⟨i_0, i_1, j_2, i_11, i_12, rfl⟩))))))))))))))), by rw [ht]; exact hP9, hD9⟩, hS.F ht⟩) hS.2.2 dX4_fitsRule_32
          · have i_12 : p1.toInt ≤ 99 := z_nlt (rfl) (rfl) c_12
            refine lv_iconst (v := 1) hx hb dX4_fitsRule_27 (by decide) ?_
            refine lv_goto (tgt := 32) hx hb dX4_fitsRule_28 (by decide) ?_
            have hP9 := hP.sub (ws' := []) [] rfl
            have hD9 := hD.sub (ws' := []) [] (by decide) rfl
            exact W.zret (v := 1) hx hb hr (by decide) (fun t ht hW => ⟨⟨1, 0, rfl, Or.inr (Or.inr (Or.inr (Or.inr (Or.inr (Or.inr (Or.inr (Or.inr (Or.inr (Or.inr (Or.inr (Or.inr (Or.inr (Or.inr (Or.inr (Or.inr (⟨i_0, i_1, j_2, i_11, i_12, rfl⟩)))))))))))))))), by rw [ht]; exact hP9, hD9⟩, hS.F ht⟩) hS.2.2 dX4_fitsRule_32
set_option maxHeartbeats 4000000 in
set_option maxRecDepth 100000 in
theorem kX4_rule (l : Launch) (g : zG) (h0 h1 h2 h3 h4 h5 h6 h7 h8 h9 h10 h11 h12 h13 h14 h15 h16 h17 h18 : Nat) (sz : Nat) (p1 : Int32) (p2 : Int32) : Met l yX4_rule (.code yX4_rule cX4_rule 4 (some .int) :: zBig) ({ frames := 1, cells := 0, slots := 0, locals := 21 }) (va_Pc [.ref h0, .int p1, .int p2] (zPre g [(h0, .inr (4, [.ref h1, .ref h2, .int 0, .ref h3, .ref h4, .ref h5, .ref h6, .int (-1), .ref h7, .ref h8, .ref h9, .ref h10])), (h1, .inr (0, [.ref h11, .int 0, .ref h12, .int 0, .ref h13, .ref h14, .ref h15, .ref h16, .ref h17, .ref h18, .int 0])), (h11, .inl (zI g, 5, .inl (zA [60, 1, 1, 0, 0])))] sz)) (va_Qi (fun (r : Int32) (_ : Nat) => (p1.toInt < 0 ∧ r = (-1)) ∨ (0 ≤ p1.toInt ∧ 5 ≤ p1.toInt ∧ r = (-1)) ∨ (0 ≤ p1.toInt ∧ p1.toInt < 5 ∧ p1.toInt = 0 ∧ p2.toInt < 1 ∧ r = (-1)) ∨ (0 ≤ p1.toInt ∧ p1.toInt < 5 ∧ p1.toInt = 0 ∧ 1 ≤ p2.toInt ∧ 99 < p2.toInt ∧ r = (-1)) ∨ (0 ≤ p1.toInt ∧ p1.toInt < 5 ∧ p1.toInt = 0 ∧ 1 ≤ p2.toInt ∧ p2.toInt ≤ 99 ∧ r = 60) ∨ (0 ≤ p1.toInt ∧ p1.toInt < 5 ∧ p1.toInt = 1 ∧ p2.toInt < 1 ∧ r = (-1)) ∨ (0 ≤ p1.toInt ∧ p1.toInt < 5 ∧ p1.toInt = 1 ∧ 1 ≤ p2.toInt ∧ 9 < p2.toInt ∧ r = (-1)) ∨ (0 ≤ p1.toInt ∧ p1.toInt < 5 ∧ p1.toInt = 1 ∧ 1 ≤ p2.toInt ∧ p2.toInt ≤ 9 ∧ r = 1) ∨ (0 ≤ p1.toInt ∧ p1.toInt < 5 ∧ p1.toInt = 2 ∧ p2.toInt < 0 ∧ r = (-1)) ∨ (0 ≤ p1.toInt ∧ p1.toInt < 5 ∧ p1.toInt = 2 ∧ 0 ≤ p2.toInt ∧ 99 < p2.toInt ∧ r = (-1)) ∨ (0 ≤ p1.toInt ∧ p1.toInt < 5 ∧ p1.toInt = 2 ∧ 0 ≤ p2.toInt ∧ p2.toInt ≤ 99 ∧ r = 1) ∨ (0 ≤ p1.toInt ∧ p1.toInt < 5 ∧ p1.toInt = 3 ∧ p2.toInt < 0 ∧ r = (-1)) ∨ (0 ≤ p1.toInt ∧ p1.toInt < 5 ∧ p1.toInt = 3 ∧ 0 ≤ p2.toInt ∧ 1 < p2.toInt ∧ r = (-1)) ∨ (0 ≤ p1.toInt ∧ p1.toInt < 5 ∧ p1.toInt = 3 ∧ 0 ≤ p2.toInt ∧ p2.toInt ≤ 1 ∧ r = 0) ∨ (0 ≤ p1.toInt ∧ p1.toInt < 5 ∧ p1.toInt = 4 ∧ p2.toInt < 0 ∧ r = (-1)) ∨ (0 ≤ p1.toInt ∧ p1.toInt < 5 ∧ p1.toInt = 4 ∧ 0 ≤ p2.toInt ∧ 99 < p2.toInt ∧ r = (-1)) ∨ (0 ≤ p1.toInt ∧ p1.toInt < 5 ∧ p1.toInt = 4 ∧ 0 ≤ p2.toInt ∧ p2.toInt ≤ 99 ∧ r = 0)) (zPost g (fun _ : Nat => []) (va_A [(h0, .inr (4, [.ref h1, .ref h2, .int 0, .ref h3, .ref h4, .ref h5, .ref h6, .int (-1), .ref h7, .ref h8, .ref h9, .ref h10])), (h1, .inr (0, [.ref h11, .int 0, .ref h12, .int 0, .ref h13, .ref h14, .ref h15, .ref h16, .ref h17, .ref h18, .int 0])), (h11, .inl (zI g, 5, .inl (zA [60, 1, 1, 0, 0])))] sz)) (va_A [(h0, .inr (4, [.ref h1, .ref h2, .int 0, .ref h3, .ref h4, .ref h5, .ref h6, .int (-1), .ref h7, .ref h8, .ref h9, .ref h10])), (h1, .inr (0, [.ref h11, .int 0, .ref h12, .int 0, .ref h13, .ref h14, .ref h15, .ref h16, .ref h17, .ref h18, .int 0])), (h11, .inl (zI g, 5, .inl (zA [60, 1, 1, 0, 0])))] sz)) 0 0 (va_A [(h0, .inr (4, [.ref h1, .ref h2, .int 0, .ref h3, .ref h4, .ref h5, .ref h6, .int (-1), .ref h7, .ref h8, .ref h9, .ref h10])), (h1, .inr (0, [.ref h11, .int 0, .ref h12, .int 0, .ref h13, .ref h14, .ref h15, .ref h16, .ref h17, .ref h18, .int 0])), (h11, .inl (zI g, 5, .inl (zA [60, 1, 1, 0, 0])))] sz) := by
  refine zMetI rfl (Nat.le_of_ble_eq_true rfl) ?_
  intro p e s m args below meth c A ls hx hb hml hr hlocks hin hown hts hK hN hZ hP hD hA hS hAe hl
  have hown : s.vm.findClass RX4 = some m.cls := hown
  have hl : lv_has ls 4 [(0, .ref h0), (1, .int p1), (2, .int p2)] := hl
  refine lv_iload_n hx hb dX4_rule_0 rfl (lv_at hl 1 rfl) ?_
  refine lv_iload_n hx hb dX4_rule_1 rfl (lv_at hl 2 rfl) ?_
  refine z_calli (wr := [(h0, .inr (4, [.ref h1, .ref h2, .int 0, .ref h3, .ref h4, .ref h5, .ref h6, .int (-1), .ref h7, .ref h8, .ref h9, .ref h10])), (h1, .inr (0, [.ref h11, .int 0, .ref h12, .int 0, .ref h13, .ref h14, .ref h15, .ref h16, .ref h17, .ref h18, .int 0])), (h11, .inl (zI g, 5, .inl (zA [60, 1, 1, 0, 0])))]) hP hD hS hA [] [0, 1, 2] (by decide) rfl rfl (by decide) (va_runS (As := [.int p1, .int p2]) (rest := []) ⟨hx, hb, hml, hown, hts⟩ (kX4_fitsRule_2 l g  s.heap.size p1 p2) ⟨callB_of 2 hts (zGood m_o_yX4_fitsRule) rfl rfl rfl (hts _ m_z_RX4) (hts _ m_m_RX4_64) ⟨by decide +kernel, by decide +kernel, by decide +kernel⟩ ⟨Nat.le_of_ble_eq_true rfl, Nat.le_of_ble_eq_true rfl⟩, hts _ m_s_yX4_fitsRule⟩ (zPreS hK hN hZ hP hD hS hA [] (by decide) rfl rfl) rfl rfl hl.1 rfl (lv_room (Nat.le_of_ble_eq_true rfl)) dX4_rule_2 ⟨Nat.le_of_ble_eq_true rfl, Nat.le_of_ble_eq_true rfl⟩) (fun r u H locs hw hP hD hS => ?_)
  rcases hw with ⟨i_0, rfl⟩ | ⟨i_1, i_2, rfl⟩ | ⟨i_3, i_4, i_5, i_6, rfl⟩ | ⟨i_7, i_8, i_9, i_10, i_11, rfl⟩ | ⟨i_12, i_13, i_14, i_15, i_16, rfl⟩ | ⟨i_17, i_18, i_19, i_20, rfl⟩ | ⟨i_21, i_22, i_23, i_24, i_25, rfl⟩ | ⟨i_26, i_27, i_28, i_29, i_30, rfl⟩ | ⟨i_31, i_32, i_33, i_34, rfl⟩ | ⟨i_35, i_36, i_37, i_38, i_39, rfl⟩ | ⟨i_40, i_41, i_42, i_43, i_44, rfl⟩ | ⟨i_45, i_46, i_47, i_48, rfl⟩ | ⟨i_49, i_50, i_51, i_52, i_53, rfl⟩ | ⟨i_54, i_55, i_56, i_57, i_58, rfl⟩ | ⟨i_59, i_60, i_61, i_62, rfl⟩ | ⟨i_63, i_64, i_65, i_66, i_67, rfl⟩ | ⟨i_68, i_69, i_70, i_71, i_72, rfl⟩
  · skip
    have i_0 : p1.toInt < 0 := i_0
    have hP : va_P g.1 vwCl [(h0, .inr (4, [.ref h1, .ref h2, .int 0, .ref h3, .ref h4, .ref h5, .ref h6, .int (-1), .ref h7, .ref h8, .ref h9, .ref h10])), (h1, .inr (0, [.ref h11, .int 0, .ref h12, .int 0, .ref h13, .ref h14, .ref h15, .ref h16, .ref h17, .ref h18, .int 0])), (h11, .inl (zI g, 5, .inl (zA [60, 1, 1, 0, 0])))] H := hP
    have hD : va_D A [(h0, .inr (4, [.ref h1, .ref h2, .int 0, .ref h3, .ref h4, .ref h5, .ref h6, .int (-1), .ref h7, .ref h8, .ref h9, .ref h10])), (h1, .inr (0, [.ref h11, .int 0, .ref h12, .int 0, .ref h13, .ref h14, .ref h15, .ref h16, .ref h17, .ref h18, .int 0])), (h11, .inl (zI g, 5, .inl (zA [60, 1, 1, 0, 0])))] := hD
    refine lv_if_ne (tgt := 10) hx hb dX4_rule_5 (by decide) (fun h => absurd h (by decide +kernel)) (fun _ => ?_)
    refine lv_iconst (v := (-1)) hx hb dX4_rule_8 (by decide) ?_
    have hP9 := hP.sub (ws' := []) [] rfl
    have hD9 := hD.sub (ws' := []) [] (by decide) rfl
    exact W.iret (v := (-1)) hx hb hr (fun t ht hW => ⟨⟨(-1), 0, rfl, Or.inl ⟨i_0, rfl⟩, by rw [ht]; exact hP9, hD9⟩, hS.F ht⟩) hS.2.2 dX4_rule_9
  · skip
    have i_1 : 0 ≤ p1.toInt := i_1
    have i_2 : 5 ≤ p1.toInt := i_2
    have hP : va_P g.1 vwCl [(h0, .inr (4, [.ref h1, .ref h2, .int 0, .ref h3, .ref h4, .ref h5, .ref h6, .int (-1), .ref h7, .ref h8, .ref h9, .ref h10])), (h1, .inr (0, [.ref h11, .int 0, .ref h12, .int 0, .ref h13, .ref h14, .ref h15, .ref h16, .ref h17, .ref h18, .int 0])), (h11, .inl (zI g, 5, .inl (zA [60, 1, 1, 0, 0])))] H := hP
    have hD : va_D A [(h0, .inr (4, [.ref h1, .ref h2, .int 0, .ref h3, .ref h4, .ref h5, .ref h6, .int (-1), .ref h7, .ref h8, .ref h9, .ref h10])), (h1, .inr (0, [.ref h11, .int 0, .ref h12, .int 0, .ref h13, .ref h14, .ref h15, .ref h16, .ref h17, .ref h18, .int 0])), (h11, .inl (zI g, 5, .inl (zA [60, 1, 1, 0, 0])))] := hD
    refine lv_if_ne (tgt := 10) hx hb dX4_rule_5 (by decide) (fun h => absurd h (by decide +kernel)) (fun _ => ?_)
    refine lv_iconst (v := (-1)) hx hb dX4_rule_8 (by decide) ?_
    have hP9 := hP.sub (ws' := []) [] rfl
    have hD9 := hD.sub (ws' := []) [] (by decide) rfl
    exact W.iret (v := (-1)) hx hb hr (fun t ht hW => ⟨⟨(-1), 0, rfl, Or.inr (Or.inl ⟨i_1, i_2, rfl⟩), by rw [ht]; exact hP9, hD9⟩, hS.F ht⟩) hS.2.2 dX4_rule_9
  · skip
    have i_3 : 0 ≤ p1.toInt := i_3
    have i_4 : p1.toInt < 5 := i_4
    have i_5 : p1.toInt = 0 := i_5
    have i_6 : p2.toInt < 1 := i_6
    have hP : va_P g.1 vwCl [(h0, .inr (4, [.ref h1, .ref h2, .int 0, .ref h3, .ref h4, .ref h5, .ref h6, .int (-1), .ref h7, .ref h8, .ref h9, .ref h10])), (h1, .inr (0, [.ref h11, .int 0, .ref h12, .int 0, .ref h13, .ref h14, .ref h15, .ref h16, .ref h17, .ref h18, .int 0])), (h11, .inl (zI g, 5, .inl (zA [60, 1, 1, 0, 0])))] H := hP
    have hD : va_D A [(h0, .inr (4, [.ref h1, .ref h2, .int 0, .ref h3, .ref h4, .ref h5, .ref h6, .int (-1), .ref h7, .ref h8, .ref h9, .ref h10])), (h1, .inr (0, [.ref h11, .int 0, .ref h12, .int 0, .ref h13, .ref h14, .ref h15, .ref h16, .ref h17, .ref h18, .int 0])), (h11, .inl (zI g, 5, .inl (zA [60, 1, 1, 0, 0])))] := hD
    refine lv_if_ne (tgt := 10) hx hb dX4_rule_5 (by decide) (fun h => absurd h (by decide +kernel)) (fun _ => ?_)
    refine lv_iconst (v := (-1)) hx hb dX4_rule_8 (by decide) ?_
    have hP9 := hP.sub (ws' := []) [] rfl
    have hD9 := hD.sub (ws' := []) [] (by decide) rfl
    exact W.iret (v := (-1)) hx hb hr (fun t ht hW => ⟨⟨(-1), 0, rfl, Or.inr (Or.inr (Or.inl ⟨i_3, i_4, i_5, i_6, rfl⟩)), by rw [ht]; exact hP9, hD9⟩, hS.F ht⟩) hS.2.2 dX4_rule_9
  · skip
    have i_7 : 0 ≤ p1.toInt := i_7
    have i_8 : p1.toInt < 5 := i_8
    have i_9 : p1.toInt = 0 := i_9
    have i_10 : 1 ≤ p2.toInt := i_10
    have i_11 : 99 < p2.toInt := i_11
    have hP : va_P g.1 vwCl [(h0, .inr (4, [.ref h1, .ref h2, .int 0, .ref h3, .ref h4, .ref h5, .ref h6, .int (-1), .ref h7, .ref h8, .ref h9, .ref h10])), (h1, .inr (0, [.ref h11, .int 0, .ref h12, .int 0, .ref h13, .ref h14, .ref h15, .ref h16, .ref h17, .ref h18, .int 0])), (h11, .inl (zI g, 5, .inl (zA [60, 1, 1, 0, 0])))] H := hP
    have hD : va_D A [(h0, .inr (4, [.ref h1, .ref h2, .int 0, .ref h3, .ref h4, .ref h5, .ref h6, .int (-1), .ref h7, .ref h8, .ref h9, .ref h10])), (h1, .inr (0, [.ref h11, .int 0, .ref h12, .int 0, .ref h13, .ref h14, .ref h15, .ref h16, .ref h17, .ref h18, .int 0])), (h11, .inl (zI g, 5, .inl (zA [60, 1, 1, 0, 0])))] := hD
    refine lv_if_ne (tgt := 10) hx hb dX4_rule_5 (by decide) (fun h => absurd h (by decide +kernel)) (fun _ => ?_)
    refine lv_iconst (v := (-1)) hx hb dX4_rule_8 (by decide) ?_
    have hP9 := hP.sub (ws' := []) [] rfl
    have hD9 := hD.sub (ws' := []) [] (by decide) rfl
    exact W.iret (v := (-1)) hx hb hr (fun t ht hW => ⟨⟨(-1), 0, rfl, Or.inr (Or.inr (Or.inr (Or.inl ⟨i_7, i_8, i_9, i_10, i_11, rfl⟩))), by rw [ht]; exact hP9, hD9⟩, hS.F ht⟩) hS.2.2 dX4_rule_9
  · skip
    have i_12 : 0 ≤ p1.toInt := i_12
    have i_13 : p1.toInt < 5 := i_13
    have i_14 : p1.toInt = 0 := i_14
    have i_15 : 1 ≤ p2.toInt := i_15
    have i_16 : p2.toInt ≤ 99 := i_16
    have hP : va_P g.1 vwCl [(h0, .inr (4, [.ref h1, .ref h2, .int 0, .ref h3, .ref h4, .ref h5, .ref h6, .int (-1), .ref h7, .ref h8, .ref h9, .ref h10])), (h1, .inr (0, [.ref h11, .int 0, .ref h12, .int 0, .ref h13, .ref h14, .ref h15, .ref h16, .ref h17, .ref h18, .int 0])), (h11, .inl (zI g, 5, .inl (zA [60, 1, 1, 0, 0])))] H := hP
    have hD : va_D A [(h0, .inr (4, [.ref h1, .ref h2, .int 0, .ref h3, .ref h4, .ref h5, .ref h6, .int (-1), .ref h7, .ref h8, .ref h9, .ref h10])), (h1, .inr (0, [.ref h11, .int 0, .ref h12, .int 0, .ref h13, .ref h14, .ref h15, .ref h16, .ref h17, .ref h18, .int 0])), (h11, .inl (zI g, 5, .inl (zA [60, 1, 1, 0, 0])))] := hD
    refine lv_if_ne (tgt := 10) hx hb dX4_rule_5 (by decide) (fun _ => ?_) (fun h => absurd h (by decide +kernel))
    refine lv_aload_n hx hb dX4_rule_10 rfl (lv_at hl 0 rfl) ?_
    refine va_get (D := g.1) (ci := 4) (v := .ref h1) (C := RX4) (T := TX4) (N := 12) hx hb hts zl_X4 hown hK hP 0 rfl rfl 0 (by decide) (hts _ m_f_RX4_10) (fun _ h => h) rfl dX4_rule_11 ?_
    refine va_getN (D := g.1) (ci := 0) (v := .ref h11) (C := RX0) (T := TX0) (N := 11) hx hb hts zl_X0 hown hK hP 1 rfl rfl 0 (by decide) (hN.f 1 (q := (RX4, 68, "FishSteps$Books", "law", "[I")) rfl) (fun _ h => h) rfl dX4_rule_14 ?_
    refine lv_iload_n hx hb dX4_rule_17 rfl (lv_at hl 1 rfl) ?_
    obtain rfl : p1 = 0 := Int32.toInt_inj.mp (show p1.toInt = (0 : Int32).toInt from (show p1.toInt = 0 by omega).trans rfl)
    refine va_iald (D := g.1) hx hb hK hP 2 0 rfl rfl (vp_in_iff.mpr (by decide +kernel)) dX4_rule_18 ?_
    refine lv_topi (nm_r (e' := 60) (by rfl) ?_)
    refine lv_istore_n (lv' := [(3, .int 60), (0, .ref h0), (1, .int 0), (2, .int p2)]) hx hb dX4_rule_19 rfl hl (by decide) rfl (fun ls hl => ?_)
    refine lv_aload_n hx hb dX4_rule_20 rfl (lv_at hl 1 rfl) ?_
    refine va_get (D := g.1) (ci := 4) (v := .ref h1) (C := RX4) (T := TX4) (N := 12) hx hb hts zl_X4 hown hK hP 0 rfl rfl 0 (by decide) (hts _ m_f_RX4_10) (fun _ h => h) rfl dX4_rule_21 ?_
    refine va_getN (D := g.1) (ci := 0) (v := .ref h11) (C := RX0) (T := TX0) (N := 11) hx hb hts zl_X0 hown hK hP 1 rfl rfl 0 (by decide) (hN.f 1 (q := (RX4, 68, "FishSteps$Books", "law", "[I")) rfl) (fun _ h => h) rfl dX4_rule_24 ?_
    refine lv_iload_n hx hb dX4_rule_27 rfl (lv_at hl 2 rfl) ?_
    refine lv_iload_n hx hb dX4_rule_28 rfl (lv_at hl 3 rfl) ?_
    refine va_iast (D := g.1) hx hb hK hP hD hS 2 0 rfl rfl (vp_in_iff.mpr (by decide +kernel)) dX4_rule_29 (fun H locs hP hD hS => ?_)
    have hP : va_P g.1 vwCl [(h0, .inr (4, [.ref h1, .ref h2, .int 0, .ref h3, .ref h4, .ref h5, .ref h6, .int (-1), .ref h7, .ref h8, .ref h9, .ref h10])), (h1, .inr (0, [.ref h11, .int 0, .ref h12, .int 0, .ref h13, .ref h14, .ref h15, .ref h16, .ref h17, .ref h18, .int 0])), (h11, .inl (zI g, 5, .inl (upd (zA [60, 1, 1, 0, 0]) 0 p2)))] H := hP
    have hD : va_D A [(h0, .inr (4, [.ref h1, .ref h2, .int 0, .ref h3, .ref h4, .ref h5, .ref h6, .int (-1), .ref h7, .ref h8, .ref h9, .ref h10])), (h1, .inr (0, [.ref h11, .int 0, .ref h12, .int 0, .ref h13, .ref h14, .ref h15, .ref h16, .ref h17, .ref h18, .int 0])), (h11, .inl (zI g, 5, .inl (upd (zA [60, 1, 1, 0, 0]) 0 p2)))] := hD
    refine lv_iload_n hx hb dX4_rule_30 rfl (lv_at hl 0 rfl) ?_
    have hP9 := hP.sub (ws' := []) [] rfl
    have hD9 := hD.sub (ws' := []) [] (by decide) rfl
    exact W.iret (v := 60) hx hb hr (fun t ht hW => ⟨⟨60, 0, rfl, Or.inr (Or.inr (Or.inr (Or.inr (Or.inl ⟨i_12, i_13, i_14, i_15, i_16, rfl⟩)))), by rw [ht]; exact hP9, hD9⟩, hS.F ht⟩) hS.2.2 dX4_rule_31
  · skip
    have i_17 : 0 ≤ p1.toInt := i_17
    have i_18 : p1.toInt < 5 := i_18
    have i_19 : p1.toInt = 1 := i_19
    have i_20 : p2.toInt < 1 := i_20
    have hP : va_P g.1 vwCl [(h0, .inr (4, [.ref h1, .ref h2, .int 0, .ref h3, .ref h4, .ref h5, .ref h6, .int (-1), .ref h7, .ref h8, .ref h9, .ref h10])), (h1, .inr (0, [.ref h11, .int 0, .ref h12, .int 0, .ref h13, .ref h14, .ref h15, .ref h16, .ref h17, .ref h18, .int 0])), (h11, .inl (zI g, 5, .inl (zA [60, 1, 1, 0, 0])))] H := hP
    have hD : va_D A [(h0, .inr (4, [.ref h1, .ref h2, .int 0, .ref h3, .ref h4, .ref h5, .ref h6, .int (-1), .ref h7, .ref h8, .ref h9, .ref h10])), (h1, .inr (0, [.ref h11, .int 0, .ref h12, .int 0, .ref h13, .ref h14, .ref h15, .ref h16, .ref h17, .ref h18, .int 0])), (h11, .inl (zI g, 5, .inl (zA [60, 1, 1, 0, 0])))] := hD
    refine lv_if_ne (tgt := 10) hx hb dX4_rule_5 (by decide) (fun h => absurd h (by decide +kernel)) (fun _ => ?_)
    refine lv_iconst (v := (-1)) hx hb dX4_rule_8 (by decide) ?_
    have hP9 := hP.sub (ws' := []) [] rfl
    have hD9 := hD.sub (ws' := []) [] (by decide) rfl
    exact W.iret (v := (-1)) hx hb hr (fun t ht hW => ⟨⟨(-1), 0, rfl, Or.inr (Or.inr (Or.inr (Or.inr (Or.inr (Or.inl ⟨i_17, i_18, i_19, i_20, rfl⟩))))), by rw [ht]; exact hP9, hD9⟩, hS.F ht⟩) hS.2.2 dX4_rule_9
  · skip
    have i_21 : 0 ≤ p1.toInt := i_21
    have i_22 : p1.toInt < 5 := i_22
    have i_23 : p1.toInt = 1 := i_23
    have i_24 : 1 ≤ p2.toInt := i_24
    have i_25 : 9 < p2.toInt := i_25
    have hP : va_P g.1 vwCl [(h0, .inr (4, [.ref h1, .ref h2, .int 0, .ref h3, .ref h4, .ref h5, .ref h6, .int (-1), .ref h7, .ref h8, .ref h9, .ref h10])), (h1, .inr (0, [.ref h11, .int 0, .ref h12, .int 0, .ref h13, .ref h14, .ref h15, .ref h16, .ref h17, .ref h18, .int 0])), (h11, .inl (zI g, 5, .inl (zA [60, 1, 1, 0, 0])))] H := hP
    have hD : va_D A [(h0, .inr (4, [.ref h1, .ref h2, .int 0, .ref h3, .ref h4, .ref h5, .ref h6, .int (-1), .ref h7, .ref h8, .ref h9, .ref h10])), (h1, .inr (0, [.ref h11, .int 0, .ref h12, .int 0, .ref h13, .ref h14, .ref h15, .ref h16, .ref h17, .ref h18, .int 0])), (h11, .inl (zI g, 5, .inl (zA [60, 1, 1, 0, 0])))] := hD
    refine lv_if_ne (tgt := 10) hx hb dX4_rule_5 (by decide) (fun h => absurd h (by decide +kernel)) (fun _ => ?_)
    refine lv_iconst (v := (-1)) hx hb dX4_rule_8 (by decide) ?_
    have hP9 := hP.sub (ws' := []) [] rfl
    have hD9 := hD.sub (ws' := []) [] (by decide) rfl
    exact W.iret (v := (-1)) hx hb hr (fun t ht hW => ⟨⟨(-1), 0, rfl, Or.inr (Or.inr (Or.inr (Or.inr (Or.inr (Or.inr (Or.inl ⟨i_21, i_22, i_23, i_24, i_25, rfl⟩)))))), by rw [ht]; exact hP9, hD9⟩, hS.F ht⟩) hS.2.2 dX4_rule_9
  · skip
    have i_26 : 0 ≤ p1.toInt := i_26
    have i_27 : p1.toInt < 5 := i_27
    have i_28 : p1.toInt = 1 := i_28
    have i_29 : 1 ≤ p2.toInt := i_29
    have i_30 : p2.toInt ≤ 9 := i_30
    have hP : va_P g.1 vwCl [(h0, .inr (4, [.ref h1, .ref h2, .int 0, .ref h3, .ref h4, .ref h5, .ref h6, .int (-1), .ref h7, .ref h8, .ref h9, .ref h10])), (h1, .inr (0, [.ref h11, .int 0, .ref h12, .int 0, .ref h13, .ref h14, .ref h15, .ref h16, .ref h17, .ref h18, .int 0])), (h11, .inl (zI g, 5, .inl (zA [60, 1, 1, 0, 0])))] H := hP
    have hD : va_D A [(h0, .inr (4, [.ref h1, .ref h2, .int 0, .ref h3, .ref h4, .ref h5, .ref h6, .int (-1), .ref h7, .ref h8, .ref h9, .ref h10])), (h1, .inr (0, [.ref h11, .int 0, .ref h12, .int 0, .ref h13, .ref h14, .ref h15, .ref h16, .ref h17, .ref h18, .int 0])), (h11, .inl (zI g, 5, .inl (zA [60, 1, 1, 0, 0])))] := hD
    refine lv_if_ne (tgt := 10) hx hb dX4_rule_5 (by decide) (fun _ => ?_) (fun h => absurd h (by decide +kernel))
    refine lv_aload_n hx hb dX4_rule_10 rfl (lv_at hl 0 rfl) ?_
    refine va_get (D := g.1) (ci := 4) (v := .ref h1) (C := RX4) (T := TX4) (N := 12) hx hb hts zl_X4 hown hK hP 0 rfl rfl 0 (by decide) (hts _ m_f_RX4_10) (fun _ h => h) rfl dX4_rule_11 ?_
    refine va_getN (D := g.1) (ci := 0) (v := .ref h11) (C := RX0) (T := TX0) (N := 11) hx hb hts zl_X0 hown hK hP 1 rfl rfl 0 (by decide) (hN.f 1 (q := (RX4, 68, "FishSteps$Books", "law", "[I")) rfl) (fun _ h => h) rfl dX4_rule_14 ?_
    refine lv_iload_n hx hb dX4_rule_17 rfl (lv_at hl 1 rfl) ?_
    obtain rfl : p1 = 1 := Int32.toInt_inj.mp (show p1.toInt = (1 : Int32).toInt from (show p1.toInt = 1 by omega).trans rfl)
    refine va_iald (D := g.1) hx hb hK hP 2 0 rfl rfl (vp_in_iff.mpr (by decide +kernel)) dX4_rule_18 ?_
    refine lv_topi (nm_r (e' := 1) (by rfl) ?_)
    refine lv_istore_n (lv' := [(3, .int 1), (0, .ref h0), (1, .int 1), (2, .int p2)]) hx hb dX4_rule_19 rfl hl (by decide) rfl (fun ls hl => ?_)
    refine lv_aload_n hx hb dX4_rule_20 rfl (lv_at hl 1 rfl) ?_
    refine va_get (D := g.1) (ci := 4) (v := .ref h1) (C := RX4) (T := TX4) (N := 12) hx hb hts zl_X4 hown hK hP 0 rfl rfl 0 (by decide) (hts _ m_f_RX4_10) (fun _ h => h) rfl dX4_rule_21 ?_
    refine va_getN (D := g.1) (ci := 0) (v := .ref h11) (C := RX0) (T := TX0) (N := 11) hx hb hts zl_X0 hown hK hP 1 rfl rfl 0 (by decide) (hN.f 1 (q := (RX4, 68, "FishSteps$Books", "law", "[I")) rfl) (fun _ h => h) rfl dX4_rule_24 ?_
    refine lv_iload_n hx hb dX4_rule_27 rfl (lv_at hl 2 rfl) ?_
    refine lv_iload_n hx hb dX4_rule_28 rfl (lv_at hl 3 rfl) ?_
    refine va_iast (D := g.1) hx hb hK hP hD hS 2 0 rfl rfl (vp_in_iff.mpr (by decide +kernel)) dX4_rule_29 (fun H locs hP hD hS => ?_)
    have hP : va_P g.1 vwCl [(h0, .inr (4, [.ref h1, .ref h2, .int 0, .ref h3, .ref h4, .ref h5, .ref h6, .int (-1), .ref h7, .ref h8, .ref h9, .ref h10])), (h1, .inr (0, [.ref h11, .int 0, .ref h12, .int 0, .ref h13, .ref h14, .ref h15, .ref h16, .ref h17, .ref h18, .int 0])), (h11, .inl (zI g, 5, .inl (upd (zA [60, 1, 1, 0, 0]) 1 p2)))] H := hP
    have hD : va_D A [(h0, .inr (4, [.ref h1, .ref h2, .int 0, .ref h3, .ref h4, .ref h5, .ref h6, .int (-1), .ref h7, .ref h8, .ref h9, .ref h10])), (h1, .inr (0, [.ref h11, .int 0, .ref h12, .int 0, .ref h13, .ref h14, .ref h15, .ref h16, .ref h17, .ref h18, .int 0])), (h11, .inl (zI g, 5, .inl (upd (zA [60, 1, 1, 0, 0]) 1 p2)))] := hD
    refine lv_iload_n hx hb dX4_rule_30 rfl (lv_at hl 0 rfl) ?_
    have hP9 := hP.sub (ws' := []) [] rfl
    have hD9 := hD.sub (ws' := []) [] (by decide) rfl
    exact W.iret (v := 1) hx hb hr (fun t ht hW => ⟨⟨1, 0, rfl, Or.inr (Or.inr (Or.inr (Or.inr (Or.inr (Or.inr (Or.inr (Or.inl ⟨i_26, i_27, i_28, i_29, i_30, rfl⟩))))))), by rw [ht]; exact hP9, hD9⟩, hS.F ht⟩) hS.2.2 dX4_rule_31
  · skip
    have i_31 : 0 ≤ p1.toInt := i_31
    have i_32 : p1.toInt < 5 := i_32
    have i_33 : p1.toInt = 2 := i_33
    have i_34 : p2.toInt < 0 := i_34
    have hP : va_P g.1 vwCl [(h0, .inr (4, [.ref h1, .ref h2, .int 0, .ref h3, .ref h4, .ref h5, .ref h6, .int (-1), .ref h7, .ref h8, .ref h9, .ref h10])), (h1, .inr (0, [.ref h11, .int 0, .ref h12, .int 0, .ref h13, .ref h14, .ref h15, .ref h16, .ref h17, .ref h18, .int 0])), (h11, .inl (zI g, 5, .inl (zA [60, 1, 1, 0, 0])))] H := hP
    have hD : va_D A [(h0, .inr (4, [.ref h1, .ref h2, .int 0, .ref h3, .ref h4, .ref h5, .ref h6, .int (-1), .ref h7, .ref h8, .ref h9, .ref h10])), (h1, .inr (0, [.ref h11, .int 0, .ref h12, .int 0, .ref h13, .ref h14, .ref h15, .ref h16, .ref h17, .ref h18, .int 0])), (h11, .inl (zI g, 5, .inl (zA [60, 1, 1, 0, 0])))] := hD
    refine lv_if_ne (tgt := 10) hx hb dX4_rule_5 (by decide) (fun h => absurd h (by decide +kernel)) (fun _ => ?_)
    refine lv_iconst (v := (-1)) hx hb dX4_rule_8 (by decide) ?_
    have hP9 := hP.sub (ws' := []) [] rfl
    have hD9 := hD.sub (ws' := []) [] (by decide) rfl
    exact W.iret (v := (-1)) hx hb hr (fun t ht hW => ⟨⟨(-1), 0, rfl, Or.inr (Or.inr (Or.inr (Or.inr (Or.inr (Or.inr (Or.inr (Or.inr (Or.inl ⟨i_31, i_32, i_33, i_34, rfl⟩)))))))), by rw [ht]; exact hP9, hD9⟩, hS.F ht⟩) hS.2.2 dX4_rule_9
  · skip
    have i_35 : 0 ≤ p1.toInt := i_35
    have i_36 : p1.toInt < 5 := i_36
    have i_37 : p1.toInt = 2 := i_37
    have i_38 : 0 ≤ p2.toInt := i_38
    have i_39 : 99 < p2.toInt := i_39
    have hP : va_P g.1 vwCl [(h0, .inr (4, [.ref h1, .ref h2, .int 0, .ref h3, .ref h4, .ref h5, .ref h6, .int (-1), .ref h7, .ref h8, .ref h9, .ref h10])), (h1, .inr (0, [.ref h11, .int 0, .ref h12, .int 0, .ref h13, .ref h14, .ref h15, .ref h16, .ref h17, .ref h18, .int 0])), (h11, .inl (zI g, 5, .inl (zA [60, 1, 1, 0, 0])))] H := hP
    have hD : va_D A [(h0, .inr (4, [.ref h1, .ref h2, .int 0, .ref h3, .ref h4, .ref h5, .ref h6, .int (-1), .ref h7, .ref h8, .ref h9, .ref h10])), (h1, .inr (0, [.ref h11, .int 0, .ref h12, .int 0, .ref h13, .ref h14, .ref h15, .ref h16, .ref h17, .ref h18, .int 0])), (h11, .inl (zI g, 5, .inl (zA [60, 1, 1, 0, 0])))] := hD
    refine lv_if_ne (tgt := 10) hx hb dX4_rule_5 (by decide) (fun h => absurd h (by decide +kernel)) (fun _ => ?_)
    refine lv_iconst (v := (-1)) hx hb dX4_rule_8 (by decide) ?_
    have hP9 := hP.sub (ws' := []) [] rfl
    have hD9 := hD.sub (ws' := []) [] (by decide) rfl
    exact W.iret (v := (-1)) hx hb hr (fun t ht hW => ⟨⟨(-1), 0, rfl, Or.inr (Or.inr (Or.inr (Or.inr (Or.inr (Or.inr (Or.inr (Or.inr (Or.inr (Or.inl ⟨i_35, i_36, i_37, i_38, i_39, rfl⟩))))))))), by rw [ht]; exact hP9, hD9⟩, hS.F ht⟩) hS.2.2 dX4_rule_9
  · skip
    have i_40 : 0 ≤ p1.toInt := i_40
    have i_41 : p1.toInt < 5 := i_41
    have i_42 : p1.toInt = 2 := i_42
    have i_43 : 0 ≤ p2.toInt := i_43
    have i_44 : p2.toInt ≤ 99 := i_44
    have hP : va_P g.1 vwCl [(h0, .inr (4, [.ref h1, .ref h2, .int 0, .ref h3, .ref h4, .ref h5, .ref h6, .int (-1), .ref h7, .ref h8, .ref h9, .ref h10])), (h1, .inr (0, [.ref h11, .int 0, .ref h12, .int 0, .ref h13, .ref h14, .ref h15, .ref h16, .ref h17, .ref h18, .int 0])), (h11, .inl (zI g, 5, .inl (zA [60, 1, 1, 0, 0])))] H := hP
    have hD : va_D A [(h0, .inr (4, [.ref h1, .ref h2, .int 0, .ref h3, .ref h4, .ref h5, .ref h6, .int (-1), .ref h7, .ref h8, .ref h9, .ref h10])), (h1, .inr (0, [.ref h11, .int 0, .ref h12, .int 0, .ref h13, .ref h14, .ref h15, .ref h16, .ref h17, .ref h18, .int 0])), (h11, .inl (zI g, 5, .inl (zA [60, 1, 1, 0, 0])))] := hD
    refine lv_if_ne (tgt := 10) hx hb dX4_rule_5 (by decide) (fun _ => ?_) (fun h => absurd h (by decide +kernel))
    refine lv_aload_n hx hb dX4_rule_10 rfl (lv_at hl 0 rfl) ?_
    refine va_get (D := g.1) (ci := 4) (v := .ref h1) (C := RX4) (T := TX4) (N := 12) hx hb hts zl_X4 hown hK hP 0 rfl rfl 0 (by decide) (hts _ m_f_RX4_10) (fun _ h => h) rfl dX4_rule_11 ?_
    refine va_getN (D := g.1) (ci := 0) (v := .ref h11) (C := RX0) (T := TX0) (N := 11) hx hb hts zl_X0 hown hK hP 1 rfl rfl 0 (by decide) (hN.f 1 (q := (RX4, 68, "FishSteps$Books", "law", "[I")) rfl) (fun _ h => h) rfl dX4_rule_14 ?_
    refine lv_iload_n hx hb dX4_rule_17 rfl (lv_at hl 1 rfl) ?_
    obtain rfl : p1 = 2 := Int32.toInt_inj.mp (show p1.toInt = (2 : Int32).toInt from (show p1.toInt = 2 by omega).trans rfl)
    refine va_iald (D := g.1) hx hb hK hP 2 0 rfl rfl (vp_in_iff.mpr (by decide +kernel)) dX4_rule_18 ?_
    refine lv_topi (nm_r (e' := 1) (by rfl) ?_)
    refine lv_istore_n (lv' := [(3, .int 1), (0, .ref h0), (1, .int 2), (2, .int p2)]) hx hb dX4_rule_19 rfl hl (by decide) rfl (fun ls hl => ?_)
    refine lv_aload_n hx hb dX4_rule_20 rfl (lv_at hl 1 rfl) ?_
    refine va_get (D := g.1) (ci := 4) (v := .ref h1) (C := RX4) (T := TX4) (N := 12) hx hb hts zl_X4 hown hK hP 0 rfl rfl 0 (by decide) (hts _ m_f_RX4_10) (fun _ h => h) rfl dX4_rule_21 ?_
    refine va_getN (D := g.1) (ci := 0) (v := .ref h11) (C := RX0) (T := TX0) (N := 11) hx hb hts zl_X0 hown hK hP 1 rfl rfl 0 (by decide) (hN.f 1 (q := (RX4, 68, "FishSteps$Books", "law", "[I")) rfl) (fun _ h => h) rfl dX4_rule_24 ?_
    refine lv_iload_n hx hb dX4_rule_27 rfl (lv_at hl 2 rfl) ?_
    refine lv_iload_n hx hb dX4_rule_28 rfl (lv_at hl 3 rfl) ?_
    refine va_iast (D := g.1) hx hb hK hP hD hS 2 0 rfl rfl (vp_in_iff.mpr (by decide +kernel)) dX4_rule_29 (fun H locs hP hD hS => ?_)
    have hP : va_P g.1 vwCl [(h0, .inr (4, [.ref h1, .ref h2, .int 0, .ref h3, .ref h4, .ref h5, .ref h6, .int (-1), .ref h7, .ref h8, .ref h9, .ref h10])), (h1, .inr (0, [.ref h11, .int 0, .ref h12, .int 0, .ref h13, .ref h14, .ref h15, .ref h16, .ref h17, .ref h18, .int 0])), (h11, .inl (zI g, 5, .inl (upd (zA [60, 1, 1, 0, 0]) 2 p2)))] H := hP
    have hD : va_D A [(h0, .inr (4, [.ref h1, .ref h2, .int 0, .ref h3, .ref h4, .ref h5, .ref h6, .int (-1), .ref h7, .ref h8, .ref h9, .ref h10])), (h1, .inr (0, [.ref h11, .int 0, .ref h12, .int 0, .ref h13, .ref h14, .ref h15, .ref h16, .ref h17, .ref h18, .int 0])), (h11, .inl (zI g, 5, .inl (upd (zA [60, 1, 1, 0, 0]) 2 p2)))] := hD
    refine lv_iload_n hx hb dX4_rule_30 rfl (lv_at hl 0 rfl) ?_
    have hP9 := hP.sub (ws' := []) [] rfl
    have hD9 := hD.sub (ws' := []) [] (by decide) rfl
    exact W.iret (v := 1) hx hb hr (fun t ht hW => ⟨⟨1, 0, rfl, Or.inr (Or.inr (Or.inr (Or.inr (Or.inr (Or.inr (Or.inr (Or.inr (Or.inr (Or.inr (Or.inl ⟨i_40, i_41, i_42, i_43, i_44, rfl⟩)))))))))), by rw [ht]; exact hP9, hD9⟩, hS.F ht⟩) hS.2.2 dX4_rule_31
  · skip
    have i_45 : 0 ≤ p1.toInt := i_45
    have i_46 : p1.toInt < 5 := i_46
    have i_47 : p1.toInt = 3 := i_47
    have i_48 : p2.toInt < 0 := i_48
    have hP : va_P g.1 vwCl [(h0, .inr (4, [.ref h1, .ref h2, .int 0, .ref h3, .ref h4, .ref h5, .ref h6, .int (-1), .ref h7, .ref h8, .ref h9, .ref h10])), (h1, .inr (0, [.ref h11, .int 0, .ref h12, .int 0, .ref h13, .ref h14, .ref h15, .ref h16, .ref h17, .ref h18, .int 0])), (h11, .inl (zI g, 5, .inl (zA [60, 1, 1, 0, 0])))] H := hP
    have hD : va_D A [(h0, .inr (4, [.ref h1, .ref h2, .int 0, .ref h3, .ref h4, .ref h5, .ref h6, .int (-1), .ref h7, .ref h8, .ref h9, .ref h10])), (h1, .inr (0, [.ref h11, .int 0, .ref h12, .int 0, .ref h13, .ref h14, .ref h15, .ref h16, .ref h17, .ref h18, .int 0])), (h11, .inl (zI g, 5, .inl (zA [60, 1, 1, 0, 0])))] := hD
    refine lv_if_ne (tgt := 10) hx hb dX4_rule_5 (by decide) (fun h => absurd h (by decide +kernel)) (fun _ => ?_)
    refine lv_iconst (v := (-1)) hx hb dX4_rule_8 (by decide) ?_
    have hP9 := hP.sub (ws' := []) [] rfl
    have hD9 := hD.sub (ws' := []) [] (by decide) rfl
    exact W.iret (v := (-1)) hx hb hr (fun t ht hW => ⟨⟨(-1), 0, rfl, Or.inr (Or.inr (Or.inr (Or.inr (Or.inr (Or.inr (Or.inr (Or.inr (Or.inr (Or.inr (Or.inr (Or.inl ⟨i_45, i_46, i_47, i_48, rfl⟩))))))))))), by rw [ht]; exact hP9, hD9⟩, hS.F ht⟩) hS.2.2 dX4_rule_9
  · skip
    have i_49 : 0 ≤ p1.toInt := i_49
    have i_50 : p1.toInt < 5 := i_50
    have i_51 : p1.toInt = 3 := i_51
    have i_52 : 0 ≤ p2.toInt := i_52
    have i_53 : 1 < p2.toInt := i_53
    have hP : va_P g.1 vwCl [(h0, .inr (4, [.ref h1, .ref h2, .int 0, .ref h3, .ref h4, .ref h5, .ref h6, .int (-1), .ref h7, .ref h8, .ref h9, .ref h10])), (h1, .inr (0, [.ref h11, .int 0, .ref h12, .int 0, .ref h13, .ref h14, .ref h15, .ref h16, .ref h17, .ref h18, .int 0])), (h11, .inl (zI g, 5, .inl (zA [60, 1, 1, 0, 0])))] H := hP
    have hD : va_D A [(h0, .inr (4, [.ref h1, .ref h2, .int 0, .ref h3, .ref h4, .ref h5, .ref h6, .int (-1), .ref h7, .ref h8, .ref h9, .ref h10])), (h1, .inr (0, [.ref h11, .int 0, .ref h12, .int 0, .ref h13, .ref h14, .ref h15, .ref h16, .ref h17, .ref h18, .int 0])), (h11, .inl (zI g, 5, .inl (zA [60, 1, 1, 0, 0])))] := hD
    refine lv_if_ne (tgt := 10) hx hb dX4_rule_5 (by decide) (fun h => absurd h (by decide +kernel)) (fun _ => ?_)
    refine lv_iconst (v := (-1)) hx hb dX4_rule_8 (by decide) ?_
    have hP9 := hP.sub (ws' := []) [] rfl
    have hD9 := hD.sub (ws' := []) [] (by decide) rfl
    exact W.iret (v := (-1)) hx hb hr (fun t ht hW => ⟨⟨(-1), 0, rfl, Or.inr (Or.inr (Or.inr (Or.inr (Or.inr (Or.inr (Or.inr (Or.inr (Or.inr (Or.inr (Or.inr (Or.inr (Or.inl ⟨i_49, i_50, i_51, i_52, i_53, rfl⟩)))))))))))), by rw [ht]; exact hP9, hD9⟩, hS.F ht⟩) hS.2.2 dX4_rule_9
  · skip
    have i_54 : 0 ≤ p1.toInt := i_54
    have i_55 : p1.toInt < 5 := i_55
    have i_56 : p1.toInt = 3 := i_56
    have i_57 : 0 ≤ p2.toInt := i_57
    have i_58 : p2.toInt ≤ 1 := i_58
    have hP : va_P g.1 vwCl [(h0, .inr (4, [.ref h1, .ref h2, .int 0, .ref h3, .ref h4, .ref h5, .ref h6, .int (-1), .ref h7, .ref h8, .ref h9, .ref h10])), (h1, .inr (0, [.ref h11, .int 0, .ref h12, .int 0, .ref h13, .ref h14, .ref h15, .ref h16, .ref h17, .ref h18, .int 0])), (h11, .inl (zI g, 5, .inl (zA [60, 1, 1, 0, 0])))] H := hP
    have hD : va_D A [(h0, .inr (4, [.ref h1, .ref h2, .int 0, .ref h3, .ref h4, .ref h5, .ref h6, .int (-1), .ref h7, .ref h8, .ref h9, .ref h10])), (h1, .inr (0, [.ref h11, .int 0, .ref h12, .int 0, .ref h13, .ref h14, .ref h15, .ref h16, .ref h17, .ref h18, .int 0])), (h11, .inl (zI g, 5, .inl (zA [60, 1, 1, 0, 0])))] := hD
    refine lv_if_ne (tgt := 10) hx hb dX4_rule_5 (by decide) (fun _ => ?_) (fun h => absurd h (by decide +kernel))
    refine lv_aload_n hx hb dX4_rule_10 rfl (lv_at hl 0 rfl) ?_
    refine va_get (D := g.1) (ci := 4) (v := .ref h1) (C := RX4) (T := TX4) (N := 12) hx hb hts zl_X4 hown hK hP 0 rfl rfl 0 (by decide) (hts _ m_f_RX4_10) (fun _ h => h) rfl dX4_rule_11 ?_
    refine va_getN (D := g.1) (ci := 0) (v := .ref h11) (C := RX0) (T := TX0) (N := 11) hx hb hts zl_X0 hown hK hP 1 rfl rfl 0 (by decide) (hN.f 1 (q := (RX4, 68, "FishSteps$Books", "law", "[I")) rfl) (fun _ h => h) rfl dX4_rule_14 ?_
    refine lv_iload_n hx hb dX4_rule_17 rfl (lv_at hl 1 rfl) ?_
    obtain rfl : p1 = 3 := Int32.toInt_inj.mp (show p1.toInt = (3 : Int32).toInt from (show p1.toInt = 3 by omega).trans rfl)
    refine va_iald (D := g.1) hx hb hK hP 2 0 rfl rfl (vp_in_iff.mpr (by decide +kernel)) dX4_rule_18 ?_
    refine lv_topi (nm_r (e' := 0) (by rfl) ?_)
    refine lv_istore_n (lv' := [(3, .int 0), (0, .ref h0), (1, .int 3), (2, .int p2)]) hx hb dX4_rule_19 rfl hl (by decide) rfl (fun ls hl => ?_)
    refine lv_aload_n hx hb dX4_rule_20 rfl (lv_at hl 1 rfl) ?_
    refine va_get (D := g.1) (ci := 4) (v := .ref h1) (C := RX4) (T := TX4) (N := 12) hx hb hts zl_X4 hown hK hP 0 rfl rfl 0 (by decide) (hts _ m_f_RX4_10) (fun _ h => h) rfl dX4_rule_21 ?_
    refine va_getN (D := g.1) (ci := 0) (v := .ref h11) (C := RX0) (T := TX0) (N := 11) hx hb hts zl_X0 hown hK hP 1 rfl rfl 0 (by decide) (hN.f 1 (q := (RX4, 68, "FishSteps$Books", "law", "[I")) rfl) (fun _ h => h) rfl dX4_rule_24 ?_
    refine lv_iload_n hx hb dX4_rule_27 rfl (lv_at hl 2 rfl) ?_
    refine lv_iload_n hx hb dX4_rule_28 rfl (lv_at hl 3 rfl) ?_
    refine va_iast (D := g.1) hx hb hK hP hD hS 2 0 rfl rfl (vp_in_iff.mpr (by decide +kernel)) dX4_rule_29 (fun H locs hP hD hS => ?_)
    have hP : va_P g.1 vwCl [(h0, .inr (4, [.ref h1, .ref h2, .int 0, .ref h3, .ref h4, .ref h5, .ref h6, .int (-1), .ref h7, .ref h8, .ref h9, .ref h10])), (h1, .inr (0, [.ref h11, .int 0, .ref h12, .int 0, .ref h13, .ref h14, .ref h15, .ref h16, .ref h17, .ref h18, .int 0])), (h11, .inl (zI g, 5, .inl (upd (zA [60, 1, 1, 0, 0]) 3 p2)))] H := hP
    have hD : va_D A [(h0, .inr (4, [.ref h1, .ref h2, .int 0, .ref h3, .ref h4, .ref h5, .ref h6, .int (-1), .ref h7, .ref h8, .ref h9, .ref h10])), (h1, .inr (0, [.ref h11, .int 0, .ref h12, .int 0, .ref h13, .ref h14, .ref h15, .ref h16, .ref h17, .ref h18, .int 0])), (h11, .inl (zI g, 5, .inl (upd (zA [60, 1, 1, 0, 0]) 3 p2)))] := hD
    refine lv_iload_n hx hb dX4_rule_30 rfl (lv_at hl 0 rfl) ?_
    have hP9 := hP.sub (ws' := []) [] rfl
    have hD9 := hD.sub (ws' := []) [] (by decide) rfl
    exact W.iret (v := 0) hx hb hr (fun t ht hW => ⟨⟨0, 0, rfl, Or.inr (Or.inr (Or.inr (Or.inr (Or.inr (Or.inr (Or.inr (Or.inr (Or.inr (Or.inr (Or.inr (Or.inr (Or.inr (Or.inl ⟨i_54, i_55, i_56, i_57, i_58, rfl⟩))))))))))))), by rw [ht]; exact hP9, hD9⟩, hS.F ht⟩) hS.2.2 dX4_rule_31
  · skip
    have i_59 : 0 ≤ p1.toInt := i_59
    have i_60 : p1.toInt < 5 := i_60
    have i_61 : p1.toInt = 4 := i_61
    have i_62 : p2.toInt < 0 := i_62
    have hP : va_P g.1 vwCl [(h0, .inr (4, [.ref h1, .ref h2, .int 0, .ref h3, .ref h4, .ref h5, .ref h6, .int (-1), .ref h7, .ref h8, .ref h9, .ref h10])), (h1, .inr (0, [.ref h11, .int 0, .ref h12, .int 0, .ref h13, .ref h14, .ref h15, .ref h16, .ref h17, .ref h18, .int 0])), (h11, .inl (zI g, 5, .inl (zA [60, 1, 1, 0, 0])))] H := hP
    have hD : va_D A [(h0, .inr (4, [.ref h1, .ref h2, .int 0, .ref h3, .ref h4, .ref h5, .ref h6, .int (-1), .ref h7, .ref h8, .ref h9, .ref h10])), (h1, .inr (0, [.ref h11, .int 0, .ref h12, .int 0, .ref h13, .ref h14, .ref h15, .ref h16, .ref h17, .ref h18, .int 0])), (h11, .inl (zI g, 5, .inl (zA [60, 1, 1, 0, 0])))] := hD
    refine lv_if_ne (tgt := 10) hx hb dX4_rule_5 (by decide) (fun h => absurd h (by decide +kernel)) (fun _ => ?_)
    refine lv_iconst (v := (-1)) hx hb dX4_rule_8 (by decide) ?_
    have hP9 := hP.sub (ws' := []) [] rfl
    have hD9 := hD.sub (ws' := []) [] (by decide) rfl
    exact W.iret (v := (-1)) hx hb hr (fun t ht hW => ⟨⟨(-1), 0, rfl, Or.inr (Or.inr (Or.inr (Or.inr (Or.inr (Or.inr (Or.inr (Or.inr (Or.inr (Or.inr (Or.inr (Or.inr (Or.inr (Or.inr (Or.inl ⟨i_59, i_60, i_61, i_62, rfl⟩)))))))))))))), by rw [ht]; exact hP9, hD9⟩, hS.F ht⟩) hS.2.2 dX4_rule_9
  · skip
    have i_63 : 0 ≤ p1.toInt := i_63
    have i_64 : p1.toInt < 5 := i_64
    have i_65 : p1.toInt = 4 := i_65
    have i_66 : 0 ≤ p2.toInt := i_66
    have i_67 : 99 < p2.toInt := i_67
    have hP : va_P g.1 vwCl [(h0, .inr (4, [.ref h1, .ref h2, .int 0, .ref h3, .ref h4, .ref h5, .ref h6, .int (-1), .ref h7, .ref h8, .ref h9, .ref h10])), (h1, .inr (0, [.ref h11, .int 0, .ref h12, .int 0, .ref h13, .ref h14, .ref h15, .ref h16, .ref h17, .ref h18, .int 0])), (h11, .inl (zI g, 5, .inl (zA [60, 1, 1, 0, 0])))] H := hP
    have hD : va_D A [(h0, .inr (4, [.ref h1, .ref h2, .int 0, .ref h3, .ref h4, .ref h5, .ref h6, .int (-1), .ref h7, .ref h8, .ref h9, .ref h10])), (h1, .inr (0, [.ref h11, .int 0, .ref h12, .int 0, .ref h13, .ref h14, .ref h15, .ref h16, .ref h17, .ref h18, .int 0])), (h11, .inl (zI g, 5, .inl (zA [60, 1, 1, 0, 0])))] := hD
    refine lv_if_ne (tgt := 10) hx hb dX4_rule_5 (by decide) (fun h => absurd h (by decide +kernel)) (fun _ => ?_)
    refine lv_iconst (v := (-1)) hx hb dX4_rule_8 (by decide) ?_
    have hP9 := hP.sub (ws' := []) [] rfl
    have hD9 := hD.sub (ws' := []) [] (by decide) rfl
    exact W.iret (v := (-1)) hx hb hr (fun t ht hW => ⟨⟨(-1), 0, rfl, Or.inr (Or.inr (Or.inr (Or.inr (Or.inr (Or.inr (Or.inr (Or.inr (Or.inr (Or.inr (Or.inr (Or.inr (Or.inr (Or.inr (Or.inr (Or.inl ⟨i_63, i_64, i_65, i_66, i_67, rfl⟩))))))))))))))), by rw [ht]; exact hP9, hD9⟩, hS.F ht⟩) hS.2.2 dX4_rule_9
  · skip
    have i_68 : 0 ≤ p1.toInt := i_68
    have i_69 : p1.toInt < 5 := i_69
    have i_70 : p1.toInt = 4 := i_70
    have i_71 : 0 ≤ p2.toInt := i_71
    have i_72 : p2.toInt ≤ 99 := i_72
    have hP : va_P g.1 vwCl [(h0, .inr (4, [.ref h1, .ref h2, .int 0, .ref h3, .ref h4, .ref h5, .ref h6, .int (-1), .ref h7, .ref h8, .ref h9, .ref h10])), (h1, .inr (0, [.ref h11, .int 0, .ref h12, .int 0, .ref h13, .ref h14, .ref h15, .ref h16, .ref h17, .ref h18, .int 0])), (h11, .inl (zI g, 5, .inl (zA [60, 1, 1, 0, 0])))] H := hP
    have hD : va_D A [(h0, .inr (4, [.ref h1, .ref h2, .int 0, .ref h3, .ref h4, .ref h5, .ref h6, .int (-1), .ref h7, .ref h8, .ref h9, .ref h10])), (h1, .inr (0, [.ref h11, .int 0, .ref h12, .int 0, .ref h13, .ref h14, .ref h15, .ref h16, .ref h17, .ref h18, .int 0])), (h11, .inl (zI g, 5, .inl (zA [60, 1, 1, 0, 0])))] := hD
    refine lv_if_ne (tgt := 10) hx hb dX4_rule_5 (by decide) (fun _ => ?_) (fun h => absurd h (by decide +kernel))
    refine lv_aload_n hx hb dX4_rule_10 rfl (lv_at hl 0 rfl) ?_
    refine va_get (D := g.1) (ci := 4) (v := .ref h1) (C := RX4) (T := TX4) (N := 12) hx hb hts zl_X4 hown hK hP 0 rfl rfl 0 (by decide) (hts _ m_f_RX4_10) (fun _ h => h) rfl dX4_rule_11 ?_
    refine va_getN (D := g.1) (ci := 0) (v := .ref h11) (C := RX0) (T := TX0) (N := 11) hx hb hts zl_X0 hown hK hP 1 rfl rfl 0 (by decide) (hN.f 1 (q := (RX4, 68, "FishSteps$Books", "law", "[I")) rfl) (fun _ h => h) rfl dX4_rule_14 ?_
    refine lv_iload_n hx hb dX4_rule_17 rfl (lv_at hl 1 rfl) ?_
    obtain rfl : p1 = 4 := Int32.toInt_inj.mp (show p1.toInt = (4 : Int32).toInt from (show p1.toInt = 4 by omega).trans rfl)
    refine va_iald (D := g.1) hx hb hK hP 2 0 rfl rfl (vp_in_iff.mpr (by decide +kernel)) dX4_rule_18 ?_
    refine lv_topi (nm_r (e' := 0) (by rfl) ?_)
    refine lv_istore_n (lv' := [(3, .int 0), (0, .ref h0), (1, .int 4), (2, .int p2)]) hx hb dX4_rule_19 rfl hl (by decide) rfl (fun ls hl => ?_)
    refine lv_aload_n hx hb dX4_rule_20 rfl (lv_at hl 1 rfl) ?_
    refine va_get (D := g.1) (ci := 4) (v := .ref h1) (C := RX4) (T := TX4) (N := 12) hx hb hts zl_X4 hown hK hP 0 rfl rfl 0 (by decide) (hts _ m_f_RX4_10) (fun _ h => h) rfl dX4_rule_21 ?_
    refine va_getN (D := g.1) (ci := 0) (v := .ref h11) (C := RX0) (T := TX0) (N := 11) hx hb hts zl_X0 hown hK hP 1 rfl rfl 0 (by decide) (hN.f 1 (q := (RX4, 68, "FishSteps$Books", "law", "[I")) rfl) (fun _ h => h) rfl dX4_rule_24 ?_
    refine lv_iload_n hx hb dX4_rule_27 rfl (lv_at hl 2 rfl) ?_
    refine lv_iload_n hx hb dX4_rule_28 rfl (lv_at hl 3 rfl) ?_
    refine va_iast (D := g.1) hx hb hK hP hD hS 2 0 rfl rfl (vp_in_iff.mpr (by decide +kernel)) dX4_rule_29 (fun H locs hP hD hS => ?_)
    have hP : va_P g.1 vwCl [(h0, .inr (4, [.ref h1, .ref h2, .int 0, .ref h3, .ref h4, .ref h5, .ref h6, .int (-1), .ref h7, .ref h8, .ref h9, .ref h10])), (h1, .inr (0, [.ref h11, .int 0, .ref h12, .int 0, .ref h13, .ref h14, .ref h15, .ref h16, .ref h17, .ref h18, .int 0])), (h11, .inl (zI g, 5, .inl (upd (zA [60, 1, 1, 0, 0]) 4 p2)))] H := hP
    have hD : va_D A [(h0, .inr (4, [.ref h1, .ref h2, .int 0, .ref h3, .ref h4, .ref h5, .ref h6, .int (-1), .ref h7, .ref h8, .ref h9, .ref h10])), (h1, .inr (0, [.ref h11, .int 0, .ref h12, .int 0, .ref h13, .ref h14, .ref h15, .ref h16, .ref h17, .ref h18, .int 0])), (h11, .inl (zI g, 5, .inl (upd (zA [60, 1, 1, 0, 0]) 4 p2)))] := hD
    refine lv_iload_n hx hb dX4_rule_30 rfl (lv_at hl 0 rfl) ?_
    have hP9 := hP.sub (ws' := []) [] rfl
    have hD9 := hD.sub (ws' := []) [] (by decide) rfl
    exact W.iret (v := 0) hx hb hr (fun t ht hW => ⟨⟨0, 0, rfl, Or.inr (Or.inr (Or.inr (Or.inr (Or.inr (Or.inr (Or.inr (Or.inr (Or.inr (Or.inr (Or.inr (Or.inr (Or.inr (Or.inr (Or.inr (Or.inr (⟨i_68, i_69, i_70, i_71, i_72, rfl⟩)))))))))))))))), by rw [ht]; exact hP9, hD9⟩, hS.F ht⟩) hS.2.2 dX4_rule_31
set_option maxHeartbeats 4000000 in
set_option maxRecDepth 100000 in
theorem kX4_buyer (l : Launch) (g : zG) (h0 h1 h2 h3 h4 h5 h6 h7 h8 h9 h10 h11 h12 h13 h14 h15 h16 h17 h18 : Nat) (sz : Nat) (p1 : Int32) (p2 : Int32) : Met l yX4_buyer (.code yX4_buyer cX4_buyer 4 (some .int) :: zBig) ({ frames := 0, cells := 0, slots := 0, locals := 0 }) (va_Pc [.ref h0, .int p1, .int p2] (zPre g [(h0, .inr (4, [.ref h1, .ref h2, .int 0, .ref h3, .ref h4, .ref h5, .ref h6, .int (-1), .ref h7, .ref h8, .ref h9, .ref h10])), (h1, .inr (0, [.ref h11, .int 0, .ref h12, .int 0, .ref h13, .ref h14, .ref h15, .ref h16, .ref h17, .ref h18, .int 0])), (h13, .inl (zI g, 5, .inl (fun _ => 0))), (h14, .inl (zI g, 5, .inl (fun _ => 0)))] sz)) (va_Qi (fun (r : Int32) (_ : Nat) => (p1.toInt < 0 ∧ r = (-1)) ∨ (0 ≤ p1.toInt ∧ 4 < p1.toInt ∧ r = (-1)) ∨ (0 ≤ p1.toInt ∧ p1.toInt ≤ 4 ∧ p2.toInt < 0 ∧ r = (-1)) ∨ (0 ≤ p1.toInt ∧ p1.toInt ≤ 4 ∧ 0 ≤ p2.toInt ∧ p2.toInt ≤ 999 ∧ r = 0) ∨ (0 ≤ p1.toInt ∧ p1.toInt ≤ 4 ∧ 0 ≤ p2.toInt ∧ 999 < p2.toInt ∧ r = (-1))) (zPost g (fun _ : Nat => []) (va_A [(h0, .inr (4, [.ref h1, .ref h2, .int 0, .ref h3, .ref h4, .ref h5, .ref h6, .int (-1), .ref h7, .ref h8, .ref h9, .ref h10])), (h1, .inr (0, [.ref h11, .int 0, .ref h12, .int 0, .ref h13, .ref h14, .ref h15, .ref h16, .ref h17, .ref h18, .int 0])), (h13, .inl (zI g, 5, .inl (fun _ => 0))), (h14, .inl (zI g, 5, .inl (fun _ => 0)))] sz)) (va_A [(h0, .inr (4, [.ref h1, .ref h2, .int 0, .ref h3, .ref h4, .ref h5, .ref h6, .int (-1), .ref h7, .ref h8, .ref h9, .ref h10])), (h1, .inr (0, [.ref h11, .int 0, .ref h12, .int 0, .ref h13, .ref h14, .ref h15, .ref h16, .ref h17, .ref h18, .int 0])), (h13, .inl (zI g, 5, .inl (fun _ => 0))), (h14, .inl (zI g, 5, .inl (fun _ => 0)))] sz)) 0 0 (va_A [(h0, .inr (4, [.ref h1, .ref h2, .int 0, .ref h3, .ref h4, .ref h5, .ref h6, .int (-1), .ref h7, .ref h8, .ref h9, .ref h10])), (h1, .inr (0, [.ref h11, .int 0, .ref h12, .int 0, .ref h13, .ref h14, .ref h15, .ref h16, .ref h17, .ref h18, .int 0])), (h13, .inl (zI g, 5, .inl (fun _ => 0))), (h14, .inl (zI g, 5, .inl (fun _ => 0)))] sz) := by
  refine zMetI rfl (Nat.le_of_ble_eq_true rfl) ?_
  intro p e s m args below meth c A ls hx hb hml hr hlocks hin hown hts hK hN hZ hP hD hA hS hAe hl
  have hown : s.vm.findClass RX4 = some m.cls := hown
  have hl : lv_has ls 4 [(0, .ref h0), (1, .int p1), (2, .int p2)] := hl
  refine lv_iload_n hx hb dX4_buyer_0 rfl (lv_at hl 1 rfl) ?_
  refine lv_if_lt (tgt := 20) hx hb dX4_buyer_1 (by decide) (fun c_0 => ?_) (fun c_0 => ?_)
  · have i_0 : p1.toInt < 0 := z_lt (rfl) (rfl) c_0
    refine lv_iconst (v := (-1)) hx hb dX4_buyer_20 (by decide) ?_
    have hP9 := hP.sub (ws' := []) [] rfl
    have hD9 := hD.sub (ws' := []) [] (by decide) rfl
    exact W.iret (v := (-1)) hx hb hr (fun t ht hW => ⟨⟨(-1), 0, rfl, Or.inl ⟨i_0, rfl⟩, by rw [ht]; exact hP9, hD9⟩, hS.F ht⟩) hS.2.2 dX4_buyer_21
  · have i_0 : 0 ≤ p1.toInt := z_nlt (rfl) (rfl) c_0
    refine lv_iload_n hx hb dX4_buyer_4 rfl (lv_at hl 1 rfl) ?_
    refine lv_iconst (v := 4) hx hb dX4_buyer_5 (by decide) ?_
    refine lv_icmp_gt (tgt := 20) hx hb dX4_buyer_6 (by decide) (fun c_1 => ?_) (fun c_1 => ?_)
    · have i_1 : 4 < p1.toInt := z_lt (rfl) (rfl) c_1
      refine lv_iconst (v := (-1)) hx hb dX4_buyer_20 (by decide) ?_
      have hP9 := hP.sub (ws' := []) [] rfl
      have hD9 := hD.sub (ws' := []) [] (by decide) rfl
      exact W.iret (v := (-1)) hx hb hr (fun t ht hW => ⟨⟨(-1), 0, rfl, Or.inr (Or.inl ⟨i_0, i_1, rfl⟩), by rw [ht]; exact hP9, hD9⟩, hS.F ht⟩) hS.2.2 dX4_buyer_21
    · have i_1 : p1.toInt ≤ 4 := z_nlt (rfl) (rfl) c_1
      refine lv_iload_n hx hb dX4_buyer_9 rfl (lv_at hl 2 rfl) ?_
      refine lv_if_lt (tgt := 20) hx hb dX4_buyer_10 (by decide) (fun c_2 => ?_) (fun c_2 => ?_)
      · have i_2 : p2.toInt < 0 := z_lt (rfl) (rfl) c_2
        refine lv_iconst (v := (-1)) hx hb dX4_buyer_20 (by decide) ?_
        have hP9 := hP.sub (ws' := []) [] rfl
        have hD9 := hD.sub (ws' := []) [] (by decide) rfl
        exact W.iret (v := (-1)) hx hb hr (fun t ht hW => ⟨⟨(-1), 0, rfl, Or.inr (Or.inr (Or.inl ⟨i_0, i_1, i_2, rfl⟩)), by rw [ht]; exact hP9, hD9⟩, hS.F ht⟩) hS.2.2 dX4_buyer_21
      · have i_2 : 0 ≤ p2.toInt := z_nlt (rfl) (rfl) c_2
        refine lv_iload_n hx hb dX4_buyer_13 rfl (lv_at hl 2 rfl) ?_
        refine lv_sipush (v := 999) hx hb dX4_buyer_14 (by decide) ?_
        refine lv_icmp_le (tgt := 22) hx hb dX4_buyer_17 (by decide) (fun c_3 => ?_) (fun c_3 => ?_)
        · have i_3 : p2.toInt ≤ 999 := z_le (rfl) (rfl) c_3
          refine lv_aload_n hx hb dX4_buyer_22 rfl (lv_at hl 0 rfl) ?_
          refine va_get (D := g.1) (ci := 4) (v := .ref h1) (C := RX4) (T := TX4) (N := 12) hx hb hts zl_X4 hown hK hP 0 rfl rfl 0 (by decide) (hts _ m_f_RX4_10) (fun _ h => h) rfl dX4_buyer_23 ?_
          refine va_getN (D := g.1) (ci := 0) (v := .int 0) (C := RX0) (T := TX0) (N := 11) hx hb hts zl_X0 hown hK hP 1 rfl rfl 3 (by decide) (hN.f 7 (q := (RX4, 71, "FishSteps$Books", "buyers", "I")) rfl) (fun _ h => h) rfl dX4_buyer_26 ?_
          refine lv_if_lt (tgt := 43) hx hb dX4_buyer_29 (by decide) (fun h => absurd h (by decide +kernel)) (fun _ => ?_)
          refine lv_aload_n hx hb dX4_buyer_32 rfl (lv_at hl 0 rfl) ?_
          refine va_get (D := g.1) (ci := 4) (v := .ref h1) (C := RX4) (T := TX4) (N := 12) hx hb hts zl_X4 hown hK hP 0 rfl rfl 0 (by decide) (hts _ m_f_RX4_10) (fun _ h => h) rfl dX4_buyer_33 ?_
          refine va_getN (D := g.1) (ci := 0) (v := .int 0) (C := RX0) (T := TX0) (N := 11) hx hb hts zl_X0 hown hK hP 1 rfl rfl 3 (by decide) (hN.f 7 (q := (RX4, 71, "FishSteps$Books", "buyers", "I")) rfl) (fun _ h => h) rfl dX4_buyer_36 ?_
          refine lv_iconst (v := 5) hx hb dX4_buyer_39 (by decide) ?_
          refine lv_icmp_lt (tgt := 46) hx hb dX4_buyer_40 (by decide) (fun _ => ?_) (fun h => absurd h (by decide +kernel))
          refine lv_aload_n hx hb dX4_buyer_46 rfl (lv_at hl 0 rfl) ?_
          refine va_get (D := g.1) (ci := 4) (v := .ref h1) (C := RX4) (T := TX4) (N := 12) hx hb hts zl_X4 hown hK hP 0 rfl rfl 0 (by decide) (hts _ m_f_RX4_10) (fun _ h => h) rfl dX4_buyer_47 ?_
          refine va_getN (D := g.1) (ci := 0) (v := .int 0) (C := RX0) (T := TX0) (N := 11) hx hb hts zl_X0 hown hK hP 1 rfl rfl 3 (by decide) (hN.f 7 (q := (RX4, 71, "FishSteps$Books", "buyers", "I")) rfl) (fun _ h => h) rfl dX4_buyer_50 ?_
          refine lv_istore_n (lv' := [(3, .int 0), (0, .ref h0), (1, .int p1), (2, .int p2)]) hx hb dX4_buyer_53 rfl hl (by decide) rfl (fun ls hl => ?_)
          refine lv_aload_n hx hb dX4_buyer_54 rfl (lv_at hl 1 rfl) ?_
          refine va_get (D := g.1) (ci := 4) (v := .ref h1) (C := RX4) (T := TX4) (N := 12) hx hb hts zl_X4 hown hK hP 0 rfl rfl 0 (by decide) (hts _ m_f_RX4_10) (fun _ h => h) rfl dX4_buyer_55 ?_
          refine va_getN (D := g.1) (ci := 0) (v := .ref h13) (C := RX0) (T := TX0) (N := 11) hx hb hts zl_X0 hown hK hP 1 rfl rfl 4 (by decide) (hN.f 9 (q := (RX4, 74, "FishSteps$Books", "sort", "[I")) rfl) (fun _ h => h) rfl dX4_buyer_58 ?_
          refine lv_iload_n hx hb dX4_buyer_61 rfl (lv_at hl 0 rfl) ?_
          refine lv_iload_n hx hb dX4_buyer_62 rfl (lv_at hl 2 rfl) ?_
          refine va_iast (D := g.1) hx hb hK hP hD hS 2 0 rfl rfl (vp_in_iff.mpr (by decide +kernel)) dX4_buyer_63 (fun H locs hP hD hS => ?_)
          have hP : va_P g.1 vwCl [(h0, .inr (4, [.ref h1, .ref h2, .int 0, .ref h3, .ref h4, .ref h5, .ref h6, .int (-1), .ref h7, .ref h8, .ref h9, .ref h10])), (h1, .inr (0, [.ref h11, .int 0, .ref h12, .int 0, .ref h13, .ref h14, .ref h15, .ref h16, .ref h17, .ref h18, .int 0])), (h13, .inl (zI g, 5, .inl (upd (fun _ => 0) 0 p1))), (h14, .inl (zI g, 5, .inl (fun _ => 0)))] H := hP
          have hD : va_D A [(h0, .inr (4, [.ref h1, .ref h2, .int 0, .ref h3, .ref h4, .ref h5, .ref h6, .int (-1), .ref h7, .ref h8, .ref h9, .ref h10])), (h1, .inr (0, [.ref h11, .int 0, .ref h12, .int 0, .ref h13, .ref h14, .ref h15, .ref h16, .ref h17, .ref h18, .int 0])), (h13, .inl (zI g, 5, .inl (upd (fun _ => 0) 0 p1))), (h14, .inl (zI g, 5, .inl (fun _ => 0)))] := hD
          refine lv_aload_n hx hb dX4_buyer_64 rfl (lv_at hl 1 rfl) ?_
          refine va_get (D := g.1) (ci := 4) (v := .ref h1) (C := RX4) (T := TX4) (N := 12) hx hb hts zl_X4 hown hK hP 0 rfl rfl 0 (by decide) (hts _ m_f_RX4_10) (fun _ h => h) rfl dX4_buyer_65 ?_
          refine va_getN (D := g.1) (ci := 0) (v := .ref h14) (C := RX0) (T := TX0) (N := 11) hx hb hts zl_X0 hown hK hP 1 rfl rfl 5 (by decide) (hN.f 12 (q := (RX4, 77, "FishSteps$Books", "purse", "[I")) rfl) (fun _ h => h) rfl dX4_buyer_68 ?_
          refine lv_iload_n hx hb dX4_buyer_71 rfl (lv_at hl 0 rfl) ?_
          refine lv_iload_n hx hb dX4_buyer_72 rfl (lv_at hl 3 rfl) ?_
          refine va_iast (D := g.1) hx hb hK hP hD hS 3 0 rfl rfl (vp_in_iff.mpr (by decide +kernel)) dX4_buyer_73 (fun H locs hP hD hS => ?_)
          have hP : va_P g.1 vwCl [(h0, .inr (4, [.ref h1, .ref h2, .int 0, .ref h3, .ref h4, .ref h5, .ref h6, .int (-1), .ref h7, .ref h8, .ref h9, .ref h10])), (h1, .inr (0, [.ref h11, .int 0, .ref h12, .int 0, .ref h13, .ref h14, .ref h15, .ref h16, .ref h17, .ref h18, .int 0])), (h13, .inl (zI g, 5, .inl (upd (fun _ => 0) 0 p1))), (h14, .inl (zI g, 5, .inl (upd (fun _ => 0) 0 p2)))] H := hP
          have hD : va_D A [(h0, .inr (4, [.ref h1, .ref h2, .int 0, .ref h3, .ref h4, .ref h5, .ref h6, .int (-1), .ref h7, .ref h8, .ref h9, .ref h10])), (h1, .inr (0, [.ref h11, .int 0, .ref h12, .int 0, .ref h13, .ref h14, .ref h15, .ref h16, .ref h17, .ref h18, .int 0])), (h13, .inl (zI g, 5, .inl (upd (fun _ => 0) 0 p1))), (h14, .inl (zI g, 5, .inl (upd (fun _ => 0) 0 p2)))] := hD
          refine lv_aload_n hx hb dX4_buyer_74 rfl (lv_at hl 1 rfl) ?_
          refine va_get (D := g.1) (ci := 4) (v := .ref h1) (C := RX4) (T := TX4) (N := 12) hx hb hts zl_X4 hown hK hP 0 rfl rfl 0 (by decide) (hts _ m_f_RX4_10) (fun _ h => h) rfl dX4_buyer_75 ?_
          refine lv_iload_n hx hb dX4_buyer_78 rfl (lv_at hl 0 rfl) ?_
          refine lv_iconst (v := 1) hx hb dX4_buyer_79 (by decide) ?_
          refine lv_iadd hx hb dX4_buyer_80 ?_
          refine lv_topi (nm_r (e' := 1) (by decide +kernel) ?_)
          refine va_putN (D := g.1) (ci := 0) (v := .int 1) (ty := .int) (C := RX0) (T := TX0) (N := 11) hx hb hts zl_X0 tyX0 tyX0_ok nmX0 hown hK hP hD hS 1 rfl rfl 3 (by decide) (hN.f 7 (q := (RX4, 71, "FishSteps$Books", "buyers", "I")) rfl) (fun _ h => h) rfl (by decide +kernel) rfl rfl (Nat.le_of_ble_eq_true rfl) dX4_buyer_81 (fun H locs hP hD hS => ?_)
          have hP : va_P g.1 vwCl [(h0, .inr (4, [.ref h1, .ref h2, .int 0, .ref h3, .ref h4, .ref h5, .ref h6, .int (-1), .ref h7, .ref h8, .ref h9, .ref h10])), (h1, .inr (0, [.ref h11, .int 0, .ref h12, .int 1, .ref h13, .ref h14, .ref h15, .ref h16, .ref h17, .ref h18, .int 0])), (h13, .inl (zI g, 5, .inl (upd (fun _ => 0) 0 p1))), (h14, .inl (zI g, 5, .inl (upd (fun _ => 0) 0 p2)))] H := hP
          have hD : va_D A [(h0, .inr (4, [.ref h1, .ref h2, .int 0, .ref h3, .ref h4, .ref h5, .ref h6, .int (-1), .ref h7, .ref h8, .ref h9, .ref h10])), (h1, .inr (0, [.ref h11, .int 0, .ref h12, .int 1, .ref h13, .ref h14, .ref h15, .ref h16, .ref h17, .ref h18, .int 0])), (h13, .inl (zI g, 5, .inl (upd (fun _ => 0) 0 p1))), (h14, .inl (zI g, 5, .inl (upd (fun _ => 0) 0 p2)))] := hD
          refine lv_iload_n hx hb dX4_buyer_84 rfl (lv_at hl 0 rfl) ?_
          have hP9 := hP.sub (ws' := []) [] rfl
          have hD9 := hD.sub (ws' := []) [] (by decide) rfl
          exact W.iret (v := 0) hx hb hr (fun t ht hW => ⟨⟨0, 0, rfl, Or.inr (Or.inr (Or.inr (Or.inl ⟨i_0, i_1, i_2, i_3, rfl⟩))), by rw [ht]; exact hP9, hD9⟩, hS.F ht⟩) hS.2.2 dX4_buyer_85
        · have i_3 : 999 < p2.toInt := z_nle (rfl) (rfl) c_3
          refine lv_iconst (v := (-1)) hx hb dX4_buyer_20 (by decide) ?_
          have hP9 := hP.sub (ws' := []) [] rfl
          have hD9 := hD.sub (ws' := []) [] (by decide) rfl
          exact W.iret (v := (-1)) hx hb hr (fun t ht hW => ⟨⟨(-1), 0, rfl, Or.inr (Or.inr (Or.inr (Or.inr (⟨i_0, i_1, i_2, i_3, rfl⟩)))), by rw [ht]; exact hP9, hD9⟩, hS.F ht⟩) hS.2.2 dX4_buyer_21
set_option maxHeartbeats 4000000 in
set_option maxRecDepth 100000 in
theorem kX0_isThere (l : Launch) (g : zG) (h0 h11 h12 h13 h14 h15 h16 h17 h18 : Nat) (sz : Nat) (p1 : Int32) : Met l yX0_isThere (.code yX0_isThere cX0_isThere 2 (some .boolean) :: zBig) ({ frames := 0, cells := 0, slots := 0, locals := 0 }) (va_Pc [.ref h0, .int p1] (zPre g [(h0, .inr (0, [.ref h11, .int 0, .ref h12, .int 0, .ref h13, .ref h14, .ref h15, .ref h16, .ref h17, .ref h18, .int 0]))] sz)) (va_Qi (fun (r : Int32) (_ : Nat) => (p1.toInt < 0 ∧ r = 0) ∨ (0 ≤ p1.toInt ∧ 5 ≤ p1.toInt ∧ r = 0) ∨ (0 ≤ p1.toInt ∧ p1.toInt < 5 ∧ r = 0)) (zPost g (fun _ : Nat => [(h0, .inr (0, [.ref h11, .int 0, .ref h12, .int 0, .ref h13, .ref h14, .ref h15, .ref h16, .ref h17, .ref h18, .int 0]))]) (va_A [(h0, .inr (0, [.ref h11, .int 0, .ref h12, .int 0, .ref h13, .ref h14, .ref h15, .ref h16, .ref h17, .ref h18, .int 0]))] sz)) (va_A [(h0, .inr (0, [.ref h11, .int 0, .ref h12, .int 0, .ref h13, .ref h14, .ref h15, .ref h16, .ref h17, .ref h18, .int 0]))] sz)) 0 0 (va_A [(h0, .inr (0, [.ref h11, .int 0, .ref h12, .int 0, .ref h13, .ref h14, .ref h15, .ref h16, .ref h17, .ref h18, .int 0]))] sz) := by
  refine zMetI rfl (Nat.le_of_ble_eq_true rfl) ?_
  intro p e s m args below meth c A ls hx hb hml hr hlocks hin hown hts hK hN hZ hP hD hA hS hAe hl
  have hown : s.vm.findClass RX0 = some m.cls := hown
  have hl : lv_has ls 2 [(0, .ref h0), (1, .int p1)] := hl
  refine lv_iload_n hx hb dX0_isThere_0 rfl (lv_at hl 1 rfl) ?_
  refine lv_if_lt (tgt := 21) hx hb dX0_isThere_1 (by decide) (fun c_0 => ?_) (fun c_0 => ?_)
  · have i_0 : p1.toInt < 0 := z_lt (rfl) (rfl) c_0
    refine lv_iconst (v := 0) hx hb dX0_isThere_21 (by decide) ?_
    have hP9 := hP.sub (ws' := [(h0, .inr (0, [.ref h11, .int 0, .ref h12, .int 0, .ref h13, .ref h14, .ref h15, .ref h16, .ref h17, .ref h18, .int 0]))]) [0] rfl
    have hD9 := hD.sub (ws' := [(h0, .inr (0, [.ref h11, .int 0, .ref h12, .int 0, .ref h13, .ref h14, .ref h15, .ref h16, .ref h17, .ref h18, .int 0]))]) [0] (by decide) rfl
    exact W.zret (v := 0) hx hb hr (by decide) (fun t ht hW => ⟨⟨0, 0, rfl, Or.inl ⟨i_0, rfl⟩, by rw [ht]; exact hP9, hD9⟩, hS.F ht⟩) hS.2.2 dX0_isThere_22
  · have i_0 : 0 ≤ p1.toInt := z_nlt (rfl) (rfl) c_0
    refine lv_iload_n hx hb dX0_isThere_4 rfl (lv_at hl 1 rfl) ?_
    refine lv_iconst (v := 5) hx hb dX0_isThere_5 (by decide) ?_
    refine lv_icmp_ge (tgt := 21) hx hb dX0_isThere_6 (by decide) (fun c_1 => ?_) (fun c_1 => ?_)
    · have i_1 : 5 ≤ p1.toInt := z_le (rfl) (rfl) c_1
      refine lv_iconst (v := 0) hx hb dX0_isThere_21 (by decide) ?_
      have hP9 := hP.sub (ws' := [(h0, .inr (0, [.ref h11, .int 0, .ref h12, .int 0, .ref h13, .ref h14, .ref h15, .ref h16, .ref h17, .ref h18, .int 0]))]) [0] rfl
      have hD9 := hD.sub (ws' := [(h0, .inr (0, [.ref h11, .int 0, .ref h12, .int 0, .ref h13, .ref h14, .ref h15, .ref h16, .ref h17, .ref h18, .int 0]))]) [0] (by decide) rfl
      exact W.zret (v := 0) hx hb hr (by decide) (fun t ht hW => ⟨⟨0, 0, rfl, Or.inr (Or.inl ⟨i_0, i_1, rfl⟩), by rw [ht]; exact hP9, hD9⟩, hS.F ht⟩) hS.2.2 dX0_isThere_22
    · have i_1 : p1.toInt < 5 := z_nle (rfl) (rfl) c_1
      refine lv_iload_n hx hb dX0_isThere_9 rfl (lv_at hl 1 rfl) ?_
      refine lv_aload_n hx hb dX0_isThere_10 rfl (lv_at hl 0 rfl) ?_
      refine va_get (D := g.1) (ci := 0) (v := .int 0) (C := RX0) (T := TX0) (N := 11) hx hb hts zl_X0 hown hK hP 0 rfl rfl 3 (by decide) (hts _ m_f_RX0_30) (fun _ h => h) rfl dX0_isThere_11 ?_
      refine lv_icmp_ge (tgt := 21) hx hb dX0_isThere_14 (by decide) (fun c_2 => ?_) (fun c_2 => absurd (show p1.toInt < 0 from z_nle (rfl) (rfl) c_2) (by omega))
      have i_2 : 0 ≤ p1.toInt := z_le (rfl) (rfl) c_2
      refine lv_iconst (v := 0) hx hb dX0_isThere_21 (by decide) ?_
      have hP9 := hP.sub (ws' := [(h0, .inr (0, [.ref h11, .int 0, .ref h12, .int 0, .ref h13, .ref h14, .ref h15, .ref h16, .ref h17, .ref h18, .int 0]))]) [0] rfl
      have hD9 := hD.sub (ws' := [(h0, .inr (0, [.ref h11, .int 0, .ref h12, .int 0, .ref h13, .ref h14, .ref h15, .ref h16, .ref h17, .ref h18, .int 0]))]) [0] (by decide) rfl
      exact W.zret (v := 0) hx hb hr (by decide) (fun t ht hW => ⟨⟨0, 0, rfl, Or.inr (Or.inr (⟨i_0, i_1, rfl⟩)), by rw [ht]; exact hP9, hD9⟩, hS.F ht⟩) hS.2.2 dX0_isThere_22
set_option maxHeartbeats 4000000 in
set_option maxRecDepth 100000 in
theorem kX0_isThere_2 (l : Launch) (g : zG) (h0 h11 h12 h13 h14 h15 h16 h17 h18 : Nat) (sz : Nat) (p1 : Int32) : Met l yX0_isThere (.code yX0_isThere cX0_isThere 2 (some .boolean) :: zBig) ({ frames := 0, cells := 0, slots := 0, locals := 0 }) (va_Pc [.ref h0, .int p1] (zPre g [(h0, .inr (0, [.ref h11, .int 0, .ref h12, .int 0, .ref h13, .ref h14, .ref h15, .ref h16, .ref h17, .ref h18, .int 0]))] sz)) (va_Qi (fun (r : Int32) (_ : Nat) => (p1.toInt < 0 ∧ r = 0) ∨ (0 ≤ p1.toInt ∧ 5 ≤ p1.toInt ∧ r = 0) ∨ (0 ≤ p1.toInt ∧ p1.toInt < 5 ∧ r = 0)) (zPost g (fun _ : Nat => [(h0, .inr (0, [.ref h11, .int 0, .ref h12, .int 0, .ref h13, .ref h14, .ref h15, .ref h16, .ref h17, .ref h18, .int 0]))]) (va_A [(h0, .inr (0, [.ref h11, .int 0, .ref h12, .int 0, .ref h13, .ref h14, .ref h15, .ref h16, .ref h17, .ref h18, .int 0]))] sz)) (va_A [(h0, .inr (0, [.ref h11, .int 0, .ref h12, .int 0, .ref h13, .ref h14, .ref h15, .ref h16, .ref h17, .ref h18, .int 0]))] sz)) 0 0 (va_A [(h0, .inr (0, [.ref h11, .int 0, .ref h12, .int 0, .ref h13, .ref h14, .ref h15, .ref h16, .ref h17, .ref h18, .int 0]))] sz) := by
  refine zMetI rfl (Nat.le_of_ble_eq_true rfl) ?_
  intro p e s m args below meth c A ls hx hb hml hr hlocks hin hown hts hK hN hZ hP hD hA hS hAe hl
  have hown : s.vm.findClass RX0 = some m.cls := hown
  have hl : lv_has ls 2 [(0, .ref h0), (1, .int p1)] := hl
  refine lv_iload_n hx hb dX0_isThere_0 rfl (lv_at hl 1 rfl) ?_
  refine lv_if_lt (tgt := 21) hx hb dX0_isThere_1 (by decide) (fun c_0 => ?_) (fun c_0 => ?_)
  · have i_0 : p1.toInt < 0 := z_lt (rfl) (rfl) c_0
    refine lv_iconst (v := 0) hx hb dX0_isThere_21 (by decide) ?_
    have hP9 := hP.sub (ws' := [(h0, .inr (0, [.ref h11, .int 0, .ref h12, .int 0, .ref h13, .ref h14, .ref h15, .ref h16, .ref h17, .ref h18, .int 0]))]) [0] rfl
    have hD9 := hD.sub (ws' := [(h0, .inr (0, [.ref h11, .int 0, .ref h12, .int 0, .ref h13, .ref h14, .ref h15, .ref h16, .ref h17, .ref h18, .int 0]))]) [0] (by decide) rfl
    exact W.zret (v := 0) hx hb hr (by decide) (fun t ht hW => ⟨⟨0, 0, rfl, Or.inl ⟨i_0, rfl⟩, by rw [ht]; exact hP9, hD9⟩, hS.F ht⟩) hS.2.2 dX0_isThere_22
  · have i_0 : 0 ≤ p1.toInt := z_nlt (rfl) (rfl) c_0
    refine lv_iload_n hx hb dX0_isThere_4 rfl (lv_at hl 1 rfl) ?_
    refine lv_iconst (v := 5) hx hb dX0_isThere_5 (by decide) ?_
    refine lv_icmp_ge (tgt := 21) hx hb dX0_isThere_6 (by decide) (fun c_1 => ?_) (fun c_1 => ?_)
    · have i_1 : 5 ≤ p1.toInt := z_le (rfl) (rfl) c_1
      refine lv_iconst (v := 0) hx hb dX0_isThere_21 (by decide) ?_
      have hP9 := hP.sub (ws' := [(h0, .inr (0, [.ref h11, .int 0, .ref h12, .int 0, .ref h13, .ref h14, .ref h15, .ref h16, .ref h17, .ref h18, .int 0]))]) [0] rfl
      have hD9 := hD.sub (ws' := [(h0, .inr (0, [.ref h11, .int 0, .ref h12, .int 0, .ref h13, .ref h14, .ref h15, .ref h16, .ref h17, .ref h18, .int 0]))]) [0] (by decide) rfl
      exact W.zret (v := 0) hx hb hr (by decide) (fun t ht hW => ⟨⟨0, 0, rfl, Or.inr (Or.inl ⟨i_0, i_1, rfl⟩), by rw [ht]; exact hP9, hD9⟩, hS.F ht⟩) hS.2.2 dX0_isThere_22
    · have i_1 : p1.toInt < 5 := z_nle (rfl) (rfl) c_1
      refine lv_iload_n hx hb dX0_isThere_9 rfl (lv_at hl 1 rfl) ?_
      refine lv_aload_n hx hb dX0_isThere_10 rfl (lv_at hl 0 rfl) ?_
      refine va_get (D := g.1) (ci := 0) (v := .int 0) (C := RX0) (T := TX0) (N := 11) hx hb hts zl_X0 hown hK hP 0 rfl rfl 3 (by decide) (hts _ m_f_RX0_30) (fun _ h => h) rfl dX0_isThere_11 ?_
      refine lv_icmp_ge (tgt := 21) hx hb dX0_isThere_14 (by decide) (fun c_2 => ?_) (fun c_2 => absurd (show p1.toInt < 0 from z_nle (rfl) (rfl) c_2) (by omega))
      have i_2 : 0 ≤ p1.toInt := z_le (rfl) (rfl) c_2
      refine lv_iconst (v := 0) hx hb dX0_isThere_21 (by decide) ?_
      have hP9 := hP.sub (ws' := [(h0, .inr (0, [.ref h11, .int 0, .ref h12, .int 0, .ref h13, .ref h14, .ref h15, .ref h16, .ref h17, .ref h18, .int 0]))]) [0] rfl
      have hD9 := hD.sub (ws' := [(h0, .inr (0, [.ref h11, .int 0, .ref h12, .int 0, .ref h13, .ref h14, .ref h15, .ref h16, .ref h17, .ref h18, .int 0]))]) [0] (by decide) rfl
      exact W.zret (v := 0) hx hb hr (by decide) (fun t ht hW => ⟨⟨0, 0, rfl, Or.inr (Or.inr (⟨i_0, i_1, rfl⟩)), by rw [ht]; exact hP9, hD9⟩, hS.F ht⟩) hS.2.2 dX0_isThere_22
set_option maxHeartbeats 4000000 in
set_option maxRecDepth 100000 in
theorem kX4_worth (l : Launch) (g : zG) (h0 h1 h2 h3 h4 h5 h6 h7 h8 h9 h10 h11 h12 h13 h14 h15 h16 h17 h18 : Nat) (sz : Nat) (p1 : Int32) (p2 : Int32) (p3 : Int32) : Met l yX4_worth (.code yX4_worth cX4_worth 6 (some .int) :: zBig) ({ frames := 1, cells := 0, slots := 0, locals := 21 }) (va_Pc [.ref h0, .int p1, .int p2, .int p3] (zPre g [(h0, .inr (4, [.ref h1, .ref h2, .int 0, .ref h3, .ref h4, .ref h5, .ref h6, .int (-1), .ref h7, .ref h8, .ref h9, .ref h10])), (h1, .inr (0, [.ref h11, .int 0, .ref h12, .int 0, .ref h13, .ref h14, .ref h15, .ref h16, .ref h17, .ref h18, .int 0]))] sz)) (va_Qi (fun (r : Int32) (_ : Nat) => (p1.toInt < 0 ∧ r = (-1)) ∨ (0 ≤ p1.toInt ∧ 5 ≤ p1.toInt ∧ r = (-1)) ∨ (0 ≤ p1.toInt ∧ p1.toInt < 5 ∧ r = (-1))) (zPost g (fun _ : Nat => []) (va_A [(h0, .inr (4, [.ref h1, .ref h2, .int 0, .ref h3, .ref h4, .ref h5, .ref h6, .int (-1), .ref h7, .ref h8, .ref h9, .ref h10])), (h1, .inr (0, [.ref h11, .int 0, .ref h12, .int 0, .ref h13, .ref h14, .ref h15, .ref h16, .ref h17, .ref h18, .int 0]))] sz)) (va_A [(h0, .inr (4, [.ref h1, .ref h2, .int 0, .ref h3, .ref h4, .ref h5, .ref h6, .int (-1), .ref h7, .ref h8, .ref h9, .ref h10])), (h1, .inr (0, [.ref h11, .int 0, .ref h12, .int 0, .ref h13, .ref h14, .ref h15, .ref h16, .ref h17, .ref h18, .int 0]))] sz)) 0 0 (va_A [(h0, .inr (4, [.ref h1, .ref h2, .int 0, .ref h3, .ref h4, .ref h5, .ref h6, .int (-1), .ref h7, .ref h8, .ref h9, .ref h10])), (h1, .inr (0, [.ref h11, .int 0, .ref h12, .int 0, .ref h13, .ref h14, .ref h15, .ref h16, .ref h17, .ref h18, .int 0]))] sz) := by
  refine zMetI rfl (Nat.le_of_ble_eq_true rfl) ?_
  intro p e s m args below meth c A ls hx hb hml hr hlocks hin hown hts hK hN hZ hP hD hA hS hAe hl
  have hown : s.vm.findClass RX4 = some m.cls := hown
  have hl : lv_has ls 6 [(0, .ref h0), (1, .int p1), (2, .int p2), (3, .int p3)] := hl
  refine lv_aload_n hx hb dX4_worth_0 rfl (lv_at hl 0 rfl) ?_
  refine va_get (D := g.1) (ci := 4) (v := .ref h1) (C := RX4) (T := TX4) (N := 12) hx hb hts zl_X4 hown hK hP 0 rfl rfl 0 (by decide) (hts _ m_f_RX4_10) (fun _ h => h) rfl dX4_worth_1 ?_
  refine lv_iload_n hx hb dX4_worth_4 rfl (lv_at hl 1 rfl) ?_
  refine z_calli (wr := [(h0, .inr (4, [.ref h1, .ref h2, .int 0, .ref h3, .ref h4, .ref h5, .ref h6, .int (-1), .ref h7, .ref h8, .ref h9, .ref h10]))]) hP hD hS hA [1] [0] (by decide) rfl rfl (by decide) (va_runVN (As := [.int p1]) (rest := []) ⟨hx, hb, hml, hown, hts⟩ (kX0_isThere_2 l g h1 h11 h12 h13 h14 h15 h16 h17 h18 s.heap.size p1) ⟨va_cnB 1 hts (zGood m_o_yX0_isThere) rfl rfl rfl (hN.m 4 (q := (RX4, 80, yX0_isThere)) rfl) (hts _ m_z_RX0) ⟨by decide +kernel, by decide +kernel, by decide +kernel⟩ ⟨Nat.le_of_ble_eq_true rfl, Nat.le_of_ble_eq_true rfl⟩, hts _ m_i_yX0_isThere, hts _ m_e_yX0_isThere⟩ (zPreV hK hN hZ hP hD hS hA [1] (by decide) rfl rfl 0 1 rfl rfl) rfl rfl hl.1 rfl (lv_room (Nat.le_of_ble_eq_true rfl)) dX4_worth_5 ⟨Nat.le_of_ble_eq_true rfl, Nat.le_of_ble_eq_true rfl⟩) (fun r u H locs hw hP hD hS => ?_)
  rcases hw with ⟨i_0, rfl⟩ | ⟨i_1, i_2, rfl⟩ | ⟨i_3, i_4, rfl⟩
  · skip
    have i_0 : p1.toInt < 0 := i_0
    have hP : va_P g.1 vwCl [(h0, .inr (4, [.ref h1, .ref h2, .int 0, .ref h3, .ref h4, .ref h5, .ref h6, .int (-1), .ref h7, .ref h8, .ref h9, .ref h10])), (h1, .inr (0, [.ref h11, .int 0, .ref h12, .int 0, .ref h13, .ref h14, .ref h15, .ref h16, .ref h17, .ref h18, .int 0]))] H := hP
    have hD : va_D A [(h0, .inr (4, [.ref h1, .ref h2, .int 0, .ref h3, .ref h4, .ref h5, .ref h6, .int (-1), .ref h7, .ref h8, .ref h9, .ref h10])), (h1, .inr (0, [.ref h11, .int 0, .ref h12, .int 0, .ref h13, .ref h14, .ref h15, .ref h16, .ref h17, .ref h18, .int 0]))] := hD
    refine lv_if_eq (tgt := 28) hx hb dX4_worth_8 (by decide) (fun _ => ?_) (fun h => absurd h (by decide +kernel))
    refine lv_iconst (v := (-1)) hx hb dX4_worth_28 (by decide) ?_
    have hP9 := hP.sub (ws' := []) [] rfl
    have hD9 := hD.sub (ws' := []) [] (by decide) rfl
    exact W.iret (v := (-1)) hx hb hr (fun t ht hW => ⟨⟨(-1), 0, rfl, Or.inl ⟨i_0, rfl⟩, by rw [ht]; exact hP9, hD9⟩, hS.F ht⟩) hS.2.2 dX4_worth_29
  · skip
    have i_1 : 0 ≤ p1.toInt := i_1
    have i_2 : 5 ≤ p1.toInt := i_2
    have hP : va_P g.1 vwCl [(h0, .inr (4, [.ref h1, .ref h2, .int 0, .ref h3, .ref h4, .ref h5, .ref h6, .int (-1), .ref h7, .ref h8, .ref h9, .ref h10])), (h1, .inr (0, [.ref h11, .int 0, .ref h12, .int 0, .ref h13, .ref h14, .ref h15, .ref h16, .ref h17, .ref h18, .int 0]))] H := hP
    have hD : va_D A [(h0, .inr (4, [.ref h1, .ref h2, .int 0, .ref h3, .ref h4, .ref h5, .ref h6, .int (-1), .ref h7, .ref h8, .ref h9, .ref h10])), (h1, .inr (0, [.ref h11, .int 0, .ref h12, .int 0, .ref h13, .ref h14, .ref h15, .ref h16, .ref h17, .ref h18, .int 0]))] := hD
    refine lv_if_eq (tgt := 28) hx hb dX4_worth_8 (by decide) (fun _ => ?_) (fun h => absurd h (by decide +kernel))
    refine lv_iconst (v := (-1)) hx hb dX4_worth_28 (by decide) ?_
    have hP9 := hP.sub (ws' := []) [] rfl
    have hD9 := hD.sub (ws' := []) [] (by decide) rfl
    exact W.iret (v := (-1)) hx hb hr (fun t ht hW => ⟨⟨(-1), 0, rfl, Or.inr (Or.inl ⟨i_1, i_2, rfl⟩), by rw [ht]; exact hP9, hD9⟩, hS.F ht⟩) hS.2.2 dX4_worth_29
  · skip
    have i_3 : 0 ≤ p1.toInt := i_3
    have i_4 : p1.toInt < 5 := i_4
    have hP : va_P g.1 vwCl [(h0, .inr (4, [.ref h1, .ref h2, .int 0, .ref h3, .ref h4, .ref h5, .ref h6, .int (-1), .ref h7, .ref h8, .ref h9, .ref h10])), (h1, .inr (0, [.ref h11, .int 0, .ref h12, .int 0, .ref h13, .ref h14, .ref h15, .ref h16, .ref h17, .ref h18, .int 0]))] H := hP
    have hD : va_D A [(h0, .inr (4, [.ref h1, .ref h2, .int 0, .ref h3, .ref h4, .ref h5, .ref h6, .int (-1), .ref h7, .ref h8, .ref h9, .ref h10])), (h1, .inr (0, [.ref h11, .int 0, .ref h12, .int 0, .ref h13, .ref h14, .ref h15, .ref h16, .ref h17, .ref h18, .int 0]))] := hD
    refine lv_if_eq (tgt := 28) hx hb dX4_worth_8 (by decide) (fun _ => ?_) (fun h => absurd h (by decide +kernel))
    refine lv_iconst (v := (-1)) hx hb dX4_worth_28 (by decide) ?_
    have hP9 := hP.sub (ws' := []) [] rfl
    have hD9 := hD.sub (ws' := []) [] (by decide) rfl
    exact W.iret (v := (-1)) hx hb hr (fun t ht hW => ⟨⟨(-1), 0, rfl, Or.inr (Or.inr (⟨i_3, i_4, rfl⟩)), by rw [ht]; exact hP9, hD9⟩, hS.F ht⟩) hS.2.2 dX4_worth_29
set_option maxHeartbeats 4000000 in
set_option maxRecDepth 100000 in
theorem kX4_margin (l : Launch) (g : zG) (h0 h1 h2 h3 h4 h5 h6 h7 h8 h9 h10 h11 h12 h13 h14 h15 h16 h17 h18 : Nat) (sz : Nat) (p1 : Int32) (p2 : Int32) : Met l yX4_margin (.code yX4_margin cX4_margin 4 (some .int) :: zBig) ({ frames := 1, cells := 0, slots := 0, locals := 21 }) (va_Pc [.ref h0, .int p1, .int p2] (zPre g [(h0, .inr (4, [.ref h1, .ref h2, .int 0, .ref h3, .ref h4, .ref h5, .ref h6, .int (-1), .ref h7, .ref h8, .ref h9, .ref h10])), (h1, .inr (0, [.ref h11, .int 0, .ref h12, .int 0, .ref h13, .ref h14, .ref h15, .ref h16, .ref h17, .ref h18, .int 0]))] sz)) (va_Qi (fun (r : Int32) (_ : Nat) => (p1.toInt < 0 ∧ r = (-1)) ∨ (0 ≤ p1.toInt ∧ 5 ≤ p1.toInt ∧ r = (-1)) ∨ (0 ≤ p1.toInt ∧ p1.toInt < 5 ∧ r = (-1))) (zPost g (fun _ : Nat => []) (va_A [(h0, .inr (4, [.ref h1, .ref h2, .int 0, .ref h3, .ref h4, .ref h5, .ref h6, .int (-1), .ref h7, .ref h8, .ref h9, .ref h10])), (h1, .inr (0, [.ref h11, .int 0, .ref h12, .int 0, .ref h13, .ref h14, .ref h15, .ref h16, .ref h17, .ref h18, .int 0]))] sz)) (va_A [(h0, .inr (4, [.ref h1, .ref h2, .int 0, .ref h3, .ref h4, .ref h5, .ref h6, .int (-1), .ref h7, .ref h8, .ref h9, .ref h10])), (h1, .inr (0, [.ref h11, .int 0, .ref h12, .int 0, .ref h13, .ref h14, .ref h15, .ref h16, .ref h17, .ref h18, .int 0]))] sz)) 0 0 (va_A [(h0, .inr (4, [.ref h1, .ref h2, .int 0, .ref h3, .ref h4, .ref h5, .ref h6, .int (-1), .ref h7, .ref h8, .ref h9, .ref h10])), (h1, .inr (0, [.ref h11, .int 0, .ref h12, .int 0, .ref h13, .ref h14, .ref h15, .ref h16, .ref h17, .ref h18, .int 0]))] sz) := by
  refine zMetI rfl (Nat.le_of_ble_eq_true rfl) ?_
  intro p e s m args below meth c A ls hx hb hml hr hlocks hin hown hts hK hN hZ hP hD hA hS hAe hl
  have hown : s.vm.findClass RX4 = some m.cls := hown
  have hl : lv_has ls 4 [(0, .ref h0), (1, .int p1), (2, .int p2)] := hl
  refine lv_aload_n hx hb dX4_margin_0 rfl (lv_at hl 0 rfl) ?_
  refine va_get (D := g.1) (ci := 4) (v := .ref h1) (C := RX4) (T := TX4) (N := 12) hx hb hts zl_X4 hown hK hP 0 rfl rfl 0 (by decide) (hts _ m_f_RX4_10) (fun _ h => h) rfl dX4_margin_1 ?_
  refine lv_iload_n hx hb dX4_margin_4 rfl (lv_at hl 1 rfl) ?_
  refine z_calli (wr := [(h0, .inr (4, [.ref h1, .ref h2, .int 0, .ref h3, .ref h4, .ref h5, .ref h6, .int (-1), .ref h7, .ref h8, .ref h9, .ref h10]))]) hP hD hS hA [1] [0] (by decide) rfl rfl (by decide) (va_runVN (As := [.int p1]) (rest := []) ⟨hx, hb, hml, hown, hts⟩ (kX0_isThere_2 l g h1 h11 h12 h13 h14 h15 h16 h17 h18 s.heap.size p1) ⟨va_cnB 1 hts (zGood m_o_yX0_isThere) rfl rfl rfl (hN.m 4 (q := (RX4, 80, yX0_isThere)) rfl) (hts _ m_z_RX0) ⟨by decide +kernel, by decide +kernel, by decide +kernel⟩ ⟨Nat.le_of_ble_eq_true rfl, Nat.le_of_ble_eq_true rfl⟩, hts _ m_i_yX0_isThere, hts _ m_e_yX0_isThere⟩ (zPreV hK hN hZ hP hD hS hA [1] (by decide) rfl rfl 0 1 rfl rfl) rfl rfl hl.1 rfl (lv_room (Nat.le_of_ble_eq_true rfl)) dX4_margin_5 ⟨Nat.le_of_ble_eq_true rfl, Nat.le_of_ble_eq_true rfl⟩) (fun r u H locs hw hP hD hS => ?_)
  rcases hw with ⟨i_0, rfl⟩ | ⟨i_1, i_2, rfl⟩ | ⟨i_3, i_4, rfl⟩
  · skip
    have i_0 : p1.toInt < 0 := i_0
    have hP : va_P g.1 vwCl [(h0, .inr (4, [.ref h1, .ref h2, .int 0, .ref h3, .ref h4, .ref h5, .ref h6, .int (-1), .ref h7, .ref h8, .ref h9, .ref h10])), (h1, .inr (0, [.ref h11, .int 0, .ref h12, .int 0, .ref h13, .ref h14, .ref h15, .ref h16, .ref h17, .ref h18, .int 0]))] H := hP
    have hD : va_D A [(h0, .inr (4, [.ref h1, .ref h2, .int 0, .ref h3, .ref h4, .ref h5, .ref h6, .int (-1), .ref h7, .ref h8, .ref h9, .ref h10])), (h1, .inr (0, [.ref h11, .int 0, .ref h12, .int 0, .ref h13, .ref h14, .ref h15, .ref h16, .ref h17, .ref h18, .int 0]))] := hD
    refine lv_if_eq (tgt := 21) hx hb dX4_margin_8 (by decide) (fun _ => ?_) (fun h => absurd h (by decide +kernel))
    refine lv_iconst (v := (-1)) hx hb dX4_margin_21 (by decide) ?_
    have hP9 := hP.sub (ws' := []) [] rfl
    have hD9 := hD.sub (ws' := []) [] (by decide) rfl
    exact W.iret (v := (-1)) hx hb hr (fun t ht hW => ⟨⟨(-1), 0, rfl, Or.inl ⟨i_0, rfl⟩, by rw [ht]; exact hP9, hD9⟩, hS.F ht⟩) hS.2.2 dX4_margin_22
  · skip
    have i_1 : 0 ≤ p1.toInt := i_1
    have i_2 : 5 ≤ p1.toInt := i_2
    have hP : va_P g.1 vwCl [(h0, .inr (4, [.ref h1, .ref h2, .int 0, .ref h3, .ref h4, .ref h5, .ref h6, .int (-1), .ref h7, .ref h8, .ref h9, .ref h10])), (h1, .inr (0, [.ref h11, .int 0, .ref h12, .int 0, .ref h13, .ref h14, .ref h15, .ref h16, .ref h17, .ref h18, .int 0]))] H := hP
    have hD : va_D A [(h0, .inr (4, [.ref h1, .ref h2, .int 0, .ref h3, .ref h4, .ref h5, .ref h6, .int (-1), .ref h7, .ref h8, .ref h9, .ref h10])), (h1, .inr (0, [.ref h11, .int 0, .ref h12, .int 0, .ref h13, .ref h14, .ref h15, .ref h16, .ref h17, .ref h18, .int 0]))] := hD
    refine lv_if_eq (tgt := 21) hx hb dX4_margin_8 (by decide) (fun _ => ?_) (fun h => absurd h (by decide +kernel))
    refine lv_iconst (v := (-1)) hx hb dX4_margin_21 (by decide) ?_
    have hP9 := hP.sub (ws' := []) [] rfl
    have hD9 := hD.sub (ws' := []) [] (by decide) rfl
    exact W.iret (v := (-1)) hx hb hr (fun t ht hW => ⟨⟨(-1), 0, rfl, Or.inr (Or.inl ⟨i_1, i_2, rfl⟩), by rw [ht]; exact hP9, hD9⟩, hS.F ht⟩) hS.2.2 dX4_margin_22
  · skip
    have i_3 : 0 ≤ p1.toInt := i_3
    have i_4 : p1.toInt < 5 := i_4
    have hP : va_P g.1 vwCl [(h0, .inr (4, [.ref h1, .ref h2, .int 0, .ref h3, .ref h4, .ref h5, .ref h6, .int (-1), .ref h7, .ref h8, .ref h9, .ref h10])), (h1, .inr (0, [.ref h11, .int 0, .ref h12, .int 0, .ref h13, .ref h14, .ref h15, .ref h16, .ref h17, .ref h18, .int 0]))] H := hP
    have hD : va_D A [(h0, .inr (4, [.ref h1, .ref h2, .int 0, .ref h3, .ref h4, .ref h5, .ref h6, .int (-1), .ref h7, .ref h8, .ref h9, .ref h10])), (h1, .inr (0, [.ref h11, .int 0, .ref h12, .int 0, .ref h13, .ref h14, .ref h15, .ref h16, .ref h17, .ref h18, .int 0]))] := hD
    refine lv_if_eq (tgt := 21) hx hb dX4_margin_8 (by decide) (fun _ => ?_) (fun h => absurd h (by decide +kernel))
    refine lv_iconst (v := (-1)) hx hb dX4_margin_21 (by decide) ?_
    have hP9 := hP.sub (ws' := []) [] rfl
    have hD9 := hD.sub (ws' := []) [] (by decide) rfl
    exact W.iret (v := (-1)) hx hb hr (fun t ht hW => ⟨⟨(-1), 0, rfl, Or.inr (Or.inr (⟨i_3, i_4, rfl⟩)), by rw [ht]; exact hP9, hD9⟩, hS.F ht⟩) hS.2.2 dX4_margin_22
set_option maxHeartbeats 4000000 in
set_option maxRecDepth 100000 in
theorem kX4_told (l : Launch) (g : zG) (h0 h1 h2 h3 h4 h5 h6 h7 h8 h9 h10 h11 h12 h13 h14 h15 h16 h17 h18 : Nat) (sz : Nat) (p1 : Int32) (p2 : Int32) : Met l yX4_told (.code yX4_told cX4_told 3 (some .int) :: zBig) ({ frames := 1, cells := 0, slots := 0, locals := 21 }) (va_Pc [.ref h0, .int p1, .int p2] (zPre g [(h0, .inr (4, [.ref h1, .ref h2, .int 0, .ref h3, .ref h4, .ref h5, .ref h6, .int (-1), .ref h7, .ref h8, .ref h9, .ref h10])), (h1, .inr (0, [.ref h11, .int 0, .ref h12, .int 0, .ref h13, .ref h14, .ref h15, .ref h16, .ref h17, .ref h18, .int 0]))] sz)) (va_Qi (fun (r : Int32) (_ : Nat) => (p1.toInt < 0 ∧ r = (-100001)) ∨ (0 ≤ p1.toInt ∧ 5 ≤ p1.toInt ∧ r = (-100001)) ∨ (0 ≤ p1.toInt ∧ p1.toInt < 5 ∧ r = (-100001))) (zPost g (fun _ : Nat => []) (va_A [(h0, .inr (4, [.ref h1, .ref h2, .int 0, .ref h3, .ref h4, .ref h5, .ref h6, .int (-1), .ref h7, .ref h8, .ref h9, .ref h10])), (h1, .inr (0, [.ref h11, .int 0, .ref h12, .int 0, .ref h13, .ref h14, .ref h15, .ref h16, .ref h17, .ref h18, .int 0]))] sz)) (va_A [(h0, .inr (4, [.ref h1, .ref h2, .int 0, .ref h3, .ref h4, .ref h5, .ref h6, .int (-1), .ref h7, .ref h8, .ref h9, .ref h10])), (h1, .inr (0, [.ref h11, .int 0, .ref h12, .int 0, .ref h13, .ref h14, .ref h15, .ref h16, .ref h17, .ref h18, .int 0]))] sz)) 0 0 (va_A [(h0, .inr (4, [.ref h1, .ref h2, .int 0, .ref h3, .ref h4, .ref h5, .ref h6, .int (-1), .ref h7, .ref h8, .ref h9, .ref h10])), (h1, .inr (0, [.ref h11, .int 0, .ref h12, .int 0, .ref h13, .ref h14, .ref h15, .ref h16, .ref h17, .ref h18, .int 0]))] sz) := by
  refine zMetI rfl (Nat.le_of_ble_eq_true rfl) ?_
  intro p e s m args below meth c A ls hx hb hml hr hlocks hin hown hts hK hN hZ hP hD hA hS hAe hl
  have hown : s.vm.findClass RX4 = some m.cls := hown
  have hl : lv_has ls 3 [(0, .ref h0), (1, .int p1), (2, .int p2)] := hl
  refine lv_aload_n hx hb dX4_told_0 rfl (lv_at hl 0 rfl) ?_
  refine va_get (D := g.1) (ci := 4) (v := .ref h1) (C := RX4) (T := TX4) (N := 12) hx hb hts zl_X4 hown hK hP 0 rfl rfl 0 (by decide) (hts _ m_f_RX4_10) (fun _ h => h) rfl dX4_told_1 ?_
  refine lv_iload_n hx hb dX4_told_4 rfl (lv_at hl 1 rfl) ?_
  refine z_calli (wr := [(h0, .inr (4, [.ref h1, .ref h2, .int 0, .ref h3, .ref h4, .ref h5, .ref h6, .int (-1), .ref h7, .ref h8, .ref h9, .ref h10]))]) hP hD hS hA [1] [0] (by decide) rfl rfl (by decide) (va_runVN (As := [.int p1]) (rest := []) ⟨hx, hb, hml, hown, hts⟩ (kX0_isThere_2 l g h1 h11 h12 h13 h14 h15 h16 h17 h18 s.heap.size p1) ⟨va_cnB 1 hts (zGood m_o_yX0_isThere) rfl rfl rfl (hN.m 4 (q := (RX4, 80, yX0_isThere)) rfl) (hts _ m_z_RX0) ⟨by decide +kernel, by decide +kernel, by decide +kernel⟩ ⟨Nat.le_of_ble_eq_true rfl, Nat.le_of_ble_eq_true rfl⟩, hts _ m_i_yX0_isThere, hts _ m_e_yX0_isThere⟩ (zPreV hK hN hZ hP hD hS hA [1] (by decide) rfl rfl 0 1 rfl rfl) rfl rfl hl.1 rfl (lv_room (Nat.le_of_ble_eq_true rfl)) dX4_told_5 ⟨Nat.le_of_ble_eq_true rfl, Nat.le_of_ble_eq_true rfl⟩) (fun r u H locs hw hP hD hS => ?_)
  rcases hw with ⟨i_0, rfl⟩ | ⟨i_1, i_2, rfl⟩ | ⟨i_3, i_4, rfl⟩
  · skip
    have i_0 : p1.toInt < 0 := i_0
    have hP : va_P g.1 vwCl [(h0, .inr (4, [.ref h1, .ref h2, .int 0, .ref h3, .ref h4, .ref h5, .ref h6, .int (-1), .ref h7, .ref h8, .ref h9, .ref h10])), (h1, .inr (0, [.ref h11, .int 0, .ref h12, .int 0, .ref h13, .ref h14, .ref h15, .ref h16, .ref h17, .ref h18, .int 0]))] H := hP
    have hD : va_D A [(h0, .inr (4, [.ref h1, .ref h2, .int 0, .ref h3, .ref h4, .ref h5, .ref h6, .int (-1), .ref h7, .ref h8, .ref h9, .ref h10])), (h1, .inr (0, [.ref h11, .int 0, .ref h12, .int 0, .ref h13, .ref h14, .ref h15, .ref h16, .ref h17, .ref h18, .int 0]))] := hD
    refine lv_if_eq (tgt := 21) hx hb dX4_told_8 (by decide) (fun _ => ?_) (fun h => absurd h (by decide +kernel))
    refine lv_ldc (v := (-100001)) hx hb hown (hts _ m_k_RX4_93) dX4_told_21 ?_
    have hP9 := hP.sub (ws' := []) [] rfl
    have hD9 := hD.sub (ws' := []) [] (by decide) rfl
    exact W.iret (v := (-100001)) hx hb hr (fun t ht hW => ⟨⟨(-100001), 0, rfl, Or.inl ⟨i_0, rfl⟩, by rw [ht]; exact hP9, hD9⟩, hS.F ht⟩) hS.2.2 dX4_told_23
  · skip
    have i_1 : 0 ≤ p1.toInt := i_1
    have i_2 : 5 ≤ p1.toInt := i_2
    have hP : va_P g.1 vwCl [(h0, .inr (4, [.ref h1, .ref h2, .int 0, .ref h3, .ref h4, .ref h5, .ref h6, .int (-1), .ref h7, .ref h8, .ref h9, .ref h10])), (h1, .inr (0, [.ref h11, .int 0, .ref h12, .int 0, .ref h13, .ref h14, .ref h15, .ref h16, .ref h17, .ref h18, .int 0]))] H := hP
    have hD : va_D A [(h0, .inr (4, [.ref h1, .ref h2, .int 0, .ref h3, .ref h4, .ref h5, .ref h6, .int (-1), .ref h7, .ref h8, .ref h9, .ref h10])), (h1, .inr (0, [.ref h11, .int 0, .ref h12, .int 0, .ref h13, .ref h14, .ref h15, .ref h16, .ref h17, .ref h18, .int 0]))] := hD
    refine lv_if_eq (tgt := 21) hx hb dX4_told_8 (by decide) (fun _ => ?_) (fun h => absurd h (by decide +kernel))
    refine lv_ldc (v := (-100001)) hx hb hown (hts _ m_k_RX4_93) dX4_told_21 ?_
    have hP9 := hP.sub (ws' := []) [] rfl
    have hD9 := hD.sub (ws' := []) [] (by decide) rfl
    exact W.iret (v := (-100001)) hx hb hr (fun t ht hW => ⟨⟨(-100001), 0, rfl, Or.inr (Or.inl ⟨i_1, i_2, rfl⟩), by rw [ht]; exact hP9, hD9⟩, hS.F ht⟩) hS.2.2 dX4_told_23
  · skip
    have i_3 : 0 ≤ p1.toInt := i_3
    have i_4 : p1.toInt < 5 := i_4
    have hP : va_P g.1 vwCl [(h0, .inr (4, [.ref h1, .ref h2, .int 0, .ref h3, .ref h4, .ref h5, .ref h6, .int (-1), .ref h7, .ref h8, .ref h9, .ref h10])), (h1, .inr (0, [.ref h11, .int 0, .ref h12, .int 0, .ref h13, .ref h14, .ref h15, .ref h16, .ref h17, .ref h18, .int 0]))] H := hP
    have hD : va_D A [(h0, .inr (4, [.ref h1, .ref h2, .int 0, .ref h3, .ref h4, .ref h5, .ref h6, .int (-1), .ref h7, .ref h8, .ref h9, .ref h10])), (h1, .inr (0, [.ref h11, .int 0, .ref h12, .int 0, .ref h13, .ref h14, .ref h15, .ref h16, .ref h17, .ref h18, .int 0]))] := hD
    refine lv_if_eq (tgt := 21) hx hb dX4_told_8 (by decide) (fun _ => ?_) (fun h => absurd h (by decide +kernel))
    refine lv_ldc (v := (-100001)) hx hb hown (hts _ m_k_RX4_93) dX4_told_21 ?_
    have hP9 := hP.sub (ws' := []) [] rfl
    have hD9 := hD.sub (ws' := []) [] (by decide) rfl
    exact W.iret (v := (-100001)) hx hb hr (fun t ht hW => ⟨⟨(-100001), 0, rfl, Or.inr (Or.inr (⟨i_3, i_4, rfl⟩)), by rw [ht]; exact hP9, hD9⟩, hS.F ht⟩) hS.2.2 dX4_told_23
set_option maxHeartbeats 4000000 in
set_option maxRecDepth 100000 in
theorem kX4_earn (l : Launch) (g : zG) (h0 h1 h2 h3 h4 h5 h6 h7 h8 h9 h10 h11 h12 h13 h14 h15 h16 h17 h18 : Nat) (sz : Nat) (p1 : Int32) (p2 : Int32) : Met l yX4_earn (.code yX4_earn cX4_earn 4 (some .int) :: zBig) ({ frames := 1, cells := 0, slots := 0, locals := 21 }) (va_Pc [.ref h0, .int p1, .int p2] (zPre g [(h0, .inr (4, [.ref h1, .ref h2, .int 0, .ref h3, .ref h4, .ref h5, .ref h6, .int (-1), .ref h7, .ref h8, .ref h9, .ref h10])), (h1, .inr (0, [.ref h11, .int 0, .ref h12, .int 0, .ref h13, .ref h14, .ref h15, .ref h16, .ref h17, .ref h18, .int 0]))] sz)) (va_Qi (fun (r : Int32) (_ : Nat) => (p1.toInt < 0 ∧ r = (-100001)) ∨ (0 ≤ p1.toInt ∧ 5 ≤ p1.toInt ∧ r = (-100001)) ∨ (0 ≤ p1.toInt ∧ p1.toInt < 5 ∧ r = (-100001))) (zPost g (fun _ : Nat => []) (va_A [(h0, .inr (4, [.ref h1, .ref h2, .int 0, .ref h3, .ref h4, .ref h5, .ref h6, .int (-1), .ref h7, .ref h8, .ref h9, .ref h10])), (h1, .inr (0, [.ref h11, .int 0, .ref h12, .int 0, .ref h13, .ref h14, .ref h15, .ref h16, .ref h17, .ref h18, .int 0]))] sz)) (va_A [(h0, .inr (4, [.ref h1, .ref h2, .int 0, .ref h3, .ref h4, .ref h5, .ref h6, .int (-1), .ref h7, .ref h8, .ref h9, .ref h10])), (h1, .inr (0, [.ref h11, .int 0, .ref h12, .int 0, .ref h13, .ref h14, .ref h15, .ref h16, .ref h17, .ref h18, .int 0]))] sz)) 0 0 (va_A [(h0, .inr (4, [.ref h1, .ref h2, .int 0, .ref h3, .ref h4, .ref h5, .ref h6, .int (-1), .ref h7, .ref h8, .ref h9, .ref h10])), (h1, .inr (0, [.ref h11, .int 0, .ref h12, .int 0, .ref h13, .ref h14, .ref h15, .ref h16, .ref h17, .ref h18, .int 0]))] sz) := by
  refine zMetI rfl (Nat.le_of_ble_eq_true rfl) ?_
  intro p e s m args below meth c A ls hx hb hml hr hlocks hin hown hts hK hN hZ hP hD hA hS hAe hl
  have hown : s.vm.findClass RX4 = some m.cls := hown
  have hl : lv_has ls 4 [(0, .ref h0), (1, .int p1), (2, .int p2)] := hl
  refine lv_aload_n hx hb dX4_earn_0 rfl (lv_at hl 0 rfl) ?_
  refine va_get (D := g.1) (ci := 4) (v := .ref h1) (C := RX4) (T := TX4) (N := 12) hx hb hts zl_X4 hown hK hP 0 rfl rfl 0 (by decide) (hts _ m_f_RX4_10) (fun _ h => h) rfl dX4_earn_1 ?_
  refine lv_iload_n hx hb dX4_earn_4 rfl (lv_at hl 1 rfl) ?_
  refine z_calli (wr := [(h0, .inr (4, [.ref h1, .ref h2, .int 0, .ref h3, .ref h4, .ref h5, .ref h6, .int (-1), .ref h7, .ref h8, .ref h9, .ref h10]))]) hP hD hS hA [1] [0] (by decide) rfl rfl (by decide) (va_runVN (As := [.int p1]) (rest := []) ⟨hx, hb, hml, hown, hts⟩ (kX0_isThere_2 l g h1 h11 h12 h13 h14 h15 h16 h17 h18 s.heap.size p1) ⟨va_cnB 1 hts (zGood m_o_yX0_isThere) rfl rfl rfl (hN.m 4 (q := (RX4, 80, yX0_isThere)) rfl) (hts _ m_z_RX0) ⟨by decide +kernel, by decide +kernel, by decide +kernel⟩ ⟨Nat.le_of_ble_eq_true rfl, Nat.le_of_ble_eq_true rfl⟩, hts _ m_i_yX0_isThere, hts _ m_e_yX0_isThere⟩ (zPreV hK hN hZ hP hD hS hA [1] (by decide) rfl rfl 0 1 rfl rfl) rfl rfl hl.1 rfl (lv_room (Nat.le_of_ble_eq_true rfl)) dX4_earn_5 ⟨Nat.le_of_ble_eq_true rfl, Nat.le_of_ble_eq_true rfl⟩) (fun r u H locs hw hP hD hS => ?_)
  rcases hw with ⟨i_0, rfl⟩ | ⟨i_1, i_2, rfl⟩ | ⟨i_3, i_4, rfl⟩
  · skip
    have i_0 : p1.toInt < 0 := i_0
    have hP : va_P g.1 vwCl [(h0, .inr (4, [.ref h1, .ref h2, .int 0, .ref h3, .ref h4, .ref h5, .ref h6, .int (-1), .ref h7, .ref h8, .ref h9, .ref h10])), (h1, .inr (0, [.ref h11, .int 0, .ref h12, .int 0, .ref h13, .ref h14, .ref h15, .ref h16, .ref h17, .ref h18, .int 0]))] H := hP
    have hD : va_D A [(h0, .inr (4, [.ref h1, .ref h2, .int 0, .ref h3, .ref h4, .ref h5, .ref h6, .int (-1), .ref h7, .ref h8, .ref h9, .ref h10])), (h1, .inr (0, [.ref h11, .int 0, .ref h12, .int 0, .ref h13, .ref h14, .ref h15, .ref h16, .ref h17, .ref h18, .int 0]))] := hD
    refine lv_if_eq (tgt := 23) hx hb dX4_earn_8 (by decide) (fun _ => ?_) (fun h => absurd h (by decide +kernel))
    refine lv_ldc (v := (-100001)) hx hb hown (hts _ m_k_RX4_93) dX4_earn_23 ?_
    have hP9 := hP.sub (ws' := []) [] rfl
    have hD9 := hD.sub (ws' := []) [] (by decide) rfl
    exact W.iret (v := (-100001)) hx hb hr (fun t ht hW => ⟨⟨(-100001), 0, rfl, Or.inl ⟨i_0, rfl⟩, by rw [ht]; exact hP9, hD9⟩, hS.F ht⟩) hS.2.2 dX4_earn_25
  · skip
    have i_1 : 0 ≤ p1.toInt := i_1
    have i_2 : 5 ≤ p1.toInt := i_2
    have hP : va_P g.1 vwCl [(h0, .inr (4, [.ref h1, .ref h2, .int 0, .ref h3, .ref h4, .ref h5, .ref h6, .int (-1), .ref h7, .ref h8, .ref h9, .ref h10])), (h1, .inr (0, [.ref h11, .int 0, .ref h12, .int 0, .ref h13, .ref h14, .ref h15, .ref h16, .ref h17, .ref h18, .int 0]))] H := hP
    have hD : va_D A [(h0, .inr (4, [.ref h1, .ref h2, .int 0, .ref h3, .ref h4, .ref h5, .ref h6, .int (-1), .ref h7, .ref h8, .ref h9, .ref h10])), (h1, .inr (0, [.ref h11, .int 0, .ref h12, .int 0, .ref h13, .ref h14, .ref h15, .ref h16, .ref h17, .ref h18, .int 0]))] := hD
    refine lv_if_eq (tgt := 23) hx hb dX4_earn_8 (by decide) (fun _ => ?_) (fun h => absurd h (by decide +kernel))
    refine lv_ldc (v := (-100001)) hx hb hown (hts _ m_k_RX4_93) dX4_earn_23 ?_
    have hP9 := hP.sub (ws' := []) [] rfl
    have hD9 := hD.sub (ws' := []) [] (by decide) rfl
    exact W.iret (v := (-100001)) hx hb hr (fun t ht hW => ⟨⟨(-100001), 0, rfl, Or.inr (Or.inl ⟨i_1, i_2, rfl⟩), by rw [ht]; exact hP9, hD9⟩, hS.F ht⟩) hS.2.2 dX4_earn_25
  · skip
    have i_3 : 0 ≤ p1.toInt := i_3
    have i_4 : p1.toInt < 5 := i_4
    have hP : va_P g.1 vwCl [(h0, .inr (4, [.ref h1, .ref h2, .int 0, .ref h3, .ref h4, .ref h5, .ref h6, .int (-1), .ref h7, .ref h8, .ref h9, .ref h10])), (h1, .inr (0, [.ref h11, .int 0, .ref h12, .int 0, .ref h13, .ref h14, .ref h15, .ref h16, .ref h17, .ref h18, .int 0]))] H := hP
    have hD : va_D A [(h0, .inr (4, [.ref h1, .ref h2, .int 0, .ref h3, .ref h4, .ref h5, .ref h6, .int (-1), .ref h7, .ref h8, .ref h9, .ref h10])), (h1, .inr (0, [.ref h11, .int 0, .ref h12, .int 0, .ref h13, .ref h14, .ref h15, .ref h16, .ref h17, .ref h18, .int 0]))] := hD
    refine lv_if_eq (tgt := 23) hx hb dX4_earn_8 (by decide) (fun _ => ?_) (fun h => absurd h (by decide +kernel))
    refine lv_ldc (v := (-100001)) hx hb hown (hts _ m_k_RX4_93) dX4_earn_23 ?_
    have hP9 := hP.sub (ws' := []) [] rfl
    have hD9 := hD.sub (ws' := []) [] (by decide) rfl
    exact W.iret (v := (-100001)) hx hb hr (fun t ht hW => ⟨⟨(-100001), 0, rfl, Or.inr (Or.inr (⟨i_3, i_4, rfl⟩)), by rw [ht]; exact hP9, hD9⟩, hS.F ht⟩) hS.2.2 dX4_earn_25
set_option maxHeartbeats 4000000 in
set_option maxRecDepth 100000 in
theorem kX3_byteOf (l : Launch) (g : zG) (sz : Nat) (p0 : Int64) : Met l yX3_byteOf (.code yX3_byteOf cX3_byteOf 3 (some .int) :: zBig) ({ frames := 0, cells := 0, slots := 0, locals := 0 }) (va_Pc [.long p0, .int 0] (zPre g [] sz)) (va_Qi (fun (r : Int32) (_ : Nat) => r = ((p0 >>> ((0 : Int32).toInt64 &&& 63)) &&& 255).toInt32) (zPost g (fun _ : Nat => []) (va_A [] sz)) (va_A [] sz)) 0 0 (va_A [] sz) := by
  refine zMetI rfl (Nat.le_of_ble_eq_true rfl) ?_
  intro p e s m args below meth c A ls hx hb hml hr hlocks hin hown hts hK hN hZ hP hD hA hS hAe hl
  have hown : s.vm.findClass RX3 = some m.cls := hown
  have hl : lv_has ls 3 [(0, .long p0), (2, .int 0)] := hl
  refine lv_lload_n hx hb dX3_byteOf_0 rfl (lv_at hl 0 rfl) ?_
  refine lv_bipush (v := 8) hx hb dX3_byteOf_1 (by decide) ?_
  refine lv_iload_n hx hb dX3_byteOf_3 rfl (lv_at hl 1 rfl) ?_
  refine lv_imul hx hb dX3_byteOf_4 ?_
  refine lv_topi (nm_r (e' := 0) (by decide +kernel) ?_)
  refine lv_lshr (v := (p0 >>> ((0 : Int32).toInt64 &&& 63))) hx hb dX3_byteOf_5 rfl ?_
  refine lv_ldc2 (v := 255) hx hb hown (hts _ m_k_RX3_23) dX3_byteOf_6 ?_
  refine lv_land hx hb dX3_byteOf_9 ?_
  refine lv_l2i (v := ((p0 >>> ((0 : Int32).toInt64 &&& 63)) &&& 255).toInt32) hx hb dX3_byteOf_10 rfl ?_
  have hP9 := hP.sub (ws' := []) [] rfl
  have hD9 := hD.sub (ws' := []) [] (by decide) rfl
  exact W.iret (v := ((p0 >>> ((0 : Int32).toInt64 &&& 63)) &&& 255).toInt32) hx hb hr (fun t ht hW => ⟨⟨((p0 >>> ((0 : Int32).toInt64 &&& 63)) &&& 255).toInt32, 0, rfl, rfl, by rw [ht]; exact hP9, hD9⟩, hS.F ht⟩) hS.2.2 dX3_byteOf_11
set_option maxHeartbeats 4000000 in
set_option maxRecDepth 100000 in
theorem kX3_byteOf_2 (l : Launch) (g : zG) (sz : Nat) (p0 : Int64) : Met l yX3_byteOf (.code yX3_byteOf cX3_byteOf 3 (some .int) :: zBig) ({ frames := 0, cells := 0, slots := 0, locals := 0 }) (va_Pc [.long p0, .int 1] (zPre g [] sz)) (va_Qi (fun (r : Int32) (_ : Nat) => r = ((p0 >>> ((8 : Int32).toInt64 &&& 63)) &&& 255).toInt32) (zPost g (fun _ : Nat => []) (va_A [] sz)) (va_A [] sz)) 0 0 (va_A [] sz) := by
  refine zMetI rfl (Nat.le_of_ble_eq_true rfl) ?_
  intro p e s m args below meth c A ls hx hb hml hr hlocks hin hown hts hK hN hZ hP hD hA hS hAe hl
  have hown : s.vm.findClass RX3 = some m.cls := hown
  have hl : lv_has ls 3 [(0, .long p0), (2, .int 1)] := hl
  refine lv_lload_n hx hb dX3_byteOf_0 rfl (lv_at hl 0 rfl) ?_
  refine lv_bipush (v := 8) hx hb dX3_byteOf_1 (by decide) ?_
  refine lv_iload_n hx hb dX3_byteOf_3 rfl (lv_at hl 1 rfl) ?_
  refine lv_imul hx hb dX3_byteOf_4 ?_
  refine lv_topi (nm_r (e' := 8) (by decide +kernel) ?_)
  refine lv_lshr (v := (p0 >>> ((8 : Int32).toInt64 &&& 63))) hx hb dX3_byteOf_5 rfl ?_
  refine lv_ldc2 (v := 255) hx hb hown (hts _ m_k_RX3_23) dX3_byteOf_6 ?_
  refine lv_land hx hb dX3_byteOf_9 ?_
  refine lv_l2i (v := ((p0 >>> ((8 : Int32).toInt64 &&& 63)) &&& 255).toInt32) hx hb dX3_byteOf_10 rfl ?_
  have hP9 := hP.sub (ws' := []) [] rfl
  have hD9 := hD.sub (ws' := []) [] (by decide) rfl
  exact W.iret (v := ((p0 >>> ((8 : Int32).toInt64 &&& 63)) &&& 255).toInt32) hx hb hr (fun t ht hW => ⟨⟨((p0 >>> ((8 : Int32).toInt64 &&& 63)) &&& 255).toInt32, 0, rfl, rfl, by rw [ht]; exact hP9, hD9⟩, hS.F ht⟩) hS.2.2 dX3_byteOf_11
set_option maxHeartbeats 4000000 in
set_option maxRecDepth 100000 in
theorem kX3_byteOf_3 (l : Launch) (g : zG) (sz : Nat) (p0 : Int64) : Met l yX3_byteOf (.code yX3_byteOf cX3_byteOf 3 (some .int) :: zBig) ({ frames := 0, cells := 0, slots := 0, locals := 0 }) (va_Pc [.long p0, .int 0] (zPre g [] sz)) (va_Qi (fun (r : Int32) (_ : Nat) => r = ((p0 >>> ((0 : Int32).toInt64 &&& 63)) &&& 255).toInt32) (zPost g (fun _ : Nat => []) (va_A [] sz)) (va_A [] sz)) 0 0 (va_A [] sz) := by
  refine zMetI rfl (Nat.le_of_ble_eq_true rfl) ?_
  intro p e s m args below meth c A ls hx hb hml hr hlocks hin hown hts hK hN hZ hP hD hA hS hAe hl
  have hown : s.vm.findClass RX3 = some m.cls := hown
  have hl : lv_has ls 3 [(0, .long p0), (2, .int 0)] := hl
  refine lv_lload_n hx hb dX3_byteOf_0 rfl (lv_at hl 0 rfl) ?_
  refine lv_bipush (v := 8) hx hb dX3_byteOf_1 (by decide) ?_
  refine lv_iload_n hx hb dX3_byteOf_3 rfl (lv_at hl 1 rfl) ?_
  refine lv_imul hx hb dX3_byteOf_4 ?_
  refine lv_topi (nm_r (e' := 0) (by decide +kernel) ?_)
  refine lv_lshr (v := (p0 >>> ((0 : Int32).toInt64 &&& 63))) hx hb dX3_byteOf_5 rfl ?_
  refine lv_ldc2 (v := 255) hx hb hown (hts _ m_k_RX3_23) dX3_byteOf_6 ?_
  refine lv_land hx hb dX3_byteOf_9 ?_
  refine lv_l2i (v := ((p0 >>> ((0 : Int32).toInt64 &&& 63)) &&& 255).toInt32) hx hb dX3_byteOf_10 rfl ?_
  have hP9 := hP.sub (ws' := []) [] rfl
  have hD9 := hD.sub (ws' := []) [] (by decide) rfl
  exact W.iret (v := ((p0 >>> ((0 : Int32).toInt64 &&& 63)) &&& 255).toInt32) hx hb hr (fun t ht hW => ⟨⟨((p0 >>> ((0 : Int32).toInt64 &&& 63)) &&& 255).toInt32, 0, rfl, rfl, by rw [ht]; exact hP9, hD9⟩, hS.F ht⟩) hS.2.2 dX3_byteOf_11
set_option maxHeartbeats 4000000 in
set_option maxRecDepth 100000 in
theorem kX3_byteOf_4 (l : Launch) (g : zG) (sz : Nat) (p0 : Int64) : Met l yX3_byteOf (.code yX3_byteOf cX3_byteOf 3 (some .int) :: zBig) ({ frames := 0, cells := 0, slots := 0, locals := 0 }) (va_Pc [.long p0, .int 2] (zPre g [] sz)) (va_Qi (fun (r : Int32) (_ : Nat) => r = ((p0 >>> ((16 : Int32).toInt64 &&& 63)) &&& 255).toInt32) (zPost g (fun _ : Nat => []) (va_A [] sz)) (va_A [] sz)) 0 0 (va_A [] sz) := by
  refine zMetI rfl (Nat.le_of_ble_eq_true rfl) ?_
  intro p e s m args below meth c A ls hx hb hml hr hlocks hin hown hts hK hN hZ hP hD hA hS hAe hl
  have hown : s.vm.findClass RX3 = some m.cls := hown
  have hl : lv_has ls 3 [(0, .long p0), (2, .int 2)] := hl
  refine lv_lload_n hx hb dX3_byteOf_0 rfl (lv_at hl 0 rfl) ?_
  refine lv_bipush (v := 8) hx hb dX3_byteOf_1 (by decide) ?_
  refine lv_iload_n hx hb dX3_byteOf_3 rfl (lv_at hl 1 rfl) ?_
  refine lv_imul hx hb dX3_byteOf_4 ?_
  refine lv_topi (nm_r (e' := 16) (by decide +kernel) ?_)
  refine lv_lshr (v := (p0 >>> ((16 : Int32).toInt64 &&& 63))) hx hb dX3_byteOf_5 rfl ?_
  refine lv_ldc2 (v := 255) hx hb hown (hts _ m_k_RX3_23) dX3_byteOf_6 ?_
  refine lv_land hx hb dX3_byteOf_9 ?_
  refine lv_l2i (v := ((p0 >>> ((16 : Int32).toInt64 &&& 63)) &&& 255).toInt32) hx hb dX3_byteOf_10 rfl ?_
  have hP9 := hP.sub (ws' := []) [] rfl
  have hD9 := hD.sub (ws' := []) [] (by decide) rfl
  exact W.iret (v := ((p0 >>> ((16 : Int32).toInt64 &&& 63)) &&& 255).toInt32) hx hb hr (fun t ht hW => ⟨⟨((p0 >>> ((16 : Int32).toInt64 &&& 63)) &&& 255).toInt32, 0, rfl, rfl, by rw [ht]; exact hP9, hD9⟩, hS.F ht⟩) hS.2.2 dX3_byteOf_11
set_option maxHeartbeats 4000000 in
set_option maxRecDepth 100000 in
theorem kX3_byteOf_5 (l : Launch) (g : zG) (sz : Nat) (p0 : Int64) : Met l yX3_byteOf (.code yX3_byteOf cX3_byteOf 3 (some .int) :: zBig) ({ frames := 0, cells := 0, slots := 0, locals := 0 }) (va_Pc [.long p0, .int 1] (zPre g [] sz)) (va_Qi (fun (r : Int32) (_ : Nat) => r = ((p0 >>> ((8 : Int32).toInt64 &&& 63)) &&& 255).toInt32) (zPost g (fun _ : Nat => []) (va_A [] sz)) (va_A [] sz)) 0 0 (va_A [] sz) := by
  refine zMetI rfl (Nat.le_of_ble_eq_true rfl) ?_
  intro p e s m args below meth c A ls hx hb hml hr hlocks hin hown hts hK hN hZ hP hD hA hS hAe hl
  have hown : s.vm.findClass RX3 = some m.cls := hown
  have hl : lv_has ls 3 [(0, .long p0), (2, .int 1)] := hl
  refine lv_lload_n hx hb dX3_byteOf_0 rfl (lv_at hl 0 rfl) ?_
  refine lv_bipush (v := 8) hx hb dX3_byteOf_1 (by decide) ?_
  refine lv_iload_n hx hb dX3_byteOf_3 rfl (lv_at hl 1 rfl) ?_
  refine lv_imul hx hb dX3_byteOf_4 ?_
  refine lv_topi (nm_r (e' := 8) (by decide +kernel) ?_)
  refine lv_lshr (v := (p0 >>> ((8 : Int32).toInt64 &&& 63))) hx hb dX3_byteOf_5 rfl ?_
  refine lv_ldc2 (v := 255) hx hb hown (hts _ m_k_RX3_23) dX3_byteOf_6 ?_
  refine lv_land hx hb dX3_byteOf_9 ?_
  refine lv_l2i (v := ((p0 >>> ((8 : Int32).toInt64 &&& 63)) &&& 255).toInt32) hx hb dX3_byteOf_10 rfl ?_
  have hP9 := hP.sub (ws' := []) [] rfl
  have hD9 := hD.sub (ws' := []) [] (by decide) rfl
  exact W.iret (v := ((p0 >>> ((8 : Int32).toInt64 &&& 63)) &&& 255).toInt32) hx hb hr (fun t ht hW => ⟨⟨((p0 >>> ((8 : Int32).toInt64 &&& 63)) &&& 255).toInt32, 0, rfl, rfl, by rw [ht]; exact hP9, hD9⟩, hS.F ht⟩) hS.2.2 dX3_byteOf_11
set_option maxHeartbeats 4000000 in
set_option maxRecDepth 100000 in
theorem kX3_byteOf_6 (l : Launch) (g : zG) (sz : Nat) (p0 : Int64) : Met l yX3_byteOf (.code yX3_byteOf cX3_byteOf 3 (some .int) :: zBig) ({ frames := 0, cells := 0, slots := 0, locals := 0 }) (va_Pc [.long p0, .int 0] (zPre g [] sz)) (va_Qi (fun (r : Int32) (_ : Nat) => r = ((p0 >>> ((0 : Int32).toInt64 &&& 63)) &&& 255).toInt32) (zPost g (fun _ : Nat => []) (va_A [] sz)) (va_A [] sz)) 0 0 (va_A [] sz) := by
  refine zMetI rfl (Nat.le_of_ble_eq_true rfl) ?_
  intro p e s m args below meth c A ls hx hb hml hr hlocks hin hown hts hK hN hZ hP hD hA hS hAe hl
  have hown : s.vm.findClass RX3 = some m.cls := hown
  have hl : lv_has ls 3 [(0, .long p0), (2, .int 0)] := hl
  refine lv_lload_n hx hb dX3_byteOf_0 rfl (lv_at hl 0 rfl) ?_
  refine lv_bipush (v := 8) hx hb dX3_byteOf_1 (by decide) ?_
  refine lv_iload_n hx hb dX3_byteOf_3 rfl (lv_at hl 1 rfl) ?_
  refine lv_imul hx hb dX3_byteOf_4 ?_
  refine lv_topi (nm_r (e' := 0) (by decide +kernel) ?_)
  refine lv_lshr (v := (p0 >>> ((0 : Int32).toInt64 &&& 63))) hx hb dX3_byteOf_5 rfl ?_
  refine lv_ldc2 (v := 255) hx hb hown (hts _ m_k_RX3_23) dX3_byteOf_6 ?_
  refine lv_land hx hb dX3_byteOf_9 ?_
  refine lv_l2i (v := ((p0 >>> ((0 : Int32).toInt64 &&& 63)) &&& 255).toInt32) hx hb dX3_byteOf_10 rfl ?_
  have hP9 := hP.sub (ws' := []) [] rfl
  have hD9 := hD.sub (ws' := []) [] (by decide) rfl
  exact W.iret (v := ((p0 >>> ((0 : Int32).toInt64 &&& 63)) &&& 255).toInt32) hx hb hr (fun t ht hW => ⟨⟨((p0 >>> ((0 : Int32).toInt64 &&& 63)) &&& 255).toInt32, 0, rfl, rfl, by rw [ht]; exact hP9, hD9⟩, hS.F ht⟩) hS.2.2 dX3_byteOf_11
set_option maxHeartbeats 4000000 in
set_option maxRecDepth 100000 in
theorem kX3_byteOf_7 (l : Launch) (g : zG) (sz : Nat) (p0 : Int64) : Met l yX3_byteOf (.code yX3_byteOf cX3_byteOf 3 (some .int) :: zBig) ({ frames := 0, cells := 0, slots := 0, locals := 0 }) (va_Pc [.long p0, .int 3] (zPre g [] sz)) (va_Qi (fun (r : Int32) (_ : Nat) => r = ((p0 >>> ((24 : Int32).toInt64 &&& 63)) &&& 255).toInt32) (zPost g (fun _ : Nat => []) (va_A [] sz)) (va_A [] sz)) 0 0 (va_A [] sz) := by
  refine zMetI rfl (Nat.le_of_ble_eq_true rfl) ?_
  intro p e s m args below meth c A ls hx hb hml hr hlocks hin hown hts hK hN hZ hP hD hA hS hAe hl
  have hown : s.vm.findClass RX3 = some m.cls := hown
  have hl : lv_has ls 3 [(0, .long p0), (2, .int 3)] := hl
  refine lv_lload_n hx hb dX3_byteOf_0 rfl (lv_at hl 0 rfl) ?_
  refine lv_bipush (v := 8) hx hb dX3_byteOf_1 (by decide) ?_
  refine lv_iload_n hx hb dX3_byteOf_3 rfl (lv_at hl 1 rfl) ?_
  refine lv_imul hx hb dX3_byteOf_4 ?_
  refine lv_topi (nm_r (e' := 24) (by decide +kernel) ?_)
  refine lv_lshr (v := (p0 >>> ((24 : Int32).toInt64 &&& 63))) hx hb dX3_byteOf_5 rfl ?_
  refine lv_ldc2 (v := 255) hx hb hown (hts _ m_k_RX3_23) dX3_byteOf_6 ?_
  refine lv_land hx hb dX3_byteOf_9 ?_
  refine lv_l2i (v := ((p0 >>> ((24 : Int32).toInt64 &&& 63)) &&& 255).toInt32) hx hb dX3_byteOf_10 rfl ?_
  have hP9 := hP.sub (ws' := []) [] rfl
  have hD9 := hD.sub (ws' := []) [] (by decide) rfl
  exact W.iret (v := ((p0 >>> ((24 : Int32).toInt64 &&& 63)) &&& 255).toInt32) hx hb hr (fun t ht hW => ⟨⟨((p0 >>> ((24 : Int32).toInt64 &&& 63)) &&& 255).toInt32, 0, rfl, rfl, by rw [ht]; exact hP9, hD9⟩, hS.F ht⟩) hS.2.2 dX3_byteOf_11
set_option maxHeartbeats 4000000 in
set_option maxRecDepth 100000 in
theorem kX3_byteOf_8 (l : Launch) (g : zG) (sz : Nat) (p0 : Int64) : Met l yX3_byteOf (.code yX3_byteOf cX3_byteOf 3 (some .int) :: zBig) ({ frames := 0, cells := 0, slots := 0, locals := 0 }) (va_Pc [.long p0, .int 2] (zPre g [] sz)) (va_Qi (fun (r : Int32) (_ : Nat) => r = ((p0 >>> ((16 : Int32).toInt64 &&& 63)) &&& 255).toInt32) (zPost g (fun _ : Nat => []) (va_A [] sz)) (va_A [] sz)) 0 0 (va_A [] sz) := by
  refine zMetI rfl (Nat.le_of_ble_eq_true rfl) ?_
  intro p e s m args below meth c A ls hx hb hml hr hlocks hin hown hts hK hN hZ hP hD hA hS hAe hl
  have hown : s.vm.findClass RX3 = some m.cls := hown
  have hl : lv_has ls 3 [(0, .long p0), (2, .int 2)] := hl
  refine lv_lload_n hx hb dX3_byteOf_0 rfl (lv_at hl 0 rfl) ?_
  refine lv_bipush (v := 8) hx hb dX3_byteOf_1 (by decide) ?_
  refine lv_iload_n hx hb dX3_byteOf_3 rfl (lv_at hl 1 rfl) ?_
  refine lv_imul hx hb dX3_byteOf_4 ?_
  refine lv_topi (nm_r (e' := 16) (by decide +kernel) ?_)
  refine lv_lshr (v := (p0 >>> ((16 : Int32).toInt64 &&& 63))) hx hb dX3_byteOf_5 rfl ?_
  refine lv_ldc2 (v := 255) hx hb hown (hts _ m_k_RX3_23) dX3_byteOf_6 ?_
  refine lv_land hx hb dX3_byteOf_9 ?_
  refine lv_l2i (v := ((p0 >>> ((16 : Int32).toInt64 &&& 63)) &&& 255).toInt32) hx hb dX3_byteOf_10 rfl ?_
  have hP9 := hP.sub (ws' := []) [] rfl
  have hD9 := hD.sub (ws' := []) [] (by decide) rfl
  exact W.iret (v := ((p0 >>> ((16 : Int32).toInt64 &&& 63)) &&& 255).toInt32) hx hb hr (fun t ht hW => ⟨⟨((p0 >>> ((16 : Int32).toInt64 &&& 63)) &&& 255).toInt32, 0, rfl, rfl, by rw [ht]; exact hP9, hD9⟩, hS.F ht⟩) hS.2.2 dX3_byteOf_11
set_option maxHeartbeats 4000000 in
set_option maxRecDepth 100000 in
theorem kX3_byteOf_9 (l : Launch) (g : zG) (sz : Nat) (p0 : Int64) : Met l yX3_byteOf (.code yX3_byteOf cX3_byteOf 3 (some .int) :: zBig) ({ frames := 0, cells := 0, slots := 0, locals := 0 }) (va_Pc [.long p0, .int 1] (zPre g [] sz)) (va_Qi (fun (r : Int32) (_ : Nat) => r = ((p0 >>> ((8 : Int32).toInt64 &&& 63)) &&& 255).toInt32) (zPost g (fun _ : Nat => []) (va_A [] sz)) (va_A [] sz)) 0 0 (va_A [] sz) := by
  refine zMetI rfl (Nat.le_of_ble_eq_true rfl) ?_
  intro p e s m args below meth c A ls hx hb hml hr hlocks hin hown hts hK hN hZ hP hD hA hS hAe hl
  have hown : s.vm.findClass RX3 = some m.cls := hown
  have hl : lv_has ls 3 [(0, .long p0), (2, .int 1)] := hl
  refine lv_lload_n hx hb dX3_byteOf_0 rfl (lv_at hl 0 rfl) ?_
  refine lv_bipush (v := 8) hx hb dX3_byteOf_1 (by decide) ?_
  refine lv_iload_n hx hb dX3_byteOf_3 rfl (lv_at hl 1 rfl) ?_
  refine lv_imul hx hb dX3_byteOf_4 ?_
  refine lv_topi (nm_r (e' := 8) (by decide +kernel) ?_)
  refine lv_lshr (v := (p0 >>> ((8 : Int32).toInt64 &&& 63))) hx hb dX3_byteOf_5 rfl ?_
  refine lv_ldc2 (v := 255) hx hb hown (hts _ m_k_RX3_23) dX3_byteOf_6 ?_
  refine lv_land hx hb dX3_byteOf_9 ?_
  refine lv_l2i (v := ((p0 >>> ((8 : Int32).toInt64 &&& 63)) &&& 255).toInt32) hx hb dX3_byteOf_10 rfl ?_
  have hP9 := hP.sub (ws' := []) [] rfl
  have hD9 := hD.sub (ws' := []) [] (by decide) rfl
  exact W.iret (v := ((p0 >>> ((8 : Int32).toInt64 &&& 63)) &&& 255).toInt32) hx hb hr (fun t ht hW => ⟨⟨((p0 >>> ((8 : Int32).toInt64 &&& 63)) &&& 255).toInt32, 0, rfl, rfl, by rw [ht]; exact hP9, hD9⟩, hS.F ht⟩) hS.2.2 dX3_byteOf_11
set_option maxHeartbeats 4000000 in
set_option maxRecDepth 100000 in
theorem kX3_byteOf_10 (l : Launch) (g : zG) (sz : Nat) (p0 : Int64) : Met l yX3_byteOf (.code yX3_byteOf cX3_byteOf 3 (some .int) :: zBig) ({ frames := 0, cells := 0, slots := 0, locals := 0 }) (va_Pc [.long p0, .int 0] (zPre g [] sz)) (va_Qi (fun (r : Int32) (_ : Nat) => r = ((p0 >>> ((0 : Int32).toInt64 &&& 63)) &&& 255).toInt32) (zPost g (fun _ : Nat => []) (va_A [] sz)) (va_A [] sz)) 0 0 (va_A [] sz) := by
  refine zMetI rfl (Nat.le_of_ble_eq_true rfl) ?_
  intro p e s m args below meth c A ls hx hb hml hr hlocks hin hown hts hK hN hZ hP hD hA hS hAe hl
  have hown : s.vm.findClass RX3 = some m.cls := hown
  have hl : lv_has ls 3 [(0, .long p0), (2, .int 0)] := hl
  refine lv_lload_n hx hb dX3_byteOf_0 rfl (lv_at hl 0 rfl) ?_
  refine lv_bipush (v := 8) hx hb dX3_byteOf_1 (by decide) ?_
  refine lv_iload_n hx hb dX3_byteOf_3 rfl (lv_at hl 1 rfl) ?_
  refine lv_imul hx hb dX3_byteOf_4 ?_
  refine lv_topi (nm_r (e' := 0) (by decide +kernel) ?_)
  refine lv_lshr (v := (p0 >>> ((0 : Int32).toInt64 &&& 63))) hx hb dX3_byteOf_5 rfl ?_
  refine lv_ldc2 (v := 255) hx hb hown (hts _ m_k_RX3_23) dX3_byteOf_6 ?_
  refine lv_land hx hb dX3_byteOf_9 ?_
  refine lv_l2i (v := ((p0 >>> ((0 : Int32).toInt64 &&& 63)) &&& 255).toInt32) hx hb dX3_byteOf_10 rfl ?_
  have hP9 := hP.sub (ws' := []) [] rfl
  have hD9 := hD.sub (ws' := []) [] (by decide) rfl
  exact W.iret (v := ((p0 >>> ((0 : Int32).toInt64 &&& 63)) &&& 255).toInt32) hx hb hr (fun t ht hW => ⟨⟨((p0 >>> ((0 : Int32).toInt64 &&& 63)) &&& 255).toInt32, 0, rfl, rfl, by rw [ht]; exact hP9, hD9⟩, hS.F ht⟩) hS.2.2 dX3_byteOf_11
set_option maxHeartbeats 4000000 in
set_option maxRecDepth 100000 in
theorem kX3_byteOf_11 (l : Launch) (g : zG) (sz : Nat) (p0 : Int64) : Met l yX3_byteOf (.code yX3_byteOf cX3_byteOf 3 (some .int) :: zBig) ({ frames := 0, cells := 0, slots := 0, locals := 0 }) (va_Pc [.long p0, .int 4] (zPre g [] sz)) (va_Qi (fun (r : Int32) (_ : Nat) => r = ((p0 >>> ((32 : Int32).toInt64 &&& 63)) &&& 255).toInt32) (zPost g (fun _ : Nat => []) (va_A [] sz)) (va_A [] sz)) 0 0 (va_A [] sz) := by
  refine zMetI rfl (Nat.le_of_ble_eq_true rfl) ?_
  intro p e s m args below meth c A ls hx hb hml hr hlocks hin hown hts hK hN hZ hP hD hA hS hAe hl
  have hown : s.vm.findClass RX3 = some m.cls := hown
  have hl : lv_has ls 3 [(0, .long p0), (2, .int 4)] := hl
  refine lv_lload_n hx hb dX3_byteOf_0 rfl (lv_at hl 0 rfl) ?_
  refine lv_bipush (v := 8) hx hb dX3_byteOf_1 (by decide) ?_
  refine lv_iload_n hx hb dX3_byteOf_3 rfl (lv_at hl 1 rfl) ?_
  refine lv_imul hx hb dX3_byteOf_4 ?_
  refine lv_topi (nm_r (e' := 32) (by decide +kernel) ?_)
  refine lv_lshr (v := (p0 >>> ((32 : Int32).toInt64 &&& 63))) hx hb dX3_byteOf_5 rfl ?_
  refine lv_ldc2 (v := 255) hx hb hown (hts _ m_k_RX3_23) dX3_byteOf_6 ?_
  refine lv_land hx hb dX3_byteOf_9 ?_
  refine lv_l2i (v := ((p0 >>> ((32 : Int32).toInt64 &&& 63)) &&& 255).toInt32) hx hb dX3_byteOf_10 rfl ?_
  have hP9 := hP.sub (ws' := []) [] rfl
  have hD9 := hD.sub (ws' := []) [] (by decide) rfl
  exact W.iret (v := ((p0 >>> ((32 : Int32).toInt64 &&& 63)) &&& 255).toInt32) hx hb hr (fun t ht hW => ⟨⟨((p0 >>> ((32 : Int32).toInt64 &&& 63)) &&& 255).toInt32, 0, rfl, rfl, by rw [ht]; exact hP9, hD9⟩, hS.F ht⟩) hS.2.2 dX3_byteOf_11
set_option maxHeartbeats 4000000 in
set_option maxRecDepth 100000 in
theorem kX3_byteOf_12 (l : Launch) (g : zG) (sz : Nat) (p0 : Int64) : Met l yX3_byteOf (.code yX3_byteOf cX3_byteOf 3 (some .int) :: zBig) ({ frames := 0, cells := 0, slots := 0, locals := 0 }) (va_Pc [.long p0, .int 3] (zPre g [] sz)) (va_Qi (fun (r : Int32) (_ : Nat) => r = ((p0 >>> ((24 : Int32).toInt64 &&& 63)) &&& 255).toInt32) (zPost g (fun _ : Nat => []) (va_A [] sz)) (va_A [] sz)) 0 0 (va_A [] sz) := by
  refine zMetI rfl (Nat.le_of_ble_eq_true rfl) ?_
  intro p e s m args below meth c A ls hx hb hml hr hlocks hin hown hts hK hN hZ hP hD hA hS hAe hl
  have hown : s.vm.findClass RX3 = some m.cls := hown
  have hl : lv_has ls 3 [(0, .long p0), (2, .int 3)] := hl
  refine lv_lload_n hx hb dX3_byteOf_0 rfl (lv_at hl 0 rfl) ?_
  refine lv_bipush (v := 8) hx hb dX3_byteOf_1 (by decide) ?_
  refine lv_iload_n hx hb dX3_byteOf_3 rfl (lv_at hl 1 rfl) ?_
  refine lv_imul hx hb dX3_byteOf_4 ?_
  refine lv_topi (nm_r (e' := 24) (by decide +kernel) ?_)
  refine lv_lshr (v := (p0 >>> ((24 : Int32).toInt64 &&& 63))) hx hb dX3_byteOf_5 rfl ?_
  refine lv_ldc2 (v := 255) hx hb hown (hts _ m_k_RX3_23) dX3_byteOf_6 ?_
  refine lv_land hx hb dX3_byteOf_9 ?_
  refine lv_l2i (v := ((p0 >>> ((24 : Int32).toInt64 &&& 63)) &&& 255).toInt32) hx hb dX3_byteOf_10 rfl ?_
  have hP9 := hP.sub (ws' := []) [] rfl
  have hD9 := hD.sub (ws' := []) [] (by decide) rfl
  exact W.iret (v := ((p0 >>> ((24 : Int32).toInt64 &&& 63)) &&& 255).toInt32) hx hb hr (fun t ht hW => ⟨⟨((p0 >>> ((24 : Int32).toInt64 &&& 63)) &&& 255).toInt32, 0, rfl, rfl, by rw [ht]; exact hP9, hD9⟩, hS.F ht⟩) hS.2.2 dX3_byteOf_11
set_option maxHeartbeats 4000000 in
set_option maxRecDepth 100000 in
theorem kX3_byteOf_13 (l : Launch) (g : zG) (sz : Nat) (p0 : Int64) : Met l yX3_byteOf (.code yX3_byteOf cX3_byteOf 3 (some .int) :: zBig) ({ frames := 0, cells := 0, slots := 0, locals := 0 }) (va_Pc [.long p0, .int 2] (zPre g [] sz)) (va_Qi (fun (r : Int32) (_ : Nat) => r = ((p0 >>> ((16 : Int32).toInt64 &&& 63)) &&& 255).toInt32) (zPost g (fun _ : Nat => []) (va_A [] sz)) (va_A [] sz)) 0 0 (va_A [] sz) := by
  refine zMetI rfl (Nat.le_of_ble_eq_true rfl) ?_
  intro p e s m args below meth c A ls hx hb hml hr hlocks hin hown hts hK hN hZ hP hD hA hS hAe hl
  have hown : s.vm.findClass RX3 = some m.cls := hown
  have hl : lv_has ls 3 [(0, .long p0), (2, .int 2)] := hl
  refine lv_lload_n hx hb dX3_byteOf_0 rfl (lv_at hl 0 rfl) ?_
  refine lv_bipush (v := 8) hx hb dX3_byteOf_1 (by decide) ?_
  refine lv_iload_n hx hb dX3_byteOf_3 rfl (lv_at hl 1 rfl) ?_
  refine lv_imul hx hb dX3_byteOf_4 ?_
  refine lv_topi (nm_r (e' := 16) (by decide +kernel) ?_)
  refine lv_lshr (v := (p0 >>> ((16 : Int32).toInt64 &&& 63))) hx hb dX3_byteOf_5 rfl ?_
  refine lv_ldc2 (v := 255) hx hb hown (hts _ m_k_RX3_23) dX3_byteOf_6 ?_
  refine lv_land hx hb dX3_byteOf_9 ?_
  refine lv_l2i (v := ((p0 >>> ((16 : Int32).toInt64 &&& 63)) &&& 255).toInt32) hx hb dX3_byteOf_10 rfl ?_
  have hP9 := hP.sub (ws' := []) [] rfl
  have hD9 := hD.sub (ws' := []) [] (by decide) rfl
  exact W.iret (v := ((p0 >>> ((16 : Int32).toInt64 &&& 63)) &&& 255).toInt32) hx hb hr (fun t ht hW => ⟨⟨((p0 >>> ((16 : Int32).toInt64 &&& 63)) &&& 255).toInt32, 0, rfl, rfl, by rw [ht]; exact hP9, hD9⟩, hS.F ht⟩) hS.2.2 dX3_byteOf_11
set_option maxHeartbeats 4000000 in
set_option maxRecDepth 100000 in
theorem kX3_byteOf_14 (l : Launch) (g : zG) (sz : Nat) (p0 : Int64) : Met l yX3_byteOf (.code yX3_byteOf cX3_byteOf 3 (some .int) :: zBig) ({ frames := 0, cells := 0, slots := 0, locals := 0 }) (va_Pc [.long p0, .int 1] (zPre g [] sz)) (va_Qi (fun (r : Int32) (_ : Nat) => r = ((p0 >>> ((8 : Int32).toInt64 &&& 63)) &&& 255).toInt32) (zPost g (fun _ : Nat => []) (va_A [] sz)) (va_A [] sz)) 0 0 (va_A [] sz) := by
  refine zMetI rfl (Nat.le_of_ble_eq_true rfl) ?_
  intro p e s m args below meth c A ls hx hb hml hr hlocks hin hown hts hK hN hZ hP hD hA hS hAe hl
  have hown : s.vm.findClass RX3 = some m.cls := hown
  have hl : lv_has ls 3 [(0, .long p0), (2, .int 1)] := hl
  refine lv_lload_n hx hb dX3_byteOf_0 rfl (lv_at hl 0 rfl) ?_
  refine lv_bipush (v := 8) hx hb dX3_byteOf_1 (by decide) ?_
  refine lv_iload_n hx hb dX3_byteOf_3 rfl (lv_at hl 1 rfl) ?_
  refine lv_imul hx hb dX3_byteOf_4 ?_
  refine lv_topi (nm_r (e' := 8) (by decide +kernel) ?_)
  refine lv_lshr (v := (p0 >>> ((8 : Int32).toInt64 &&& 63))) hx hb dX3_byteOf_5 rfl ?_
  refine lv_ldc2 (v := 255) hx hb hown (hts _ m_k_RX3_23) dX3_byteOf_6 ?_
  refine lv_land hx hb dX3_byteOf_9 ?_
  refine lv_l2i (v := ((p0 >>> ((8 : Int32).toInt64 &&& 63)) &&& 255).toInt32) hx hb dX3_byteOf_10 rfl ?_
  have hP9 := hP.sub (ws' := []) [] rfl
  have hD9 := hD.sub (ws' := []) [] (by decide) rfl
  exact W.iret (v := ((p0 >>> ((8 : Int32).toInt64 &&& 63)) &&& 255).toInt32) hx hb hr (fun t ht hW => ⟨⟨((p0 >>> ((8 : Int32).toInt64 &&& 63)) &&& 255).toInt32, 0, rfl, rfl, by rw [ht]; exact hP9, hD9⟩, hS.F ht⟩) hS.2.2 dX3_byteOf_11
set_option maxHeartbeats 4000000 in
set_option maxRecDepth 100000 in
theorem kX3_byteOf_15 (l : Launch) (g : zG) (sz : Nat) (p0 : Int64) : Met l yX3_byteOf (.code yX3_byteOf cX3_byteOf 3 (some .int) :: zBig) ({ frames := 0, cells := 0, slots := 0, locals := 0 }) (va_Pc [.long p0, .int 0] (zPre g [] sz)) (va_Qi (fun (r : Int32) (_ : Nat) => r = ((p0 >>> ((0 : Int32).toInt64 &&& 63)) &&& 255).toInt32) (zPost g (fun _ : Nat => []) (va_A [] sz)) (va_A [] sz)) 0 0 (va_A [] sz) := by
  refine zMetI rfl (Nat.le_of_ble_eq_true rfl) ?_
  intro p e s m args below meth c A ls hx hb hml hr hlocks hin hown hts hK hN hZ hP hD hA hS hAe hl
  have hown : s.vm.findClass RX3 = some m.cls := hown
  have hl : lv_has ls 3 [(0, .long p0), (2, .int 0)] := hl
  refine lv_lload_n hx hb dX3_byteOf_0 rfl (lv_at hl 0 rfl) ?_
  refine lv_bipush (v := 8) hx hb dX3_byteOf_1 (by decide) ?_
  refine lv_iload_n hx hb dX3_byteOf_3 rfl (lv_at hl 1 rfl) ?_
  refine lv_imul hx hb dX3_byteOf_4 ?_
  refine lv_topi (nm_r (e' := 0) (by decide +kernel) ?_)
  refine lv_lshr (v := (p0 >>> ((0 : Int32).toInt64 &&& 63))) hx hb dX3_byteOf_5 rfl ?_
  refine lv_ldc2 (v := 255) hx hb hown (hts _ m_k_RX3_23) dX3_byteOf_6 ?_
  refine lv_land hx hb dX3_byteOf_9 ?_
  refine lv_l2i (v := ((p0 >>> ((0 : Int32).toInt64 &&& 63)) &&& 255).toInt32) hx hb dX3_byteOf_10 rfl ?_
  have hP9 := hP.sub (ws' := []) [] rfl
  have hD9 := hD.sub (ws' := []) [] (by decide) rfl
  exact W.iret (v := ((p0 >>> ((0 : Int32).toInt64 &&& 63)) &&& 255).toInt32) hx hb hr (fun t ht hW => ⟨⟨((p0 >>> ((0 : Int32).toInt64 &&& 63)) &&& 255).toInt32, 0, rfl, rfl, by rw [ht]; exact hP9, hD9⟩, hS.F ht⟩) hS.2.2 dX3_byteOf_11
set_option maxHeartbeats 4000000 in
set_option maxRecDepth 100000 in
theorem kX3_byteOf_16 (l : Launch) (g : zG) (sz : Nat) (p0 : Int64) : Met l yX3_byteOf (.code yX3_byteOf cX3_byteOf 3 (some .int) :: zBig) ({ frames := 0, cells := 0, slots := 0, locals := 0 }) (va_Pc [.long p0, .int 5] (zPre g [] sz)) (va_Qi (fun (r : Int32) (_ : Nat) => r = ((p0 >>> ((40 : Int32).toInt64 &&& 63)) &&& 255).toInt32) (zPost g (fun _ : Nat => []) (va_A [] sz)) (va_A [] sz)) 0 0 (va_A [] sz) := by
  refine zMetI rfl (Nat.le_of_ble_eq_true rfl) ?_
  intro p e s m args below meth c A ls hx hb hml hr hlocks hin hown hts hK hN hZ hP hD hA hS hAe hl
  have hown : s.vm.findClass RX3 = some m.cls := hown
  have hl : lv_has ls 3 [(0, .long p0), (2, .int 5)] := hl
  refine lv_lload_n hx hb dX3_byteOf_0 rfl (lv_at hl 0 rfl) ?_
  refine lv_bipush (v := 8) hx hb dX3_byteOf_1 (by decide) ?_
  refine lv_iload_n hx hb dX3_byteOf_3 rfl (lv_at hl 1 rfl) ?_
  refine lv_imul hx hb dX3_byteOf_4 ?_
  refine lv_topi (nm_r (e' := 40) (by decide +kernel) ?_)
  refine lv_lshr (v := (p0 >>> ((40 : Int32).toInt64 &&& 63))) hx hb dX3_byteOf_5 rfl ?_
  refine lv_ldc2 (v := 255) hx hb hown (hts _ m_k_RX3_23) dX3_byteOf_6 ?_
  refine lv_land hx hb dX3_byteOf_9 ?_
  refine lv_l2i (v := ((p0 >>> ((40 : Int32).toInt64 &&& 63)) &&& 255).toInt32) hx hb dX3_byteOf_10 rfl ?_
  have hP9 := hP.sub (ws' := []) [] rfl
  have hD9 := hD.sub (ws' := []) [] (by decide) rfl
  exact W.iret (v := ((p0 >>> ((40 : Int32).toInt64 &&& 63)) &&& 255).toInt32) hx hb hr (fun t ht hW => ⟨⟨((p0 >>> ((40 : Int32).toInt64 &&& 63)) &&& 255).toInt32, 0, rfl, rfl, by rw [ht]; exact hP9, hD9⟩, hS.F ht⟩) hS.2.2 dX3_byteOf_11
set_option maxHeartbeats 4000000 in
set_option maxRecDepth 100000 in
theorem kX3_byteOf_17 (l : Launch) (g : zG) (sz : Nat) (p0 : Int64) : Met l yX3_byteOf (.code yX3_byteOf cX3_byteOf 3 (some .int) :: zBig) ({ frames := 0, cells := 0, slots := 0, locals := 0 }) (va_Pc [.long p0, .int 4] (zPre g [] sz)) (va_Qi (fun (r : Int32) (_ : Nat) => r = ((p0 >>> ((32 : Int32).toInt64 &&& 63)) &&& 255).toInt32) (zPost g (fun _ : Nat => []) (va_A [] sz)) (va_A [] sz)) 0 0 (va_A [] sz) := by
  refine zMetI rfl (Nat.le_of_ble_eq_true rfl) ?_
  intro p e s m args below meth c A ls hx hb hml hr hlocks hin hown hts hK hN hZ hP hD hA hS hAe hl
  have hown : s.vm.findClass RX3 = some m.cls := hown
  have hl : lv_has ls 3 [(0, .long p0), (2, .int 4)] := hl
  refine lv_lload_n hx hb dX3_byteOf_0 rfl (lv_at hl 0 rfl) ?_
  refine lv_bipush (v := 8) hx hb dX3_byteOf_1 (by decide) ?_
  refine lv_iload_n hx hb dX3_byteOf_3 rfl (lv_at hl 1 rfl) ?_
  refine lv_imul hx hb dX3_byteOf_4 ?_
  refine lv_topi (nm_r (e' := 32) (by decide +kernel) ?_)
  refine lv_lshr (v := (p0 >>> ((32 : Int32).toInt64 &&& 63))) hx hb dX3_byteOf_5 rfl ?_
  refine lv_ldc2 (v := 255) hx hb hown (hts _ m_k_RX3_23) dX3_byteOf_6 ?_
  refine lv_land hx hb dX3_byteOf_9 ?_
  refine lv_l2i (v := ((p0 >>> ((32 : Int32).toInt64 &&& 63)) &&& 255).toInt32) hx hb dX3_byteOf_10 rfl ?_
  have hP9 := hP.sub (ws' := []) [] rfl
  have hD9 := hD.sub (ws' := []) [] (by decide) rfl
  exact W.iret (v := ((p0 >>> ((32 : Int32).toInt64 &&& 63)) &&& 255).toInt32) hx hb hr (fun t ht hW => ⟨⟨((p0 >>> ((32 : Int32).toInt64 &&& 63)) &&& 255).toInt32, 0, rfl, rfl, by rw [ht]; exact hP9, hD9⟩, hS.F ht⟩) hS.2.2 dX3_byteOf_11
set_option maxHeartbeats 4000000 in
set_option maxRecDepth 100000 in
theorem kX3_byteOf_18 (l : Launch) (g : zG) (sz : Nat) (p0 : Int64) : Met l yX3_byteOf (.code yX3_byteOf cX3_byteOf 3 (some .int) :: zBig) ({ frames := 0, cells := 0, slots := 0, locals := 0 }) (va_Pc [.long p0, .int 3] (zPre g [] sz)) (va_Qi (fun (r : Int32) (_ : Nat) => r = ((p0 >>> ((24 : Int32).toInt64 &&& 63)) &&& 255).toInt32) (zPost g (fun _ : Nat => []) (va_A [] sz)) (va_A [] sz)) 0 0 (va_A [] sz) := by
  refine zMetI rfl (Nat.le_of_ble_eq_true rfl) ?_
  intro p e s m args below meth c A ls hx hb hml hr hlocks hin hown hts hK hN hZ hP hD hA hS hAe hl
  have hown : s.vm.findClass RX3 = some m.cls := hown
  have hl : lv_has ls 3 [(0, .long p0), (2, .int 3)] := hl
  refine lv_lload_n hx hb dX3_byteOf_0 rfl (lv_at hl 0 rfl) ?_
  refine lv_bipush (v := 8) hx hb dX3_byteOf_1 (by decide) ?_
  refine lv_iload_n hx hb dX3_byteOf_3 rfl (lv_at hl 1 rfl) ?_
  refine lv_imul hx hb dX3_byteOf_4 ?_
  refine lv_topi (nm_r (e' := 24) (by decide +kernel) ?_)
  refine lv_lshr (v := (p0 >>> ((24 : Int32).toInt64 &&& 63))) hx hb dX3_byteOf_5 rfl ?_
  refine lv_ldc2 (v := 255) hx hb hown (hts _ m_k_RX3_23) dX3_byteOf_6 ?_
  refine lv_land hx hb dX3_byteOf_9 ?_
  refine lv_l2i (v := ((p0 >>> ((24 : Int32).toInt64 &&& 63)) &&& 255).toInt32) hx hb dX3_byteOf_10 rfl ?_
  have hP9 := hP.sub (ws' := []) [] rfl
  have hD9 := hD.sub (ws' := []) [] (by decide) rfl
  exact W.iret (v := ((p0 >>> ((24 : Int32).toInt64 &&& 63)) &&& 255).toInt32) hx hb hr (fun t ht hW => ⟨⟨((p0 >>> ((24 : Int32).toInt64 &&& 63)) &&& 255).toInt32, 0, rfl, rfl, by rw [ht]; exact hP9, hD9⟩, hS.F ht⟩) hS.2.2 dX3_byteOf_11
set_option maxHeartbeats 4000000 in
set_option maxRecDepth 100000 in
theorem kX3_byteOf_19 (l : Launch) (g : zG) (sz : Nat) (p0 : Int64) : Met l yX3_byteOf (.code yX3_byteOf cX3_byteOf 3 (some .int) :: zBig) ({ frames := 0, cells := 0, slots := 0, locals := 0 }) (va_Pc [.long p0, .int 2] (zPre g [] sz)) (va_Qi (fun (r : Int32) (_ : Nat) => r = ((p0 >>> ((16 : Int32).toInt64 &&& 63)) &&& 255).toInt32) (zPost g (fun _ : Nat => []) (va_A [] sz)) (va_A [] sz)) 0 0 (va_A [] sz) := by
  refine zMetI rfl (Nat.le_of_ble_eq_true rfl) ?_
  intro p e s m args below meth c A ls hx hb hml hr hlocks hin hown hts hK hN hZ hP hD hA hS hAe hl
  have hown : s.vm.findClass RX3 = some m.cls := hown
  have hl : lv_has ls 3 [(0, .long p0), (2, .int 2)] := hl
  refine lv_lload_n hx hb dX3_byteOf_0 rfl (lv_at hl 0 rfl) ?_
  refine lv_bipush (v := 8) hx hb dX3_byteOf_1 (by decide) ?_
  refine lv_iload_n hx hb dX3_byteOf_3 rfl (lv_at hl 1 rfl) ?_
  refine lv_imul hx hb dX3_byteOf_4 ?_
  refine lv_topi (nm_r (e' := 16) (by decide +kernel) ?_)
  refine lv_lshr (v := (p0 >>> ((16 : Int32).toInt64 &&& 63))) hx hb dX3_byteOf_5 rfl ?_
  refine lv_ldc2 (v := 255) hx hb hown (hts _ m_k_RX3_23) dX3_byteOf_6 ?_
  refine lv_land hx hb dX3_byteOf_9 ?_
  refine lv_l2i (v := ((p0 >>> ((16 : Int32).toInt64 &&& 63)) &&& 255).toInt32) hx hb dX3_byteOf_10 rfl ?_
  have hP9 := hP.sub (ws' := []) [] rfl
  have hD9 := hD.sub (ws' := []) [] (by decide) rfl
  exact W.iret (v := ((p0 >>> ((16 : Int32).toInt64 &&& 63)) &&& 255).toInt32) hx hb hr (fun t ht hW => ⟨⟨((p0 >>> ((16 : Int32).toInt64 &&& 63)) &&& 255).toInt32, 0, rfl, rfl, by rw [ht]; exact hP9, hD9⟩, hS.F ht⟩) hS.2.2 dX3_byteOf_11
set_option maxHeartbeats 4000000 in
set_option maxRecDepth 100000 in
theorem kX3_byteOf_20 (l : Launch) (g : zG) (sz : Nat) (p0 : Int64) : Met l yX3_byteOf (.code yX3_byteOf cX3_byteOf 3 (some .int) :: zBig) ({ frames := 0, cells := 0, slots := 0, locals := 0 }) (va_Pc [.long p0, .int 1] (zPre g [] sz)) (va_Qi (fun (r : Int32) (_ : Nat) => r = ((p0 >>> ((8 : Int32).toInt64 &&& 63)) &&& 255).toInt32) (zPost g (fun _ : Nat => []) (va_A [] sz)) (va_A [] sz)) 0 0 (va_A [] sz) := by
  refine zMetI rfl (Nat.le_of_ble_eq_true rfl) ?_
  intro p e s m args below meth c A ls hx hb hml hr hlocks hin hown hts hK hN hZ hP hD hA hS hAe hl
  have hown : s.vm.findClass RX3 = some m.cls := hown
  have hl : lv_has ls 3 [(0, .long p0), (2, .int 1)] := hl
  refine lv_lload_n hx hb dX3_byteOf_0 rfl (lv_at hl 0 rfl) ?_
  refine lv_bipush (v := 8) hx hb dX3_byteOf_1 (by decide) ?_
  refine lv_iload_n hx hb dX3_byteOf_3 rfl (lv_at hl 1 rfl) ?_
  refine lv_imul hx hb dX3_byteOf_4 ?_
  refine lv_topi (nm_r (e' := 8) (by decide +kernel) ?_)
  refine lv_lshr (v := (p0 >>> ((8 : Int32).toInt64 &&& 63))) hx hb dX3_byteOf_5 rfl ?_
  refine lv_ldc2 (v := 255) hx hb hown (hts _ m_k_RX3_23) dX3_byteOf_6 ?_
  refine lv_land hx hb dX3_byteOf_9 ?_
  refine lv_l2i (v := ((p0 >>> ((8 : Int32).toInt64 &&& 63)) &&& 255).toInt32) hx hb dX3_byteOf_10 rfl ?_
  have hP9 := hP.sub (ws' := []) [] rfl
  have hD9 := hD.sub (ws' := []) [] (by decide) rfl
  exact W.iret (v := ((p0 >>> ((8 : Int32).toInt64 &&& 63)) &&& 255).toInt32) hx hb hr (fun t ht hW => ⟨⟨((p0 >>> ((8 : Int32).toInt64 &&& 63)) &&& 255).toInt32, 0, rfl, rfl, by rw [ht]; exact hP9, hD9⟩, hS.F ht⟩) hS.2.2 dX3_byteOf_11
set_option maxHeartbeats 4000000 in
set_option maxRecDepth 100000 in
theorem kX3_byteOf_21 (l : Launch) (g : zG) (sz : Nat) (p0 : Int64) : Met l yX3_byteOf (.code yX3_byteOf cX3_byteOf 3 (some .int) :: zBig) ({ frames := 0, cells := 0, slots := 0, locals := 0 }) (va_Pc [.long p0, .int 0] (zPre g [] sz)) (va_Qi (fun (r : Int32) (_ : Nat) => r = ((p0 >>> ((0 : Int32).toInt64 &&& 63)) &&& 255).toInt32) (zPost g (fun _ : Nat => []) (va_A [] sz)) (va_A [] sz)) 0 0 (va_A [] sz) := by
  refine zMetI rfl (Nat.le_of_ble_eq_true rfl) ?_
  intro p e s m args below meth c A ls hx hb hml hr hlocks hin hown hts hK hN hZ hP hD hA hS hAe hl
  have hown : s.vm.findClass RX3 = some m.cls := hown
  have hl : lv_has ls 3 [(0, .long p0), (2, .int 0)] := hl
  refine lv_lload_n hx hb dX3_byteOf_0 rfl (lv_at hl 0 rfl) ?_
  refine lv_bipush (v := 8) hx hb dX3_byteOf_1 (by decide) ?_
  refine lv_iload_n hx hb dX3_byteOf_3 rfl (lv_at hl 1 rfl) ?_
  refine lv_imul hx hb dX3_byteOf_4 ?_
  refine lv_topi (nm_r (e' := 0) (by decide +kernel) ?_)
  refine lv_lshr (v := (p0 >>> ((0 : Int32).toInt64 &&& 63))) hx hb dX3_byteOf_5 rfl ?_
  refine lv_ldc2 (v := 255) hx hb hown (hts _ m_k_RX3_23) dX3_byteOf_6 ?_
  refine lv_land hx hb dX3_byteOf_9 ?_
  refine lv_l2i (v := ((p0 >>> ((0 : Int32).toInt64 &&& 63)) &&& 255).toInt32) hx hb dX3_byteOf_10 rfl ?_
  have hP9 := hP.sub (ws' := []) [] rfl
  have hD9 := hD.sub (ws' := []) [] (by decide) rfl
  exact W.iret (v := ((p0 >>> ((0 : Int32).toInt64 &&& 63)) &&& 255).toInt32) hx hb hr (fun t ht hW => ⟨⟨((p0 >>> ((0 : Int32).toInt64 &&& 63)) &&& 255).toInt32, 0, rfl, rfl, by rw [ht]; exact hP9, hD9⟩, hS.F ht⟩) hS.2.2 dX3_byteOf_11
set_option maxHeartbeats 4000000 in
set_option maxRecDepth 100000 in
theorem kX3_byteOf_22 (l : Launch) (g : zG) (sz : Nat) (p0 : Int64) : Met l yX3_byteOf (.code yX3_byteOf cX3_byteOf 3 (some .int) :: zBig) ({ frames := 0, cells := 0, slots := 0, locals := 0 }) (va_Pc [.long p0, .int 6] (zPre g [] sz)) (va_Qi (fun (r : Int32) (_ : Nat) => r = ((p0 >>> ((48 : Int32).toInt64 &&& 63)) &&& 255).toInt32) (zPost g (fun _ : Nat => []) (va_A [] sz)) (va_A [] sz)) 0 0 (va_A [] sz) := by
  refine zMetI rfl (Nat.le_of_ble_eq_true rfl) ?_
  intro p e s m args below meth c A ls hx hb hml hr hlocks hin hown hts hK hN hZ hP hD hA hS hAe hl
  have hown : s.vm.findClass RX3 = some m.cls := hown
  have hl : lv_has ls 3 [(0, .long p0), (2, .int 6)] := hl
  refine lv_lload_n hx hb dX3_byteOf_0 rfl (lv_at hl 0 rfl) ?_
  refine lv_bipush (v := 8) hx hb dX3_byteOf_1 (by decide) ?_
  refine lv_iload_n hx hb dX3_byteOf_3 rfl (lv_at hl 1 rfl) ?_
  refine lv_imul hx hb dX3_byteOf_4 ?_
  refine lv_topi (nm_r (e' := 48) (by decide +kernel) ?_)
  refine lv_lshr (v := (p0 >>> ((48 : Int32).toInt64 &&& 63))) hx hb dX3_byteOf_5 rfl ?_
  refine lv_ldc2 (v := 255) hx hb hown (hts _ m_k_RX3_23) dX3_byteOf_6 ?_
  refine lv_land hx hb dX3_byteOf_9 ?_
  refine lv_l2i (v := ((p0 >>> ((48 : Int32).toInt64 &&& 63)) &&& 255).toInt32) hx hb dX3_byteOf_10 rfl ?_
  have hP9 := hP.sub (ws' := []) [] rfl
  have hD9 := hD.sub (ws' := []) [] (by decide) rfl
  exact W.iret (v := ((p0 >>> ((48 : Int32).toInt64 &&& 63)) &&& 255).toInt32) hx hb hr (fun t ht hW => ⟨⟨((p0 >>> ((48 : Int32).toInt64 &&& 63)) &&& 255).toInt32, 0, rfl, rfl, by rw [ht]; exact hP9, hD9⟩, hS.F ht⟩) hS.2.2 dX3_byteOf_11
set_option maxHeartbeats 4000000 in
set_option maxRecDepth 100000 in
theorem kX3_byteOf_23 (l : Launch) (g : zG) (sz : Nat) (p0 : Int64) : Met l yX3_byteOf (.code yX3_byteOf cX3_byteOf 3 (some .int) :: zBig) ({ frames := 0, cells := 0, slots := 0, locals := 0 }) (va_Pc [.long p0, .int 5] (zPre g [] sz)) (va_Qi (fun (r : Int32) (_ : Nat) => r = ((p0 >>> ((40 : Int32).toInt64 &&& 63)) &&& 255).toInt32) (zPost g (fun _ : Nat => []) (va_A [] sz)) (va_A [] sz)) 0 0 (va_A [] sz) := by
  refine zMetI rfl (Nat.le_of_ble_eq_true rfl) ?_
  intro p e s m args below meth c A ls hx hb hml hr hlocks hin hown hts hK hN hZ hP hD hA hS hAe hl
  have hown : s.vm.findClass RX3 = some m.cls := hown
  have hl : lv_has ls 3 [(0, .long p0), (2, .int 5)] := hl
  refine lv_lload_n hx hb dX3_byteOf_0 rfl (lv_at hl 0 rfl) ?_
  refine lv_bipush (v := 8) hx hb dX3_byteOf_1 (by decide) ?_
  refine lv_iload_n hx hb dX3_byteOf_3 rfl (lv_at hl 1 rfl) ?_
  refine lv_imul hx hb dX3_byteOf_4 ?_
  refine lv_topi (nm_r (e' := 40) (by decide +kernel) ?_)
  refine lv_lshr (v := (p0 >>> ((40 : Int32).toInt64 &&& 63))) hx hb dX3_byteOf_5 rfl ?_
  refine lv_ldc2 (v := 255) hx hb hown (hts _ m_k_RX3_23) dX3_byteOf_6 ?_
  refine lv_land hx hb dX3_byteOf_9 ?_
  refine lv_l2i (v := ((p0 >>> ((40 : Int32).toInt64 &&& 63)) &&& 255).toInt32) hx hb dX3_byteOf_10 rfl ?_
  have hP9 := hP.sub (ws' := []) [] rfl
  have hD9 := hD.sub (ws' := []) [] (by decide) rfl
  exact W.iret (v := ((p0 >>> ((40 : Int32).toInt64 &&& 63)) &&& 255).toInt32) hx hb hr (fun t ht hW => ⟨⟨((p0 >>> ((40 : Int32).toInt64 &&& 63)) &&& 255).toInt32, 0, rfl, rfl, by rw [ht]; exact hP9, hD9⟩, hS.F ht⟩) hS.2.2 dX3_byteOf_11
set_option maxHeartbeats 4000000 in
set_option maxRecDepth 100000 in
theorem kX3_byteOf_24 (l : Launch) (g : zG) (sz : Nat) (p0 : Int64) : Met l yX3_byteOf (.code yX3_byteOf cX3_byteOf 3 (some .int) :: zBig) ({ frames := 0, cells := 0, slots := 0, locals := 0 }) (va_Pc [.long p0, .int 4] (zPre g [] sz)) (va_Qi (fun (r : Int32) (_ : Nat) => r = ((p0 >>> ((32 : Int32).toInt64 &&& 63)) &&& 255).toInt32) (zPost g (fun _ : Nat => []) (va_A [] sz)) (va_A [] sz)) 0 0 (va_A [] sz) := by
  refine zMetI rfl (Nat.le_of_ble_eq_true rfl) ?_
  intro p e s m args below meth c A ls hx hb hml hr hlocks hin hown hts hK hN hZ hP hD hA hS hAe hl
  have hown : s.vm.findClass RX3 = some m.cls := hown
  have hl : lv_has ls 3 [(0, .long p0), (2, .int 4)] := hl
  refine lv_lload_n hx hb dX3_byteOf_0 rfl (lv_at hl 0 rfl) ?_
  refine lv_bipush (v := 8) hx hb dX3_byteOf_1 (by decide) ?_
  refine lv_iload_n hx hb dX3_byteOf_3 rfl (lv_at hl 1 rfl) ?_
  refine lv_imul hx hb dX3_byteOf_4 ?_
  refine lv_topi (nm_r (e' := 32) (by decide +kernel) ?_)
  refine lv_lshr (v := (p0 >>> ((32 : Int32).toInt64 &&& 63))) hx hb dX3_byteOf_5 rfl ?_
  refine lv_ldc2 (v := 255) hx hb hown (hts _ m_k_RX3_23) dX3_byteOf_6 ?_
  refine lv_land hx hb dX3_byteOf_9 ?_
  refine lv_l2i (v := ((p0 >>> ((32 : Int32).toInt64 &&& 63)) &&& 255).toInt32) hx hb dX3_byteOf_10 rfl ?_
  have hP9 := hP.sub (ws' := []) [] rfl
  have hD9 := hD.sub (ws' := []) [] (by decide) rfl
  exact W.iret (v := ((p0 >>> ((32 : Int32).toInt64 &&& 63)) &&& 255).toInt32) hx hb hr (fun t ht hW => ⟨⟨((p0 >>> ((32 : Int32).toInt64 &&& 63)) &&& 255).toInt32, 0, rfl, rfl, by rw [ht]; exact hP9, hD9⟩, hS.F ht⟩) hS.2.2 dX3_byteOf_11
set_option maxHeartbeats 4000000 in
set_option maxRecDepth 100000 in
theorem kX3_byteOf_25 (l : Launch) (g : zG) (sz : Nat) (p0 : Int64) : Met l yX3_byteOf (.code yX3_byteOf cX3_byteOf 3 (some .int) :: zBig) ({ frames := 0, cells := 0, slots := 0, locals := 0 }) (va_Pc [.long p0, .int 3] (zPre g [] sz)) (va_Qi (fun (r : Int32) (_ : Nat) => r = ((p0 >>> ((24 : Int32).toInt64 &&& 63)) &&& 255).toInt32) (zPost g (fun _ : Nat => []) (va_A [] sz)) (va_A [] sz)) 0 0 (va_A [] sz) := by
  refine zMetI rfl (Nat.le_of_ble_eq_true rfl) ?_
  intro p e s m args below meth c A ls hx hb hml hr hlocks hin hown hts hK hN hZ hP hD hA hS hAe hl
  have hown : s.vm.findClass RX3 = some m.cls := hown
  have hl : lv_has ls 3 [(0, .long p0), (2, .int 3)] := hl
  refine lv_lload_n hx hb dX3_byteOf_0 rfl (lv_at hl 0 rfl) ?_
  refine lv_bipush (v := 8) hx hb dX3_byteOf_1 (by decide) ?_
  refine lv_iload_n hx hb dX3_byteOf_3 rfl (lv_at hl 1 rfl) ?_
  refine lv_imul hx hb dX3_byteOf_4 ?_
  refine lv_topi (nm_r (e' := 24) (by decide +kernel) ?_)
  refine lv_lshr (v := (p0 >>> ((24 : Int32).toInt64 &&& 63))) hx hb dX3_byteOf_5 rfl ?_
  refine lv_ldc2 (v := 255) hx hb hown (hts _ m_k_RX3_23) dX3_byteOf_6 ?_
  refine lv_land hx hb dX3_byteOf_9 ?_
  refine lv_l2i (v := ((p0 >>> ((24 : Int32).toInt64 &&& 63)) &&& 255).toInt32) hx hb dX3_byteOf_10 rfl ?_
  have hP9 := hP.sub (ws' := []) [] rfl
  have hD9 := hD.sub (ws' := []) [] (by decide) rfl
  exact W.iret (v := ((p0 >>> ((24 : Int32).toInt64 &&& 63)) &&& 255).toInt32) hx hb hr (fun t ht hW => ⟨⟨((p0 >>> ((24 : Int32).toInt64 &&& 63)) &&& 255).toInt32, 0, rfl, rfl, by rw [ht]; exact hP9, hD9⟩, hS.F ht⟩) hS.2.2 dX3_byteOf_11
set_option maxHeartbeats 4000000 in
set_option maxRecDepth 100000 in
theorem kX3_byteOf_26 (l : Launch) (g : zG) (sz : Nat) (p0 : Int64) : Met l yX3_byteOf (.code yX3_byteOf cX3_byteOf 3 (some .int) :: zBig) ({ frames := 0, cells := 0, slots := 0, locals := 0 }) (va_Pc [.long p0, .int 2] (zPre g [] sz)) (va_Qi (fun (r : Int32) (_ : Nat) => r = ((p0 >>> ((16 : Int32).toInt64 &&& 63)) &&& 255).toInt32) (zPost g (fun _ : Nat => []) (va_A [] sz)) (va_A [] sz)) 0 0 (va_A [] sz) := by
  refine zMetI rfl (Nat.le_of_ble_eq_true rfl) ?_
  intro p e s m args below meth c A ls hx hb hml hr hlocks hin hown hts hK hN hZ hP hD hA hS hAe hl
  have hown : s.vm.findClass RX3 = some m.cls := hown
  have hl : lv_has ls 3 [(0, .long p0), (2, .int 2)] := hl
  refine lv_lload_n hx hb dX3_byteOf_0 rfl (lv_at hl 0 rfl) ?_
  refine lv_bipush (v := 8) hx hb dX3_byteOf_1 (by decide) ?_
  refine lv_iload_n hx hb dX3_byteOf_3 rfl (lv_at hl 1 rfl) ?_
  refine lv_imul hx hb dX3_byteOf_4 ?_
  refine lv_topi (nm_r (e' := 16) (by decide +kernel) ?_)
  refine lv_lshr (v := (p0 >>> ((16 : Int32).toInt64 &&& 63))) hx hb dX3_byteOf_5 rfl ?_
  refine lv_ldc2 (v := 255) hx hb hown (hts _ m_k_RX3_23) dX3_byteOf_6 ?_
  refine lv_land hx hb dX3_byteOf_9 ?_
  refine lv_l2i (v := ((p0 >>> ((16 : Int32).toInt64 &&& 63)) &&& 255).toInt32) hx hb dX3_byteOf_10 rfl ?_
  have hP9 := hP.sub (ws' := []) [] rfl
  have hD9 := hD.sub (ws' := []) [] (by decide) rfl
  exact W.iret (v := ((p0 >>> ((16 : Int32).toInt64 &&& 63)) &&& 255).toInt32) hx hb hr (fun t ht hW => ⟨⟨((p0 >>> ((16 : Int32).toInt64 &&& 63)) &&& 255).toInt32, 0, rfl, rfl, by rw [ht]; exact hP9, hD9⟩, hS.F ht⟩) hS.2.2 dX3_byteOf_11
set_option maxHeartbeats 4000000 in
set_option maxRecDepth 100000 in
theorem kX3_byteOf_27 (l : Launch) (g : zG) (sz : Nat) (p0 : Int64) : Met l yX3_byteOf (.code yX3_byteOf cX3_byteOf 3 (some .int) :: zBig) ({ frames := 0, cells := 0, slots := 0, locals := 0 }) (va_Pc [.long p0, .int 1] (zPre g [] sz)) (va_Qi (fun (r : Int32) (_ : Nat) => r = ((p0 >>> ((8 : Int32).toInt64 &&& 63)) &&& 255).toInt32) (zPost g (fun _ : Nat => []) (va_A [] sz)) (va_A [] sz)) 0 0 (va_A [] sz) := by
  refine zMetI rfl (Nat.le_of_ble_eq_true rfl) ?_
  intro p e s m args below meth c A ls hx hb hml hr hlocks hin hown hts hK hN hZ hP hD hA hS hAe hl
  have hown : s.vm.findClass RX3 = some m.cls := hown
  have hl : lv_has ls 3 [(0, .long p0), (2, .int 1)] := hl
  refine lv_lload_n hx hb dX3_byteOf_0 rfl (lv_at hl 0 rfl) ?_
  refine lv_bipush (v := 8) hx hb dX3_byteOf_1 (by decide) ?_
  refine lv_iload_n hx hb dX3_byteOf_3 rfl (lv_at hl 1 rfl) ?_
  refine lv_imul hx hb dX3_byteOf_4 ?_
  refine lv_topi (nm_r (e' := 8) (by decide +kernel) ?_)
  refine lv_lshr (v := (p0 >>> ((8 : Int32).toInt64 &&& 63))) hx hb dX3_byteOf_5 rfl ?_
  refine lv_ldc2 (v := 255) hx hb hown (hts _ m_k_RX3_23) dX3_byteOf_6 ?_
  refine lv_land hx hb dX3_byteOf_9 ?_
  refine lv_l2i (v := ((p0 >>> ((8 : Int32).toInt64 &&& 63)) &&& 255).toInt32) hx hb dX3_byteOf_10 rfl ?_
  have hP9 := hP.sub (ws' := []) [] rfl
  have hD9 := hD.sub (ws' := []) [] (by decide) rfl
  exact W.iret (v := ((p0 >>> ((8 : Int32).toInt64 &&& 63)) &&& 255).toInt32) hx hb hr (fun t ht hW => ⟨⟨((p0 >>> ((8 : Int32).toInt64 &&& 63)) &&& 255).toInt32, 0, rfl, rfl, by rw [ht]; exact hP9, hD9⟩, hS.F ht⟩) hS.2.2 dX3_byteOf_11
set_option maxHeartbeats 4000000 in
set_option maxRecDepth 100000 in
theorem kX3_byteOf_28 (l : Launch) (g : zG) (sz : Nat) (p0 : Int64) : Met l yX3_byteOf (.code yX3_byteOf cX3_byteOf 3 (some .int) :: zBig) ({ frames := 0, cells := 0, slots := 0, locals := 0 }) (va_Pc [.long p0, .int 0] (zPre g [] sz)) (va_Qi (fun (r : Int32) (_ : Nat) => r = ((p0 >>> ((0 : Int32).toInt64 &&& 63)) &&& 255).toInt32) (zPost g (fun _ : Nat => []) (va_A [] sz)) (va_A [] sz)) 0 0 (va_A [] sz) := by
  refine zMetI rfl (Nat.le_of_ble_eq_true rfl) ?_
  intro p e s m args below meth c A ls hx hb hml hr hlocks hin hown hts hK hN hZ hP hD hA hS hAe hl
  have hown : s.vm.findClass RX3 = some m.cls := hown
  have hl : lv_has ls 3 [(0, .long p0), (2, .int 0)] := hl
  refine lv_lload_n hx hb dX3_byteOf_0 rfl (lv_at hl 0 rfl) ?_
  refine lv_bipush (v := 8) hx hb dX3_byteOf_1 (by decide) ?_
  refine lv_iload_n hx hb dX3_byteOf_3 rfl (lv_at hl 1 rfl) ?_
  refine lv_imul hx hb dX3_byteOf_4 ?_
  refine lv_topi (nm_r (e' := 0) (by decide +kernel) ?_)
  refine lv_lshr (v := (p0 >>> ((0 : Int32).toInt64 &&& 63))) hx hb dX3_byteOf_5 rfl ?_
  refine lv_ldc2 (v := 255) hx hb hown (hts _ m_k_RX3_23) dX3_byteOf_6 ?_
  refine lv_land hx hb dX3_byteOf_9 ?_
  refine lv_l2i (v := ((p0 >>> ((0 : Int32).toInt64 &&& 63)) &&& 255).toInt32) hx hb dX3_byteOf_10 rfl ?_
  have hP9 := hP.sub (ws' := []) [] rfl
  have hD9 := hD.sub (ws' := []) [] (by decide) rfl
  exact W.iret (v := ((p0 >>> ((0 : Int32).toInt64 &&& 63)) &&& 255).toInt32) hx hb hr (fun t ht hW => ⟨⟨((p0 >>> ((0 : Int32).toInt64 &&& 63)) &&& 255).toInt32, 0, rfl, rfl, by rw [ht]; exact hP9, hD9⟩, hS.F ht⟩) hS.2.2 dX3_byteOf_11
set_option maxHeartbeats 4000000 in
set_option maxRecDepth 100000 in
theorem kX3_byteOf_29 (l : Launch) (g : zG) (sz : Nat) (p0 : Int64) : Met l yX3_byteOf (.code yX3_byteOf cX3_byteOf 3 (some .int) :: zBig) ({ frames := 0, cells := 0, slots := 0, locals := 0 }) (va_Pc [.long p0, .int 7] (zPre g [] sz)) (va_Qi (fun (r : Int32) (_ : Nat) => r = ((p0 >>> ((56 : Int32).toInt64 &&& 63)) &&& 255).toInt32) (zPost g (fun _ : Nat => []) (va_A [] sz)) (va_A [] sz)) 0 0 (va_A [] sz) := by
  refine zMetI rfl (Nat.le_of_ble_eq_true rfl) ?_
  intro p e s m args below meth c A ls hx hb hml hr hlocks hin hown hts hK hN hZ hP hD hA hS hAe hl
  have hown : s.vm.findClass RX3 = some m.cls := hown
  have hl : lv_has ls 3 [(0, .long p0), (2, .int 7)] := hl
  refine lv_lload_n hx hb dX3_byteOf_0 rfl (lv_at hl 0 rfl) ?_
  refine lv_bipush (v := 8) hx hb dX3_byteOf_1 (by decide) ?_
  refine lv_iload_n hx hb dX3_byteOf_3 rfl (lv_at hl 1 rfl) ?_
  refine lv_imul hx hb dX3_byteOf_4 ?_
  refine lv_topi (nm_r (e' := 56) (by decide +kernel) ?_)
  refine lv_lshr (v := (p0 >>> ((56 : Int32).toInt64 &&& 63))) hx hb dX3_byteOf_5 rfl ?_
  refine lv_ldc2 (v := 255) hx hb hown (hts _ m_k_RX3_23) dX3_byteOf_6 ?_
  refine lv_land hx hb dX3_byteOf_9 ?_
  refine lv_l2i (v := ((p0 >>> ((56 : Int32).toInt64 &&& 63)) &&& 255).toInt32) hx hb dX3_byteOf_10 rfl ?_
  have hP9 := hP.sub (ws' := []) [] rfl
  have hD9 := hD.sub (ws' := []) [] (by decide) rfl
  exact W.iret (v := ((p0 >>> ((56 : Int32).toInt64 &&& 63)) &&& 255).toInt32) hx hb hr (fun t ht hW => ⟨⟨((p0 >>> ((56 : Int32).toInt64 &&& 63)) &&& 255).toInt32, 0, rfl, rfl, by rw [ht]; exact hP9, hD9⟩, hS.F ht⟩) hS.2.2 dX3_byteOf_11
set_option maxHeartbeats 4000000 in
set_option maxRecDepth 100000 in
theorem kX3_byteOf_30 (l : Launch) (g : zG) (sz : Nat) (p0 : Int64) : Met l yX3_byteOf (.code yX3_byteOf cX3_byteOf 3 (some .int) :: zBig) ({ frames := 0, cells := 0, slots := 0, locals := 0 }) (va_Pc [.long p0, .int 6] (zPre g [] sz)) (va_Qi (fun (r : Int32) (_ : Nat) => r = ((p0 >>> ((48 : Int32).toInt64 &&& 63)) &&& 255).toInt32) (zPost g (fun _ : Nat => []) (va_A [] sz)) (va_A [] sz)) 0 0 (va_A [] sz) := by
  refine zMetI rfl (Nat.le_of_ble_eq_true rfl) ?_
  intro p e s m args below meth c A ls hx hb hml hr hlocks hin hown hts hK hN hZ hP hD hA hS hAe hl
  have hown : s.vm.findClass RX3 = some m.cls := hown
  have hl : lv_has ls 3 [(0, .long p0), (2, .int 6)] := hl
  refine lv_lload_n hx hb dX3_byteOf_0 rfl (lv_at hl 0 rfl) ?_
  refine lv_bipush (v := 8) hx hb dX3_byteOf_1 (by decide) ?_
  refine lv_iload_n hx hb dX3_byteOf_3 rfl (lv_at hl 1 rfl) ?_
  refine lv_imul hx hb dX3_byteOf_4 ?_
  refine lv_topi (nm_r (e' := 48) (by decide +kernel) ?_)
  refine lv_lshr (v := (p0 >>> ((48 : Int32).toInt64 &&& 63))) hx hb dX3_byteOf_5 rfl ?_
  refine lv_ldc2 (v := 255) hx hb hown (hts _ m_k_RX3_23) dX3_byteOf_6 ?_
  refine lv_land hx hb dX3_byteOf_9 ?_
  refine lv_l2i (v := ((p0 >>> ((48 : Int32).toInt64 &&& 63)) &&& 255).toInt32) hx hb dX3_byteOf_10 rfl ?_
  have hP9 := hP.sub (ws' := []) [] rfl
  have hD9 := hD.sub (ws' := []) [] (by decide) rfl
  exact W.iret (v := ((p0 >>> ((48 : Int32).toInt64 &&& 63)) &&& 255).toInt32) hx hb hr (fun t ht hW => ⟨⟨((p0 >>> ((48 : Int32).toInt64 &&& 63)) &&& 255).toInt32, 0, rfl, rfl, by rw [ht]; exact hP9, hD9⟩, hS.F ht⟩) hS.2.2 dX3_byteOf_11
set_option maxHeartbeats 4000000 in
set_option maxRecDepth 100000 in
theorem kX3_byteOf_31 (l : Launch) (g : zG) (sz : Nat) (p0 : Int64) : Met l yX3_byteOf (.code yX3_byteOf cX3_byteOf 3 (some .int) :: zBig) ({ frames := 0, cells := 0, slots := 0, locals := 0 }) (va_Pc [.long p0, .int 5] (zPre g [] sz)) (va_Qi (fun (r : Int32) (_ : Nat) => r = ((p0 >>> ((40 : Int32).toInt64 &&& 63)) &&& 255).toInt32) (zPost g (fun _ : Nat => []) (va_A [] sz)) (va_A [] sz)) 0 0 (va_A [] sz) := by
  refine zMetI rfl (Nat.le_of_ble_eq_true rfl) ?_
  intro p e s m args below meth c A ls hx hb hml hr hlocks hin hown hts hK hN hZ hP hD hA hS hAe hl
  have hown : s.vm.findClass RX3 = some m.cls := hown
  have hl : lv_has ls 3 [(0, .long p0), (2, .int 5)] := hl
  refine lv_lload_n hx hb dX3_byteOf_0 rfl (lv_at hl 0 rfl) ?_
  refine lv_bipush (v := 8) hx hb dX3_byteOf_1 (by decide) ?_
  refine lv_iload_n hx hb dX3_byteOf_3 rfl (lv_at hl 1 rfl) ?_
  refine lv_imul hx hb dX3_byteOf_4 ?_
  refine lv_topi (nm_r (e' := 40) (by decide +kernel) ?_)
  refine lv_lshr (v := (p0 >>> ((40 : Int32).toInt64 &&& 63))) hx hb dX3_byteOf_5 rfl ?_
  refine lv_ldc2 (v := 255) hx hb hown (hts _ m_k_RX3_23) dX3_byteOf_6 ?_
  refine lv_land hx hb dX3_byteOf_9 ?_
  refine lv_l2i (v := ((p0 >>> ((40 : Int32).toInt64 &&& 63)) &&& 255).toInt32) hx hb dX3_byteOf_10 rfl ?_
  have hP9 := hP.sub (ws' := []) [] rfl
  have hD9 := hD.sub (ws' := []) [] (by decide) rfl
  exact W.iret (v := ((p0 >>> ((40 : Int32).toInt64 &&& 63)) &&& 255).toInt32) hx hb hr (fun t ht hW => ⟨⟨((p0 >>> ((40 : Int32).toInt64 &&& 63)) &&& 255).toInt32, 0, rfl, rfl, by rw [ht]; exact hP9, hD9⟩, hS.F ht⟩) hS.2.2 dX3_byteOf_11
set_option maxHeartbeats 4000000 in
set_option maxRecDepth 100000 in
theorem kX3_byteOf_32 (l : Launch) (g : zG) (sz : Nat) (p0 : Int64) : Met l yX3_byteOf (.code yX3_byteOf cX3_byteOf 3 (some .int) :: zBig) ({ frames := 0, cells := 0, slots := 0, locals := 0 }) (va_Pc [.long p0, .int 4] (zPre g [] sz)) (va_Qi (fun (r : Int32) (_ : Nat) => r = ((p0 >>> ((32 : Int32).toInt64 &&& 63)) &&& 255).toInt32) (zPost g (fun _ : Nat => []) (va_A [] sz)) (va_A [] sz)) 0 0 (va_A [] sz) := by
  refine zMetI rfl (Nat.le_of_ble_eq_true rfl) ?_
  intro p e s m args below meth c A ls hx hb hml hr hlocks hin hown hts hK hN hZ hP hD hA hS hAe hl
  have hown : s.vm.findClass RX3 = some m.cls := hown
  have hl : lv_has ls 3 [(0, .long p0), (2, .int 4)] := hl
  refine lv_lload_n hx hb dX3_byteOf_0 rfl (lv_at hl 0 rfl) ?_
  refine lv_bipush (v := 8) hx hb dX3_byteOf_1 (by decide) ?_
  refine lv_iload_n hx hb dX3_byteOf_3 rfl (lv_at hl 1 rfl) ?_
  refine lv_imul hx hb dX3_byteOf_4 ?_
  refine lv_topi (nm_r (e' := 32) (by decide +kernel) ?_)
  refine lv_lshr (v := (p0 >>> ((32 : Int32).toInt64 &&& 63))) hx hb dX3_byteOf_5 rfl ?_
  refine lv_ldc2 (v := 255) hx hb hown (hts _ m_k_RX3_23) dX3_byteOf_6 ?_
  refine lv_land hx hb dX3_byteOf_9 ?_
  refine lv_l2i (v := ((p0 >>> ((32 : Int32).toInt64 &&& 63)) &&& 255).toInt32) hx hb dX3_byteOf_10 rfl ?_
  have hP9 := hP.sub (ws' := []) [] rfl
  have hD9 := hD.sub (ws' := []) [] (by decide) rfl
  exact W.iret (v := ((p0 >>> ((32 : Int32).toInt64 &&& 63)) &&& 255).toInt32) hx hb hr (fun t ht hW => ⟨⟨((p0 >>> ((32 : Int32).toInt64 &&& 63)) &&& 255).toInt32, 0, rfl, rfl, by rw [ht]; exact hP9, hD9⟩, hS.F ht⟩) hS.2.2 dX3_byteOf_11
set_option maxHeartbeats 4000000 in
set_option maxRecDepth 100000 in
theorem kX3_byteOf_33 (l : Launch) (g : zG) (sz : Nat) (p0 : Int64) : Met l yX3_byteOf (.code yX3_byteOf cX3_byteOf 3 (some .int) :: zBig) ({ frames := 0, cells := 0, slots := 0, locals := 0 }) (va_Pc [.long p0, .int 3] (zPre g [] sz)) (va_Qi (fun (r : Int32) (_ : Nat) => r = ((p0 >>> ((24 : Int32).toInt64 &&& 63)) &&& 255).toInt32) (zPost g (fun _ : Nat => []) (va_A [] sz)) (va_A [] sz)) 0 0 (va_A [] sz) := by
  refine zMetI rfl (Nat.le_of_ble_eq_true rfl) ?_
  intro p e s m args below meth c A ls hx hb hml hr hlocks hin hown hts hK hN hZ hP hD hA hS hAe hl
  have hown : s.vm.findClass RX3 = some m.cls := hown
  have hl : lv_has ls 3 [(0, .long p0), (2, .int 3)] := hl
  refine lv_lload_n hx hb dX3_byteOf_0 rfl (lv_at hl 0 rfl) ?_
  refine lv_bipush (v := 8) hx hb dX3_byteOf_1 (by decide) ?_
  refine lv_iload_n hx hb dX3_byteOf_3 rfl (lv_at hl 1 rfl) ?_
  refine lv_imul hx hb dX3_byteOf_4 ?_
  refine lv_topi (nm_r (e' := 24) (by decide +kernel) ?_)
  refine lv_lshr (v := (p0 >>> ((24 : Int32).toInt64 &&& 63))) hx hb dX3_byteOf_5 rfl ?_
  refine lv_ldc2 (v := 255) hx hb hown (hts _ m_k_RX3_23) dX3_byteOf_6 ?_
  refine lv_land hx hb dX3_byteOf_9 ?_
  refine lv_l2i (v := ((p0 >>> ((24 : Int32).toInt64 &&& 63)) &&& 255).toInt32) hx hb dX3_byteOf_10 rfl ?_
  have hP9 := hP.sub (ws' := []) [] rfl
  have hD9 := hD.sub (ws' := []) [] (by decide) rfl
  exact W.iret (v := ((p0 >>> ((24 : Int32).toInt64 &&& 63)) &&& 255).toInt32) hx hb hr (fun t ht hW => ⟨⟨((p0 >>> ((24 : Int32).toInt64 &&& 63)) &&& 255).toInt32, 0, rfl, rfl, by rw [ht]; exact hP9, hD9⟩, hS.F ht⟩) hS.2.2 dX3_byteOf_11
set_option maxHeartbeats 4000000 in
set_option maxRecDepth 100000 in
theorem kX3_byteOf_34 (l : Launch) (g : zG) (sz : Nat) (p0 : Int64) : Met l yX3_byteOf (.code yX3_byteOf cX3_byteOf 3 (some .int) :: zBig) ({ frames := 0, cells := 0, slots := 0, locals := 0 }) (va_Pc [.long p0, .int 2] (zPre g [] sz)) (va_Qi (fun (r : Int32) (_ : Nat) => r = ((p0 >>> ((16 : Int32).toInt64 &&& 63)) &&& 255).toInt32) (zPost g (fun _ : Nat => []) (va_A [] sz)) (va_A [] sz)) 0 0 (va_A [] sz) := by
  refine zMetI rfl (Nat.le_of_ble_eq_true rfl) ?_
  intro p e s m args below meth c A ls hx hb hml hr hlocks hin hown hts hK hN hZ hP hD hA hS hAe hl
  have hown : s.vm.findClass RX3 = some m.cls := hown
  have hl : lv_has ls 3 [(0, .long p0), (2, .int 2)] := hl
  refine lv_lload_n hx hb dX3_byteOf_0 rfl (lv_at hl 0 rfl) ?_
  refine lv_bipush (v := 8) hx hb dX3_byteOf_1 (by decide) ?_
  refine lv_iload_n hx hb dX3_byteOf_3 rfl (lv_at hl 1 rfl) ?_
  refine lv_imul hx hb dX3_byteOf_4 ?_
  refine lv_topi (nm_r (e' := 16) (by decide +kernel) ?_)
  refine lv_lshr (v := (p0 >>> ((16 : Int32).toInt64 &&& 63))) hx hb dX3_byteOf_5 rfl ?_
  refine lv_ldc2 (v := 255) hx hb hown (hts _ m_k_RX3_23) dX3_byteOf_6 ?_
  refine lv_land hx hb dX3_byteOf_9 ?_
  refine lv_l2i (v := ((p0 >>> ((16 : Int32).toInt64 &&& 63)) &&& 255).toInt32) hx hb dX3_byteOf_10 rfl ?_
  have hP9 := hP.sub (ws' := []) [] rfl
  have hD9 := hD.sub (ws' := []) [] (by decide) rfl
  exact W.iret (v := ((p0 >>> ((16 : Int32).toInt64 &&& 63)) &&& 255).toInt32) hx hb hr (fun t ht hW => ⟨⟨((p0 >>> ((16 : Int32).toInt64 &&& 63)) &&& 255).toInt32, 0, rfl, rfl, by rw [ht]; exact hP9, hD9⟩, hS.F ht⟩) hS.2.2 dX3_byteOf_11
set_option maxHeartbeats 4000000 in
set_option maxRecDepth 100000 in
theorem kX3_byteOf_35 (l : Launch) (g : zG) (sz : Nat) (p0 : Int64) : Met l yX3_byteOf (.code yX3_byteOf cX3_byteOf 3 (some .int) :: zBig) ({ frames := 0, cells := 0, slots := 0, locals := 0 }) (va_Pc [.long p0, .int 1] (zPre g [] sz)) (va_Qi (fun (r : Int32) (_ : Nat) => r = ((p0 >>> ((8 : Int32).toInt64 &&& 63)) &&& 255).toInt32) (zPost g (fun _ : Nat => []) (va_A [] sz)) (va_A [] sz)) 0 0 (va_A [] sz) := by
  refine zMetI rfl (Nat.le_of_ble_eq_true rfl) ?_
  intro p e s m args below meth c A ls hx hb hml hr hlocks hin hown hts hK hN hZ hP hD hA hS hAe hl
  have hown : s.vm.findClass RX3 = some m.cls := hown
  have hl : lv_has ls 3 [(0, .long p0), (2, .int 1)] := hl
  refine lv_lload_n hx hb dX3_byteOf_0 rfl (lv_at hl 0 rfl) ?_
  refine lv_bipush (v := 8) hx hb dX3_byteOf_1 (by decide) ?_
  refine lv_iload_n hx hb dX3_byteOf_3 rfl (lv_at hl 1 rfl) ?_
  refine lv_imul hx hb dX3_byteOf_4 ?_
  refine lv_topi (nm_r (e' := 8) (by decide +kernel) ?_)
  refine lv_lshr (v := (p0 >>> ((8 : Int32).toInt64 &&& 63))) hx hb dX3_byteOf_5 rfl ?_
  refine lv_ldc2 (v := 255) hx hb hown (hts _ m_k_RX3_23) dX3_byteOf_6 ?_
  refine lv_land hx hb dX3_byteOf_9 ?_
  refine lv_l2i (v := ((p0 >>> ((8 : Int32).toInt64 &&& 63)) &&& 255).toInt32) hx hb dX3_byteOf_10 rfl ?_
  have hP9 := hP.sub (ws' := []) [] rfl
  have hD9 := hD.sub (ws' := []) [] (by decide) rfl
  exact W.iret (v := ((p0 >>> ((8 : Int32).toInt64 &&& 63)) &&& 255).toInt32) hx hb hr (fun t ht hW => ⟨⟨((p0 >>> ((8 : Int32).toInt64 &&& 63)) &&& 255).toInt32, 0, rfl, rfl, by rw [ht]; exact hP9, hD9⟩, hS.F ht⟩) hS.2.2 dX3_byteOf_11
set_option maxHeartbeats 4000000 in
set_option maxRecDepth 100000 in
theorem kX3_byteOf_36 (l : Launch) (g : zG) (sz : Nat) (p0 : Int64) : Met l yX3_byteOf (.code yX3_byteOf cX3_byteOf 3 (some .int) :: zBig) ({ frames := 0, cells := 0, slots := 0, locals := 0 }) (va_Pc [.long p0, .int 0] (zPre g [] sz)) (va_Qi (fun (r : Int32) (_ : Nat) => r = ((p0 >>> ((0 : Int32).toInt64 &&& 63)) &&& 255).toInt32) (zPost g (fun _ : Nat => []) (va_A [] sz)) (va_A [] sz)) 0 0 (va_A [] sz) := by
  refine zMetI rfl (Nat.le_of_ble_eq_true rfl) ?_
  intro p e s m args below meth c A ls hx hb hml hr hlocks hin hown hts hK hN hZ hP hD hA hS hAe hl
  have hown : s.vm.findClass RX3 = some m.cls := hown
  have hl : lv_has ls 3 [(0, .long p0), (2, .int 0)] := hl
  refine lv_lload_n hx hb dX3_byteOf_0 rfl (lv_at hl 0 rfl) ?_
  refine lv_bipush (v := 8) hx hb dX3_byteOf_1 (by decide) ?_
  refine lv_iload_n hx hb dX3_byteOf_3 rfl (lv_at hl 1 rfl) ?_
  refine lv_imul hx hb dX3_byteOf_4 ?_
  refine lv_topi (nm_r (e' := 0) (by decide +kernel) ?_)
  refine lv_lshr (v := (p0 >>> ((0 : Int32).toInt64 &&& 63))) hx hb dX3_byteOf_5 rfl ?_
  refine lv_ldc2 (v := 255) hx hb hown (hts _ m_k_RX3_23) dX3_byteOf_6 ?_
  refine lv_land hx hb dX3_byteOf_9 ?_
  refine lv_l2i (v := ((p0 >>> ((0 : Int32).toInt64 &&& 63)) &&& 255).toInt32) hx hb dX3_byteOf_10 rfl ?_
  have hP9 := hP.sub (ws' := []) [] rfl
  have hD9 := hD.sub (ws' := []) [] (by decide) rfl
  exact W.iret (v := ((p0 >>> ((0 : Int32).toInt64 &&& 63)) &&& 255).toInt32) hx hb hr (fun t ht hW => ⟨⟨((p0 >>> ((0 : Int32).toInt64 &&& 63)) &&& 255).toInt32, 0, rfl, rfl, by rw [ht]; exact hP9, hD9⟩, hS.F ht⟩) hS.2.2 dX3_byteOf_11
set_option maxHeartbeats 4000000 in
set_option maxRecDepth 100000 in
theorem kX3_byteOf_37 (l : Launch) (g : zG) (sz : Nat) (p0 : Int64) : Met l yX3_byteOf (.code yX3_byteOf cX3_byteOf 3 (some .int) :: zBig) ({ frames := 0, cells := 0, slots := 0, locals := 0 }) (va_Pc [.long p0, .int 0] (zPre g [] sz)) (va_Qi (fun (r : Int32) (_ : Nat) => r = ((p0 >>> ((0 : Int32).toInt64 &&& 63)) &&& 255).toInt32) (zPost g (fun _ : Nat => []) (va_A [] sz)) (va_A [] sz)) 0 0 (va_A [] sz) := by
  refine zMetI rfl (Nat.le_of_ble_eq_true rfl) ?_
  intro p e s m args below meth c A ls hx hb hml hr hlocks hin hown hts hK hN hZ hP hD hA hS hAe hl
  have hown : s.vm.findClass RX3 = some m.cls := hown
  have hl : lv_has ls 3 [(0, .long p0), (2, .int 0)] := hl
  refine lv_lload_n hx hb dX3_byteOf_0 rfl (lv_at hl 0 rfl) ?_
  refine lv_bipush (v := 8) hx hb dX3_byteOf_1 (by decide) ?_
  refine lv_iload_n hx hb dX3_byteOf_3 rfl (lv_at hl 1 rfl) ?_
  refine lv_imul hx hb dX3_byteOf_4 ?_
  refine lv_topi (nm_r (e' := 0) (by decide +kernel) ?_)
  refine lv_lshr (v := (p0 >>> ((0 : Int32).toInt64 &&& 63))) hx hb dX3_byteOf_5 rfl ?_
  refine lv_ldc2 (v := 255) hx hb hown (hts _ m_k_RX3_23) dX3_byteOf_6 ?_
  refine lv_land hx hb dX3_byteOf_9 ?_
  refine lv_l2i (v := ((p0 >>> ((0 : Int32).toInt64 &&& 63)) &&& 255).toInt32) hx hb dX3_byteOf_10 rfl ?_
  have hP9 := hP.sub (ws' := []) [] rfl
  have hD9 := hD.sub (ws' := []) [] (by decide) rfl
  exact W.iret (v := ((p0 >>> ((0 : Int32).toInt64 &&& 63)) &&& 255).toInt32) hx hb hr (fun t ht hW => ⟨⟨((p0 >>> ((0 : Int32).toInt64 &&& 63)) &&& 255).toInt32, 0, rfl, rfl, by rw [ht]; exact hP9, hD9⟩, hS.F ht⟩) hS.2.2 dX3_byteOf_11
set_option maxHeartbeats 4000000 in
set_option maxRecDepth 100000 in
theorem kX3_byteOf_38 (l : Launch) (g : zG) (sz : Nat) (p0 : Int64) : Met l yX3_byteOf (.code yX3_byteOf cX3_byteOf 3 (some .int) :: zBig) ({ frames := 0, cells := 0, slots := 0, locals := 0 }) (va_Pc [.long p0, .int 1] (zPre g [] sz)) (va_Qi (fun (r : Int32) (_ : Nat) => r = ((p0 >>> ((8 : Int32).toInt64 &&& 63)) &&& 255).toInt32) (zPost g (fun _ : Nat => []) (va_A [] sz)) (va_A [] sz)) 0 0 (va_A [] sz) := by
  refine zMetI rfl (Nat.le_of_ble_eq_true rfl) ?_
  intro p e s m args below meth c A ls hx hb hml hr hlocks hin hown hts hK hN hZ hP hD hA hS hAe hl
  have hown : s.vm.findClass RX3 = some m.cls := hown
  have hl : lv_has ls 3 [(0, .long p0), (2, .int 1)] := hl
  refine lv_lload_n hx hb dX3_byteOf_0 rfl (lv_at hl 0 rfl) ?_
  refine lv_bipush (v := 8) hx hb dX3_byteOf_1 (by decide) ?_
  refine lv_iload_n hx hb dX3_byteOf_3 rfl (lv_at hl 1 rfl) ?_
  refine lv_imul hx hb dX3_byteOf_4 ?_
  refine lv_topi (nm_r (e' := 8) (by decide +kernel) ?_)
  refine lv_lshr (v := (p0 >>> ((8 : Int32).toInt64 &&& 63))) hx hb dX3_byteOf_5 rfl ?_
  refine lv_ldc2 (v := 255) hx hb hown (hts _ m_k_RX3_23) dX3_byteOf_6 ?_
  refine lv_land hx hb dX3_byteOf_9 ?_
  refine lv_l2i (v := ((p0 >>> ((8 : Int32).toInt64 &&& 63)) &&& 255).toInt32) hx hb dX3_byteOf_10 rfl ?_
  have hP9 := hP.sub (ws' := []) [] rfl
  have hD9 := hD.sub (ws' := []) [] (by decide) rfl
  exact W.iret (v := ((p0 >>> ((8 : Int32).toInt64 &&& 63)) &&& 255).toInt32) hx hb hr (fun t ht hW => ⟨⟨((p0 >>> ((8 : Int32).toInt64 &&& 63)) &&& 255).toInt32, 0, rfl, rfl, by rw [ht]; exact hP9, hD9⟩, hS.F ht⟩) hS.2.2 dX3_byteOf_11
set_option maxHeartbeats 4000000 in
set_option maxRecDepth 100000 in
theorem kX3_byteOf_39 (l : Launch) (g : zG) (sz : Nat) (p0 : Int64) : Met l yX3_byteOf (.code yX3_byteOf cX3_byteOf 3 (some .int) :: zBig) ({ frames := 0, cells := 0, slots := 0, locals := 0 }) (va_Pc [.long p0, .int 0] (zPre g [] sz)) (va_Qi (fun (r : Int32) (_ : Nat) => r = ((p0 >>> ((0 : Int32).toInt64 &&& 63)) &&& 255).toInt32) (zPost g (fun _ : Nat => []) (va_A [] sz)) (va_A [] sz)) 0 0 (va_A [] sz) := by
  refine zMetI rfl (Nat.le_of_ble_eq_true rfl) ?_
  intro p e s m args below meth c A ls hx hb hml hr hlocks hin hown hts hK hN hZ hP hD hA hS hAe hl
  have hown : s.vm.findClass RX3 = some m.cls := hown
  have hl : lv_has ls 3 [(0, .long p0), (2, .int 0)] := hl
  refine lv_lload_n hx hb dX3_byteOf_0 rfl (lv_at hl 0 rfl) ?_
  refine lv_bipush (v := 8) hx hb dX3_byteOf_1 (by decide) ?_
  refine lv_iload_n hx hb dX3_byteOf_3 rfl (lv_at hl 1 rfl) ?_
  refine lv_imul hx hb dX3_byteOf_4 ?_
  refine lv_topi (nm_r (e' := 0) (by decide +kernel) ?_)
  refine lv_lshr (v := (p0 >>> ((0 : Int32).toInt64 &&& 63))) hx hb dX3_byteOf_5 rfl ?_
  refine lv_ldc2 (v := 255) hx hb hown (hts _ m_k_RX3_23) dX3_byteOf_6 ?_
  refine lv_land hx hb dX3_byteOf_9 ?_
  refine lv_l2i (v := ((p0 >>> ((0 : Int32).toInt64 &&& 63)) &&& 255).toInt32) hx hb dX3_byteOf_10 rfl ?_
  have hP9 := hP.sub (ws' := []) [] rfl
  have hD9 := hD.sub (ws' := []) [] (by decide) rfl
  exact W.iret (v := ((p0 >>> ((0 : Int32).toInt64 &&& 63)) &&& 255).toInt32) hx hb hr (fun t ht hW => ⟨⟨((p0 >>> ((0 : Int32).toInt64 &&& 63)) &&& 255).toInt32, 0, rfl, rfl, by rw [ht]; exact hP9, hD9⟩, hS.F ht⟩) hS.2.2 dX3_byteOf_11
set_option maxHeartbeats 4000000 in
set_option maxRecDepth 100000 in
theorem kX3_byteOf_40 (l : Launch) (g : zG) (sz : Nat) (p0 : Int64) : Met l yX3_byteOf (.code yX3_byteOf cX3_byteOf 3 (some .int) :: zBig) ({ frames := 0, cells := 0, slots := 0, locals := 0 }) (va_Pc [.long p0, .int 2] (zPre g [] sz)) (va_Qi (fun (r : Int32) (_ : Nat) => r = ((p0 >>> ((16 : Int32).toInt64 &&& 63)) &&& 255).toInt32) (zPost g (fun _ : Nat => []) (va_A [] sz)) (va_A [] sz)) 0 0 (va_A [] sz) := by
  refine zMetI rfl (Nat.le_of_ble_eq_true rfl) ?_
  intro p e s m args below meth c A ls hx hb hml hr hlocks hin hown hts hK hN hZ hP hD hA hS hAe hl
  have hown : s.vm.findClass RX3 = some m.cls := hown
  have hl : lv_has ls 3 [(0, .long p0), (2, .int 2)] := hl
  refine lv_lload_n hx hb dX3_byteOf_0 rfl (lv_at hl 0 rfl) ?_
  refine lv_bipush (v := 8) hx hb dX3_byteOf_1 (by decide) ?_
  refine lv_iload_n hx hb dX3_byteOf_3 rfl (lv_at hl 1 rfl) ?_
  refine lv_imul hx hb dX3_byteOf_4 ?_
  refine lv_topi (nm_r (e' := 16) (by decide +kernel) ?_)
  refine lv_lshr (v := (p0 >>> ((16 : Int32).toInt64 &&& 63))) hx hb dX3_byteOf_5 rfl ?_
  refine lv_ldc2 (v := 255) hx hb hown (hts _ m_k_RX3_23) dX3_byteOf_6 ?_
  refine lv_land hx hb dX3_byteOf_9 ?_
  refine lv_l2i (v := ((p0 >>> ((16 : Int32).toInt64 &&& 63)) &&& 255).toInt32) hx hb dX3_byteOf_10 rfl ?_
  have hP9 := hP.sub (ws' := []) [] rfl
  have hD9 := hD.sub (ws' := []) [] (by decide) rfl
  exact W.iret (v := ((p0 >>> ((16 : Int32).toInt64 &&& 63)) &&& 255).toInt32) hx hb hr (fun t ht hW => ⟨⟨((p0 >>> ((16 : Int32).toInt64 &&& 63)) &&& 255).toInt32, 0, rfl, rfl, by rw [ht]; exact hP9, hD9⟩, hS.F ht⟩) hS.2.2 dX3_byteOf_11
set_option maxHeartbeats 4000000 in
set_option maxRecDepth 100000 in
theorem kX3_byteOf_41 (l : Launch) (g : zG) (sz : Nat) (p0 : Int64) : Met l yX3_byteOf (.code yX3_byteOf cX3_byteOf 3 (some .int) :: zBig) ({ frames := 0, cells := 0, slots := 0, locals := 0 }) (va_Pc [.long p0, .int 1] (zPre g [] sz)) (va_Qi (fun (r : Int32) (_ : Nat) => r = ((p0 >>> ((8 : Int32).toInt64 &&& 63)) &&& 255).toInt32) (zPost g (fun _ : Nat => []) (va_A [] sz)) (va_A [] sz)) 0 0 (va_A [] sz) := by
  refine zMetI rfl (Nat.le_of_ble_eq_true rfl) ?_
  intro p e s m args below meth c A ls hx hb hml hr hlocks hin hown hts hK hN hZ hP hD hA hS hAe hl
  have hown : s.vm.findClass RX3 = some m.cls := hown
  have hl : lv_has ls 3 [(0, .long p0), (2, .int 1)] := hl
  refine lv_lload_n hx hb dX3_byteOf_0 rfl (lv_at hl 0 rfl) ?_
  refine lv_bipush (v := 8) hx hb dX3_byteOf_1 (by decide) ?_
  refine lv_iload_n hx hb dX3_byteOf_3 rfl (lv_at hl 1 rfl) ?_
  refine lv_imul hx hb dX3_byteOf_4 ?_
  refine lv_topi (nm_r (e' := 8) (by decide +kernel) ?_)
  refine lv_lshr (v := (p0 >>> ((8 : Int32).toInt64 &&& 63))) hx hb dX3_byteOf_5 rfl ?_
  refine lv_ldc2 (v := 255) hx hb hown (hts _ m_k_RX3_23) dX3_byteOf_6 ?_
  refine lv_land hx hb dX3_byteOf_9 ?_
  refine lv_l2i (v := ((p0 >>> ((8 : Int32).toInt64 &&& 63)) &&& 255).toInt32) hx hb dX3_byteOf_10 rfl ?_
  have hP9 := hP.sub (ws' := []) [] rfl
  have hD9 := hD.sub (ws' := []) [] (by decide) rfl
  exact W.iret (v := ((p0 >>> ((8 : Int32).toInt64 &&& 63)) &&& 255).toInt32) hx hb hr (fun t ht hW => ⟨⟨((p0 >>> ((8 : Int32).toInt64 &&& 63)) &&& 255).toInt32, 0, rfl, rfl, by rw [ht]; exact hP9, hD9⟩, hS.F ht⟩) hS.2.2 dX3_byteOf_11
set_option maxHeartbeats 4000000 in
set_option maxRecDepth 100000 in
theorem kX3_byteOf_42 (l : Launch) (g : zG) (sz : Nat) (p0 : Int64) : Met l yX3_byteOf (.code yX3_byteOf cX3_byteOf 3 (some .int) :: zBig) ({ frames := 0, cells := 0, slots := 0, locals := 0 }) (va_Pc [.long p0, .int 0] (zPre g [] sz)) (va_Qi (fun (r : Int32) (_ : Nat) => r = ((p0 >>> ((0 : Int32).toInt64 &&& 63)) &&& 255).toInt32) (zPost g (fun _ : Nat => []) (va_A [] sz)) (va_A [] sz)) 0 0 (va_A [] sz) := by
  refine zMetI rfl (Nat.le_of_ble_eq_true rfl) ?_
  intro p e s m args below meth c A ls hx hb hml hr hlocks hin hown hts hK hN hZ hP hD hA hS hAe hl
  have hown : s.vm.findClass RX3 = some m.cls := hown
  have hl : lv_has ls 3 [(0, .long p0), (2, .int 0)] := hl
  refine lv_lload_n hx hb dX3_byteOf_0 rfl (lv_at hl 0 rfl) ?_
  refine lv_bipush (v := 8) hx hb dX3_byteOf_1 (by decide) ?_
  refine lv_iload_n hx hb dX3_byteOf_3 rfl (lv_at hl 1 rfl) ?_
  refine lv_imul hx hb dX3_byteOf_4 ?_
  refine lv_topi (nm_r (e' := 0) (by decide +kernel) ?_)
  refine lv_lshr (v := (p0 >>> ((0 : Int32).toInt64 &&& 63))) hx hb dX3_byteOf_5 rfl ?_
  refine lv_ldc2 (v := 255) hx hb hown (hts _ m_k_RX3_23) dX3_byteOf_6 ?_
  refine lv_land hx hb dX3_byteOf_9 ?_
  refine lv_l2i (v := ((p0 >>> ((0 : Int32).toInt64 &&& 63)) &&& 255).toInt32) hx hb dX3_byteOf_10 rfl ?_
  have hP9 := hP.sub (ws' := []) [] rfl
  have hD9 := hD.sub (ws' := []) [] (by decide) rfl
  exact W.iret (v := ((p0 >>> ((0 : Int32).toInt64 &&& 63)) &&& 255).toInt32) hx hb hr (fun t ht hW => ⟨⟨((p0 >>> ((0 : Int32).toInt64 &&& 63)) &&& 255).toInt32, 0, rfl, rfl, by rw [ht]; exact hP9, hD9⟩, hS.F ht⟩) hS.2.2 dX3_byteOf_11
set_option maxHeartbeats 4000000 in
set_option maxRecDepth 100000 in
theorem kX3_byteOf_43 (l : Launch) (g : zG) (sz : Nat) (p0 : Int64) : Met l yX3_byteOf (.code yX3_byteOf cX3_byteOf 3 (some .int) :: zBig) ({ frames := 0, cells := 0, slots := 0, locals := 0 }) (va_Pc [.long p0, .int 3] (zPre g [] sz)) (va_Qi (fun (r : Int32) (_ : Nat) => r = ((p0 >>> ((24 : Int32).toInt64 &&& 63)) &&& 255).toInt32) (zPost g (fun _ : Nat => []) (va_A [] sz)) (va_A [] sz)) 0 0 (va_A [] sz) := by
  refine zMetI rfl (Nat.le_of_ble_eq_true rfl) ?_
  intro p e s m args below meth c A ls hx hb hml hr hlocks hin hown hts hK hN hZ hP hD hA hS hAe hl
  have hown : s.vm.findClass RX3 = some m.cls := hown
  have hl : lv_has ls 3 [(0, .long p0), (2, .int 3)] := hl
  refine lv_lload_n hx hb dX3_byteOf_0 rfl (lv_at hl 0 rfl) ?_
  refine lv_bipush (v := 8) hx hb dX3_byteOf_1 (by decide) ?_
  refine lv_iload_n hx hb dX3_byteOf_3 rfl (lv_at hl 1 rfl) ?_
  refine lv_imul hx hb dX3_byteOf_4 ?_
  refine lv_topi (nm_r (e' := 24) (by decide +kernel) ?_)
  refine lv_lshr (v := (p0 >>> ((24 : Int32).toInt64 &&& 63))) hx hb dX3_byteOf_5 rfl ?_
  refine lv_ldc2 (v := 255) hx hb hown (hts _ m_k_RX3_23) dX3_byteOf_6 ?_
  refine lv_land hx hb dX3_byteOf_9 ?_
  refine lv_l2i (v := ((p0 >>> ((24 : Int32).toInt64 &&& 63)) &&& 255).toInt32) hx hb dX3_byteOf_10 rfl ?_
  have hP9 := hP.sub (ws' := []) [] rfl
  have hD9 := hD.sub (ws' := []) [] (by decide) rfl
  exact W.iret (v := ((p0 >>> ((24 : Int32).toInt64 &&& 63)) &&& 255).toInt32) hx hb hr (fun t ht hW => ⟨⟨((p0 >>> ((24 : Int32).toInt64 &&& 63)) &&& 255).toInt32, 0, rfl, rfl, by rw [ht]; exact hP9, hD9⟩, hS.F ht⟩) hS.2.2 dX3_byteOf_11
set_option maxHeartbeats 4000000 in
set_option maxRecDepth 100000 in
theorem kX3_byteOf_44 (l : Launch) (g : zG) (sz : Nat) (p0 : Int64) : Met l yX3_byteOf (.code yX3_byteOf cX3_byteOf 3 (some .int) :: zBig) ({ frames := 0, cells := 0, slots := 0, locals := 0 }) (va_Pc [.long p0, .int 2] (zPre g [] sz)) (va_Qi (fun (r : Int32) (_ : Nat) => r = ((p0 >>> ((16 : Int32).toInt64 &&& 63)) &&& 255).toInt32) (zPost g (fun _ : Nat => []) (va_A [] sz)) (va_A [] sz)) 0 0 (va_A [] sz) := by
  refine zMetI rfl (Nat.le_of_ble_eq_true rfl) ?_
  intro p e s m args below meth c A ls hx hb hml hr hlocks hin hown hts hK hN hZ hP hD hA hS hAe hl
  have hown : s.vm.findClass RX3 = some m.cls := hown
  have hl : lv_has ls 3 [(0, .long p0), (2, .int 2)] := hl
  refine lv_lload_n hx hb dX3_byteOf_0 rfl (lv_at hl 0 rfl) ?_
  refine lv_bipush (v := 8) hx hb dX3_byteOf_1 (by decide) ?_
  refine lv_iload_n hx hb dX3_byteOf_3 rfl (lv_at hl 1 rfl) ?_
  refine lv_imul hx hb dX3_byteOf_4 ?_
  refine lv_topi (nm_r (e' := 16) (by decide +kernel) ?_)
  refine lv_lshr (v := (p0 >>> ((16 : Int32).toInt64 &&& 63))) hx hb dX3_byteOf_5 rfl ?_
  refine lv_ldc2 (v := 255) hx hb hown (hts _ m_k_RX3_23) dX3_byteOf_6 ?_
  refine lv_land hx hb dX3_byteOf_9 ?_
  refine lv_l2i (v := ((p0 >>> ((16 : Int32).toInt64 &&& 63)) &&& 255).toInt32) hx hb dX3_byteOf_10 rfl ?_
  have hP9 := hP.sub (ws' := []) [] rfl
  have hD9 := hD.sub (ws' := []) [] (by decide) rfl
  exact W.iret (v := ((p0 >>> ((16 : Int32).toInt64 &&& 63)) &&& 255).toInt32) hx hb hr (fun t ht hW => ⟨⟨((p0 >>> ((16 : Int32).toInt64 &&& 63)) &&& 255).toInt32, 0, rfl, rfl, by rw [ht]; exact hP9, hD9⟩, hS.F ht⟩) hS.2.2 dX3_byteOf_11
set_option maxHeartbeats 4000000 in
set_option maxRecDepth 100000 in
theorem kX3_byteOf_45 (l : Launch) (g : zG) (sz : Nat) (p0 : Int64) : Met l yX3_byteOf (.code yX3_byteOf cX3_byteOf 3 (some .int) :: zBig) ({ frames := 0, cells := 0, slots := 0, locals := 0 }) (va_Pc [.long p0, .int 1] (zPre g [] sz)) (va_Qi (fun (r : Int32) (_ : Nat) => r = ((p0 >>> ((8 : Int32).toInt64 &&& 63)) &&& 255).toInt32) (zPost g (fun _ : Nat => []) (va_A [] sz)) (va_A [] sz)) 0 0 (va_A [] sz) := by
  refine zMetI rfl (Nat.le_of_ble_eq_true rfl) ?_
  intro p e s m args below meth c A ls hx hb hml hr hlocks hin hown hts hK hN hZ hP hD hA hS hAe hl
  have hown : s.vm.findClass RX3 = some m.cls := hown
  have hl : lv_has ls 3 [(0, .long p0), (2, .int 1)] := hl
  refine lv_lload_n hx hb dX3_byteOf_0 rfl (lv_at hl 0 rfl) ?_
  refine lv_bipush (v := 8) hx hb dX3_byteOf_1 (by decide) ?_
  refine lv_iload_n hx hb dX3_byteOf_3 rfl (lv_at hl 1 rfl) ?_
  refine lv_imul hx hb dX3_byteOf_4 ?_
  refine lv_topi (nm_r (e' := 8) (by decide +kernel) ?_)
  refine lv_lshr (v := (p0 >>> ((8 : Int32).toInt64 &&& 63))) hx hb dX3_byteOf_5 rfl ?_
  refine lv_ldc2 (v := 255) hx hb hown (hts _ m_k_RX3_23) dX3_byteOf_6 ?_
  refine lv_land hx hb dX3_byteOf_9 ?_
  refine lv_l2i (v := ((p0 >>> ((8 : Int32).toInt64 &&& 63)) &&& 255).toInt32) hx hb dX3_byteOf_10 rfl ?_
  have hP9 := hP.sub (ws' := []) [] rfl
  have hD9 := hD.sub (ws' := []) [] (by decide) rfl
  exact W.iret (v := ((p0 >>> ((8 : Int32).toInt64 &&& 63)) &&& 255).toInt32) hx hb hr (fun t ht hW => ⟨⟨((p0 >>> ((8 : Int32).toInt64 &&& 63)) &&& 255).toInt32, 0, rfl, rfl, by rw [ht]; exact hP9, hD9⟩, hS.F ht⟩) hS.2.2 dX3_byteOf_11
set_option maxHeartbeats 4000000 in
set_option maxRecDepth 100000 in
theorem kX3_byteOf_46 (l : Launch) (g : zG) (sz : Nat) (p0 : Int64) : Met l yX3_byteOf (.code yX3_byteOf cX3_byteOf 3 (some .int) :: zBig) ({ frames := 0, cells := 0, slots := 0, locals := 0 }) (va_Pc [.long p0, .int 0] (zPre g [] sz)) (va_Qi (fun (r : Int32) (_ : Nat) => r = ((p0 >>> ((0 : Int32).toInt64 &&& 63)) &&& 255).toInt32) (zPost g (fun _ : Nat => []) (va_A [] sz)) (va_A [] sz)) 0 0 (va_A [] sz) := by
  refine zMetI rfl (Nat.le_of_ble_eq_true rfl) ?_
  intro p e s m args below meth c A ls hx hb hml hr hlocks hin hown hts hK hN hZ hP hD hA hS hAe hl
  have hown : s.vm.findClass RX3 = some m.cls := hown
  have hl : lv_has ls 3 [(0, .long p0), (2, .int 0)] := hl
  refine lv_lload_n hx hb dX3_byteOf_0 rfl (lv_at hl 0 rfl) ?_
  refine lv_bipush (v := 8) hx hb dX3_byteOf_1 (by decide) ?_
  refine lv_iload_n hx hb dX3_byteOf_3 rfl (lv_at hl 1 rfl) ?_
  refine lv_imul hx hb dX3_byteOf_4 ?_
  refine lv_topi (nm_r (e' := 0) (by decide +kernel) ?_)
  refine lv_lshr (v := (p0 >>> ((0 : Int32).toInt64 &&& 63))) hx hb dX3_byteOf_5 rfl ?_
  refine lv_ldc2 (v := 255) hx hb hown (hts _ m_k_RX3_23) dX3_byteOf_6 ?_
  refine lv_land hx hb dX3_byteOf_9 ?_
  refine lv_l2i (v := ((p0 >>> ((0 : Int32).toInt64 &&& 63)) &&& 255).toInt32) hx hb dX3_byteOf_10 rfl ?_
  have hP9 := hP.sub (ws' := []) [] rfl
  have hD9 := hD.sub (ws' := []) [] (by decide) rfl
  exact W.iret (v := ((p0 >>> ((0 : Int32).toInt64 &&& 63)) &&& 255).toInt32) hx hb hr (fun t ht hW => ⟨⟨((p0 >>> ((0 : Int32).toInt64 &&& 63)) &&& 255).toInt32, 0, rfl, rfl, by rw [ht]; exact hP9, hD9⟩, hS.F ht⟩) hS.2.2 dX3_byteOf_11
set_option maxHeartbeats 4000000 in
set_option maxRecDepth 100000 in
theorem kX3_byteOf_47 (l : Launch) (g : zG) (sz : Nat) (p0 : Int64) : Met l yX3_byteOf (.code yX3_byteOf cX3_byteOf 3 (some .int) :: zBig) ({ frames := 0, cells := 0, slots := 0, locals := 0 }) (va_Pc [.long p0, .int 4] (zPre g [] sz)) (va_Qi (fun (r : Int32) (_ : Nat) => r = ((p0 >>> ((32 : Int32).toInt64 &&& 63)) &&& 255).toInt32) (zPost g (fun _ : Nat => []) (va_A [] sz)) (va_A [] sz)) 0 0 (va_A [] sz) := by
  refine zMetI rfl (Nat.le_of_ble_eq_true rfl) ?_
  intro p e s m args below meth c A ls hx hb hml hr hlocks hin hown hts hK hN hZ hP hD hA hS hAe hl
  have hown : s.vm.findClass RX3 = some m.cls := hown
  have hl : lv_has ls 3 [(0, .long p0), (2, .int 4)] := hl
  refine lv_lload_n hx hb dX3_byteOf_0 rfl (lv_at hl 0 rfl) ?_
  refine lv_bipush (v := 8) hx hb dX3_byteOf_1 (by decide) ?_
  refine lv_iload_n hx hb dX3_byteOf_3 rfl (lv_at hl 1 rfl) ?_
  refine lv_imul hx hb dX3_byteOf_4 ?_
  refine lv_topi (nm_r (e' := 32) (by decide +kernel) ?_)
  refine lv_lshr (v := (p0 >>> ((32 : Int32).toInt64 &&& 63))) hx hb dX3_byteOf_5 rfl ?_
  refine lv_ldc2 (v := 255) hx hb hown (hts _ m_k_RX3_23) dX3_byteOf_6 ?_
  refine lv_land hx hb dX3_byteOf_9 ?_
  refine lv_l2i (v := ((p0 >>> ((32 : Int32).toInt64 &&& 63)) &&& 255).toInt32) hx hb dX3_byteOf_10 rfl ?_
  have hP9 := hP.sub (ws' := []) [] rfl
  have hD9 := hD.sub (ws' := []) [] (by decide) rfl
  exact W.iret (v := ((p0 >>> ((32 : Int32).toInt64 &&& 63)) &&& 255).toInt32) hx hb hr (fun t ht hW => ⟨⟨((p0 >>> ((32 : Int32).toInt64 &&& 63)) &&& 255).toInt32, 0, rfl, rfl, by rw [ht]; exact hP9, hD9⟩, hS.F ht⟩) hS.2.2 dX3_byteOf_11
set_option maxHeartbeats 4000000 in
set_option maxRecDepth 100000 in
theorem kX3_byteOf_48 (l : Launch) (g : zG) (sz : Nat) (p0 : Int64) : Met l yX3_byteOf (.code yX3_byteOf cX3_byteOf 3 (some .int) :: zBig) ({ frames := 0, cells := 0, slots := 0, locals := 0 }) (va_Pc [.long p0, .int 3] (zPre g [] sz)) (va_Qi (fun (r : Int32) (_ : Nat) => r = ((p0 >>> ((24 : Int32).toInt64 &&& 63)) &&& 255).toInt32) (zPost g (fun _ : Nat => []) (va_A [] sz)) (va_A [] sz)) 0 0 (va_A [] sz) := by
  refine zMetI rfl (Nat.le_of_ble_eq_true rfl) ?_
  intro p e s m args below meth c A ls hx hb hml hr hlocks hin hown hts hK hN hZ hP hD hA hS hAe hl
  have hown : s.vm.findClass RX3 = some m.cls := hown
  have hl : lv_has ls 3 [(0, .long p0), (2, .int 3)] := hl
  refine lv_lload_n hx hb dX3_byteOf_0 rfl (lv_at hl 0 rfl) ?_
  refine lv_bipush (v := 8) hx hb dX3_byteOf_1 (by decide) ?_
  refine lv_iload_n hx hb dX3_byteOf_3 rfl (lv_at hl 1 rfl) ?_
  refine lv_imul hx hb dX3_byteOf_4 ?_
  refine lv_topi (nm_r (e' := 24) (by decide +kernel) ?_)
  refine lv_lshr (v := (p0 >>> ((24 : Int32).toInt64 &&& 63))) hx hb dX3_byteOf_5 rfl ?_
  refine lv_ldc2 (v := 255) hx hb hown (hts _ m_k_RX3_23) dX3_byteOf_6 ?_
  refine lv_land hx hb dX3_byteOf_9 ?_
  refine lv_l2i (v := ((p0 >>> ((24 : Int32).toInt64 &&& 63)) &&& 255).toInt32) hx hb dX3_byteOf_10 rfl ?_
  have hP9 := hP.sub (ws' := []) [] rfl
  have hD9 := hD.sub (ws' := []) [] (by decide) rfl
  exact W.iret (v := ((p0 >>> ((24 : Int32).toInt64 &&& 63)) &&& 255).toInt32) hx hb hr (fun t ht hW => ⟨⟨((p0 >>> ((24 : Int32).toInt64 &&& 63)) &&& 255).toInt32, 0, rfl, rfl, by rw [ht]; exact hP9, hD9⟩, hS.F ht⟩) hS.2.2 dX3_byteOf_11
set_option maxHeartbeats 4000000 in
set_option maxRecDepth 100000 in
theorem kX3_byteOf_49 (l : Launch) (g : zG) (sz : Nat) (p0 : Int64) : Met l yX3_byteOf (.code yX3_byteOf cX3_byteOf 3 (some .int) :: zBig) ({ frames := 0, cells := 0, slots := 0, locals := 0 }) (va_Pc [.long p0, .int 2] (zPre g [] sz)) (va_Qi (fun (r : Int32) (_ : Nat) => r = ((p0 >>> ((16 : Int32).toInt64 &&& 63)) &&& 255).toInt32) (zPost g (fun _ : Nat => []) (va_A [] sz)) (va_A [] sz)) 0 0 (va_A [] sz) := by
  refine zMetI rfl (Nat.le_of_ble_eq_true rfl) ?_
  intro p e s m args below meth c A ls hx hb hml hr hlocks hin hown hts hK hN hZ hP hD hA hS hAe hl
  have hown : s.vm.findClass RX3 = some m.cls := hown
  have hl : lv_has ls 3 [(0, .long p0), (2, .int 2)] := hl
  refine lv_lload_n hx hb dX3_byteOf_0 rfl (lv_at hl 0 rfl) ?_
  refine lv_bipush (v := 8) hx hb dX3_byteOf_1 (by decide) ?_
  refine lv_iload_n hx hb dX3_byteOf_3 rfl (lv_at hl 1 rfl) ?_
  refine lv_imul hx hb dX3_byteOf_4 ?_
  refine lv_topi (nm_r (e' := 16) (by decide +kernel) ?_)
  refine lv_lshr (v := (p0 >>> ((16 : Int32).toInt64 &&& 63))) hx hb dX3_byteOf_5 rfl ?_
  refine lv_ldc2 (v := 255) hx hb hown (hts _ m_k_RX3_23) dX3_byteOf_6 ?_
  refine lv_land hx hb dX3_byteOf_9 ?_
  refine lv_l2i (v := ((p0 >>> ((16 : Int32).toInt64 &&& 63)) &&& 255).toInt32) hx hb dX3_byteOf_10 rfl ?_
  have hP9 := hP.sub (ws' := []) [] rfl
  have hD9 := hD.sub (ws' := []) [] (by decide) rfl
  exact W.iret (v := ((p0 >>> ((16 : Int32).toInt64 &&& 63)) &&& 255).toInt32) hx hb hr (fun t ht hW => ⟨⟨((p0 >>> ((16 : Int32).toInt64 &&& 63)) &&& 255).toInt32, 0, rfl, rfl, by rw [ht]; exact hP9, hD9⟩, hS.F ht⟩) hS.2.2 dX3_byteOf_11
set_option maxHeartbeats 4000000 in
set_option maxRecDepth 100000 in
theorem kX3_byteOf_50 (l : Launch) (g : zG) (sz : Nat) (p0 : Int64) : Met l yX3_byteOf (.code yX3_byteOf cX3_byteOf 3 (some .int) :: zBig) ({ frames := 0, cells := 0, slots := 0, locals := 0 }) (va_Pc [.long p0, .int 1] (zPre g [] sz)) (va_Qi (fun (r : Int32) (_ : Nat) => r = ((p0 >>> ((8 : Int32).toInt64 &&& 63)) &&& 255).toInt32) (zPost g (fun _ : Nat => []) (va_A [] sz)) (va_A [] sz)) 0 0 (va_A [] sz) := by
  refine zMetI rfl (Nat.le_of_ble_eq_true rfl) ?_
  intro p e s m args below meth c A ls hx hb hml hr hlocks hin hown hts hK hN hZ hP hD hA hS hAe hl
  have hown : s.vm.findClass RX3 = some m.cls := hown
  have hl : lv_has ls 3 [(0, .long p0), (2, .int 1)] := hl
  refine lv_lload_n hx hb dX3_byteOf_0 rfl (lv_at hl 0 rfl) ?_
  refine lv_bipush (v := 8) hx hb dX3_byteOf_1 (by decide) ?_
  refine lv_iload_n hx hb dX3_byteOf_3 rfl (lv_at hl 1 rfl) ?_
  refine lv_imul hx hb dX3_byteOf_4 ?_
  refine lv_topi (nm_r (e' := 8) (by decide +kernel) ?_)
  refine lv_lshr (v := (p0 >>> ((8 : Int32).toInt64 &&& 63))) hx hb dX3_byteOf_5 rfl ?_
  refine lv_ldc2 (v := 255) hx hb hown (hts _ m_k_RX3_23) dX3_byteOf_6 ?_
  refine lv_land hx hb dX3_byteOf_9 ?_
  refine lv_l2i (v := ((p0 >>> ((8 : Int32).toInt64 &&& 63)) &&& 255).toInt32) hx hb dX3_byteOf_10 rfl ?_
  have hP9 := hP.sub (ws' := []) [] rfl
  have hD9 := hD.sub (ws' := []) [] (by decide) rfl
  exact W.iret (v := ((p0 >>> ((8 : Int32).toInt64 &&& 63)) &&& 255).toInt32) hx hb hr (fun t ht hW => ⟨⟨((p0 >>> ((8 : Int32).toInt64 &&& 63)) &&& 255).toInt32, 0, rfl, rfl, by rw [ht]; exact hP9, hD9⟩, hS.F ht⟩) hS.2.2 dX3_byteOf_11
set_option maxHeartbeats 4000000 in
set_option maxRecDepth 100000 in
theorem kX3_byteOf_51 (l : Launch) (g : zG) (sz : Nat) (p0 : Int64) : Met l yX3_byteOf (.code yX3_byteOf cX3_byteOf 3 (some .int) :: zBig) ({ frames := 0, cells := 0, slots := 0, locals := 0 }) (va_Pc [.long p0, .int 0] (zPre g [] sz)) (va_Qi (fun (r : Int32) (_ : Nat) => r = ((p0 >>> ((0 : Int32).toInt64 &&& 63)) &&& 255).toInt32) (zPost g (fun _ : Nat => []) (va_A [] sz)) (va_A [] sz)) 0 0 (va_A [] sz) := by
  refine zMetI rfl (Nat.le_of_ble_eq_true rfl) ?_
  intro p e s m args below meth c A ls hx hb hml hr hlocks hin hown hts hK hN hZ hP hD hA hS hAe hl
  have hown : s.vm.findClass RX3 = some m.cls := hown
  have hl : lv_has ls 3 [(0, .long p0), (2, .int 0)] := hl
  refine lv_lload_n hx hb dX3_byteOf_0 rfl (lv_at hl 0 rfl) ?_
  refine lv_bipush (v := 8) hx hb dX3_byteOf_1 (by decide) ?_
  refine lv_iload_n hx hb dX3_byteOf_3 rfl (lv_at hl 1 rfl) ?_
  refine lv_imul hx hb dX3_byteOf_4 ?_
  refine lv_topi (nm_r (e' := 0) (by decide +kernel) ?_)
  refine lv_lshr (v := (p0 >>> ((0 : Int32).toInt64 &&& 63))) hx hb dX3_byteOf_5 rfl ?_
  refine lv_ldc2 (v := 255) hx hb hown (hts _ m_k_RX3_23) dX3_byteOf_6 ?_
  refine lv_land hx hb dX3_byteOf_9 ?_
  refine lv_l2i (v := ((p0 >>> ((0 : Int32).toInt64 &&& 63)) &&& 255).toInt32) hx hb dX3_byteOf_10 rfl ?_
  have hP9 := hP.sub (ws' := []) [] rfl
  have hD9 := hD.sub (ws' := []) [] (by decide) rfl
  exact W.iret (v := ((p0 >>> ((0 : Int32).toInt64 &&& 63)) &&& 255).toInt32) hx hb hr (fun t ht hW => ⟨⟨((p0 >>> ((0 : Int32).toInt64 &&& 63)) &&& 255).toInt32, 0, rfl, rfl, by rw [ht]; exact hP9, hD9⟩, hS.F ht⟩) hS.2.2 dX3_byteOf_11
set_option maxHeartbeats 4000000 in
set_option maxRecDepth 100000 in
theorem kX3_byteOf_52 (l : Launch) (g : zG) (sz : Nat) (p0 : Int64) : Met l yX3_byteOf (.code yX3_byteOf cX3_byteOf 3 (some .int) :: zBig) ({ frames := 0, cells := 0, slots := 0, locals := 0 }) (va_Pc [.long p0, .int 5] (zPre g [] sz)) (va_Qi (fun (r : Int32) (_ : Nat) => r = ((p0 >>> ((40 : Int32).toInt64 &&& 63)) &&& 255).toInt32) (zPost g (fun _ : Nat => []) (va_A [] sz)) (va_A [] sz)) 0 0 (va_A [] sz) := by
  refine zMetI rfl (Nat.le_of_ble_eq_true rfl) ?_
  intro p e s m args below meth c A ls hx hb hml hr hlocks hin hown hts hK hN hZ hP hD hA hS hAe hl
  have hown : s.vm.findClass RX3 = some m.cls := hown
  have hl : lv_has ls 3 [(0, .long p0), (2, .int 5)] := hl
  refine lv_lload_n hx hb dX3_byteOf_0 rfl (lv_at hl 0 rfl) ?_
  refine lv_bipush (v := 8) hx hb dX3_byteOf_1 (by decide) ?_
  refine lv_iload_n hx hb dX3_byteOf_3 rfl (lv_at hl 1 rfl) ?_
  refine lv_imul hx hb dX3_byteOf_4 ?_
  refine lv_topi (nm_r (e' := 40) (by decide +kernel) ?_)
  refine lv_lshr (v := (p0 >>> ((40 : Int32).toInt64 &&& 63))) hx hb dX3_byteOf_5 rfl ?_
  refine lv_ldc2 (v := 255) hx hb hown (hts _ m_k_RX3_23) dX3_byteOf_6 ?_
  refine lv_land hx hb dX3_byteOf_9 ?_
  refine lv_l2i (v := ((p0 >>> ((40 : Int32).toInt64 &&& 63)) &&& 255).toInt32) hx hb dX3_byteOf_10 rfl ?_
  have hP9 := hP.sub (ws' := []) [] rfl
  have hD9 := hD.sub (ws' := []) [] (by decide) rfl
  exact W.iret (v := ((p0 >>> ((40 : Int32).toInt64 &&& 63)) &&& 255).toInt32) hx hb hr (fun t ht hW => ⟨⟨((p0 >>> ((40 : Int32).toInt64 &&& 63)) &&& 255).toInt32, 0, rfl, rfl, by rw [ht]; exact hP9, hD9⟩, hS.F ht⟩) hS.2.2 dX3_byteOf_11
set_option maxHeartbeats 4000000 in
set_option maxRecDepth 100000 in
theorem kX3_byteOf_53 (l : Launch) (g : zG) (sz : Nat) (p0 : Int64) : Met l yX3_byteOf (.code yX3_byteOf cX3_byteOf 3 (some .int) :: zBig) ({ frames := 0, cells := 0, slots := 0, locals := 0 }) (va_Pc [.long p0, .int 4] (zPre g [] sz)) (va_Qi (fun (r : Int32) (_ : Nat) => r = ((p0 >>> ((32 : Int32).toInt64 &&& 63)) &&& 255).toInt32) (zPost g (fun _ : Nat => []) (va_A [] sz)) (va_A [] sz)) 0 0 (va_A [] sz) := by
  refine zMetI rfl (Nat.le_of_ble_eq_true rfl) ?_
  intro p e s m args below meth c A ls hx hb hml hr hlocks hin hown hts hK hN hZ hP hD hA hS hAe hl
  have hown : s.vm.findClass RX3 = some m.cls := hown
  have hl : lv_has ls 3 [(0, .long p0), (2, .int 4)] := hl
  refine lv_lload_n hx hb dX3_byteOf_0 rfl (lv_at hl 0 rfl) ?_
  refine lv_bipush (v := 8) hx hb dX3_byteOf_1 (by decide) ?_
  refine lv_iload_n hx hb dX3_byteOf_3 rfl (lv_at hl 1 rfl) ?_
  refine lv_imul hx hb dX3_byteOf_4 ?_
  refine lv_topi (nm_r (e' := 32) (by decide +kernel) ?_)
  refine lv_lshr (v := (p0 >>> ((32 : Int32).toInt64 &&& 63))) hx hb dX3_byteOf_5 rfl ?_
  refine lv_ldc2 (v := 255) hx hb hown (hts _ m_k_RX3_23) dX3_byteOf_6 ?_
  refine lv_land hx hb dX3_byteOf_9 ?_
  refine lv_l2i (v := ((p0 >>> ((32 : Int32).toInt64 &&& 63)) &&& 255).toInt32) hx hb dX3_byteOf_10 rfl ?_
  have hP9 := hP.sub (ws' := []) [] rfl
  have hD9 := hD.sub (ws' := []) [] (by decide) rfl
  exact W.iret (v := ((p0 >>> ((32 : Int32).toInt64 &&& 63)) &&& 255).toInt32) hx hb hr (fun t ht hW => ⟨⟨((p0 >>> ((32 : Int32).toInt64 &&& 63)) &&& 255).toInt32, 0, rfl, rfl, by rw [ht]; exact hP9, hD9⟩, hS.F ht⟩) hS.2.2 dX3_byteOf_11
set_option maxHeartbeats 4000000 in
set_option maxRecDepth 100000 in
theorem kX3_byteOf_54 (l : Launch) (g : zG) (sz : Nat) (p0 : Int64) : Met l yX3_byteOf (.code yX3_byteOf cX3_byteOf 3 (some .int) :: zBig) ({ frames := 0, cells := 0, slots := 0, locals := 0 }) (va_Pc [.long p0, .int 3] (zPre g [] sz)) (va_Qi (fun (r : Int32) (_ : Nat) => r = ((p0 >>> ((24 : Int32).toInt64 &&& 63)) &&& 255).toInt32) (zPost g (fun _ : Nat => []) (va_A [] sz)) (va_A [] sz)) 0 0 (va_A [] sz) := by
  refine zMetI rfl (Nat.le_of_ble_eq_true rfl) ?_
  intro p e s m args below meth c A ls hx hb hml hr hlocks hin hown hts hK hN hZ hP hD hA hS hAe hl
  have hown : s.vm.findClass RX3 = some m.cls := hown
  have hl : lv_has ls 3 [(0, .long p0), (2, .int 3)] := hl
  refine lv_lload_n hx hb dX3_byteOf_0 rfl (lv_at hl 0 rfl) ?_
  refine lv_bipush (v := 8) hx hb dX3_byteOf_1 (by decide) ?_
  refine lv_iload_n hx hb dX3_byteOf_3 rfl (lv_at hl 1 rfl) ?_
  refine lv_imul hx hb dX3_byteOf_4 ?_
  refine lv_topi (nm_r (e' := 24) (by decide +kernel) ?_)
  refine lv_lshr (v := (p0 >>> ((24 : Int32).toInt64 &&& 63))) hx hb dX3_byteOf_5 rfl ?_
  refine lv_ldc2 (v := 255) hx hb hown (hts _ m_k_RX3_23) dX3_byteOf_6 ?_
  refine lv_land hx hb dX3_byteOf_9 ?_
  refine lv_l2i (v := ((p0 >>> ((24 : Int32).toInt64 &&& 63)) &&& 255).toInt32) hx hb dX3_byteOf_10 rfl ?_
  have hP9 := hP.sub (ws' := []) [] rfl
  have hD9 := hD.sub (ws' := []) [] (by decide) rfl
  exact W.iret (v := ((p0 >>> ((24 : Int32).toInt64 &&& 63)) &&& 255).toInt32) hx hb hr (fun t ht hW => ⟨⟨((p0 >>> ((24 : Int32).toInt64 &&& 63)) &&& 255).toInt32, 0, rfl, rfl, by rw [ht]; exact hP9, hD9⟩, hS.F ht⟩) hS.2.2 dX3_byteOf_11
set_option maxHeartbeats 4000000 in
set_option maxRecDepth 100000 in
theorem kX3_byteOf_55 (l : Launch) (g : zG) (sz : Nat) (p0 : Int64) : Met l yX3_byteOf (.code yX3_byteOf cX3_byteOf 3 (some .int) :: zBig) ({ frames := 0, cells := 0, slots := 0, locals := 0 }) (va_Pc [.long p0, .int 2] (zPre g [] sz)) (va_Qi (fun (r : Int32) (_ : Nat) => r = ((p0 >>> ((16 : Int32).toInt64 &&& 63)) &&& 255).toInt32) (zPost g (fun _ : Nat => []) (va_A [] sz)) (va_A [] sz)) 0 0 (va_A [] sz) := by
  refine zMetI rfl (Nat.le_of_ble_eq_true rfl) ?_
  intro p e s m args below meth c A ls hx hb hml hr hlocks hin hown hts hK hN hZ hP hD hA hS hAe hl
  have hown : s.vm.findClass RX3 = some m.cls := hown
  have hl : lv_has ls 3 [(0, .long p0), (2, .int 2)] := hl
  refine lv_lload_n hx hb dX3_byteOf_0 rfl (lv_at hl 0 rfl) ?_
  refine lv_bipush (v := 8) hx hb dX3_byteOf_1 (by decide) ?_
  refine lv_iload_n hx hb dX3_byteOf_3 rfl (lv_at hl 1 rfl) ?_
  refine lv_imul hx hb dX3_byteOf_4 ?_
  refine lv_topi (nm_r (e' := 16) (by decide +kernel) ?_)
  refine lv_lshr (v := (p0 >>> ((16 : Int32).toInt64 &&& 63))) hx hb dX3_byteOf_5 rfl ?_
  refine lv_ldc2 (v := 255) hx hb hown (hts _ m_k_RX3_23) dX3_byteOf_6 ?_
  refine lv_land hx hb dX3_byteOf_9 ?_
  refine lv_l2i (v := ((p0 >>> ((16 : Int32).toInt64 &&& 63)) &&& 255).toInt32) hx hb dX3_byteOf_10 rfl ?_
  have hP9 := hP.sub (ws' := []) [] rfl
  have hD9 := hD.sub (ws' := []) [] (by decide) rfl
  exact W.iret (v := ((p0 >>> ((16 : Int32).toInt64 &&& 63)) &&& 255).toInt32) hx hb hr (fun t ht hW => ⟨⟨((p0 >>> ((16 : Int32).toInt64 &&& 63)) &&& 255).toInt32, 0, rfl, rfl, by rw [ht]; exact hP9, hD9⟩, hS.F ht⟩) hS.2.2 dX3_byteOf_11
set_option maxHeartbeats 4000000 in
set_option maxRecDepth 100000 in
theorem kX3_byteOf_56 (l : Launch) (g : zG) (sz : Nat) (p0 : Int64) : Met l yX3_byteOf (.code yX3_byteOf cX3_byteOf 3 (some .int) :: zBig) ({ frames := 0, cells := 0, slots := 0, locals := 0 }) (va_Pc [.long p0, .int 1] (zPre g [] sz)) (va_Qi (fun (r : Int32) (_ : Nat) => r = ((p0 >>> ((8 : Int32).toInt64 &&& 63)) &&& 255).toInt32) (zPost g (fun _ : Nat => []) (va_A [] sz)) (va_A [] sz)) 0 0 (va_A [] sz) := by
  refine zMetI rfl (Nat.le_of_ble_eq_true rfl) ?_
  intro p e s m args below meth c A ls hx hb hml hr hlocks hin hown hts hK hN hZ hP hD hA hS hAe hl
  have hown : s.vm.findClass RX3 = some m.cls := hown
  have hl : lv_has ls 3 [(0, .long p0), (2, .int 1)] := hl
  refine lv_lload_n hx hb dX3_byteOf_0 rfl (lv_at hl 0 rfl) ?_
  refine lv_bipush (v := 8) hx hb dX3_byteOf_1 (by decide) ?_
  refine lv_iload_n hx hb dX3_byteOf_3 rfl (lv_at hl 1 rfl) ?_
  refine lv_imul hx hb dX3_byteOf_4 ?_
  refine lv_topi (nm_r (e' := 8) (by decide +kernel) ?_)
  refine lv_lshr (v := (p0 >>> ((8 : Int32).toInt64 &&& 63))) hx hb dX3_byteOf_5 rfl ?_
  refine lv_ldc2 (v := 255) hx hb hown (hts _ m_k_RX3_23) dX3_byteOf_6 ?_
  refine lv_land hx hb dX3_byteOf_9 ?_
  refine lv_l2i (v := ((p0 >>> ((8 : Int32).toInt64 &&& 63)) &&& 255).toInt32) hx hb dX3_byteOf_10 rfl ?_
  have hP9 := hP.sub (ws' := []) [] rfl
  have hD9 := hD.sub (ws' := []) [] (by decide) rfl
  exact W.iret (v := ((p0 >>> ((8 : Int32).toInt64 &&& 63)) &&& 255).toInt32) hx hb hr (fun t ht hW => ⟨⟨((p0 >>> ((8 : Int32).toInt64 &&& 63)) &&& 255).toInt32, 0, rfl, rfl, by rw [ht]; exact hP9, hD9⟩, hS.F ht⟩) hS.2.2 dX3_byteOf_11
set_option maxHeartbeats 4000000 in
set_option maxRecDepth 100000 in
theorem kX3_byteOf_57 (l : Launch) (g : zG) (sz : Nat) (p0 : Int64) : Met l yX3_byteOf (.code yX3_byteOf cX3_byteOf 3 (some .int) :: zBig) ({ frames := 0, cells := 0, slots := 0, locals := 0 }) (va_Pc [.long p0, .int 0] (zPre g [] sz)) (va_Qi (fun (r : Int32) (_ : Nat) => r = ((p0 >>> ((0 : Int32).toInt64 &&& 63)) &&& 255).toInt32) (zPost g (fun _ : Nat => []) (va_A [] sz)) (va_A [] sz)) 0 0 (va_A [] sz) := by
  refine zMetI rfl (Nat.le_of_ble_eq_true rfl) ?_
  intro p e s m args below meth c A ls hx hb hml hr hlocks hin hown hts hK hN hZ hP hD hA hS hAe hl
  have hown : s.vm.findClass RX3 = some m.cls := hown
  have hl : lv_has ls 3 [(0, .long p0), (2, .int 0)] := hl
  refine lv_lload_n hx hb dX3_byteOf_0 rfl (lv_at hl 0 rfl) ?_
  refine lv_bipush (v := 8) hx hb dX3_byteOf_1 (by decide) ?_
  refine lv_iload_n hx hb dX3_byteOf_3 rfl (lv_at hl 1 rfl) ?_
  refine lv_imul hx hb dX3_byteOf_4 ?_
  refine lv_topi (nm_r (e' := 0) (by decide +kernel) ?_)
  refine lv_lshr (v := (p0 >>> ((0 : Int32).toInt64 &&& 63))) hx hb dX3_byteOf_5 rfl ?_
  refine lv_ldc2 (v := 255) hx hb hown (hts _ m_k_RX3_23) dX3_byteOf_6 ?_
  refine lv_land hx hb dX3_byteOf_9 ?_
  refine lv_l2i (v := ((p0 >>> ((0 : Int32).toInt64 &&& 63)) &&& 255).toInt32) hx hb dX3_byteOf_10 rfl ?_
  have hP9 := hP.sub (ws' := []) [] rfl
  have hD9 := hD.sub (ws' := []) [] (by decide) rfl
  exact W.iret (v := ((p0 >>> ((0 : Int32).toInt64 &&& 63)) &&& 255).toInt32) hx hb hr (fun t ht hW => ⟨⟨((p0 >>> ((0 : Int32).toInt64 &&& 63)) &&& 255).toInt32, 0, rfl, rfl, by rw [ht]; exact hP9, hD9⟩, hS.F ht⟩) hS.2.2 dX3_byteOf_11
set_option maxHeartbeats 4000000 in
set_option maxRecDepth 100000 in
theorem kX3_byteOf_58 (l : Launch) (g : zG) (sz : Nat) (p0 : Int64) : Met l yX3_byteOf (.code yX3_byteOf cX3_byteOf 3 (some .int) :: zBig) ({ frames := 0, cells := 0, slots := 0, locals := 0 }) (va_Pc [.long p0, .int 6] (zPre g [] sz)) (va_Qi (fun (r : Int32) (_ : Nat) => r = ((p0 >>> ((48 : Int32).toInt64 &&& 63)) &&& 255).toInt32) (zPost g (fun _ : Nat => []) (va_A [] sz)) (va_A [] sz)) 0 0 (va_A [] sz) := by
  refine zMetI rfl (Nat.le_of_ble_eq_true rfl) ?_
  intro p e s m args below meth c A ls hx hb hml hr hlocks hin hown hts hK hN hZ hP hD hA hS hAe hl
  have hown : s.vm.findClass RX3 = some m.cls := hown
  have hl : lv_has ls 3 [(0, .long p0), (2, .int 6)] := hl
  refine lv_lload_n hx hb dX3_byteOf_0 rfl (lv_at hl 0 rfl) ?_
  refine lv_bipush (v := 8) hx hb dX3_byteOf_1 (by decide) ?_
  refine lv_iload_n hx hb dX3_byteOf_3 rfl (lv_at hl 1 rfl) ?_
  refine lv_imul hx hb dX3_byteOf_4 ?_
  refine lv_topi (nm_r (e' := 48) (by decide +kernel) ?_)
  refine lv_lshr (v := (p0 >>> ((48 : Int32).toInt64 &&& 63))) hx hb dX3_byteOf_5 rfl ?_
  refine lv_ldc2 (v := 255) hx hb hown (hts _ m_k_RX3_23) dX3_byteOf_6 ?_
  refine lv_land hx hb dX3_byteOf_9 ?_
  refine lv_l2i (v := ((p0 >>> ((48 : Int32).toInt64 &&& 63)) &&& 255).toInt32) hx hb dX3_byteOf_10 rfl ?_
  have hP9 := hP.sub (ws' := []) [] rfl
  have hD9 := hD.sub (ws' := []) [] (by decide) rfl
  exact W.iret (v := ((p0 >>> ((48 : Int32).toInt64 &&& 63)) &&& 255).toInt32) hx hb hr (fun t ht hW => ⟨⟨((p0 >>> ((48 : Int32).toInt64 &&& 63)) &&& 255).toInt32, 0, rfl, rfl, by rw [ht]; exact hP9, hD9⟩, hS.F ht⟩) hS.2.2 dX3_byteOf_11
set_option maxHeartbeats 4000000 in
set_option maxRecDepth 100000 in
theorem kX3_byteOf_59 (l : Launch) (g : zG) (sz : Nat) (p0 : Int64) : Met l yX3_byteOf (.code yX3_byteOf cX3_byteOf 3 (some .int) :: zBig) ({ frames := 0, cells := 0, slots := 0, locals := 0 }) (va_Pc [.long p0, .int 5] (zPre g [] sz)) (va_Qi (fun (r : Int32) (_ : Nat) => r = ((p0 >>> ((40 : Int32).toInt64 &&& 63)) &&& 255).toInt32) (zPost g (fun _ : Nat => []) (va_A [] sz)) (va_A [] sz)) 0 0 (va_A [] sz) := by
  refine zMetI rfl (Nat.le_of_ble_eq_true rfl) ?_
  intro p e s m args below meth c A ls hx hb hml hr hlocks hin hown hts hK hN hZ hP hD hA hS hAe hl
  have hown : s.vm.findClass RX3 = some m.cls := hown
  have hl : lv_has ls 3 [(0, .long p0), (2, .int 5)] := hl
  refine lv_lload_n hx hb dX3_byteOf_0 rfl (lv_at hl 0 rfl) ?_
  refine lv_bipush (v := 8) hx hb dX3_byteOf_1 (by decide) ?_
  refine lv_iload_n hx hb dX3_byteOf_3 rfl (lv_at hl 1 rfl) ?_
  refine lv_imul hx hb dX3_byteOf_4 ?_
  refine lv_topi (nm_r (e' := 40) (by decide +kernel) ?_)
  refine lv_lshr (v := (p0 >>> ((40 : Int32).toInt64 &&& 63))) hx hb dX3_byteOf_5 rfl ?_
  refine lv_ldc2 (v := 255) hx hb hown (hts _ m_k_RX3_23) dX3_byteOf_6 ?_
  refine lv_land hx hb dX3_byteOf_9 ?_
  refine lv_l2i (v := ((p0 >>> ((40 : Int32).toInt64 &&& 63)) &&& 255).toInt32) hx hb dX3_byteOf_10 rfl ?_
  have hP9 := hP.sub (ws' := []) [] rfl
  have hD9 := hD.sub (ws' := []) [] (by decide) rfl
  exact W.iret (v := ((p0 >>> ((40 : Int32).toInt64 &&& 63)) &&& 255).toInt32) hx hb hr (fun t ht hW => ⟨⟨((p0 >>> ((40 : Int32).toInt64 &&& 63)) &&& 255).toInt32, 0, rfl, rfl, by rw [ht]; exact hP9, hD9⟩, hS.F ht⟩) hS.2.2 dX3_byteOf_11
set_option maxHeartbeats 4000000 in
set_option maxRecDepth 100000 in
theorem kX3_byteOf_60 (l : Launch) (g : zG) (sz : Nat) (p0 : Int64) : Met l yX3_byteOf (.code yX3_byteOf cX3_byteOf 3 (some .int) :: zBig) ({ frames := 0, cells := 0, slots := 0, locals := 0 }) (va_Pc [.long p0, .int 4] (zPre g [] sz)) (va_Qi (fun (r : Int32) (_ : Nat) => r = ((p0 >>> ((32 : Int32).toInt64 &&& 63)) &&& 255).toInt32) (zPost g (fun _ : Nat => []) (va_A [] sz)) (va_A [] sz)) 0 0 (va_A [] sz) := by
  refine zMetI rfl (Nat.le_of_ble_eq_true rfl) ?_
  intro p e s m args below meth c A ls hx hb hml hr hlocks hin hown hts hK hN hZ hP hD hA hS hAe hl
  have hown : s.vm.findClass RX3 = some m.cls := hown
  have hl : lv_has ls 3 [(0, .long p0), (2, .int 4)] := hl
  refine lv_lload_n hx hb dX3_byteOf_0 rfl (lv_at hl 0 rfl) ?_
  refine lv_bipush (v := 8) hx hb dX3_byteOf_1 (by decide) ?_
  refine lv_iload_n hx hb dX3_byteOf_3 rfl (lv_at hl 1 rfl) ?_
  refine lv_imul hx hb dX3_byteOf_4 ?_
  refine lv_topi (nm_r (e' := 32) (by decide +kernel) ?_)
  refine lv_lshr (v := (p0 >>> ((32 : Int32).toInt64 &&& 63))) hx hb dX3_byteOf_5 rfl ?_
  refine lv_ldc2 (v := 255) hx hb hown (hts _ m_k_RX3_23) dX3_byteOf_6 ?_
  refine lv_land hx hb dX3_byteOf_9 ?_
  refine lv_l2i (v := ((p0 >>> ((32 : Int32).toInt64 &&& 63)) &&& 255).toInt32) hx hb dX3_byteOf_10 rfl ?_
  have hP9 := hP.sub (ws' := []) [] rfl
  have hD9 := hD.sub (ws' := []) [] (by decide) rfl
  exact W.iret (v := ((p0 >>> ((32 : Int32).toInt64 &&& 63)) &&& 255).toInt32) hx hb hr (fun t ht hW => ⟨⟨((p0 >>> ((32 : Int32).toInt64 &&& 63)) &&& 255).toInt32, 0, rfl, rfl, by rw [ht]; exact hP9, hD9⟩, hS.F ht⟩) hS.2.2 dX3_byteOf_11
