set_option maxHeartbeats 4000000 in
set_option maxRecDepth 100000 in
theorem kX4_isLane_2 (l : Launch) (g : zG) (sz : Nat) (p0 : Int32) : Met l yX4_isLane (.code yX4_isLane cX4_isLane 1 (some .boolean) :: zBig) ({ frames := 0, cells := 0, slots := 0, locals := 0 }) (va_Pc [.int p0] (zPre g [] sz)) (va_Qi (fun (r : Int32) (_ : Nat) => (p0.toInt < 0 ∧ r = 0) ∨ (0 ≤ p0.toInt ∧ 3 ≤ p0.toInt ∧ r = 0) ∨ (0 ≤ p0.toInt ∧ p0.toInt < 3 ∧ r = 1)) (zPost g (fun _ : Nat => []) (va_A [] sz)) (va_A [] sz)) 0 0 (va_A [] sz) := by
  refine zMetI rfl (Nat.le_of_ble_eq_true rfl) ?_
  intro p e s m args below meth c A ls hx hb hml hr hlocks hin hown hts hK hN hZ hP hD hA hS hAe hl
  have hown : s.vm.findClass RX4 = some m.cls := hown
  have hl : lv_has ls 1 [(0, .int p0)] := hl
  refine lv_iload_n hx hb dX4_isLane_0 rfl (lv_at hl 0 rfl) ?_
  refine lv_if_lt (tgt := 13) hx hb dX4_isLane_1 (by decide) (fun c_0 => ?_) (fun c_0 => ?_)
  · have i_0 : p0.toInt < 0 := z_lt (rfl) (rfl) c_0
    refine lv_iconst (v := 0) hx hb dX4_isLane_13 (by decide) ?_
    have hP9 := hP.sub (ws' := []) [] rfl
    have hD9 := hD.sub (ws' := []) [] (by decide) rfl
    exact W.zret (v := 0) hx hb hr (by decide) (fun t ht hW => ⟨⟨0, 0, rfl, Or.inl ⟨i_0, rfl⟩, by rw [ht]; exact hP9, hD9⟩, hS.F ht⟩) hS.2.2 dX4_isLane_14
  · have i_0 : 0 ≤ p0.toInt := z_nlt (rfl) (rfl) c_0
    refine lv_iload_n hx hb dX4_isLane_4 rfl (lv_at hl 0 rfl) ?_
    refine lv_iconst (v := 3) hx hb dX4_isLane_5 (by decide) ?_
    refine lv_icmp_ge (tgt := 13) hx hb dX4_isLane_6 (by decide) (fun c_1 => ?_) (fun c_1 => ?_)
    · have i_1 : 3 ≤ p0.toInt := z_le (rfl) (rfl) c_1
      refine lv_iconst (v := 0) hx hb dX4_isLane_13 (by decide) ?_
      have hP9 := hP.sub (ws' := []) [] rfl
      have hD9 := hD.sub (ws' := []) [] (by decide) rfl
      exact W.zret (v := 0) hx hb hr (by decide) (fun t ht hW => ⟨⟨0, 0, rfl, Or.inr (Or.inl ⟨i_0, i_1, rfl⟩), by rw [ht]; exact hP9, hD9⟩, hS.F ht⟩) hS.2.2 dX4_isLane_14
    · have i_1 : p0.toInt < 3 := z_nle (rfl) (rfl) c_1
      refine lv_iconst (v := 1) hx hb dX4_isLane_9 (by decide) ?_
      refine lv_goto (tgt := 14) hx hb dX4_isLane_10 (by decide) ?_
      have hP9 := hP.sub (ws' := []) [] rfl
      have hD9 := hD.sub (ws' := []) [] (by decide) rfl
      exact W.zret (v := 1) hx hb hr (by decide) (fun t ht hW => ⟨⟨1, 0, rfl, Or.inr (Or.inr (⟨i_0, i_1, rfl⟩)), by rw [ht]; exact hP9, hD9⟩, hS.F ht⟩) hS.2.2 dX4_isLane_14
set_option maxHeartbeats 4000000 in
set_option maxRecDepth 100000 in
theorem kX1_refuse (l : Launch) (g : zG) (h0 h38 h39 h40 : Nat) (sz : Nat) (p1 : Int32) (p2 : Int32) (p3 : Int32) : Met l yX1_refuse (.code yX1_refuse cX1_refuse 5 (some .int) :: zBig) ({ frames := 1, cells := 0, slots := 0, locals := 20 }) (va_Pc [.ref h0, .int p1, .int p2, .int p3, .int 0] (zPre g [(h0, .inr (1, [.ref h38, .ref h39, .ref h40])), (h38, .inl (zI g, 4, .inl (upd (upd (upd (upd (fun _ => 0) 0 (-1)) 1 (-1)) 2 (-1)) 3 (-1))))] sz)) (va_Qi (fun (r : Int32) (_ : Nat) => (p1.toInt < 0 ∧ r = (-1)) ∨ (0 ≤ p1.toInt ∧ 4 ≤ p1.toInt ∧ r = (-1)) ∨ (0 ≤ p1.toInt ∧ p1.toInt < 4 ∧ p2.toInt < 0 ∧ r = (-1)) ∨ (0 ≤ p1.toInt ∧ p1.toInt < 4 ∧ 0 ≤ p2.toInt ∧ 3 ≤ p2.toInt ∧ r = (-1)) ∨ (0 ≤ p1.toInt ∧ p1.toInt < 4 ∧ 0 ≤ p2.toInt ∧ p2.toInt < 3 ∧ p1.toInt = 0 ∧ r = (-11)) ∨ (0 ≤ p1.toInt ∧ p1.toInt < 4 ∧ 0 ≤ p2.toInt ∧ p2.toInt < 3 ∧ p1.toInt = 1 ∧ r = (-11)) ∨ (0 ≤ p1.toInt ∧ p1.toInt < 4 ∧ 0 ≤ p2.toInt ∧ p2.toInt < 3 ∧ p1.toInt = 2 ∧ r = (-11)) ∨ (0 ≤ p1.toInt ∧ p1.toInt < 4 ∧ 0 ≤ p2.toInt ∧ p2.toInt < 3 ∧ p1.toInt = 3 ∧ r = (-11))) (zPost g (fun _ : Nat => [(h0, .inr (1, [.ref h38, .ref h39, .ref h40])), (h38, .inl (zI g, 4, .inl (upd (upd (upd (upd (fun _ => 0) 0 (-1)) 1 (-1)) 2 (-1)) 3 (-1))))]) (va_A [(h0, .inr (1, [.ref h38, .ref h39, .ref h40])), (h38, .inl (zI g, 4, .inl (upd (upd (upd (upd (fun _ => 0) 0 (-1)) 1 (-1)) 2 (-1)) 3 (-1))))] sz)) (va_A [(h0, .inr (1, [.ref h38, .ref h39, .ref h40])), (h38, .inl (zI g, 4, .inl (upd (upd (upd (upd (fun _ => 0) 0 (-1)) 1 (-1)) 2 (-1)) 3 (-1))))] sz)) 0 0 (va_A [(h0, .inr (1, [.ref h38, .ref h39, .ref h40])), (h38, .inl (zI g, 4, .inl (upd (upd (upd (upd (fun _ => 0) 0 (-1)) 1 (-1)) 2 (-1)) 3 (-1))))] sz) := by
  refine zMetI rfl (Nat.le_of_ble_eq_true rfl) ?_
  intro p e s m args below meth c A ls hx hb hml hr hlocks hin hown hts hK hN hZ hP hD hA hS hAe hl
  have hown : s.vm.findClass RX1 = some m.cls := hown
  have hl : lv_has ls 5 [(0, .ref h0), (1, .int p1), (2, .int p2), (3, .int p3), (4, .int 0)] := hl
  refine lv_iload_n hx hb dX1_refuse_0 rfl (lv_at hl 1 rfl) ?_
  refine z_calli (wr := [(h0, .inr (1, [.ref h38, .ref h39, .ref h40])), (h38, .inl (zI g, 4, .inl (upd (upd (upd (upd (fun _ => 0) 0 (-1)) 1 (-1)) 2 (-1)) 3 (-1))))]) hP hD hS hA [] [0, 1] (by decide) rfl rfl (by decide) (va_runSN (As := [.int p1]) (rest := []) ⟨hx, hb, hml, hown, hts⟩ (kX4_isSheet_2 l g  s.heap.size p1) ⟨va_cnB 1 hts (zGood m_o_yX4_isSheet) rfl rfl rfl (hN.m 29 (q := (RX1, 22, yX4_isSheet)) rfl) (hts _ m_z_RX4) ⟨by decide +kernel, by decide +kernel, by decide +kernel⟩ ⟨Nat.le_of_ble_eq_true rfl, Nat.le_of_ble_eq_true rfl⟩, hts _ m_s_yX4_isSheet, trivial⟩ (zPreS hK hN hZ hP hD hS hA [] (by decide) rfl rfl) rfl rfl hl.1 rfl (lv_room (Nat.le_of_ble_eq_true rfl)) dX1_refuse_1 ⟨Nat.le_of_ble_eq_true rfl, Nat.le_of_ble_eq_true rfl⟩) (fun r u H locs hw hP hD hS => ?_)
  rcases hw with ⟨i_0, rfl⟩ | ⟨i_1, i_2, rfl⟩ | ⟨i_3, i_4, rfl⟩
  · skip
    have i_0 : p1.toInt < 0 := i_0
    have hP : va_P g.1 vwCl [(h0, .inr (1, [.ref h38, .ref h39, .ref h40])), (h38, .inl (zI g, 4, .inl (upd (upd (upd (upd (fun _ => 0) 0 (-1)) 1 (-1)) 2 (-1)) 3 (-1))))] H := hP
    have hD : va_D A [(h0, .inr (1, [.ref h38, .ref h39, .ref h40])), (h38, .inl (zI g, 4, .inl (upd (upd (upd (upd (fun _ => 0) 0 (-1)) 1 (-1)) 2 (-1)) 3 (-1))))] := hD
    refine lv_if_eq (tgt := 14) hx hb dX1_refuse_4 (by decide) (fun _ => ?_) (fun h => absurd h (by decide +kernel))
    refine lv_iconst (v := (-1)) hx hb dX1_refuse_14 (by decide) ?_
    have hP9 := hP.sub (ws' := [(h0, .inr (1, [.ref h38, .ref h39, .ref h40])), (h38, .inl (zI g, 4, .inl (upd (upd (upd (upd (fun _ => 0) 0 (-1)) 1 (-1)) 2 (-1)) 3 (-1))))]) [0, 1] rfl
    have hD9 := hD.sub (ws' := [(h0, .inr (1, [.ref h38, .ref h39, .ref h40])), (h38, .inl (zI g, 4, .inl (upd (upd (upd (upd (fun _ => 0) 0 (-1)) 1 (-1)) 2 (-1)) 3 (-1))))]) [0, 1] (by decide) rfl
    exact W.iret (v := (-1)) hx hb hr (fun t ht hW => ⟨⟨(-1), 0, rfl, Or.inl ⟨i_0, rfl⟩, by rw [ht]; exact hP9, hD9⟩, hS.F ht⟩) hS.2.2 dX1_refuse_15
  · skip
    have i_1 : 0 ≤ p1.toInt := i_1
    have i_2 : 4 ≤ p1.toInt := i_2
    have hP : va_P g.1 vwCl [(h0, .inr (1, [.ref h38, .ref h39, .ref h40])), (h38, .inl (zI g, 4, .inl (upd (upd (upd (upd (fun _ => 0) 0 (-1)) 1 (-1)) 2 (-1)) 3 (-1))))] H := hP
    have hD : va_D A [(h0, .inr (1, [.ref h38, .ref h39, .ref h40])), (h38, .inl (zI g, 4, .inl (upd (upd (upd (upd (fun _ => 0) 0 (-1)) 1 (-1)) 2 (-1)) 3 (-1))))] := hD
    refine lv_if_eq (tgt := 14) hx hb dX1_refuse_4 (by decide) (fun _ => ?_) (fun h => absurd h (by decide +kernel))
    refine lv_iconst (v := (-1)) hx hb dX1_refuse_14 (by decide) ?_
    have hP9 := hP.sub (ws' := [(h0, .inr (1, [.ref h38, .ref h39, .ref h40])), (h38, .inl (zI g, 4, .inl (upd (upd (upd (upd (fun _ => 0) 0 (-1)) 1 (-1)) 2 (-1)) 3 (-1))))]) [0, 1] rfl
    have hD9 := hD.sub (ws' := [(h0, .inr (1, [.ref h38, .ref h39, .ref h40])), (h38, .inl (zI g, 4, .inl (upd (upd (upd (upd (fun _ => 0) 0 (-1)) 1 (-1)) 2 (-1)) 3 (-1))))]) [0, 1] (by decide) rfl
    exact W.iret (v := (-1)) hx hb hr (fun t ht hW => ⟨⟨(-1), 0, rfl, Or.inr (Or.inl ⟨i_1, i_2, rfl⟩), by rw [ht]; exact hP9, hD9⟩, hS.F ht⟩) hS.2.2 dX1_refuse_15
  · skip
    have i_3 : 0 ≤ p1.toInt := i_3
    have i_4 : p1.toInt < 4 := i_4
    have hP : va_P g.1 vwCl [(h0, .inr (1, [.ref h38, .ref h39, .ref h40])), (h38, .inl (zI g, 4, .inl (upd (upd (upd (upd (fun _ => 0) 0 (-1)) 1 (-1)) 2 (-1)) 3 (-1))))] H := hP
    have hD : va_D A [(h0, .inr (1, [.ref h38, .ref h39, .ref h40])), (h38, .inl (zI g, 4, .inl (upd (upd (upd (upd (fun _ => 0) 0 (-1)) 1 (-1)) 2 (-1)) 3 (-1))))] := hD
    refine lv_if_eq (tgt := 14) hx hb dX1_refuse_4 (by decide) (fun h => absurd h (by decide +kernel)) (fun _ => ?_)
    refine lv_iload_n hx hb dX1_refuse_7 rfl (lv_at hl 2 rfl) ?_
    refine z_calli (wr := [(h0, .inr (1, [.ref h38, .ref h39, .ref h40])), (h38, .inl (zI g, 4, .inl (upd (upd (upd (upd (fun _ => 0) 0 (-1)) 1 (-1)) 2 (-1)) 3 (-1))))]) hP hD hS hA [] [0, 1] (by decide) rfl rfl (by decide) (va_runSN (As := [.int p2]) (rest := []) ⟨hx, hb, hml, hown, hts⟩ (kX4_isLane_2 l g  H.size p2) ⟨va_cnB 1 hts (zGood m_o_yX4_isLane) rfl rfl rfl (hN.m 30 (q := (RX1, 26, yX4_isLane)) rfl) (hts _ m_z_RX4) ⟨by decide +kernel, by decide +kernel, by decide +kernel⟩ ⟨Nat.le_of_ble_eq_true rfl, Nat.le_of_ble_eq_true rfl⟩, hts _ m_s_yX4_isLane, trivial⟩ (zPreS hK hN hZ hP hD hS hA [] (by decide) rfl rfl) rfl rfl hl.1 rfl (lv_room (Nat.le_of_ble_eq_true rfl)) dX1_refuse_8 ⟨Nat.le_of_ble_eq_true rfl, Nat.le_of_ble_eq_true rfl⟩) (fun r u H locs hw hP hD hS => ?_)
    rcases hw with ⟨i_5, rfl⟩ | ⟨i_6, i_7, rfl⟩ | ⟨i_8, i_9, rfl⟩
    · skip
      have i_5 : p2.toInt < 0 := i_5
      have hP : va_P g.1 vwCl [(h0, .inr (1, [.ref h38, .ref h39, .ref h40])), (h38, .inl (zI g, 4, .inl (upd (upd (upd (upd (fun _ => 0) 0 (-1)) 1 (-1)) 2 (-1)) 3 (-1))))] H := hP
      have hD : va_D A [(h0, .inr (1, [.ref h38, .ref h39, .ref h40])), (h38, .inl (zI g, 4, .inl (upd (upd (upd (upd (fun _ => 0) 0 (-1)) 1 (-1)) 2 (-1)) 3 (-1))))] := hD
      refine lv_if_ne (tgt := 16) hx hb dX1_refuse_11 (by decide) (fun h => absurd h (by decide +kernel)) (fun _ => ?_)
      refine lv_iconst (v := (-1)) hx hb dX1_refuse_14 (by decide) ?_
      have hP9 := hP.sub (ws' := [(h0, .inr (1, [.ref h38, .ref h39, .ref h40])), (h38, .inl (zI g, 4, .inl (upd (upd (upd (upd (fun _ => 0) 0 (-1)) 1 (-1)) 2 (-1)) 3 (-1))))]) [0, 1] rfl
      have hD9 := hD.sub (ws' := [(h0, .inr (1, [.ref h38, .ref h39, .ref h40])), (h38, .inl (zI g, 4, .inl (upd (upd (upd (upd (fun _ => 0) 0 (-1)) 1 (-1)) 2 (-1)) 3 (-1))))]) [0, 1] (by decide) rfl
      exact W.iret (v := (-1)) hx hb hr (fun t ht hW => ⟨⟨(-1), 0, rfl, Or.inr (Or.inr (Or.inl ⟨i_3, i_4, i_5, rfl⟩)), by rw [ht]; exact hP9, hD9⟩, hS.F ht⟩) hS.2.2 dX1_refuse_15
    · skip
      have i_6 : 0 ≤ p2.toInt := i_6
      have i_7 : 3 ≤ p2.toInt := i_7
      have hP : va_P g.1 vwCl [(h0, .inr (1, [.ref h38, .ref h39, .ref h40])), (h38, .inl (zI g, 4, .inl (upd (upd (upd (upd (fun _ => 0) 0 (-1)) 1 (-1)) 2 (-1)) 3 (-1))))] H := hP
      have hD : va_D A [(h0, .inr (1, [.ref h38, .ref h39, .ref h40])), (h38, .inl (zI g, 4, .inl (upd (upd (upd (upd (fun _ => 0) 0 (-1)) 1 (-1)) 2 (-1)) 3 (-1))))] := hD
      refine lv_if_ne (tgt := 16) hx hb dX1_refuse_11 (by decide) (fun h => absurd h (by decide +kernel)) (fun _ => ?_)
      refine lv_iconst (v := (-1)) hx hb dX1_refuse_14 (by decide) ?_
      have hP9 := hP.sub (ws' := [(h0, .inr (1, [.ref h38, .ref h39, .ref h40])), (h38, .inl (zI g, 4, .inl (upd (upd (upd (upd (fun _ => 0) 0 (-1)) 1 (-1)) 2 (-1)) 3 (-1))))]) [0, 1] rfl
      have hD9 := hD.sub (ws' := [(h0, .inr (1, [.ref h38, .ref h39, .ref h40])), (h38, .inl (zI g, 4, .inl (upd (upd (upd (upd (fun _ => 0) 0 (-1)) 1 (-1)) 2 (-1)) 3 (-1))))]) [0, 1] (by decide) rfl
      exact W.iret (v := (-1)) hx hb hr (fun t ht hW => ⟨⟨(-1), 0, rfl, Or.inr (Or.inr (Or.inr (Or.inl ⟨i_3, i_4, i_6, i_7, rfl⟩))), by rw [ht]; exact hP9, hD9⟩, hS.F ht⟩) hS.2.2 dX1_refuse_15
    · skip
      have i_8 : 0 ≤ p2.toInt := i_8
      have i_9 : p2.toInt < 3 := i_9
      have hP : va_P g.1 vwCl [(h0, .inr (1, [.ref h38, .ref h39, .ref h40])), (h38, .inl (zI g, 4, .inl (upd (upd (upd (upd (fun _ => 0) 0 (-1)) 1 (-1)) 2 (-1)) 3 (-1))))] H := hP
      have hD : va_D A [(h0, .inr (1, [.ref h38, .ref h39, .ref h40])), (h38, .inl (zI g, 4, .inl (upd (upd (upd (upd (fun _ => 0) 0 (-1)) 1 (-1)) 2 (-1)) 3 (-1))))] := hD
      refine lv_if_ne (tgt := 16) hx hb dX1_refuse_11 (by decide) (fun _ => ?_) (fun h => absurd h (by decide +kernel))
      refine lv_aload_n hx hb dX1_refuse_16 rfl (lv_at hl 0 rfl) ?_
      refine va_get (D := g.1) (ci := 1) (v := .ref h38) (C := RX1) (T := TX1) (N := 3) hx hb hts zl_X1 hown hK hP 0 rfl rfl 0 (by decide) (hts _ m_f_RX1_9) (fun _ h => h) rfl dX1_refuse_17 ?_
      refine lv_iload_n hx hb dX1_refuse_20 rfl (lv_at hl 1 rfl) ?_
      rcases (show p1.toInt = 0 ∨ p1.toInt = 1 ∨ p1.toInt = 2 ∨ p1.toInt = 3 by omega) with j_10 | j_10 | j_10 | j_10
      · obtain rfl : p1 = 0 := Int32.toInt_inj.mp (show p1.toInt = (0 : Int32).toInt from j_10.trans rfl)
        refine va_iald (D := g.1) hx hb hK hP 1 0 rfl rfl (vp_in_iff.mpr (by decide +kernel)) dX1_refuse_21 ?_
        refine lv_topi (nm_r (e' := (-1)) (by rfl) ?_)
        refine lv_if_ge (tgt := 28) hx hb dX1_refuse_22 (by decide) (fun h => absurd h (by decide +kernel)) (fun _ => ?_)
        refine lv_bipush (v := (-11)) hx hb dX1_refuse_25 (by decide) ?_
        have hP9 := hP.sub (ws' := [(h0, .inr (1, [.ref h38, .ref h39, .ref h40])), (h38, .inl (zI g, 4, .inl (upd (upd (upd (upd (fun _ => 0) 0 (-1)) 1 (-1)) 2 (-1)) 3 (-1))))]) [0, 1] rfl
        have hD9 := hD.sub (ws' := [(h0, .inr (1, [.ref h38, .ref h39, .ref h40])), (h38, .inl (zI g, 4, .inl (upd (upd (upd (upd (fun _ => 0) 0 (-1)) 1 (-1)) 2 (-1)) 3 (-1))))]) [0, 1] (by decide) rfl
        exact W.iret (v := (-11)) hx hb hr (fun t ht hW => ⟨⟨(-11), 0, rfl, Or.inr (Or.inr (Or.inr (Or.inr (Or.inl ⟨i_3, i_4, i_8, i_9, j_10, rfl⟩)))), by rw [ht]; exact hP9, hD9⟩, hS.F ht⟩) hS.2.2 dX1_refuse_27
      · obtain rfl : p1 = 1 := Int32.toInt_inj.mp (show p1.toInt = (1 : Int32).toInt from j_10.trans rfl)
        refine va_iald (D := g.1) hx hb hK hP 1 0 rfl rfl (vp_in_iff.mpr (by decide +kernel)) dX1_refuse_21 ?_
        refine lv_topi (nm_r (e' := (-1)) (by rfl) ?_)
        refine lv_if_ge (tgt := 28) hx hb dX1_refuse_22 (by decide) (fun h => absurd h (by decide +kernel)) (fun _ => ?_)
        refine lv_bipush (v := (-11)) hx hb dX1_refuse_25 (by decide) ?_
        have hP9 := hP.sub (ws' := [(h0, .inr (1, [.ref h38, .ref h39, .ref h40])), (h38, .inl (zI g, 4, .inl (upd (upd (upd (upd (fun _ => 0) 0 (-1)) 1 (-1)) 2 (-1)) 3 (-1))))]) [0, 1] rfl
        have hD9 := hD.sub (ws' := [(h0, .inr (1, [.ref h38, .ref h39, .ref h40])), (h38, .inl (zI g, 4, .inl (upd (upd (upd (upd (fun _ => 0) 0 (-1)) 1 (-1)) 2 (-1)) 3 (-1))))]) [0, 1] (by decide) rfl
        exact W.iret (v := (-11)) hx hb hr (fun t ht hW => ⟨⟨(-11), 0, rfl, Or.inr (Or.inr (Or.inr (Or.inr (Or.inr (Or.inl ⟨i_3, i_4, i_8, i_9, j_10, rfl⟩))))), by rw [ht]; exact hP9, hD9⟩, hS.F ht⟩) hS.2.2 dX1_refuse_27
      · obtain rfl : p1 = 2 := Int32.toInt_inj.mp (show p1.toInt = (2 : Int32).toInt from j_10.trans rfl)
        refine va_iald (D := g.1) hx hb hK hP 1 0 rfl rfl (vp_in_iff.mpr (by decide +kernel)) dX1_refuse_21 ?_
        refine lv_topi (nm_r (e' := (-1)) (by rfl) ?_)
        refine lv_if_ge (tgt := 28) hx hb dX1_refuse_22 (by decide) (fun h => absurd h (by decide +kernel)) (fun _ => ?_)
        refine lv_bipush (v := (-11)) hx hb dX1_refuse_25 (by decide) ?_
        have hP9 := hP.sub (ws' := [(h0, .inr (1, [.ref h38, .ref h39, .ref h40])), (h38, .inl (zI g, 4, .inl (upd (upd (upd (upd (fun _ => 0) 0 (-1)) 1 (-1)) 2 (-1)) 3 (-1))))]) [0, 1] rfl
        have hD9 := hD.sub (ws' := [(h0, .inr (1, [.ref h38, .ref h39, .ref h40])), (h38, .inl (zI g, 4, .inl (upd (upd (upd (upd (fun _ => 0) 0 (-1)) 1 (-1)) 2 (-1)) 3 (-1))))]) [0, 1] (by decide) rfl
        exact W.iret (v := (-11)) hx hb hr (fun t ht hW => ⟨⟨(-11), 0, rfl, Or.inr (Or.inr (Or.inr (Or.inr (Or.inr (Or.inr (Or.inl ⟨i_3, i_4, i_8, i_9, j_10, rfl⟩)))))), by rw [ht]; exact hP9, hD9⟩, hS.F ht⟩) hS.2.2 dX1_refuse_27
      · obtain rfl : p1 = 3 := Int32.toInt_inj.mp (show p1.toInt = (3 : Int32).toInt from j_10.trans rfl)
        refine va_iald (D := g.1) hx hb hK hP 1 0 rfl rfl (vp_in_iff.mpr (by decide +kernel)) dX1_refuse_21 ?_
        refine lv_topi (nm_r (e' := (-1)) (by rfl) ?_)
        refine lv_if_ge (tgt := 28) hx hb dX1_refuse_22 (by decide) (fun h => absurd h (by decide +kernel)) (fun _ => ?_)
        refine lv_bipush (v := (-11)) hx hb dX1_refuse_25 (by decide) ?_
        have hP9 := hP.sub (ws' := [(h0, .inr (1, [.ref h38, .ref h39, .ref h40])), (h38, .inl (zI g, 4, .inl (upd (upd (upd (upd (fun _ => 0) 0 (-1)) 1 (-1)) 2 (-1)) 3 (-1))))]) [0, 1] rfl
        have hD9 := hD.sub (ws' := [(h0, .inr (1, [.ref h38, .ref h39, .ref h40])), (h38, .inl (zI g, 4, .inl (upd (upd (upd (upd (fun _ => 0) 0 (-1)) 1 (-1)) 2 (-1)) 3 (-1))))]) [0, 1] (by decide) rfl
        exact W.iret (v := (-11)) hx hb hr (fun t ht hW => ⟨⟨(-11), 0, rfl, Or.inr (Or.inr (Or.inr (Or.inr (Or.inr (Or.inr (Or.inr (⟨i_3, i_4, i_8, i_9, j_10, rfl⟩))))))), by rw [ht]; exact hP9, hD9⟩, hS.F ht⟩) hS.2.2 dX1_refuse_27
set_option maxHeartbeats 4000000 in
set_option maxRecDepth 100000 in
theorem kX4_isSheet_3 (l : Launch) (g : zG) (sz : Nat) (p0 : Int32) : Met l yX4_isSheet (.code yX4_isSheet cX4_isSheet 1 (some .boolean) :: zBig) ({ frames := 0, cells := 0, slots := 0, locals := 0 }) (va_Pc [.int p0] (zPre g [] sz)) (va_Qi (fun (r : Int32) (_ : Nat) => (p0.toInt < 0 ∧ r = 0) ∨ (0 ≤ p0.toInt ∧ 4 ≤ p0.toInt ∧ r = 0) ∨ (0 ≤ p0.toInt ∧ p0.toInt < 4 ∧ r = 1)) (zPost g (fun _ : Nat => []) (va_A [] sz)) (va_A [] sz)) 0 0 (va_A [] sz) := by
  refine zMetI rfl (Nat.le_of_ble_eq_true rfl) ?_
  intro p e s m args below meth c A ls hx hb hml hr hlocks hin hown hts hK hN hZ hP hD hA hS hAe hl
  have hown : s.vm.findClass RX4 = some m.cls := hown
  have hl : lv_has ls 1 [(0, .int p0)] := hl
  refine lv_iload_n hx hb dX4_isSheet_0 rfl (lv_at hl 0 rfl) ?_
  refine lv_if_lt (tgt := 13) hx hb dX4_isSheet_1 (by decide) (fun c_0 => ?_) (fun c_0 => ?_)
  · have i_0 : p0.toInt < 0 := z_lt (rfl) (rfl) c_0
    refine lv_iconst (v := 0) hx hb dX4_isSheet_13 (by decide) ?_
    have hP9 := hP.sub (ws' := []) [] rfl
    have hD9 := hD.sub (ws' := []) [] (by decide) rfl
    exact W.zret (v := 0) hx hb hr (by decide) (fun t ht hW => ⟨⟨0, 0, rfl, Or.inl ⟨i_0, rfl⟩, by rw [ht]; exact hP9, hD9⟩, hS.F ht⟩) hS.2.2 dX4_isSheet_14
  · have i_0 : 0 ≤ p0.toInt := z_nlt (rfl) (rfl) c_0
    refine lv_iload_n hx hb dX4_isSheet_4 rfl (lv_at hl 0 rfl) ?_
    refine lv_iconst (v := 4) hx hb dX4_isSheet_5 (by decide) ?_
    refine lv_icmp_ge (tgt := 13) hx hb dX4_isSheet_6 (by decide) (fun c_1 => ?_) (fun c_1 => ?_)
    · have i_1 : 4 ≤ p0.toInt := z_le (rfl) (rfl) c_1
      refine lv_iconst (v := 0) hx hb dX4_isSheet_13 (by decide) ?_
      have hP9 := hP.sub (ws' := []) [] rfl
      have hD9 := hD.sub (ws' := []) [] (by decide) rfl
      exact W.zret (v := 0) hx hb hr (by decide) (fun t ht hW => ⟨⟨0, 0, rfl, Or.inr (Or.inl ⟨i_0, i_1, rfl⟩), by rw [ht]; exact hP9, hD9⟩, hS.F ht⟩) hS.2.2 dX4_isSheet_14
    · have i_1 : p0.toInt < 4 := z_nle (rfl) (rfl) c_1
      refine lv_iconst (v := 1) hx hb dX4_isSheet_9 (by decide) ?_
      refine lv_goto (tgt := 14) hx hb dX4_isSheet_10 (by decide) ?_
      have hP9 := hP.sub (ws' := []) [] rfl
      have hD9 := hD.sub (ws' := []) [] (by decide) rfl
      exact W.zret (v := 1) hx hb hr (by decide) (fun t ht hW => ⟨⟨1, 0, rfl, Or.inr (Or.inr (⟨i_0, i_1, rfl⟩)), by rw [ht]; exact hP9, hD9⟩, hS.F ht⟩) hS.2.2 dX4_isSheet_14
set_option maxHeartbeats 4000000 in
set_option maxRecDepth 100000 in
theorem kX4_isLane_3 (l : Launch) (g : zG) (sz : Nat) (p0 : Int32) : Met l yX4_isLane (.code yX4_isLane cX4_isLane 1 (some .boolean) :: zBig) ({ frames := 0, cells := 0, slots := 0, locals := 0 }) (va_Pc [.int p0] (zPre g [] sz)) (va_Qi (fun (r : Int32) (_ : Nat) => (p0.toInt < 0 ∧ r = 0) ∨ (0 ≤ p0.toInt ∧ 3 ≤ p0.toInt ∧ r = 0) ∨ (0 ≤ p0.toInt ∧ p0.toInt < 3 ∧ r = 1)) (zPost g (fun _ : Nat => []) (va_A [] sz)) (va_A [] sz)) 0 0 (va_A [] sz) := by
  refine zMetI rfl (Nat.le_of_ble_eq_true rfl) ?_
  intro p e s m args below meth c A ls hx hb hml hr hlocks hin hown hts hK hN hZ hP hD hA hS hAe hl
  have hown : s.vm.findClass RX4 = some m.cls := hown
  have hl : lv_has ls 1 [(0, .int p0)] := hl
  refine lv_iload_n hx hb dX4_isLane_0 rfl (lv_at hl 0 rfl) ?_
  refine lv_if_lt (tgt := 13) hx hb dX4_isLane_1 (by decide) (fun c_0 => ?_) (fun c_0 => ?_)
  · have i_0 : p0.toInt < 0 := z_lt (rfl) (rfl) c_0
    refine lv_iconst (v := 0) hx hb dX4_isLane_13 (by decide) ?_
    have hP9 := hP.sub (ws' := []) [] rfl
    have hD9 := hD.sub (ws' := []) [] (by decide) rfl
    exact W.zret (v := 0) hx hb hr (by decide) (fun t ht hW => ⟨⟨0, 0, rfl, Or.inl ⟨i_0, rfl⟩, by rw [ht]; exact hP9, hD9⟩, hS.F ht⟩) hS.2.2 dX4_isLane_14
  · have i_0 : 0 ≤ p0.toInt := z_nlt (rfl) (rfl) c_0
    refine lv_iload_n hx hb dX4_isLane_4 rfl (lv_at hl 0 rfl) ?_
    refine lv_iconst (v := 3) hx hb dX4_isLane_5 (by decide) ?_
    refine lv_icmp_ge (tgt := 13) hx hb dX4_isLane_6 (by decide) (fun c_1 => ?_) (fun c_1 => ?_)
    · have i_1 : 3 ≤ p0.toInt := z_le (rfl) (rfl) c_1
      refine lv_iconst (v := 0) hx hb dX4_isLane_13 (by decide) ?_
      have hP9 := hP.sub (ws' := []) [] rfl
      have hD9 := hD.sub (ws' := []) [] (by decide) rfl
      exact W.zret (v := 0) hx hb hr (by decide) (fun t ht hW => ⟨⟨0, 0, rfl, Or.inr (Or.inl ⟨i_0, i_1, rfl⟩), by rw [ht]; exact hP9, hD9⟩, hS.F ht⟩) hS.2.2 dX4_isLane_14
    · have i_1 : p0.toInt < 3 := z_nle (rfl) (rfl) c_1
      refine lv_iconst (v := 1) hx hb dX4_isLane_9 (by decide) ?_
      refine lv_goto (tgt := 14) hx hb dX4_isLane_10 (by decide) ?_
      have hP9 := hP.sub (ws' := []) [] rfl
      have hD9 := hD.sub (ws' := []) [] (by decide) rfl
      exact W.zret (v := 1) hx hb hr (by decide) (fun t ht hW => ⟨⟨1, 0, rfl, Or.inr (Or.inr (⟨i_0, i_1, rfl⟩)), by rw [ht]; exact hP9, hD9⟩, hS.F ht⟩) hS.2.2 dX4_isLane_14
set_option maxHeartbeats 4000000 in
set_option maxRecDepth 100000 in
theorem kX1_refuse_2 (l : Launch) (g : zG) (h0 h19 h20 h21 : Nat) (sz : Nat) (p1 : Int32) (p2 : Int32) (p3 : Int32) : Met l yX1_refuse (.code yX1_refuse cX1_refuse 5 (some .int) :: zBig) ({ frames := 1, cells := 0, slots := 0, locals := 20 }) (va_Pc [.ref h0, .int p1, .int p2, .int p3, .int 0] (zPre g [(h0, .inr (1, [.ref h19, .ref h20, .ref h21])), (h19, .inl (zI g, 4, .inl (upd (upd (upd (upd (fun _ => 0) 0 (-1)) 1 (-1)) 2 (-1)) 3 (-1))))] sz)) (va_Qi (fun (r : Int32) (_ : Nat) => (p1.toInt < 0 ∧ r = (-1)) ∨ (0 ≤ p1.toInt ∧ 4 ≤ p1.toInt ∧ r = (-1)) ∨ (0 ≤ p1.toInt ∧ p1.toInt < 4 ∧ p2.toInt < 0 ∧ r = (-1)) ∨ (0 ≤ p1.toInt ∧ p1.toInt < 4 ∧ 0 ≤ p2.toInt ∧ 3 ≤ p2.toInt ∧ r = (-1)) ∨ (0 ≤ p1.toInt ∧ p1.toInt < 4 ∧ 0 ≤ p2.toInt ∧ p2.toInt < 3 ∧ p1.toInt = 0 ∧ r = (-11)) ∨ (0 ≤ p1.toInt ∧ p1.toInt < 4 ∧ 0 ≤ p2.toInt ∧ p2.toInt < 3 ∧ p1.toInt = 1 ∧ r = (-11)) ∨ (0 ≤ p1.toInt ∧ p1.toInt < 4 ∧ 0 ≤ p2.toInt ∧ p2.toInt < 3 ∧ p1.toInt = 2 ∧ r = (-11)) ∨ (0 ≤ p1.toInt ∧ p1.toInt < 4 ∧ 0 ≤ p2.toInt ∧ p2.toInt < 3 ∧ p1.toInt = 3 ∧ r = (-11))) (zPost g (fun _ : Nat => [(h0, .inr (1, [.ref h19, .ref h20, .ref h21])), (h19, .inl (zI g, 4, .inl (upd (upd (upd (upd (fun _ => 0) 0 (-1)) 1 (-1)) 2 (-1)) 3 (-1))))]) (va_A [(h0, .inr (1, [.ref h19, .ref h20, .ref h21])), (h19, .inl (zI g, 4, .inl (upd (upd (upd (upd (fun _ => 0) 0 (-1)) 1 (-1)) 2 (-1)) 3 (-1))))] sz)) (va_A [(h0, .inr (1, [.ref h19, .ref h20, .ref h21])), (h19, .inl (zI g, 4, .inl (upd (upd (upd (upd (fun _ => 0) 0 (-1)) 1 (-1)) 2 (-1)) 3 (-1))))] sz)) 0 0 (va_A [(h0, .inr (1, [.ref h19, .ref h20, .ref h21])), (h19, .inl (zI g, 4, .inl (upd (upd (upd (upd (fun _ => 0) 0 (-1)) 1 (-1)) 2 (-1)) 3 (-1))))] sz) := by
  refine zMetI rfl (Nat.le_of_ble_eq_true rfl) ?_
  intro p e s m args below meth c A ls hx hb hml hr hlocks hin hown hts hK hN hZ hP hD hA hS hAe hl
  have hown : s.vm.findClass RX1 = some m.cls := hown
  have hl : lv_has ls 5 [(0, .ref h0), (1, .int p1), (2, .int p2), (3, .int p3), (4, .int 0)] := hl
  refine lv_iload_n hx hb dX1_refuse_0 rfl (lv_at hl 1 rfl) ?_
  refine z_calli (wr := [(h0, .inr (1, [.ref h19, .ref h20, .ref h21])), (h19, .inl (zI g, 4, .inl (upd (upd (upd (upd (fun _ => 0) 0 (-1)) 1 (-1)) 2 (-1)) 3 (-1))))]) hP hD hS hA [] [0, 1] (by decide) rfl rfl (by decide) (va_runSN (As := [.int p1]) (rest := []) ⟨hx, hb, hml, hown, hts⟩ (kX4_isSheet_2 l g  s.heap.size p1) ⟨va_cnB 1 hts (zGood m_o_yX4_isSheet) rfl rfl rfl (hN.m 29 (q := (RX1, 22, yX4_isSheet)) rfl) (hts _ m_z_RX4) ⟨by decide +kernel, by decide +kernel, by decide +kernel⟩ ⟨Nat.le_of_ble_eq_true rfl, Nat.le_of_ble_eq_true rfl⟩, hts _ m_s_yX4_isSheet, trivial⟩ (zPreS hK hN hZ hP hD hS hA [] (by decide) rfl rfl) rfl rfl hl.1 rfl (lv_room (Nat.le_of_ble_eq_true rfl)) dX1_refuse_1 ⟨Nat.le_of_ble_eq_true rfl, Nat.le_of_ble_eq_true rfl⟩) (fun r u H locs hw hP hD hS => ?_)
  rcases hw with ⟨i_0, rfl⟩ | ⟨i_1, i_2, rfl⟩ | ⟨i_3, i_4, rfl⟩
  · skip
    have i_0 : p1.toInt < 0 := i_0
    have hP : va_P g.1 vwCl [(h0, .inr (1, [.ref h19, .ref h20, .ref h21])), (h19, .inl (zI g, 4, .inl (upd (upd (upd (upd (fun _ => 0) 0 (-1)) 1 (-1)) 2 (-1)) 3 (-1))))] H := hP
    have hD : va_D A [(h0, .inr (1, [.ref h19, .ref h20, .ref h21])), (h19, .inl (zI g, 4, .inl (upd (upd (upd (upd (fun _ => 0) 0 (-1)) 1 (-1)) 2 (-1)) 3 (-1))))] := hD
    refine lv_if_eq (tgt := 14) hx hb dX1_refuse_4 (by decide) (fun _ => ?_) (fun h => absurd h (by decide +kernel))
    refine lv_iconst (v := (-1)) hx hb dX1_refuse_14 (by decide) ?_
    have hP9 := hP.sub (ws' := [(h0, .inr (1, [.ref h19, .ref h20, .ref h21])), (h19, .inl (zI g, 4, .inl (upd (upd (upd (upd (fun _ => 0) 0 (-1)) 1 (-1)) 2 (-1)) 3 (-1))))]) [0, 1] rfl
    have hD9 := hD.sub (ws' := [(h0, .inr (1, [.ref h19, .ref h20, .ref h21])), (h19, .inl (zI g, 4, .inl (upd (upd (upd (upd (fun _ => 0) 0 (-1)) 1 (-1)) 2 (-1)) 3 (-1))))]) [0, 1] (by decide) rfl
    exact W.iret (v := (-1)) hx hb hr (fun t ht hW => ⟨⟨(-1), 0, rfl, Or.inl ⟨i_0, rfl⟩, by rw [ht]; exact hP9, hD9⟩, hS.F ht⟩) hS.2.2 dX1_refuse_15
  · skip
    have i_1 : 0 ≤ p1.toInt := i_1
    have i_2 : 4 ≤ p1.toInt := i_2
    have hP : va_P g.1 vwCl [(h0, .inr (1, [.ref h19, .ref h20, .ref h21])), (h19, .inl (zI g, 4, .inl (upd (upd (upd (upd (fun _ => 0) 0 (-1)) 1 (-1)) 2 (-1)) 3 (-1))))] H := hP
    have hD : va_D A [(h0, .inr (1, [.ref h19, .ref h20, .ref h21])), (h19, .inl (zI g, 4, .inl (upd (upd (upd (upd (fun _ => 0) 0 (-1)) 1 (-1)) 2 (-1)) 3 (-1))))] := hD
    refine lv_if_eq (tgt := 14) hx hb dX1_refuse_4 (by decide) (fun _ => ?_) (fun h => absurd h (by decide +kernel))
    refine lv_iconst (v := (-1)) hx hb dX1_refuse_14 (by decide) ?_
    have hP9 := hP.sub (ws' := [(h0, .inr (1, [.ref h19, .ref h20, .ref h21])), (h19, .inl (zI g, 4, .inl (upd (upd (upd (upd (fun _ => 0) 0 (-1)) 1 (-1)) 2 (-1)) 3 (-1))))]) [0, 1] rfl
    have hD9 := hD.sub (ws' := [(h0, .inr (1, [.ref h19, .ref h20, .ref h21])), (h19, .inl (zI g, 4, .inl (upd (upd (upd (upd (fun _ => 0) 0 (-1)) 1 (-1)) 2 (-1)) 3 (-1))))]) [0, 1] (by decide) rfl
    exact W.iret (v := (-1)) hx hb hr (fun t ht hW => ⟨⟨(-1), 0, rfl, Or.inr (Or.inl ⟨i_1, i_2, rfl⟩), by rw [ht]; exact hP9, hD9⟩, hS.F ht⟩) hS.2.2 dX1_refuse_15
  · skip
    have i_3 : 0 ≤ p1.toInt := i_3
    have i_4 : p1.toInt < 4 := i_4
    have hP : va_P g.1 vwCl [(h0, .inr (1, [.ref h19, .ref h20, .ref h21])), (h19, .inl (zI g, 4, .inl (upd (upd (upd (upd (fun _ => 0) 0 (-1)) 1 (-1)) 2 (-1)) 3 (-1))))] H := hP
    have hD : va_D A [(h0, .inr (1, [.ref h19, .ref h20, .ref h21])), (h19, .inl (zI g, 4, .inl (upd (upd (upd (upd (fun _ => 0) 0 (-1)) 1 (-1)) 2 (-1)) 3 (-1))))] := hD
    refine lv_if_eq (tgt := 14) hx hb dX1_refuse_4 (by decide) (fun h => absurd h (by decide +kernel)) (fun _ => ?_)
    refine lv_iload_n hx hb dX1_refuse_7 rfl (lv_at hl 2 rfl) ?_
    refine z_calli (wr := [(h0, .inr (1, [.ref h19, .ref h20, .ref h21])), (h19, .inl (zI g, 4, .inl (upd (upd (upd (upd (fun _ => 0) 0 (-1)) 1 (-1)) 2 (-1)) 3 (-1))))]) hP hD hS hA [] [0, 1] (by decide) rfl rfl (by decide) (va_runSN (As := [.int p2]) (rest := []) ⟨hx, hb, hml, hown, hts⟩ (kX4_isLane_2 l g  H.size p2) ⟨va_cnB 1 hts (zGood m_o_yX4_isLane) rfl rfl rfl (hN.m 30 (q := (RX1, 26, yX4_isLane)) rfl) (hts _ m_z_RX4) ⟨by decide +kernel, by decide +kernel, by decide +kernel⟩ ⟨Nat.le_of_ble_eq_true rfl, Nat.le_of_ble_eq_true rfl⟩, hts _ m_s_yX4_isLane, trivial⟩ (zPreS hK hN hZ hP hD hS hA [] (by decide) rfl rfl) rfl rfl hl.1 rfl (lv_room (Nat.le_of_ble_eq_true rfl)) dX1_refuse_8 ⟨Nat.le_of_ble_eq_true rfl, Nat.le_of_ble_eq_true rfl⟩) (fun r u H locs hw hP hD hS => ?_)
    rcases hw with ⟨i_5, rfl⟩ | ⟨i_6, i_7, rfl⟩ | ⟨i_8, i_9, rfl⟩
    · skip
      have i_5 : p2.toInt < 0 := i_5
      have hP : va_P g.1 vwCl [(h0, .inr (1, [.ref h19, .ref h20, .ref h21])), (h19, .inl (zI g, 4, .inl (upd (upd (upd (upd (fun _ => 0) 0 (-1)) 1 (-1)) 2 (-1)) 3 (-1))))] H := hP
      have hD : va_D A [(h0, .inr (1, [.ref h19, .ref h20, .ref h21])), (h19, .inl (zI g, 4, .inl (upd (upd (upd (upd (fun _ => 0) 0 (-1)) 1 (-1)) 2 (-1)) 3 (-1))))] := hD
      refine lv_if_ne (tgt := 16) hx hb dX1_refuse_11 (by decide) (fun h => absurd h (by decide +kernel)) (fun _ => ?_)
      refine lv_iconst (v := (-1)) hx hb dX1_refuse_14 (by decide) ?_
      have hP9 := hP.sub (ws' := [(h0, .inr (1, [.ref h19, .ref h20, .ref h21])), (h19, .inl (zI g, 4, .inl (upd (upd (upd (upd (fun _ => 0) 0 (-1)) 1 (-1)) 2 (-1)) 3 (-1))))]) [0, 1] rfl
      have hD9 := hD.sub (ws' := [(h0, .inr (1, [.ref h19, .ref h20, .ref h21])), (h19, .inl (zI g, 4, .inl (upd (upd (upd (upd (fun _ => 0) 0 (-1)) 1 (-1)) 2 (-1)) 3 (-1))))]) [0, 1] (by decide) rfl
      exact W.iret (v := (-1)) hx hb hr (fun t ht hW => ⟨⟨(-1), 0, rfl, Or.inr (Or.inr (Or.inl ⟨i_3, i_4, i_5, rfl⟩)), by rw [ht]; exact hP9, hD9⟩, hS.F ht⟩) hS.2.2 dX1_refuse_15
    · skip
      have i_6 : 0 ≤ p2.toInt := i_6
      have i_7 : 3 ≤ p2.toInt := i_7
      have hP : va_P g.1 vwCl [(h0, .inr (1, [.ref h19, .ref h20, .ref h21])), (h19, .inl (zI g, 4, .inl (upd (upd (upd (upd (fun _ => 0) 0 (-1)) 1 (-1)) 2 (-1)) 3 (-1))))] H := hP
      have hD : va_D A [(h0, .inr (1, [.ref h19, .ref h20, .ref h21])), (h19, .inl (zI g, 4, .inl (upd (upd (upd (upd (fun _ => 0) 0 (-1)) 1 (-1)) 2 (-1)) 3 (-1))))] := hD
      refine lv_if_ne (tgt := 16) hx hb dX1_refuse_11 (by decide) (fun h => absurd h (by decide +kernel)) (fun _ => ?_)
      refine lv_iconst (v := (-1)) hx hb dX1_refuse_14 (by decide) ?_
      have hP9 := hP.sub (ws' := [(h0, .inr (1, [.ref h19, .ref h20, .ref h21])), (h19, .inl (zI g, 4, .inl (upd (upd (upd (upd (fun _ => 0) 0 (-1)) 1 (-1)) 2 (-1)) 3 (-1))))]) [0, 1] rfl
      have hD9 := hD.sub (ws' := [(h0, .inr (1, [.ref h19, .ref h20, .ref h21])), (h19, .inl (zI g, 4, .inl (upd (upd (upd (upd (fun _ => 0) 0 (-1)) 1 (-1)) 2 (-1)) 3 (-1))))]) [0, 1] (by decide) rfl
      exact W.iret (v := (-1)) hx hb hr (fun t ht hW => ⟨⟨(-1), 0, rfl, Or.inr (Or.inr (Or.inr (Or.inl ⟨i_3, i_4, i_6, i_7, rfl⟩))), by rw [ht]; exact hP9, hD9⟩, hS.F ht⟩) hS.2.2 dX1_refuse_15
    · skip
      have i_8 : 0 ≤ p2.toInt := i_8
      have i_9 : p2.toInt < 3 := i_9
      have hP : va_P g.1 vwCl [(h0, .inr (1, [.ref h19, .ref h20, .ref h21])), (h19, .inl (zI g, 4, .inl (upd (upd (upd (upd (fun _ => 0) 0 (-1)) 1 (-1)) 2 (-1)) 3 (-1))))] H := hP
      have hD : va_D A [(h0, .inr (1, [.ref h19, .ref h20, .ref h21])), (h19, .inl (zI g, 4, .inl (upd (upd (upd (upd (fun _ => 0) 0 (-1)) 1 (-1)) 2 (-1)) 3 (-1))))] := hD
      refine lv_if_ne (tgt := 16) hx hb dX1_refuse_11 (by decide) (fun _ => ?_) (fun h => absurd h (by decide +kernel))
      refine lv_aload_n hx hb dX1_refuse_16 rfl (lv_at hl 0 rfl) ?_
      refine va_get (D := g.1) (ci := 1) (v := .ref h19) (C := RX1) (T := TX1) (N := 3) hx hb hts zl_X1 hown hK hP 0 rfl rfl 0 (by decide) (hts _ m_f_RX1_9) (fun _ h => h) rfl dX1_refuse_17 ?_
      refine lv_iload_n hx hb dX1_refuse_20 rfl (lv_at hl 1 rfl) ?_
      rcases (show p1.toInt = 0 ∨ p1.toInt = 1 ∨ p1.toInt = 2 ∨ p1.toInt = 3 by omega) with j_10 | j_10 | j_10 | j_10
      · obtain rfl : p1 = 0 := Int32.toInt_inj.mp (show p1.toInt = (0 : Int32).toInt from j_10.trans rfl)
        refine va_iald (D := g.1) hx hb hK hP 1 0 rfl rfl (vp_in_iff.mpr (by decide +kernel)) dX1_refuse_21 ?_
        refine lv_topi (nm_r (e' := (-1)) (by rfl) ?_)
        refine lv_if_ge (tgt := 28) hx hb dX1_refuse_22 (by decide) (fun h => absurd h (by decide +kernel)) (fun _ => ?_)
        refine lv_bipush (v := (-11)) hx hb dX1_refuse_25 (by decide) ?_
        have hP9 := hP.sub (ws' := [(h0, .inr (1, [.ref h19, .ref h20, .ref h21])), (h19, .inl (zI g, 4, .inl (upd (upd (upd (upd (fun _ => 0) 0 (-1)) 1 (-1)) 2 (-1)) 3 (-1))))]) [0, 1] rfl
        have hD9 := hD.sub (ws' := [(h0, .inr (1, [.ref h19, .ref h20, .ref h21])), (h19, .inl (zI g, 4, .inl (upd (upd (upd (upd (fun _ => 0) 0 (-1)) 1 (-1)) 2 (-1)) 3 (-1))))]) [0, 1] (by decide) rfl
        exact W.iret (v := (-11)) hx hb hr (fun t ht hW => ⟨⟨(-11), 0, rfl, Or.inr (Or.inr (Or.inr (Or.inr (Or.inl ⟨i_3, i_4, i_8, i_9, j_10, rfl⟩)))), by rw [ht]; exact hP9, hD9⟩, hS.F ht⟩) hS.2.2 dX1_refuse_27
      · obtain rfl : p1 = 1 := Int32.toInt_inj.mp (show p1.toInt = (1 : Int32).toInt from j_10.trans rfl)
        refine va_iald (D := g.1) hx hb hK hP 1 0 rfl rfl (vp_in_iff.mpr (by decide +kernel)) dX1_refuse_21 ?_
        refine lv_topi (nm_r (e' := (-1)) (by rfl) ?_)
        refine lv_if_ge (tgt := 28) hx hb dX1_refuse_22 (by decide) (fun h => absurd h (by decide +kernel)) (fun _ => ?_)
        refine lv_bipush (v := (-11)) hx hb dX1_refuse_25 (by decide) ?_
        have hP9 := hP.sub (ws' := [(h0, .inr (1, [.ref h19, .ref h20, .ref h21])), (h19, .inl (zI g, 4, .inl (upd (upd (upd (upd (fun _ => 0) 0 (-1)) 1 (-1)) 2 (-1)) 3 (-1))))]) [0, 1] rfl
        have hD9 := hD.sub (ws' := [(h0, .inr (1, [.ref h19, .ref h20, .ref h21])), (h19, .inl (zI g, 4, .inl (upd (upd (upd (upd (fun _ => 0) 0 (-1)) 1 (-1)) 2 (-1)) 3 (-1))))]) [0, 1] (by decide) rfl
        exact W.iret (v := (-11)) hx hb hr (fun t ht hW => ⟨⟨(-11), 0, rfl, Or.inr (Or.inr (Or.inr (Or.inr (Or.inr (Or.inl ⟨i_3, i_4, i_8, i_9, j_10, rfl⟩))))), by rw [ht]; exact hP9, hD9⟩, hS.F ht⟩) hS.2.2 dX1_refuse_27
      · obtain rfl : p1 = 2 := Int32.toInt_inj.mp (show p1.toInt = (2 : Int32).toInt from j_10.trans rfl)
        refine va_iald (D := g.1) hx hb hK hP 1 0 rfl rfl (vp_in_iff.mpr (by decide +kernel)) dX1_refuse_21 ?_
        refine lv_topi (nm_r (e' := (-1)) (by rfl) ?_)
        refine lv_if_ge (tgt := 28) hx hb dX1_refuse_22 (by decide) (fun h => absurd h (by decide +kernel)) (fun _ => ?_)
        refine lv_bipush (v := (-11)) hx hb dX1_refuse_25 (by decide) ?_
        have hP9 := hP.sub (ws' := [(h0, .inr (1, [.ref h19, .ref h20, .ref h21])), (h19, .inl (zI g, 4, .inl (upd (upd (upd (upd (fun _ => 0) 0 (-1)) 1 (-1)) 2 (-1)) 3 (-1))))]) [0, 1] rfl
        have hD9 := hD.sub (ws' := [(h0, .inr (1, [.ref h19, .ref h20, .ref h21])), (h19, .inl (zI g, 4, .inl (upd (upd (upd (upd (fun _ => 0) 0 (-1)) 1 (-1)) 2 (-1)) 3 (-1))))]) [0, 1] (by decide) rfl
        exact W.iret (v := (-11)) hx hb hr (fun t ht hW => ⟨⟨(-11), 0, rfl, Or.inr (Or.inr (Or.inr (Or.inr (Or.inr (Or.inr (Or.inl ⟨i_3, i_4, i_8, i_9, j_10, rfl⟩)))))), by rw [ht]; exact hP9, hD9⟩, hS.F ht⟩) hS.2.2 dX1_refuse_27
      · obtain rfl : p1 = 3 := Int32.toInt_inj.mp (show p1.toInt = (3 : Int32).toInt from j_10.trans rfl)
        refine va_iald (D := g.1) hx hb hK hP 1 0 rfl rfl (vp_in_iff.mpr (by decide +kernel)) dX1_refuse_21 ?_
        refine lv_topi (nm_r (e' := (-1)) (by rfl) ?_)
        refine lv_if_ge (tgt := 28) hx hb dX1_refuse_22 (by decide) (fun h => absurd h (by decide +kernel)) (fun _ => ?_)
        refine lv_bipush (v := (-11)) hx hb dX1_refuse_25 (by decide) ?_
        have hP9 := hP.sub (ws' := [(h0, .inr (1, [.ref h19, .ref h20, .ref h21])), (h19, .inl (zI g, 4, .inl (upd (upd (upd (upd (fun _ => 0) 0 (-1)) 1 (-1)) 2 (-1)) 3 (-1))))]) [0, 1] rfl
        have hD9 := hD.sub (ws' := [(h0, .inr (1, [.ref h19, .ref h20, .ref h21])), (h19, .inl (zI g, 4, .inl (upd (upd (upd (upd (fun _ => 0) 0 (-1)) 1 (-1)) 2 (-1)) 3 (-1))))]) [0, 1] (by decide) rfl
        exact W.iret (v := (-11)) hx hb hr (fun t ht hW => ⟨⟨(-11), 0, rfl, Or.inr (Or.inr (Or.inr (Or.inr (Or.inr (Or.inr (Or.inr (⟨i_3, i_4, i_8, i_9, j_10, rfl⟩))))))), by rw [ht]; exact hP9, hD9⟩, hS.F ht⟩) hS.2.2 dX1_refuse_27
set_option maxHeartbeats 4000000 in
set_option maxRecDepth 100000 in
theorem kX4_which (l : Launch) (g : zG) (h0 h1 h2 h3 h4 h5 h6 h7 h8 h9 h10 h11 h12 h13 h14 h15 h16 h17 h18 h38 h39 h40 : Nat) (sz : Nat) (p1 : Int32) (p2 : Int32) (p3 : Int32) (p4 : Int32) : Met l yX4_which (.code yX4_which cX4_which 9 (some .int) :: zBig) ({ frames := 2, cells := 0, slots := 0, locals := 44 }) (va_Pc [.ref h0, .int p1, .int p2, .int p3, .int p4] (zPre g [(h0, .inr (4, [.ref h1, .ref h2, .int 0, .ref h3, .ref h4, .ref h5, .ref h6, .int (-1), .ref h7, .ref h8, .ref h9, .ref h10])), (h1, .inr (0, [.ref h11, .int 0, .ref h12, .int 0, .ref h13, .ref h14, .ref h15, .ref h16, .ref h17, .ref h18, .int 0])), (h5, .inr (1, [.ref h38, .ref h39, .ref h40])), (h38, .inl (zI g, 4, .inl (upd (upd (upd (upd (fun _ => 0) 0 (-1)) 1 (-1)) 2 (-1)) 3 (-1))))] sz)) (va_Qi (fun (r : Int32) (_ : Nat) => (p4.toInt < 0 ∧ r = (-1)) ∨ (0 ≤ p4.toInt ∧ p4.toInt ≤ 1 ∧ p1.toInt < 0 ∧ r = (-1)) ∨ (0 ≤ p4.toInt ∧ p4.toInt ≤ 1 ∧ 0 ≤ p1.toInt ∧ 4 ≤ p1.toInt ∧ r = (-1)) ∨ (0 ≤ p4.toInt ∧ p4.toInt ≤ 1 ∧ 0 ≤ p1.toInt ∧ p1.toInt < 4 ∧ p2.toInt < 0 ∧ r = (-1)) ∨ (0 ≤ p4.toInt ∧ p4.toInt ≤ 1 ∧ 0 ≤ p1.toInt ∧ p1.toInt < 4 ∧ 0 ≤ p2.toInt ∧ 3 ≤ p2.toInt ∧ r = (-1)) ∨ (0 ≤ p4.toInt ∧ p4.toInt ≤ 1 ∧ 0 ≤ p1.toInt ∧ p1.toInt < 4 ∧ 0 ≤ p2.toInt ∧ p2.toInt < 3 ∧ p1.toInt = 0 ∧ r = (-11)) ∨ (0 ≤ p4.toInt ∧ p4.toInt ≤ 1 ∧ 0 ≤ p1.toInt ∧ p1.toInt < 4 ∧ 0 ≤ p2.toInt ∧ p2.toInt < 3 ∧ p1.toInt = 1 ∧ r = (-11)) ∨ (0 ≤ p4.toInt ∧ p4.toInt ≤ 1 ∧ 0 ≤ p1.toInt ∧ p1.toInt < 4 ∧ 0 ≤ p2.toInt ∧ p2.toInt < 3 ∧ p1.toInt = 2 ∧ r = (-11)) ∨ (0 ≤ p4.toInt ∧ p4.toInt ≤ 1 ∧ 0 ≤ p1.toInt ∧ p1.toInt < 4 ∧ 0 ≤ p2.toInt ∧ p2.toInt < 3 ∧ p1.toInt = 3 ∧ r = (-11)) ∨ (0 ≤ p4.toInt ∧ 1 < p4.toInt ∧ r = (-1))) (zPost g (fun _ : Nat => []) (va_A [(h0, .inr (4, [.ref h1, .ref h2, .int 0, .ref h3, .ref h4, .ref h5, .ref h6, .int (-1), .ref h7, .ref h8, .ref h9, .ref h10])), (h1, .inr (0, [.ref h11, .int 0, .ref h12, .int 0, .ref h13, .ref h14, .ref h15, .ref h16, .ref h17, .ref h18, .int 0])), (h5, .inr (1, [.ref h38, .ref h39, .ref h40])), (h38, .inl (zI g, 4, .inl (upd (upd (upd (upd (fun _ => 0) 0 (-1)) 1 (-1)) 2 (-1)) 3 (-1))))] sz)) (va_A [(h0, .inr (4, [.ref h1, .ref h2, .int 0, .ref h3, .ref h4, .ref h5, .ref h6, .int (-1), .ref h7, .ref h8, .ref h9, .ref h10])), (h1, .inr (0, [.ref h11, .int 0, .ref h12, .int 0, .ref h13, .ref h14, .ref h15, .ref h16, .ref h17, .ref h18, .int 0])), (h5, .inr (1, [.ref h38, .ref h39, .ref h40])), (h38, .inl (zI g, 4, .inl (upd (upd (upd (upd (fun _ => 0) 0 (-1)) 1 (-1)) 2 (-1)) 3 (-1))))] sz)) 0 0 (va_A [(h0, .inr (4, [.ref h1, .ref h2, .int 0, .ref h3, .ref h4, .ref h5, .ref h6, .int (-1), .ref h7, .ref h8, .ref h9, .ref h10])), (h1, .inr (0, [.ref h11, .int 0, .ref h12, .int 0, .ref h13, .ref h14, .ref h15, .ref h16, .ref h17, .ref h18, .int 0])), (h5, .inr (1, [.ref h38, .ref h39, .ref h40])), (h38, .inl (zI g, 4, .inl (upd (upd (upd (upd (fun _ => 0) 0 (-1)) 1 (-1)) 2 (-1)) 3 (-1))))] sz) := by
  refine zMetI rfl (Nat.le_of_ble_eq_true rfl) ?_
  intro p e s m args below meth c A ls hx hb hml hr hlocks hin hown hts hK hN hZ hP hD hA hS hAe hl
  have hown : s.vm.findClass RX4 = some m.cls := hown
  have hl : lv_has ls 9 [(0, .ref h0), (1, .int p1), (2, .int p2), (3, .int p3), (4, .int p4)] := hl
  refine lv_iload hx hb dX4_which_0 (lv_at hl 4 rfl) ?_
  refine lv_if_lt (tgt := 11) hx hb dX4_which_2 (by decide) (fun c_0 => ?_) (fun c_0 => ?_)
  · have i_0 : p4.toInt < 0 := z_lt (rfl) (rfl) c_0
    refine lv_iconst (v := (-1)) hx hb dX4_which_11 (by decide) ?_
    have hP9 := hP.sub (ws' := []) [] rfl
    have hD9 := hD.sub (ws' := []) [] (by decide) rfl
    exact W.iret (v := (-1)) hx hb hr (fun t ht hW => ⟨⟨(-1), 0, rfl, Or.inl ⟨i_0, rfl⟩, by rw [ht]; exact hP9, hD9⟩, hS.F ht⟩) hS.2.2 dX4_which_12
  · have i_0 : 0 ≤ p4.toInt := z_nlt (rfl) (rfl) c_0
    refine lv_iload hx hb dX4_which_5 (lv_at hl 4 rfl) ?_
    refine lv_iconst (v := 1) hx hb dX4_which_7 (by decide) ?_
    refine lv_icmp_le (tgt := 13) hx hb dX4_which_8 (by decide) (fun c_1 => ?_) (fun c_1 => ?_)
    · have i_1 : p4.toInt ≤ 1 := z_le (rfl) (rfl) c_1
      refine lv_aload_n hx hb dX4_which_13 rfl (lv_at hl 0 rfl) ?_
      refine va_get (D := g.1) (ci := 4) (v := .ref h5) (C := RX4) (T := TX4) (N := 12) hx hb hts zl_X4 hown hK hP 0 rfl rfl 5 (by decide) (hts _ m_f_RX4_40) (fun _ h => h) rfl dX4_which_14 ?_
      refine lv_iload_n hx hb dX4_which_17 rfl (lv_at hl 1 rfl) ?_
      refine lv_iload_n hx hb dX4_which_18 rfl (lv_at hl 2 rfl) ?_
      refine lv_iload_n hx hb dX4_which_19 rfl (lv_at hl 3 rfl) ?_
      refine lv_iconst (v := 2) hx hb dX4_which_20 (by decide) ?_
      refine lv_aload_n hx hb dX4_which_21 rfl (lv_at hl 0 rfl) ?_
      refine va_get (D := g.1) (ci := 4) (v := .ref h1) (C := RX4) (T := TX4) (N := 12) hx hb hts zl_X4 hown hK hP 0 rfl rfl 0 (by decide) (hts _ m_f_RX4_10) (fun _ h => h) rfl dX4_which_22 ?_
      refine va_getN (D := g.1) (ci := 0) (v := .int 0) (C := RX0) (T := TX0) (N := 11) hx hb hts zl_X0 hown hK hP 1 rfl rfl 1 (by decide) (hN.f 4 (q := (RX4, 122, "FishSteps$Books", "lots", "I")) rfl) (fun _ h => h) rfl dX4_which_25 ?_
      refine lv_imul hx hb dX4_which_28 ?_
      refine lv_topi (nm_r (e' := 0) (by decide +kernel) ?_)
      refine z_calli (wr := [(h0, .inr (4, [.ref h1, .ref h2, .int 0, .ref h3, .ref h4, .ref h5, .ref h6, .int (-1), .ref h7, .ref h8, .ref h9, .ref h10])), (h1, .inr (0, [.ref h11, .int 0, .ref h12, .int 0, .ref h13, .ref h14, .ref h15, .ref h16, .ref h17, .ref h18, .int 0]))]) hP hD hS hA [2, 3] [0, 1] (by decide) rfl rfl (by decide) (va_runVN (As := [.int p1, .int p2, .int p3, .int 0]) (rest := []) ⟨hx, hb, hml, hown, hts⟩ (kX1_refuse_2 l g h5 h38 h39 h40 s.heap.size p1 p2 p3) ⟨va_cnB 4 hts (zGood m_o_yX1_refuse) rfl rfl rfl (hN.m 28 (q := (RX4, 208, yX1_refuse)) rfl) (hts _ m_z_RX1) ⟨by decide +kernel, by decide +kernel, by decide +kernel⟩ ⟨Nat.le_of_ble_eq_true rfl, Nat.le_of_ble_eq_true rfl⟩, hts _ m_i_yX1_refuse, hts _ m_e_yX1_refuse⟩ (zPreV hK hN hZ hP hD hS hA [2, 3] (by decide) rfl rfl 1 2 rfl rfl) rfl rfl hl.1 rfl (lv_room (Nat.le_of_ble_eq_true rfl)) dX4_which_29 ⟨Nat.le_of_ble_eq_true rfl, Nat.le_of_ble_eq_true rfl⟩) (fun r u H locs hw hP hD hS => ?_)
      rcases hw with ⟨i_2, rfl⟩ | ⟨i_3, i_4, rfl⟩ | ⟨i_5, i_6, i_7, rfl⟩ | ⟨i_8, i_9, i_10, i_11, rfl⟩ | ⟨i_12, i_13, i_14, i_15, i_16, rfl⟩ | ⟨i_17, i_18, i_19, i_20, i_21, rfl⟩ | ⟨i_22, i_23, i_24, i_25, i_26, rfl⟩ | ⟨i_27, i_28, i_29, i_30, i_31, rfl⟩
      · skip
        have i_2 : p1.toInt < 0 := i_2
        have hP : va_P g.1 vwCl [(h0, .inr (4, [.ref h1, .ref h2, .int 0, .ref h3, .ref h4, .ref h5, .ref h6, .int (-1), .ref h7, .ref h8, .ref h9, .ref h10])), (h1, .inr (0, [.ref h11, .int 0, .ref h12, .int 0, .ref h13, .ref h14, .ref h15, .ref h16, .ref h17, .ref h18, .int 0])), (h5, .inr (1, [.ref h38, .ref h39, .ref h40])), (h38, .inl (zI g, 4, .inl (upd (upd (upd (upd (fun _ => 0) 0 (-1)) 1 (-1)) 2 (-1)) 3 (-1))))] H := hP
        have hD : va_D A [(h0, .inr (4, [.ref h1, .ref h2, .int 0, .ref h3, .ref h4, .ref h5, .ref h6, .int (-1), .ref h7, .ref h8, .ref h9, .ref h10])), (h1, .inr (0, [.ref h11, .int 0, .ref h12, .int 0, .ref h13, .ref h14, .ref h15, .ref h16, .ref h17, .ref h18, .int 0])), (h5, .inr (1, [.ref h38, .ref h39, .ref h40])), (h38, .inl (zI g, 4, .inl (upd (upd (upd (upd (fun _ => 0) 0 (-1)) 1 (-1)) 2 (-1)) 3 (-1))))] := hD
        refine lv_istore (lv' := [(5, .int (-1)), (0, .ref h0), (1, .int p1), (2, .int p2), (3, .int p3), (4, .int p4)]) hx hb dX4_which_32 hl (by decide) rfl (fun ls hl => ?_)
        refine lv_iload hx hb dX4_which_34 (lv_at hl 0 rfl) ?_
        refine lv_if_ge (tgt := 42) hx hb dX4_which_36 (by decide) (fun h => absurd h (by decide +kernel)) (fun _ => ?_)
        refine lv_iload hx hb dX4_which_39 (lv_at hl 0 rfl) ?_
        have hP9 := hP.sub (ws' := []) [] rfl
        have hD9 := hD.sub (ws' := []) [] (by decide) rfl
        exact W.iret (v := (-1)) hx hb hr (fun t ht hW => ⟨⟨(-1), 0, rfl, Or.inr (Or.inl ⟨i_0, i_1, i_2, rfl⟩), by rw [ht]; exact hP9, hD9⟩, hS.F ht⟩) hS.2.2 dX4_which_41
      · skip
        have i_3 : 0 ≤ p1.toInt := i_3
        have i_4 : 4 ≤ p1.toInt := i_4
        have hP : va_P g.1 vwCl [(h0, .inr (4, [.ref h1, .ref h2, .int 0, .ref h3, .ref h4, .ref h5, .ref h6, .int (-1), .ref h7, .ref h8, .ref h9, .ref h10])), (h1, .inr (0, [.ref h11, .int 0, .ref h12, .int 0, .ref h13, .ref h14, .ref h15, .ref h16, .ref h17, .ref h18, .int 0])), (h5, .inr (1, [.ref h38, .ref h39, .ref h40])), (h38, .inl (zI g, 4, .inl (upd (upd (upd (upd (fun _ => 0) 0 (-1)) 1 (-1)) 2 (-1)) 3 (-1))))] H := hP
        have hD : va_D A [(h0, .inr (4, [.ref h1, .ref h2, .int 0, .ref h3, .ref h4, .ref h5, .ref h6, .int (-1), .ref h7, .ref h8, .ref h9, .ref h10])), (h1, .inr (0, [.ref h11, .int 0, .ref h12, .int 0, .ref h13, .ref h14, .ref h15, .ref h16, .ref h17, .ref h18, .int 0])), (h5, .inr (1, [.ref h38, .ref h39, .ref h40])), (h38, .inl (zI g, 4, .inl (upd (upd (upd (upd (fun _ => 0) 0 (-1)) 1 (-1)) 2 (-1)) 3 (-1))))] := hD
        refine lv_istore (lv' := [(5, .int (-1)), (0, .ref h0), (1, .int p1), (2, .int p2), (3, .int p3), (4, .int p4)]) hx hb dX4_which_32 hl (by decide) rfl (fun ls hl => ?_)
        refine lv_iload hx hb dX4_which_34 (lv_at hl 0 rfl) ?_
        refine lv_if_ge (tgt := 42) hx hb dX4_which_36 (by decide) (fun h => absurd h (by decide +kernel)) (fun _ => ?_)
        refine lv_iload hx hb dX4_which_39 (lv_at hl 0 rfl) ?_
        have hP9 := hP.sub (ws' := []) [] rfl
        have hD9 := hD.sub (ws' := []) [] (by decide) rfl
        exact W.iret (v := (-1)) hx hb hr (fun t ht hW => ⟨⟨(-1), 0, rfl, Or.inr (Or.inr (Or.inl ⟨i_0, i_1, i_3, i_4, rfl⟩)), by rw [ht]; exact hP9, hD9⟩, hS.F ht⟩) hS.2.2 dX4_which_41
      · skip
        have i_5 : 0 ≤ p1.toInt := i_5
        have i_6 : p1.toInt < 4 := i_6
        have i_7 : p2.toInt < 0 := i_7
        have hP : va_P g.1 vwCl [(h0, .inr (4, [.ref h1, .ref h2, .int 0, .ref h3, .ref h4, .ref h5, .ref h6, .int (-1), .ref h7, .ref h8, .ref h9, .ref h10])), (h1, .inr (0, [.ref h11, .int 0, .ref h12, .int 0, .ref h13, .ref h14, .ref h15, .ref h16, .ref h17, .ref h18, .int 0])), (h5, .inr (1, [.ref h38, .ref h39, .ref h40])), (h38, .inl (zI g, 4, .inl (upd (upd (upd (upd (fun _ => 0) 0 (-1)) 1 (-1)) 2 (-1)) 3 (-1))))] H := hP
        have hD : va_D A [(h0, .inr (4, [.ref h1, .ref h2, .int 0, .ref h3, .ref h4, .ref h5, .ref h6, .int (-1), .ref h7, .ref h8, .ref h9, .ref h10])), (h1, .inr (0, [.ref h11, .int 0, .ref h12, .int 0, .ref h13, .ref h14, .ref h15, .ref h16, .ref h17, .ref h18, .int 0])), (h5, .inr (1, [.ref h38, .ref h39, .ref h40])), (h38, .inl (zI g, 4, .inl (upd (upd (upd (upd (fun _ => 0) 0 (-1)) 1 (-1)) 2 (-1)) 3 (-1))))] := hD
        refine lv_istore (lv' := [(5, .int (-1)), (0, .ref h0), (1, .int p1), (2, .int p2), (3, .int p3), (4, .int p4)]) hx hb dX4_which_32 hl (by decide) rfl (fun ls hl => ?_)
        refine lv_iload hx hb dX4_which_34 (lv_at hl 0 rfl) ?_
        refine lv_if_ge (tgt := 42) hx hb dX4_which_36 (by decide) (fun h => absurd h (by decide +kernel)) (fun _ => ?_)
        refine lv_iload hx hb dX4_which_39 (lv_at hl 0 rfl) ?_
        have hP9 := hP.sub (ws' := []) [] rfl
        have hD9 := hD.sub (ws' := []) [] (by decide) rfl
        exact W.iret (v := (-1)) hx hb hr (fun t ht hW => ⟨⟨(-1), 0, rfl, Or.inr (Or.inr (Or.inr (Or.inl ⟨i_0, i_1, i_5, i_6, i_7, rfl⟩))), by rw [ht]; exact hP9, hD9⟩, hS.F ht⟩) hS.2.2 dX4_which_41
      · skip
        have i_8 : 0 ≤ p1.toInt := i_8
        have i_9 : p1.toInt < 4 := i_9
        have i_10 : 0 ≤ p2.toInt := i_10
        have i_11 : 3 ≤ p2.toInt := i_11
        have hP : va_P g.1 vwCl [(h0, .inr (4, [.ref h1, .ref h2, .int 0, .ref h3, .ref h4, .ref h5, .ref h6, .int (-1), .ref h7, .ref h8, .ref h9, .ref h10])), (h1, .inr (0, [.ref h11, .int 0, .ref h12, .int 0, .ref h13, .ref h14, .ref h15, .ref h16, .ref h17, .ref h18, .int 0])), (h5, .inr (1, [.ref h38, .ref h39, .ref h40])), (h38, .inl (zI g, 4, .inl (upd (upd (upd (upd (fun _ => 0) 0 (-1)) 1 (-1)) 2 (-1)) 3 (-1))))] H := hP
        have hD : va_D A [(h0, .inr (4, [.ref h1, .ref h2, .int 0, .ref h3, .ref h4, .ref h5, .ref h6, .int (-1), .ref h7, .ref h8, .ref h9, .ref h10])), (h1, .inr (0, [.ref h11, .int 0, .ref h12, .int 0, .ref h13, .ref h14, .ref h15, .ref h16, .ref h17, .ref h18, .int 0])), (h5, .inr (1, [.ref h38, .ref h39, .ref h40])), (h38, .inl (zI g, 4, .inl (upd (upd (upd (upd (fun _ => 0) 0 (-1)) 1 (-1)) 2 (-1)) 3 (-1))))] := hD
        refine lv_istore (lv' := [(5, .int (-1)), (0, .ref h0), (1, .int p1), (2, .int p2), (3, .int p3), (4, .int p4)]) hx hb dX4_which_32 hl (by decide) rfl (fun ls hl => ?_)
        refine lv_iload hx hb dX4_which_34 (lv_at hl 0 rfl) ?_
        refine lv_if_ge (tgt := 42) hx hb dX4_which_36 (by decide) (fun h => absurd h (by decide +kernel)) (fun _ => ?_)
        refine lv_iload hx hb dX4_which_39 (lv_at hl 0 rfl) ?_
        have hP9 := hP.sub (ws' := []) [] rfl
        have hD9 := hD.sub (ws' := []) [] (by decide) rfl
        exact W.iret (v := (-1)) hx hb hr (fun t ht hW => ⟨⟨(-1), 0, rfl, Or.inr (Or.inr (Or.inr (Or.inr (Or.inl ⟨i_0, i_1, i_8, i_9, i_10, i_11, rfl⟩)))), by rw [ht]; exact hP9, hD9⟩, hS.F ht⟩) hS.2.2 dX4_which_41
      · skip
        have i_12 : 0 ≤ p1.toInt := i_12
        have i_13 : p1.toInt < 4 := i_13
        have i_14 : 0 ≤ p2.toInt := i_14
        have i_15 : p2.toInt < 3 := i_15
        have i_16 : p1.toInt = 0 := i_16
        have hP : va_P g.1 vwCl [(h0, .inr (4, [.ref h1, .ref h2, .int 0, .ref h3, .ref h4, .ref h5, .ref h6, .int (-1), .ref h7, .ref h8, .ref h9, .ref h10])), (h1, .inr (0, [.ref h11, .int 0, .ref h12, .int 0, .ref h13, .ref h14, .ref h15, .ref h16, .ref h17, .ref h18, .int 0])), (h5, .inr (1, [.ref h38, .ref h39, .ref h40])), (h38, .inl (zI g, 4, .inl (upd (upd (upd (upd (fun _ => 0) 0 (-1)) 1 (-1)) 2 (-1)) 3 (-1))))] H := hP
        have hD : va_D A [(h0, .inr (4, [.ref h1, .ref h2, .int 0, .ref h3, .ref h4, .ref h5, .ref h6, .int (-1), .ref h7, .ref h8, .ref h9, .ref h10])), (h1, .inr (0, [.ref h11, .int 0, .ref h12, .int 0, .ref h13, .ref h14, .ref h15, .ref h16, .ref h17, .ref h18, .int 0])), (h5, .inr (1, [.ref h38, .ref h39, .ref h40])), (h38, .inl (zI g, 4, .inl (upd (upd (upd (upd (fun _ => 0) 0 (-1)) 1 (-1)) 2 (-1)) 3 (-1))))] := hD
        refine lv_istore (lv' := [(5, .int (-11)), (0, .ref h0), (1, .int p1), (2, .int p2), (3, .int p3), (4, .int p4)]) hx hb dX4_which_32 hl (by decide) rfl (fun ls hl => ?_)
        refine lv_iload hx hb dX4_which_34 (lv_at hl 0 rfl) ?_
        refine lv_if_ge (tgt := 42) hx hb dX4_which_36 (by decide) (fun h => absurd h (by decide +kernel)) (fun _ => ?_)
        refine lv_iload hx hb dX4_which_39 (lv_at hl 0 rfl) ?_
        have hP9 := hP.sub (ws' := []) [] rfl
        have hD9 := hD.sub (ws' := []) [] (by decide) rfl
        exact W.iret (v := (-11)) hx hb hr (fun t ht hW => ⟨⟨(-11), 0, rfl, Or.inr (Or.inr (Or.inr (Or.inr (Or.inr (Or.inl ⟨i_0, i_1, i_12, i_13, i_14, i_15, i_16, rfl⟩))))), by rw [ht]; exact hP9, hD9⟩, hS.F ht⟩) hS.2.2 dX4_which_41
      · skip
        have i_17 : 0 ≤ p1.toInt := i_17
        have i_18 : p1.toInt < 4 := i_18
        have i_19 : 0 ≤ p2.toInt := i_19
        have i_20 : p2.toInt < 3 := i_20
        have i_21 : p1.toInt = 1 := i_21
        have hP : va_P g.1 vwCl [(h0, .inr (4, [.ref h1, .ref h2, .int 0, .ref h3, .ref h4, .ref h5, .ref h6, .int (-1), .ref h7, .ref h8, .ref h9, .ref h10])), (h1, .inr (0, [.ref h11, .int 0, .ref h12, .int 0, .ref h13, .ref h14, .ref h15, .ref h16, .ref h17, .ref h18, .int 0])), (h5, .inr (1, [.ref h38, .ref h39, .ref h40])), (h38, .inl (zI g, 4, .inl (upd (upd (upd (upd (fun _ => 0) 0 (-1)) 1 (-1)) 2 (-1)) 3 (-1))))] H := hP
        have hD : va_D A [(h0, .inr (4, [.ref h1, .ref h2, .int 0, .ref h3, .ref h4, .ref h5, .ref h6, .int (-1), .ref h7, .ref h8, .ref h9, .ref h10])), (h1, .inr (0, [.ref h11, .int 0, .ref h12, .int 0, .ref h13, .ref h14, .ref h15, .ref h16, .ref h17, .ref h18, .int 0])), (h5, .inr (1, [.ref h38, .ref h39, .ref h40])), (h38, .inl (zI g, 4, .inl (upd (upd (upd (upd (fun _ => 0) 0 (-1)) 1 (-1)) 2 (-1)) 3 (-1))))] := hD
        refine lv_istore (lv' := [(5, .int (-11)), (0, .ref h0), (1, .int p1), (2, .int p2), (3, .int p3), (4, .int p4)]) hx hb dX4_which_32 hl (by decide) rfl (fun ls hl => ?_)
        refine lv_iload hx hb dX4_which_34 (lv_at hl 0 rfl) ?_
        refine lv_if_ge (tgt := 42) hx hb dX4_which_36 (by decide) (fun h => absurd h (by decide +kernel)) (fun _ => ?_)
        refine lv_iload hx hb dX4_which_39 (lv_at hl 0 rfl) ?_
        have hP9 := hP.sub (ws' := []) [] rfl
        have hD9 := hD.sub (ws' := []) [] (by decide) rfl
        exact W.iret (v := (-11)) hx hb hr (fun t ht hW => ⟨⟨(-11), 0, rfl, Or.inr (Or.inr (Or.inr (Or.inr (Or.inr (Or.inr (Or.inl ⟨i_0, i_1, i_17, i_18, i_19, i_20, i_21, rfl⟩)))))), by rw [ht]; exact hP9, hD9⟩, hS.F ht⟩) hS.2.2 dX4_which_41
      · skip
        have i_22 : 0 ≤ p1.toInt := i_22
        have i_23 : p1.toInt < 4 := i_23
        have i_24 : 0 ≤ p2.toInt := i_24
        have i_25 : p2.toInt < 3 := i_25
        have i_26 : p1.toInt = 2 := i_26
        have hP : va_P g.1 vwCl [(h0, .inr (4, [.ref h1, .ref h2, .int 0, .ref h3, .ref h4, .ref h5, .ref h6, .int (-1), .ref h7, .ref h8, .ref h9, .ref h10])), (h1, .inr (0, [.ref h11, .int 0, .ref h12, .int 0, .ref h13, .ref h14, .ref h15, .ref h16, .ref h17, .ref h18, .int 0])), (h5, .inr (1, [.ref h38, .ref h39, .ref h40])), (h38, .inl (zI g, 4, .inl (upd (upd (upd (upd (fun _ => 0) 0 (-1)) 1 (-1)) 2 (-1)) 3 (-1))))] H := hP
        have hD : va_D A [(h0, .inr (4, [.ref h1, .ref h2, .int 0, .ref h3, .ref h4, .ref h5, .ref h6, .int (-1), .ref h7, .ref h8, .ref h9, .ref h10])), (h1, .inr (0, [.ref h11, .int 0, .ref h12, .int 0, .ref h13, .ref h14, .ref h15, .ref h16, .ref h17, .ref h18, .int 0])), (h5, .inr (1, [.ref h38, .ref h39, .ref h40])), (h38, .inl (zI g, 4, .inl (upd (upd (upd (upd (fun _ => 0) 0 (-1)) 1 (-1)) 2 (-1)) 3 (-1))))] := hD
        refine lv_istore (lv' := [(5, .int (-11)), (0, .ref h0), (1, .int p1), (2, .int p2), (3, .int p3), (4, .int p4)]) hx hb dX4_which_32 hl (by decide) rfl (fun ls hl => ?_)
        refine lv_iload hx hb dX4_which_34 (lv_at hl 0 rfl) ?_
        refine lv_if_ge (tgt := 42) hx hb dX4_which_36 (by decide) (fun h => absurd h (by decide +kernel)) (fun _ => ?_)
        refine lv_iload hx hb dX4_which_39 (lv_at hl 0 rfl) ?_
        have hP9 := hP.sub (ws' := []) [] rfl
        have hD9 := hD.sub (ws' := []) [] (by decide) rfl
        exact W.iret (v := (-11)) hx hb hr (fun t ht hW => ⟨⟨(-11), 0, rfl, Or.inr (Or.inr (Or.inr (Or.inr (Or.inr (Or.inr (Or.inr (Or.inl ⟨i_0, i_1, i_22, i_23, i_24, i_25, i_26, rfl⟩))))))), by rw [ht]; exact hP9, hD9⟩, hS.F ht⟩) hS.2.2 dX4_which_41
      · skip
        have i_27 : 0 ≤ p1.toInt := i_27
        have i_28 : p1.toInt < 4 := i_28
        have i_29 : 0 ≤ p2.toInt := i_29
        have i_30 : p2.toInt < 3 := i_30
        have i_31 : p1.toInt = 3 := i_31
        have hP : va_P g.1 vwCl [(h0, .inr (4, [.ref h1, .ref h2, .int 0, .ref h3, .ref h4, .ref h5, .ref h6, .int (-1), .ref h7, .ref h8, .ref h9, .ref h10])), (h1, .inr (0, [.ref h11, .int 0, .ref h12, .int 0, .ref h13, .ref h14, .ref h15, .ref h16, .ref h17, .ref h18, .int 0])), (h5, .inr (1, [.ref h38, .ref h39, .ref h40])), (h38, .inl (zI g, 4, .inl (upd (upd (upd (upd (fun _ => 0) 0 (-1)) 1 (-1)) 2 (-1)) 3 (-1))))] H := hP
        have hD : va_D A [(h0, .inr (4, [.ref h1, .ref h2, .int 0, .ref h3, .ref h4, .ref h5, .ref h6, .int (-1), .ref h7, .ref h8, .ref h9, .ref h10])), (h1, .inr (0, [.ref h11, .int 0, .ref h12, .int 0, .ref h13, .ref h14, .ref h15, .ref h16, .ref h17, .ref h18, .int 0])), (h5, .inr (1, [.ref h38, .ref h39, .ref h40])), (h38, .inl (zI g, 4, .inl (upd (upd (upd (upd (fun _ => 0) 0 (-1)) 1 (-1)) 2 (-1)) 3 (-1))))] := hD
        refine lv_istore (lv' := [(5, .int (-11)), (0, .ref h0), (1, .int p1), (2, .int p2), (3, .int p3), (4, .int p4)]) hx hb dX4_which_32 hl (by decide) rfl (fun ls hl => ?_)
        refine lv_iload hx hb dX4_which_34 (lv_at hl 0 rfl) ?_
        refine lv_if_ge (tgt := 42) hx hb dX4_which_36 (by decide) (fun h => absurd h (by decide +kernel)) (fun _ => ?_)
        refine lv_iload hx hb dX4_which_39 (lv_at hl 0 rfl) ?_
        have hP9 := hP.sub (ws' := []) [] rfl
        have hD9 := hD.sub (ws' := []) [] (by decide) rfl
        exact W.iret (v := (-11)) hx hb hr (fun t ht hW => ⟨⟨(-11), 0, rfl, Or.inr (Or.inr (Or.inr (Or.inr (Or.inr (Or.inr (Or.inr (Or.inr (Or.inl ⟨i_0, i_1, i_27, i_28, i_29, i_30, i_31, rfl⟩)))))))), by rw [ht]; exact hP9, hD9⟩, hS.F ht⟩) hS.2.2 dX4_which_41
    · have i_1 : 1 < p4.toInt := z_nle (rfl) (rfl) c_1
      refine lv_iconst (v := (-1)) hx hb dX4_which_11 (by decide) ?_
      have hP9 := hP.sub (ws' := []) [] rfl
      have hD9 := hD.sub (ws' := []) [] (by decide) rfl
      exact W.iret (v := (-1)) hx hb hr (fun t ht hW => ⟨⟨(-1), 0, rfl, Or.inr (Or.inr (Or.inr (Or.inr (Or.inr (Or.inr (Or.inr (Or.inr (Or.inr (⟨i_0, i_1, rfl⟩))))))))), by rw [ht]; exact hP9, hD9⟩, hS.F ht⟩) hS.2.2 dX4_which_12
set_option maxHeartbeats 4000000 in
set_option maxRecDepth 100000 in
theorem kX4_film (l : Launch) (g : zG) (h0 h1 h2 h3 h4 h5 h6 h7 h8 h9 h10 h11 h12 h13 h14 h15 h16 h17 h18 h38 h39 h40 : Nat) (sz : Nat) (p1 : Int32) (p2 : Int32) (p3 : Int32) : Met l yX4_film (.code yX4_film cX4_film 7 (some .int) :: zBig) ({ frames := 2, cells := 0, slots := 0, locals := 44 }) (va_Pc [.ref h0, .int p1, .int p2, .int p3] (zPre g [(h0, .inr (4, [.ref h1, .ref h2, .int 0, .ref h3, .ref h4, .ref h5, .ref h6, .int (-1), .ref h7, .ref h8, .ref h9, .ref h10])), (h1, .inr (0, [.ref h11, .int 0, .ref h12, .int 0, .ref h13, .ref h14, .ref h15, .ref h16, .ref h17, .ref h18, .int 0])), (h5, .inr (1, [.ref h38, .ref h39, .ref h40])), (h38, .inl (zI g, 4, .inl (upd (upd (upd (upd (fun _ => 0) 0 (-1)) 1 (-1)) 2 (-1)) 3 (-1))))] sz)) (va_Qi (fun (r : Int32) (_ : Nat) => (p1.toInt < 0 ∧ r = (-1)) ∨ (0 ≤ p1.toInt ∧ 4 ≤ p1.toInt ∧ r = (-1)) ∨ (0 ≤ p1.toInt ∧ p1.toInt < 4 ∧ p2.toInt < 0 ∧ r = (-1)) ∨ (0 ≤ p1.toInt ∧ p1.toInt < 4 ∧ 0 ≤ p2.toInt ∧ 3 ≤ p2.toInt ∧ r = (-1)) ∨ (0 ≤ p1.toInt ∧ p1.toInt < 4 ∧ 0 ≤ p2.toInt ∧ p2.toInt < 3 ∧ p1.toInt = 0 ∧ r = (-11)) ∨ (0 ≤ p1.toInt ∧ p1.toInt < 4 ∧ 0 ≤ p2.toInt ∧ p2.toInt < 3 ∧ p1.toInt = 1 ∧ r = (-11)) ∨ (0 ≤ p1.toInt ∧ p1.toInt < 4 ∧ 0 ≤ p2.toInt ∧ p2.toInt < 3 ∧ p1.toInt = 2 ∧ r = (-11)) ∨ (0 ≤ p1.toInt ∧ p1.toInt < 4 ∧ 0 ≤ p2.toInt ∧ p2.toInt < 3 ∧ p1.toInt = 3 ∧ r = (-11))) (zPost g (fun _ : Nat => []) (va_A [(h0, .inr (4, [.ref h1, .ref h2, .int 0, .ref h3, .ref h4, .ref h5, .ref h6, .int (-1), .ref h7, .ref h8, .ref h9, .ref h10])), (h1, .inr (0, [.ref h11, .int 0, .ref h12, .int 0, .ref h13, .ref h14, .ref h15, .ref h16, .ref h17, .ref h18, .int 0])), (h5, .inr (1, [.ref h38, .ref h39, .ref h40])), (h38, .inl (zI g, 4, .inl (upd (upd (upd (upd (fun _ => 0) 0 (-1)) 1 (-1)) 2 (-1)) 3 (-1))))] sz)) (va_A [(h0, .inr (4, [.ref h1, .ref h2, .int 0, .ref h3, .ref h4, .ref h5, .ref h6, .int (-1), .ref h7, .ref h8, .ref h9, .ref h10])), (h1, .inr (0, [.ref h11, .int 0, .ref h12, .int 0, .ref h13, .ref h14, .ref h15, .ref h16, .ref h17, .ref h18, .int 0])), (h5, .inr (1, [.ref h38, .ref h39, .ref h40])), (h38, .inl (zI g, 4, .inl (upd (upd (upd (upd (fun _ => 0) 0 (-1)) 1 (-1)) 2 (-1)) 3 (-1))))] sz)) 0 0 (va_A [(h0, .inr (4, [.ref h1, .ref h2, .int 0, .ref h3, .ref h4, .ref h5, .ref h6, .int (-1), .ref h7, .ref h8, .ref h9, .ref h10])), (h1, .inr (0, [.ref h11, .int 0, .ref h12, .int 0, .ref h13, .ref h14, .ref h15, .ref h16, .ref h17, .ref h18, .int 0])), (h5, .inr (1, [.ref h38, .ref h39, .ref h40])), (h38, .inl (zI g, 4, .inl (upd (upd (upd (upd (fun _ => 0) 0 (-1)) 1 (-1)) 2 (-1)) 3 (-1))))] sz) := by
  refine zMetI rfl (Nat.le_of_ble_eq_true rfl) ?_
  intro p e s m args below meth c A ls hx hb hml hr hlocks hin hown hts hK hN hZ hP hD hA hS hAe hl
  have hown : s.vm.findClass RX4 = some m.cls := hown
  have hl : lv_has ls 7 [(0, .ref h0), (1, .int p1), (2, .int p2), (3, .int p3)] := hl
  refine lv_aload_n hx hb dX4_film_0 rfl (lv_at hl 0 rfl) ?_
  refine va_get (D := g.1) (ci := 4) (v := .ref h5) (C := RX4) (T := TX4) (N := 12) hx hb hts zl_X4 hown hK hP 0 rfl rfl 5 (by decide) (hts _ m_f_RX4_40) (fun _ h => h) rfl dX4_film_1 ?_
  refine lv_iload_n hx hb dX4_film_4 rfl (lv_at hl 1 rfl) ?_
  refine lv_iload_n hx hb dX4_film_5 rfl (lv_at hl 2 rfl) ?_
  refine lv_iload_n hx hb dX4_film_6 rfl (lv_at hl 3 rfl) ?_
  refine lv_iconst (v := 2) hx hb dX4_film_7 (by decide) ?_
  refine lv_aload_n hx hb dX4_film_8 rfl (lv_at hl 0 rfl) ?_
  refine va_get (D := g.1) (ci := 4) (v := .ref h1) (C := RX4) (T := TX4) (N := 12) hx hb hts zl_X4 hown hK hP 0 rfl rfl 0 (by decide) (hts _ m_f_RX4_10) (fun _ h => h) rfl dX4_film_9 ?_
  refine va_getN (D := g.1) (ci := 0) (v := .int 0) (C := RX0) (T := TX0) (N := 11) hx hb hts zl_X0 hown hK hP 1 rfl rfl 1 (by decide) (hN.f 4 (q := (RX4, 122, "FishSteps$Books", "lots", "I")) rfl) (fun _ h => h) rfl dX4_film_12 ?_
  refine lv_imul hx hb dX4_film_15 ?_
  refine lv_topi (nm_r (e' := 0) (by decide +kernel) ?_)
  refine z_calli (wr := [(h0, .inr (4, [.ref h1, .ref h2, .int 0, .ref h3, .ref h4, .ref h5, .ref h6, .int (-1), .ref h7, .ref h8, .ref h9, .ref h10])), (h1, .inr (0, [.ref h11, .int 0, .ref h12, .int 0, .ref h13, .ref h14, .ref h15, .ref h16, .ref h17, .ref h18, .int 0]))]) hP hD hS hA [2, 3] [0, 1] (by decide) rfl rfl (by decide) (va_runVN (As := [.int p1, .int p2, .int p3, .int 0]) (rest := []) ⟨hx, hb, hml, hown, hts⟩ (kX1_refuse_2 l g h5 h38 h39 h40 s.heap.size p1 p2 p3) ⟨va_cnB 4 hts (zGood m_o_yX1_refuse) rfl rfl rfl (hN.m 28 (q := (RX4, 208, yX1_refuse)) rfl) (hts _ m_z_RX1) ⟨by decide +kernel, by decide +kernel, by decide +kernel⟩ ⟨Nat.le_of_ble_eq_true rfl, Nat.le_of_ble_eq_true rfl⟩, hts _ m_i_yX1_refuse, hts _ m_e_yX1_refuse⟩ (zPreV hK hN hZ hP hD hS hA [2, 3] (by decide) rfl rfl 1 2 rfl rfl) rfl rfl hl.1 rfl (lv_room (Nat.le_of_ble_eq_true rfl)) dX4_film_16 ⟨Nat.le_of_ble_eq_true rfl, Nat.le_of_ble_eq_true rfl⟩) (fun r u H locs hw hP hD hS => ?_)
  rcases hw with ⟨i_0, rfl⟩ | ⟨i_1, i_2, rfl⟩ | ⟨i_3, i_4, i_5, rfl⟩ | ⟨i_6, i_7, i_8, i_9, rfl⟩ | ⟨i_10, i_11, i_12, i_13, i_14, rfl⟩ | ⟨i_15, i_16, i_17, i_18, i_19, rfl⟩ | ⟨i_20, i_21, i_22, i_23, i_24, rfl⟩ | ⟨i_25, i_26, i_27, i_28, i_29, rfl⟩
  · skip
    have i_0 : p1.toInt < 0 := i_0
    have hP : va_P g.1 vwCl [(h0, .inr (4, [.ref h1, .ref h2, .int 0, .ref h3, .ref h4, .ref h5, .ref h6, .int (-1), .ref h7, .ref h8, .ref h9, .ref h10])), (h1, .inr (0, [.ref h11, .int 0, .ref h12, .int 0, .ref h13, .ref h14, .ref h15, .ref h16, .ref h17, .ref h18, .int 0])), (h5, .inr (1, [.ref h38, .ref h39, .ref h40])), (h38, .inl (zI g, 4, .inl (upd (upd (upd (upd (fun _ => 0) 0 (-1)) 1 (-1)) 2 (-1)) 3 (-1))))] H := hP
    have hD : va_D A [(h0, .inr (4, [.ref h1, .ref h2, .int 0, .ref h3, .ref h4, .ref h5, .ref h6, .int (-1), .ref h7, .ref h8, .ref h9, .ref h10])), (h1, .inr (0, [.ref h11, .int 0, .ref h12, .int 0, .ref h13, .ref h14, .ref h15, .ref h16, .ref h17, .ref h18, .int 0])), (h5, .inr (1, [.ref h38, .ref h39, .ref h40])), (h38, .inl (zI g, 4, .inl (upd (upd (upd (upd (fun _ => 0) 0 (-1)) 1 (-1)) 2 (-1)) 3 (-1))))] := hD
    refine lv_istore (lv' := [(4, .int (-1)), (0, .ref h0), (1, .int p1), (2, .int p2), (3, .int p3)]) hx hb dX4_film_19 hl (by decide) rfl (fun ls hl => ?_)
    refine lv_iload hx hb dX4_film_21 (lv_at hl 0 rfl) ?_
    refine lv_if_ge (tgt := 29) hx hb dX4_film_23 (by decide) (fun h => absurd h (by decide +kernel)) (fun _ => ?_)
    refine lv_iload hx hb dX4_film_26 (lv_at hl 0 rfl) ?_
    have hP9 := hP.sub (ws' := []) [] rfl
    have hD9 := hD.sub (ws' := []) [] (by decide) rfl
    exact W.iret (v := (-1)) hx hb hr (fun t ht hW => ⟨⟨(-1), 0, rfl, Or.inl ⟨i_0, rfl⟩, by rw [ht]; exact hP9, hD9⟩, hS.F ht⟩) hS.2.2 dX4_film_28
  · skip
    have i_1 : 0 ≤ p1.toInt := i_1
    have i_2 : 4 ≤ p1.toInt := i_2
    have hP : va_P g.1 vwCl [(h0, .inr (4, [.ref h1, .ref h2, .int 0, .ref h3, .ref h4, .ref h5, .ref h6, .int (-1), .ref h7, .ref h8, .ref h9, .ref h10])), (h1, .inr (0, [.ref h11, .int 0, .ref h12, .int 0, .ref h13, .ref h14, .ref h15, .ref h16, .ref h17, .ref h18, .int 0])), (h5, .inr (1, [.ref h38, .ref h39, .ref h40])), (h38, .inl (zI g, 4, .inl (upd (upd (upd (upd (fun _ => 0) 0 (-1)) 1 (-1)) 2 (-1)) 3 (-1))))] H := hP
    have hD : va_D A [(h0, .inr (4, [.ref h1, .ref h2, .int 0, .ref h3, .ref h4, .ref h5, .ref h6, .int (-1), .ref h7, .ref h8, .ref h9, .ref h10])), (h1, .inr (0, [.ref h11, .int 0, .ref h12, .int 0, .ref h13, .ref h14, .ref h15, .ref h16, .ref h17, .ref h18, .int 0])), (h5, .inr (1, [.ref h38, .ref h39, .ref h40])), (h38, .inl (zI g, 4, .inl (upd (upd (upd (upd (fun _ => 0) 0 (-1)) 1 (-1)) 2 (-1)) 3 (-1))))] := hD
    refine lv_istore (lv' := [(4, .int (-1)), (0, .ref h0), (1, .int p1), (2, .int p2), (3, .int p3)]) hx hb dX4_film_19 hl (by decide) rfl (fun ls hl => ?_)
    refine lv_iload hx hb dX4_film_21 (lv_at hl 0 rfl) ?_
    refine lv_if_ge (tgt := 29) hx hb dX4_film_23 (by decide) (fun h => absurd h (by decide +kernel)) (fun _ => ?_)
    refine lv_iload hx hb dX4_film_26 (lv_at hl 0 rfl) ?_
    have hP9 := hP.sub (ws' := []) [] rfl
    have hD9 := hD.sub (ws' := []) [] (by decide) rfl
    exact W.iret (v := (-1)) hx hb hr (fun t ht hW => ⟨⟨(-1), 0, rfl, Or.inr (Or.inl ⟨i_1, i_2, rfl⟩), by rw [ht]; exact hP9, hD9⟩, hS.F ht⟩) hS.2.2 dX4_film_28
  · skip
    have i_3 : 0 ≤ p1.toInt := i_3
    have i_4 : p1.toInt < 4 := i_4
    have i_5 : p2.toInt < 0 := i_5
    have hP : va_P g.1 vwCl [(h0, .inr (4, [.ref h1, .ref h2, .int 0, .ref h3, .ref h4, .ref h5, .ref h6, .int (-1), .ref h7, .ref h8, .ref h9, .ref h10])), (h1, .inr (0, [.ref h11, .int 0, .ref h12, .int 0, .ref h13, .ref h14, .ref h15, .ref h16, .ref h17, .ref h18, .int 0])), (h5, .inr (1, [.ref h38, .ref h39, .ref h40])), (h38, .inl (zI g, 4, .inl (upd (upd (upd (upd (fun _ => 0) 0 (-1)) 1 (-1)) 2 (-1)) 3 (-1))))] H := hP
    have hD : va_D A [(h0, .inr (4, [.ref h1, .ref h2, .int 0, .ref h3, .ref h4, .ref h5, .ref h6, .int (-1), .ref h7, .ref h8, .ref h9, .ref h10])), (h1, .inr (0, [.ref h11, .int 0, .ref h12, .int 0, .ref h13, .ref h14, .ref h15, .ref h16, .ref h17, .ref h18, .int 0])), (h5, .inr (1, [.ref h38, .ref h39, .ref h40])), (h38, .inl (zI g, 4, .inl (upd (upd (upd (upd (fun _ => 0) 0 (-1)) 1 (-1)) 2 (-1)) 3 (-1))))] := hD
    refine lv_istore (lv' := [(4, .int (-1)), (0, .ref h0), (1, .int p1), (2, .int p2), (3, .int p3)]) hx hb dX4_film_19 hl (by decide) rfl (fun ls hl => ?_)
    refine lv_iload hx hb dX4_film_21 (lv_at hl 0 rfl) ?_
    refine lv_if_ge (tgt := 29) hx hb dX4_film_23 (by decide) (fun h => absurd h (by decide +kernel)) (fun _ => ?_)
    refine lv_iload hx hb dX4_film_26 (lv_at hl 0 rfl) ?_
    have hP9 := hP.sub (ws' := []) [] rfl
    have hD9 := hD.sub (ws' := []) [] (by decide) rfl
    exact W.iret (v := (-1)) hx hb hr (fun t ht hW => ⟨⟨(-1), 0, rfl, Or.inr (Or.inr (Or.inl ⟨i_3, i_4, i_5, rfl⟩)), by rw [ht]; exact hP9, hD9⟩, hS.F ht⟩) hS.2.2 dX4_film_28
  · skip
    have i_6 : 0 ≤ p1.toInt := i_6
    have i_7 : p1.toInt < 4 := i_7
    have i_8 : 0 ≤ p2.toInt := i_8
    have i_9 : 3 ≤ p2.toInt := i_9
    have hP : va_P g.1 vwCl [(h0, .inr (4, [.ref h1, .ref h2, .int 0, .ref h3, .ref h4, .ref h5, .ref h6, .int (-1), .ref h7, .ref h8, .ref h9, .ref h10])), (h1, .inr (0, [.ref h11, .int 0, .ref h12, .int 0, .ref h13, .ref h14, .ref h15, .ref h16, .ref h17, .ref h18, .int 0])), (h5, .inr (1, [.ref h38, .ref h39, .ref h40])), (h38, .inl (zI g, 4, .inl (upd (upd (upd (upd (fun _ => 0) 0 (-1)) 1 (-1)) 2 (-1)) 3 (-1))))] H := hP
    have hD : va_D A [(h0, .inr (4, [.ref h1, .ref h2, .int 0, .ref h3, .ref h4, .ref h5, .ref h6, .int (-1), .ref h7, .ref h8, .ref h9, .ref h10])), (h1, .inr (0, [.ref h11, .int 0, .ref h12, .int 0, .ref h13, .ref h14, .ref h15, .ref h16, .ref h17, .ref h18, .int 0])), (h5, .inr (1, [.ref h38, .ref h39, .ref h40])), (h38, .inl (zI g, 4, .inl (upd (upd (upd (upd (fun _ => 0) 0 (-1)) 1 (-1)) 2 (-1)) 3 (-1))))] := hD
    refine lv_istore (lv' := [(4, .int (-1)), (0, .ref h0), (1, .int p1), (2, .int p2), (3, .int p3)]) hx hb dX4_film_19 hl (by decide) rfl (fun ls hl => ?_)
    refine lv_iload hx hb dX4_film_21 (lv_at hl 0 rfl) ?_
    refine lv_if_ge (tgt := 29) hx hb dX4_film_23 (by decide) (fun h => absurd h (by decide +kernel)) (fun _ => ?_)
    refine lv_iload hx hb dX4_film_26 (lv_at hl 0 rfl) ?_
    have hP9 := hP.sub (ws' := []) [] rfl
    have hD9 := hD.sub (ws' := []) [] (by decide) rfl
    exact W.iret (v := (-1)) hx hb hr (fun t ht hW => ⟨⟨(-1), 0, rfl, Or.inr (Or.inr (Or.inr (Or.inl ⟨i_6, i_7, i_8, i_9, rfl⟩))), by rw [ht]; exact hP9, hD9⟩, hS.F ht⟩) hS.2.2 dX4_film_28
  · skip
    have i_10 : 0 ≤ p1.toInt := i_10
    have i_11 : p1.toInt < 4 := i_11
    have i_12 : 0 ≤ p2.toInt := i_12
    have i_13 : p2.toInt < 3 := i_13
    have i_14 : p1.toInt = 0 := i_14
    have hP : va_P g.1 vwCl [(h0, .inr (4, [.ref h1, .ref h2, .int 0, .ref h3, .ref h4, .ref h5, .ref h6, .int (-1), .ref h7, .ref h8, .ref h9, .ref h10])), (h1, .inr (0, [.ref h11, .int 0, .ref h12, .int 0, .ref h13, .ref h14, .ref h15, .ref h16, .ref h17, .ref h18, .int 0])), (h5, .inr (1, [.ref h38, .ref h39, .ref h40])), (h38, .inl (zI g, 4, .inl (upd (upd (upd (upd (fun _ => 0) 0 (-1)) 1 (-1)) 2 (-1)) 3 (-1))))] H := hP
    have hD : va_D A [(h0, .inr (4, [.ref h1, .ref h2, .int 0, .ref h3, .ref h4, .ref h5, .ref h6, .int (-1), .ref h7, .ref h8, .ref h9, .ref h10])), (h1, .inr (0, [.ref h11, .int 0, .ref h12, .int 0, .ref h13, .ref h14, .ref h15, .ref h16, .ref h17, .ref h18, .int 0])), (h5, .inr (1, [.ref h38, .ref h39, .ref h40])), (h38, .inl (zI g, 4, .inl (upd (upd (upd (upd (fun _ => 0) 0 (-1)) 1 (-1)) 2 (-1)) 3 (-1))))] := hD
    refine lv_istore (lv' := [(4, .int (-11)), (0, .ref h0), (1, .int p1), (2, .int p2), (3, .int p3)]) hx hb dX4_film_19 hl (by decide) rfl (fun ls hl => ?_)
    refine lv_iload hx hb dX4_film_21 (lv_at hl 0 rfl) ?_
    refine lv_if_ge (tgt := 29) hx hb dX4_film_23 (by decide) (fun h => absurd h (by decide +kernel)) (fun _ => ?_)
    refine lv_iload hx hb dX4_film_26 (lv_at hl 0 rfl) ?_
    have hP9 := hP.sub (ws' := []) [] rfl
    have hD9 := hD.sub (ws' := []) [] (by decide) rfl
    exact W.iret (v := (-11)) hx hb hr (fun t ht hW => ⟨⟨(-11), 0, rfl, Or.inr (Or.inr (Or.inr (Or.inr (Or.inl ⟨i_10, i_11, i_12, i_13, i_14, rfl⟩)))), by rw [ht]; exact hP9, hD9⟩, hS.F ht⟩) hS.2.2 dX4_film_28
  · skip
    have i_15 : 0 ≤ p1.toInt := i_15
    have i_16 : p1.toInt < 4 := i_16
    have i_17 : 0 ≤ p2.toInt := i_17
    have i_18 : p2.toInt < 3 := i_18
    have i_19 : p1.toInt = 1 := i_19
    have hP : va_P g.1 vwCl [(h0, .inr (4, [.ref h1, .ref h2, .int 0, .ref h3, .ref h4, .ref h5, .ref h6, .int (-1), .ref h7, .ref h8, .ref h9, .ref h10])), (h1, .inr (0, [.ref h11, .int 0, .ref h12, .int 0, .ref h13, .ref h14, .ref h15, .ref h16, .ref h17, .ref h18, .int 0])), (h5, .inr (1, [.ref h38, .ref h39, .ref h40])), (h38, .inl (zI g, 4, .inl (upd (upd (upd (upd (fun _ => 0) 0 (-1)) 1 (-1)) 2 (-1)) 3 (-1))))] H := hP
    have hD : va_D A [(h0, .inr (4, [.ref h1, .ref h2, .int 0, .ref h3, .ref h4, .ref h5, .ref h6, .int (-1), .ref h7, .ref h8, .ref h9, .ref h10])), (h1, .inr (0, [.ref h11, .int 0, .ref h12, .int 0, .ref h13, .ref h14, .ref h15, .ref h16, .ref h17, .ref h18, .int 0])), (h5, .inr (1, [.ref h38, .ref h39, .ref h40])), (h38, .inl (zI g, 4, .inl (upd (upd (upd (upd (fun _ => 0) 0 (-1)) 1 (-1)) 2 (-1)) 3 (-1))))] := hD
    refine lv_istore (lv' := [(4, .int (-11)), (0, .ref h0), (1, .int p1), (2, .int p2), (3, .int p3)]) hx hb dX4_film_19 hl (by decide) rfl (fun ls hl => ?_)
    refine lv_iload hx hb dX4_film_21 (lv_at hl 0 rfl) ?_
    refine lv_if_ge (tgt := 29) hx hb dX4_film_23 (by decide) (fun h => absurd h (by decide +kernel)) (fun _ => ?_)
    refine lv_iload hx hb dX4_film_26 (lv_at hl 0 rfl) ?_
    have hP9 := hP.sub (ws' := []) [] rfl
    have hD9 := hD.sub (ws' := []) [] (by decide) rfl
    exact W.iret (v := (-11)) hx hb hr (fun t ht hW => ⟨⟨(-11), 0, rfl, Or.inr (Or.inr (Or.inr (Or.inr (Or.inr (Or.inl ⟨i_15, i_16, i_17, i_18, i_19, rfl⟩))))), by rw [ht]; exact hP9, hD9⟩, hS.F ht⟩) hS.2.2 dX4_film_28
  · skip
    have i_20 : 0 ≤ p1.toInt := i_20
    have i_21 : p1.toInt < 4 := i_21
    have i_22 : 0 ≤ p2.toInt := i_22
    have i_23 : p2.toInt < 3 := i_23
    have i_24 : p1.toInt = 2 := i_24
    have hP : va_P g.1 vwCl [(h0, .inr (4, [.ref h1, .ref h2, .int 0, .ref h3, .ref h4, .ref h5, .ref h6, .int (-1), .ref h7, .ref h8, .ref h9, .ref h10])), (h1, .inr (0, [.ref h11, .int 0, .ref h12, .int 0, .ref h13, .ref h14, .ref h15, .ref h16, .ref h17, .ref h18, .int 0])), (h5, .inr (1, [.ref h38, .ref h39, .ref h40])), (h38, .inl (zI g, 4, .inl (upd (upd (upd (upd (fun _ => 0) 0 (-1)) 1 (-1)) 2 (-1)) 3 (-1))))] H := hP
    have hD : va_D A [(h0, .inr (4, [.ref h1, .ref h2, .int 0, .ref h3, .ref h4, .ref h5, .ref h6, .int (-1), .ref h7, .ref h8, .ref h9, .ref h10])), (h1, .inr (0, [.ref h11, .int 0, .ref h12, .int 0, .ref h13, .ref h14, .ref h15, .ref h16, .ref h17, .ref h18, .int 0])), (h5, .inr (1, [.ref h38, .ref h39, .ref h40])), (h38, .inl (zI g, 4, .inl (upd (upd (upd (upd (fun _ => 0) 0 (-1)) 1 (-1)) 2 (-1)) 3 (-1))))] := hD
    refine lv_istore (lv' := [(4, .int (-11)), (0, .ref h0), (1, .int p1), (2, .int p2), (3, .int p3)]) hx hb dX4_film_19 hl (by decide) rfl (fun ls hl => ?_)
    refine lv_iload hx hb dX4_film_21 (lv_at hl 0 rfl) ?_
    refine lv_if_ge (tgt := 29) hx hb dX4_film_23 (by decide) (fun h => absurd h (by decide +kernel)) (fun _ => ?_)
    refine lv_iload hx hb dX4_film_26 (lv_at hl 0 rfl) ?_
    have hP9 := hP.sub (ws' := []) [] rfl
    have hD9 := hD.sub (ws' := []) [] (by decide) rfl
    exact W.iret (v := (-11)) hx hb hr (fun t ht hW => ⟨⟨(-11), 0, rfl, Or.inr (Or.inr (Or.inr (Or.inr (Or.inr (Or.inr (Or.inl ⟨i_20, i_21, i_22, i_23, i_24, rfl⟩)))))), by rw [ht]; exact hP9, hD9⟩, hS.F ht⟩) hS.2.2 dX4_film_28
  · skip
    have i_25 : 0 ≤ p1.toInt := i_25
    have i_26 : p1.toInt < 4 := i_26
    have i_27 : 0 ≤ p2.toInt := i_27
    have i_28 : p2.toInt < 3 := i_28
    have i_29 : p1.toInt = 3 := i_29
    have hP : va_P g.1 vwCl [(h0, .inr (4, [.ref h1, .ref h2, .int 0, .ref h3, .ref h4, .ref h5, .ref h6, .int (-1), .ref h7, .ref h8, .ref h9, .ref h10])), (h1, .inr (0, [.ref h11, .int 0, .ref h12, .int 0, .ref h13, .ref h14, .ref h15, .ref h16, .ref h17, .ref h18, .int 0])), (h5, .inr (1, [.ref h38, .ref h39, .ref h40])), (h38, .inl (zI g, 4, .inl (upd (upd (upd (upd (fun _ => 0) 0 (-1)) 1 (-1)) 2 (-1)) 3 (-1))))] H := hP
    have hD : va_D A [(h0, .inr (4, [.ref h1, .ref h2, .int 0, .ref h3, .ref h4, .ref h5, .ref h6, .int (-1), .ref h7, .ref h8, .ref h9, .ref h10])), (h1, .inr (0, [.ref h11, .int 0, .ref h12, .int 0, .ref h13, .ref h14, .ref h15, .ref h16, .ref h17, .ref h18, .int 0])), (h5, .inr (1, [.ref h38, .ref h39, .ref h40])), (h38, .inl (zI g, 4, .inl (upd (upd (upd (upd (fun _ => 0) 0 (-1)) 1 (-1)) 2 (-1)) 3 (-1))))] := hD
    refine lv_istore (lv' := [(4, .int (-11)), (0, .ref h0), (1, .int p1), (2, .int p2), (3, .int p3)]) hx hb dX4_film_19 hl (by decide) rfl (fun ls hl => ?_)
    refine lv_iload hx hb dX4_film_21 (lv_at hl 0 rfl) ?_
    refine lv_if_ge (tgt := 29) hx hb dX4_film_23 (by decide) (fun h => absurd h (by decide +kernel)) (fun _ => ?_)
    refine lv_iload hx hb dX4_film_26 (lv_at hl 0 rfl) ?_
    have hP9 := hP.sub (ws' := []) [] rfl
    have hD9 := hD.sub (ws' := []) [] (by decide) rfl
    exact W.iret (v := (-11)) hx hb hr (fun t ht hW => ⟨⟨(-11), 0, rfl, Or.inr (Or.inr (Or.inr (Or.inr (Or.inr (Or.inr (Or.inr (⟨i_25, i_26, i_27, i_28, i_29, rfl⟩))))))), by rw [ht]; exact hP9, hD9⟩, hS.F ht⟩) hS.2.2 dX4_film_28
set_option maxHeartbeats 4000000 in
set_option maxRecDepth 100000 in
theorem kJ7_rangeCheck_23922 (l : Launch) (g : zG) (sz : Nat) : Met l yJ7_rangeCheck_23922 (.code yJ7_rangeCheck_23922 cJ7_rangeCheck_23922 3 none :: zBig) ({ frames := 0, cells := 0, slots := 0, locals := 0 }) (va_Pc [.int 64, .int 0, .int 16] (zPre g [] sz)) (va_Qv (fun _ : Nat => True) (zPost g (fun _ : Nat => []) (va_A [] sz)) (va_A [] sz)) 0 0 (va_A [] sz) := by
  refine zMetV rfl (Nat.le_of_ble_eq_true rfl) ?_
  intro p e s m args below meth c A ls hx hb hml hr hlocks hin hown hts hK hN hZ hP hD hA hS hAe hl
  have hown : s.vm.findClass RJ7 = some m.cls := hown
  have hl : lv_has ls 3 [(0, .int 64), (1, .int 0), (2, .int 16)] := hl
  refine lv_iload_n hx hb dJ7_rangeCheck_23922_0 rfl (lv_at hl 1 rfl) ?_
  refine lv_iload_n hx hb dJ7_rangeCheck_23922_1 rfl (lv_at hl 2 rfl) ?_
  refine lv_icmp_le (tgt := 46) hx hb dJ7_rangeCheck_23922_2 (by decide) (fun _ => ?_) (fun h => absurd h (by decide +kernel))
  refine lv_iload_n hx hb dJ7_rangeCheck_23922_46 rfl (lv_at hl 1 rfl) ?_
  refine lv_if_ge (tgt := 59) hx hb dJ7_rangeCheck_23922_47 (by decide) (fun _ => ?_) (fun h => absurd h (by decide +kernel))
  refine lv_iload_n hx hb dJ7_rangeCheck_23922_59 rfl (lv_at hl 2 rfl) ?_
  refine lv_iload_n hx hb dJ7_rangeCheck_23922_60 rfl (lv_at hl 0 rfl) ?_
  refine lv_icmp_le (tgt := 73) hx hb dJ7_rangeCheck_23922_61 (by decide) (fun _ => ?_) (fun h => absurd h (by decide +kernel))
  have hP9 := hP.sub (ws' := []) [] rfl
  have hD9 := hD.sub (ws' := []) [] (by decide) rfl
  exact W.vret hx hb hr (fun t ht hW => ⟨⟨0, rfl, trivial, by rw [ht]; exact hP9, hD9⟩, hS.F ht⟩) hS.2.2 dJ7_rangeCheck_23922_73
set_option maxHeartbeats 4000000 in
set_option maxRecDepth 100000 in
theorem kJ7_rangeCheck_23922_2 (l : Launch) (g : zG) (sz : Nat) : Met l yJ7_rangeCheck_23922 (.code yJ7_rangeCheck_23922 cJ7_rangeCheck_23922 3 none :: zBig) ({ frames := 0, cells := 0, slots := 0, locals := 0 }) (va_Pc [.int 64, .int 0, .int 16] (zPre g [] sz)) (va_Qv (fun _ : Nat => True) (zPost g (fun _ : Nat => []) (va_A [] sz)) (va_A [] sz)) 0 0 (va_A [] sz) := by
  refine zMetV rfl (Nat.le_of_ble_eq_true rfl) ?_
  intro p e s m args below meth c A ls hx hb hml hr hlocks hin hown hts hK hN hZ hP hD hA hS hAe hl
  have hown : s.vm.findClass RJ7 = some m.cls := hown
  have hl : lv_has ls 3 [(0, .int 64), (1, .int 0), (2, .int 16)] := hl
  refine lv_iload_n hx hb dJ7_rangeCheck_23922_0 rfl (lv_at hl 1 rfl) ?_
  refine lv_iload_n hx hb dJ7_rangeCheck_23922_1 rfl (lv_at hl 2 rfl) ?_
  refine lv_icmp_le (tgt := 46) hx hb dJ7_rangeCheck_23922_2 (by decide) (fun _ => ?_) (fun h => absurd h (by decide +kernel))
  refine lv_iload_n hx hb dJ7_rangeCheck_23922_46 rfl (lv_at hl 1 rfl) ?_
  refine lv_if_ge (tgt := 59) hx hb dJ7_rangeCheck_23922_47 (by decide) (fun _ => ?_) (fun h => absurd h (by decide +kernel))
  refine lv_iload_n hx hb dJ7_rangeCheck_23922_59 rfl (lv_at hl 2 rfl) ?_
  refine lv_iload_n hx hb dJ7_rangeCheck_23922_60 rfl (lv_at hl 0 rfl) ?_
  refine lv_icmp_le (tgt := 73) hx hb dJ7_rangeCheck_23922_61 (by decide) (fun _ => ?_) (fun h => absurd h (by decide +kernel))
  have hP9 := hP.sub (ws' := []) [] rfl
  have hD9 := hD.sub (ws' := []) [] (by decide) rfl
  exact W.vret hx hb hr (fun t ht hW => ⟨⟨0, rfl, trivial, by rw [ht]; exact hP9, hD9⟩, hS.F ht⟩) hS.2.2 dJ7_rangeCheck_23922_73
set_option maxHeartbeats 4000000 in
set_option maxRecDepth 100000 in
theorem kJ7_fill_bad5a (l : Launch) (g : zG) (h0 : Nat) (sz : Nat) : Met l yJ7_fill_bad5a (.code yJ7_fill_bad5a cJ7_fill_bad5a 6 none :: zBig) ({ frames := 1, cells := 0, slots := 0, locals := 22 }) (va_Pc [.ref h0, .int 0, .int 16, .long 0] (zPre g [(h0, .inl (zJ g, 64, .inr (.inl (fun _ => 0))))] sz)) (va_Qv (fun _ : Nat => True) (zPost g (fun _ : Nat => [(h0, .inl (zJ g, 64, .inr (.inl (fun _ => 0))))]) (va_A [(h0, .inl (zJ g, 64, .inr (.inl (fun _ => 0))))] sz)) (va_A [(h0, .inl (zJ g, 64, .inr (.inl (fun _ => 0))))] sz)) 0 0 (va_A [(h0, .inl (zJ g, 64, .inr (.inl (fun _ => 0))))] sz) := by
  refine zMetV rfl (Nat.le_of_ble_eq_true rfl) ?_
  intro p e s m args below meth c A ls hx hb hml hr hlocks hin hown hts hK hN hZ hP hD hA hS hAe hl
  have hown : s.vm.findClass RJ7 = some m.cls := hown
  have hl : lv_has ls 6 [(0, .ref h0), (1, .int 0), (2, .int 16), (3, .long 0)] := hl
  refine lv_aload_n hx hb dJ7_fill_bad5a_0 rfl (lv_at hl 0 rfl) ?_
  refine va_alen (D := g.1) hx hb hK hP 0 1 rfl rfl (v := 64) (by decide) dJ7_fill_bad5a_1 ?_
  refine lv_iload_n hx hb dJ7_fill_bad5a_2 rfl (lv_at hl 1 rfl) ?_
  refine lv_iload_n hx hb dJ7_fill_bad5a_3 rfl (lv_at hl 2 rfl) ?_
  refine z_callv (wr := [(h0, .inl (zJ g, 64, .inr (.inl (fun _ => 0))))]) hP hD hS hA [] [0] (by decide) rfl rfl (by decide) (va_runS (As := [.int 64, .int 0, .int 16]) (rest := []) ⟨hx, hb, hml, hown, hts⟩ (kJ7_rangeCheck_23922_2 l g  s.heap.size) ⟨callB_of 3 hts (zGood m_o_yJ7_rangeCheck_23922) rfl rfl rfl (hts _ m_z_RJ7) (hts _ m_m_RJ7_13) ⟨by decide +kernel, by decide +kernel, by decide +kernel⟩ ⟨Nat.le_of_ble_eq_true rfl, Nat.le_of_ble_eq_true rfl⟩, hts _ m_s_yJ7_rangeCheck_23922⟩ (zPreS hK hN hZ hP hD hS hA [] (by decide) rfl rfl) rfl rfl hl.1 rfl (lv_room (Nat.le_of_ble_eq_true rfl)) dJ7_fill_bad5a_4 ⟨Nat.le_of_ble_eq_true rfl, Nat.le_of_ble_eq_true rfl⟩) (fun u H locs hw hP hD hS => ?_)
  have hP : va_P g.1 vwCl [(h0, .inl (zJ g, 64, .inr (.inl (fun _ => 0))))] H := hP
  have hD : va_D A [(h0, .inl (zJ g, 64, .inr (.inl (fun _ => 0))))] := hD
  refine lv_iload_n hx hb dJ7_fill_bad5a_7 rfl (lv_at hl 1 rfl) ?_
  refine lv_istore (lv' := [(5, .int 0), (0, .ref h0), (1, .int 0), (2, .int 16), (3, .long 0)]) hx hb dJ7_fill_bad5a_8 hl (by decide) rfl (fun ls hl => ?_)
  refine lv_iload hx hb dJ7_fill_bad5a_10 (lv_at hl 0 rfl) ?_
  refine lv_iload_n hx hb dJ7_fill_bad5a_12 rfl (lv_at hl 3 rfl) ?_
  refine lv_icmp_ge (tgt := 27) hx hb dJ7_fill_bad5a_13 (by decide) (fun h => absurd h (by decide +kernel)) (fun _ => ?_)
  refine lv_aload_n hx hb dJ7_fill_bad5a_16 rfl (lv_at hl 1 rfl) ?_
  refine lv_iload hx hb dJ7_fill_bad5a_17 (lv_at hl 0 rfl) ?_
  refine lv_lload_n hx hb dJ7_fill_bad5a_19 rfl (lv_at hl 4 rfl) ?_
  refine va_last (D := g.1) hx hb hK hP hD hS 0 1 rfl rfl (vp_in_iff.mpr (by decide +kernel)) dJ7_fill_bad5a_20 (fun H locs hP hD hS => ?_)
  have hP : va_P g.1 vwCl [(h0, .inl (zJ g, 64, .inr (.inl (vp_updL (fun _ => 0) 0 0))))] H := hP
  have hD : va_D A [(h0, .inl (zJ g, 64, .inr (.inl (vp_updL (fun _ => 0) 0 0))))] := hD
  rw [zc_setL] at hP hD
  refine lv_iinc (v := 1) (lv' := [(5, .int 1), (0, .ref h0), (1, .int 0), (2, .int 16), (3, .long 0)]) hx hb dJ7_fill_bad5a_21 hl (k := 0) rfl (by decide) (by decide) rfl (fun ls hl => ?_)
  refine lv_goto (tgt := 10) hx hb dJ7_fill_bad5a_24 (by decide) ?_
  refine lv_iload hx hb dJ7_fill_bad5a_10 (lv_at hl 0 rfl) ?_
  refine lv_iload_n hx hb dJ7_fill_bad5a_12 rfl (lv_at hl 3 rfl) ?_
  refine lv_icmp_ge (tgt := 27) hx hb dJ7_fill_bad5a_13 (by decide) (fun h => absurd h (by decide +kernel)) (fun _ => ?_)
  refine lv_aload_n hx hb dJ7_fill_bad5a_16 rfl (lv_at hl 1 rfl) ?_
  refine lv_iload hx hb dJ7_fill_bad5a_17 (lv_at hl 0 rfl) ?_
  refine lv_lload_n hx hb dJ7_fill_bad5a_19 rfl (lv_at hl 4 rfl) ?_
  refine va_last (D := g.1) hx hb hK hP hD hS 0 1 rfl rfl (vp_in_iff.mpr (by decide +kernel)) dJ7_fill_bad5a_20 (fun H locs hP hD hS => ?_)
  have hP : va_P g.1 vwCl [(h0, .inl (zJ g, 64, .inr (.inl (vp_updL (fun _ => 0) 1 0))))] H := hP
  have hD : va_D A [(h0, .inl (zJ g, 64, .inr (.inl (vp_updL (fun _ => 0) 1 0))))] := hD
  rw [zc_setL] at hP hD
  refine lv_iinc (v := 2) (lv' := [(5, .int 2), (0, .ref h0), (1, .int 0), (2, .int 16), (3, .long 0)]) hx hb dJ7_fill_bad5a_21 hl (k := 0) rfl (by decide) (by decide) rfl (fun ls hl => ?_)
  refine lv_goto (tgt := 10) hx hb dJ7_fill_bad5a_24 (by decide) ?_
  refine lv_iload hx hb dJ7_fill_bad5a_10 (lv_at hl 0 rfl) ?_
  refine lv_iload_n hx hb dJ7_fill_bad5a_12 rfl (lv_at hl 3 rfl) ?_
  refine lv_icmp_ge (tgt := 27) hx hb dJ7_fill_bad5a_13 (by decide) (fun h => absurd h (by decide +kernel)) (fun _ => ?_)
  refine lv_aload_n hx hb dJ7_fill_bad5a_16 rfl (lv_at hl 1 rfl) ?_
  refine lv_iload hx hb dJ7_fill_bad5a_17 (lv_at hl 0 rfl) ?_
  refine lv_lload_n hx hb dJ7_fill_bad5a_19 rfl (lv_at hl 4 rfl) ?_
  refine va_last (D := g.1) hx hb hK hP hD hS 0 1 rfl rfl (vp_in_iff.mpr (by decide +kernel)) dJ7_fill_bad5a_20 (fun H locs hP hD hS => ?_)
  have hP : va_P g.1 vwCl [(h0, .inl (zJ g, 64, .inr (.inl (vp_updL (fun _ => 0) 2 0))))] H := hP
  have hD : va_D A [(h0, .inl (zJ g, 64, .inr (.inl (vp_updL (fun _ => 0) 2 0))))] := hD
  rw [zc_setL] at hP hD
  refine lv_iinc (v := 3) (lv' := [(5, .int 3), (0, .ref h0), (1, .int 0), (2, .int 16), (3, .long 0)]) hx hb dJ7_fill_bad5a_21 hl (k := 0) rfl (by decide) (by decide) rfl (fun ls hl => ?_)
  refine lv_goto (tgt := 10) hx hb dJ7_fill_bad5a_24 (by decide) ?_
  refine lv_iload hx hb dJ7_fill_bad5a_10 (lv_at hl 0 rfl) ?_
  refine lv_iload_n hx hb dJ7_fill_bad5a_12 rfl (lv_at hl 3 rfl) ?_
  refine lv_icmp_ge (tgt := 27) hx hb dJ7_fill_bad5a_13 (by decide) (fun h => absurd h (by decide +kernel)) (fun _ => ?_)
  refine lv_aload_n hx hb dJ7_fill_bad5a_16 rfl (lv_at hl 1 rfl) ?_
  refine lv_iload hx hb dJ7_fill_bad5a_17 (lv_at hl 0 rfl) ?_
  refine lv_lload_n hx hb dJ7_fill_bad5a_19 rfl (lv_at hl 4 rfl) ?_
  refine va_last (D := g.1) hx hb hK hP hD hS 0 1 rfl rfl (vp_in_iff.mpr (by decide +kernel)) dJ7_fill_bad5a_20 (fun H locs hP hD hS => ?_)
  have hP : va_P g.1 vwCl [(h0, .inl (zJ g, 64, .inr (.inl (vp_updL (fun _ => 0) 3 0))))] H := hP
  have hD : va_D A [(h0, .inl (zJ g, 64, .inr (.inl (vp_updL (fun _ => 0) 3 0))))] := hD
  rw [zc_setL] at hP hD
  refine lv_iinc (v := 4) (lv' := [(5, .int 4), (0, .ref h0), (1, .int 0), (2, .int 16), (3, .long 0)]) hx hb dJ7_fill_bad5a_21 hl (k := 0) rfl (by decide) (by decide) rfl (fun ls hl => ?_)
  refine lv_goto (tgt := 10) hx hb dJ7_fill_bad5a_24 (by decide) ?_
  refine lv_iload hx hb dJ7_fill_bad5a_10 (lv_at hl 0 rfl) ?_
  refine lv_iload_n hx hb dJ7_fill_bad5a_12 rfl (lv_at hl 3 rfl) ?_
  refine lv_icmp_ge (tgt := 27) hx hb dJ7_fill_bad5a_13 (by decide) (fun h => absurd h (by decide +kernel)) (fun _ => ?_)
  refine lv_aload_n hx hb dJ7_fill_bad5a_16 rfl (lv_at hl 1 rfl) ?_
  refine lv_iload hx hb dJ7_fill_bad5a_17 (lv_at hl 0 rfl) ?_
  refine lv_lload_n hx hb dJ7_fill_bad5a_19 rfl (lv_at hl 4 rfl) ?_
  refine va_last (D := g.1) hx hb hK hP hD hS 0 1 rfl rfl (vp_in_iff.mpr (by decide +kernel)) dJ7_fill_bad5a_20 (fun H locs hP hD hS => ?_)
  have hP : va_P g.1 vwCl [(h0, .inl (zJ g, 64, .inr (.inl (vp_updL (fun _ => 0) 4 0))))] H := hP
  have hD : va_D A [(h0, .inl (zJ g, 64, .inr (.inl (vp_updL (fun _ => 0) 4 0))))] := hD
  rw [zc_setL] at hP hD
  refine lv_iinc (v := 5) (lv' := [(5, .int 5), (0, .ref h0), (1, .int 0), (2, .int 16), (3, .long 0)]) hx hb dJ7_fill_bad5a_21 hl (k := 0) rfl (by decide) (by decide) rfl (fun ls hl => ?_)
  refine lv_goto (tgt := 10) hx hb dJ7_fill_bad5a_24 (by decide) ?_
  refine lv_iload hx hb dJ7_fill_bad5a_10 (lv_at hl 0 rfl) ?_
  refine lv_iload_n hx hb dJ7_fill_bad5a_12 rfl (lv_at hl 3 rfl) ?_
  refine lv_icmp_ge (tgt := 27) hx hb dJ7_fill_bad5a_13 (by decide) (fun h => absurd h (by decide +kernel)) (fun _ => ?_)
  refine lv_aload_n hx hb dJ7_fill_bad5a_16 rfl (lv_at hl 1 rfl) ?_
  refine lv_iload hx hb dJ7_fill_bad5a_17 (lv_at hl 0 rfl) ?_
  refine lv_lload_n hx hb dJ7_fill_bad5a_19 rfl (lv_at hl 4 rfl) ?_
  refine va_last (D := g.1) hx hb hK hP hD hS 0 1 rfl rfl (vp_in_iff.mpr (by decide +kernel)) dJ7_fill_bad5a_20 (fun H locs hP hD hS => ?_)
  have hP : va_P g.1 vwCl [(h0, .inl (zJ g, 64, .inr (.inl (vp_updL (fun _ => 0) 5 0))))] H := hP
  have hD : va_D A [(h0, .inl (zJ g, 64, .inr (.inl (vp_updL (fun _ => 0) 5 0))))] := hD
  rw [zc_setL] at hP hD
  refine lv_iinc (v := 6) (lv' := [(5, .int 6), (0, .ref h0), (1, .int 0), (2, .int 16), (3, .long 0)]) hx hb dJ7_fill_bad5a_21 hl (k := 0) rfl (by decide) (by decide) rfl (fun ls hl => ?_)
  refine lv_goto (tgt := 10) hx hb dJ7_fill_bad5a_24 (by decide) ?_
  refine lv_iload hx hb dJ7_fill_bad5a_10 (lv_at hl 0 rfl) ?_
  refine lv_iload_n hx hb dJ7_fill_bad5a_12 rfl (lv_at hl 3 rfl) ?_
  refine lv_icmp_ge (tgt := 27) hx hb dJ7_fill_bad5a_13 (by decide) (fun h => absurd h (by decide +kernel)) (fun _ => ?_)
  refine lv_aload_n hx hb dJ7_fill_bad5a_16 rfl (lv_at hl 1 rfl) ?_
  refine lv_iload hx hb dJ7_fill_bad5a_17 (lv_at hl 0 rfl) ?_
  refine lv_lload_n hx hb dJ7_fill_bad5a_19 rfl (lv_at hl 4 rfl) ?_
  refine va_last (D := g.1) hx hb hK hP hD hS 0 1 rfl rfl (vp_in_iff.mpr (by decide +kernel)) dJ7_fill_bad5a_20 (fun H locs hP hD hS => ?_)
  have hP : va_P g.1 vwCl [(h0, .inl (zJ g, 64, .inr (.inl (vp_updL (fun _ => 0) 6 0))))] H := hP
  have hD : va_D A [(h0, .inl (zJ g, 64, .inr (.inl (vp_updL (fun _ => 0) 6 0))))] := hD
  rw [zc_setL] at hP hD
  refine lv_iinc (v := 7) (lv' := [(5, .int 7), (0, .ref h0), (1, .int 0), (2, .int 16), (3, .long 0)]) hx hb dJ7_fill_bad5a_21 hl (k := 0) rfl (by decide) (by decide) rfl (fun ls hl => ?_)
  refine lv_goto (tgt := 10) hx hb dJ7_fill_bad5a_24 (by decide) ?_
  refine lv_iload hx hb dJ7_fill_bad5a_10 (lv_at hl 0 rfl) ?_
  refine lv_iload_n hx hb dJ7_fill_bad5a_12 rfl (lv_at hl 3 rfl) ?_
  refine lv_icmp_ge (tgt := 27) hx hb dJ7_fill_bad5a_13 (by decide) (fun h => absurd h (by decide +kernel)) (fun _ => ?_)
  refine lv_aload_n hx hb dJ7_fill_bad5a_16 rfl (lv_at hl 1 rfl) ?_
  refine lv_iload hx hb dJ7_fill_bad5a_17 (lv_at hl 0 rfl) ?_
  refine lv_lload_n hx hb dJ7_fill_bad5a_19 rfl (lv_at hl 4 rfl) ?_
  refine va_last (D := g.1) hx hb hK hP hD hS 0 1 rfl rfl (vp_in_iff.mpr (by decide +kernel)) dJ7_fill_bad5a_20 (fun H locs hP hD hS => ?_)
  have hP : va_P g.1 vwCl [(h0, .inl (zJ g, 64, .inr (.inl (vp_updL (fun _ => 0) 7 0))))] H := hP
  have hD : va_D A [(h0, .inl (zJ g, 64, .inr (.inl (vp_updL (fun _ => 0) 7 0))))] := hD
  rw [zc_setL] at hP hD
  refine lv_iinc (v := 8) (lv' := [(5, .int 8), (0, .ref h0), (1, .int 0), (2, .int 16), (3, .long 0)]) hx hb dJ7_fill_bad5a_21 hl (k := 0) rfl (by decide) (by decide) rfl (fun ls hl => ?_)
  refine lv_goto (tgt := 10) hx hb dJ7_fill_bad5a_24 (by decide) ?_
  refine lv_iload hx hb dJ7_fill_bad5a_10 (lv_at hl 0 rfl) ?_
  refine lv_iload_n hx hb dJ7_fill_bad5a_12 rfl (lv_at hl 3 rfl) ?_
  refine lv_icmp_ge (tgt := 27) hx hb dJ7_fill_bad5a_13 (by decide) (fun h => absurd h (by decide +kernel)) (fun _ => ?_)
  refine lv_aload_n hx hb dJ7_fill_bad5a_16 rfl (lv_at hl 1 rfl) ?_
  refine lv_iload hx hb dJ7_fill_bad5a_17 (lv_at hl 0 rfl) ?_
  refine lv_lload_n hx hb dJ7_fill_bad5a_19 rfl (lv_at hl 4 rfl) ?_
  refine va_last (D := g.1) hx hb hK hP hD hS 0 1 rfl rfl (vp_in_iff.mpr (by decide +kernel)) dJ7_fill_bad5a_20 (fun H locs hP hD hS => ?_)
  have hP : va_P g.1 vwCl [(h0, .inl (zJ g, 64, .inr (.inl (vp_updL (fun _ => 0) 8 0))))] H := hP
  have hD : va_D A [(h0, .inl (zJ g, 64, .inr (.inl (vp_updL (fun _ => 0) 8 0))))] := hD
  rw [zc_setL] at hP hD
  refine lv_iinc (v := 9) (lv' := [(5, .int 9), (0, .ref h0), (1, .int 0), (2, .int 16), (3, .long 0)]) hx hb dJ7_fill_bad5a_21 hl (k := 0) rfl (by decide) (by decide) rfl (fun ls hl => ?_)
  refine lv_goto (tgt := 10) hx hb dJ7_fill_bad5a_24 (by decide) ?_
  refine lv_iload hx hb dJ7_fill_bad5a_10 (lv_at hl 0 rfl) ?_
  refine lv_iload_n hx hb dJ7_fill_bad5a_12 rfl (lv_at hl 3 rfl) ?_
  refine lv_icmp_ge (tgt := 27) hx hb dJ7_fill_bad5a_13 (by decide) (fun h => absurd h (by decide +kernel)) (fun _ => ?_)
  refine lv_aload_n hx hb dJ7_fill_bad5a_16 rfl (lv_at hl 1 rfl) ?_
  refine lv_iload hx hb dJ7_fill_bad5a_17 (lv_at hl 0 rfl) ?_
  refine lv_lload_n hx hb dJ7_fill_bad5a_19 rfl (lv_at hl 4 rfl) ?_
  refine va_last (D := g.1) hx hb hK hP hD hS 0 1 rfl rfl (vp_in_iff.mpr (by decide +kernel)) dJ7_fill_bad5a_20 (fun H locs hP hD hS => ?_)
  have hP : va_P g.1 vwCl [(h0, .inl (zJ g, 64, .inr (.inl (vp_updL (fun _ => 0) 9 0))))] H := hP
  have hD : va_D A [(h0, .inl (zJ g, 64, .inr (.inl (vp_updL (fun _ => 0) 9 0))))] := hD
  rw [zc_setL] at hP hD
  refine lv_iinc (v := 10) (lv' := [(5, .int 10), (0, .ref h0), (1, .int 0), (2, .int 16), (3, .long 0)]) hx hb dJ7_fill_bad5a_21 hl (k := 0) rfl (by decide) (by decide) rfl (fun ls hl => ?_)
  refine lv_goto (tgt := 10) hx hb dJ7_fill_bad5a_24 (by decide) ?_
  refine lv_iload hx hb dJ7_fill_bad5a_10 (lv_at hl 0 rfl) ?_
  refine lv_iload_n hx hb dJ7_fill_bad5a_12 rfl (lv_at hl 3 rfl) ?_
  refine lv_icmp_ge (tgt := 27) hx hb dJ7_fill_bad5a_13 (by decide) (fun h => absurd h (by decide +kernel)) (fun _ => ?_)
  refine lv_aload_n hx hb dJ7_fill_bad5a_16 rfl (lv_at hl 1 rfl) ?_
  refine lv_iload hx hb dJ7_fill_bad5a_17 (lv_at hl 0 rfl) ?_
  refine lv_lload_n hx hb dJ7_fill_bad5a_19 rfl (lv_at hl 4 rfl) ?_
  refine va_last (D := g.1) hx hb hK hP hD hS 0 1 rfl rfl (vp_in_iff.mpr (by decide +kernel)) dJ7_fill_bad5a_20 (fun H locs hP hD hS => ?_)
  have hP : va_P g.1 vwCl [(h0, .inl (zJ g, 64, .inr (.inl (vp_updL (fun _ => 0) 10 0))))] H := hP
  have hD : va_D A [(h0, .inl (zJ g, 64, .inr (.inl (vp_updL (fun _ => 0) 10 0))))] := hD
  rw [zc_setL] at hP hD
  refine lv_iinc (v := 11) (lv' := [(5, .int 11), (0, .ref h0), (1, .int 0), (2, .int 16), (3, .long 0)]) hx hb dJ7_fill_bad5a_21 hl (k := 0) rfl (by decide) (by decide) rfl (fun ls hl => ?_)
  refine lv_goto (tgt := 10) hx hb dJ7_fill_bad5a_24 (by decide) ?_
  refine lv_iload hx hb dJ7_fill_bad5a_10 (lv_at hl 0 rfl) ?_
  refine lv_iload_n hx hb dJ7_fill_bad5a_12 rfl (lv_at hl 3 rfl) ?_
  refine lv_icmp_ge (tgt := 27) hx hb dJ7_fill_bad5a_13 (by decide) (fun h => absurd h (by decide +kernel)) (fun _ => ?_)
  refine lv_aload_n hx hb dJ7_fill_bad5a_16 rfl (lv_at hl 1 rfl) ?_
  refine lv_iload hx hb dJ7_fill_bad5a_17 (lv_at hl 0 rfl) ?_
  refine lv_lload_n hx hb dJ7_fill_bad5a_19 rfl (lv_at hl 4 rfl) ?_
  refine va_last (D := g.1) hx hb hK hP hD hS 0 1 rfl rfl (vp_in_iff.mpr (by decide +kernel)) dJ7_fill_bad5a_20 (fun H locs hP hD hS => ?_)
  have hP : va_P g.1 vwCl [(h0, .inl (zJ g, 64, .inr (.inl (vp_updL (fun _ => 0) 11 0))))] H := hP
  have hD : va_D A [(h0, .inl (zJ g, 64, .inr (.inl (vp_updL (fun _ => 0) 11 0))))] := hD
  rw [zc_setL] at hP hD
  refine lv_iinc (v := 12) (lv' := [(5, .int 12), (0, .ref h0), (1, .int 0), (2, .int 16), (3, .long 0)]) hx hb dJ7_fill_bad5a_21 hl (k := 0) rfl (by decide) (by decide) rfl (fun ls hl => ?_)
  refine lv_goto (tgt := 10) hx hb dJ7_fill_bad5a_24 (by decide) ?_
  refine lv_iload hx hb dJ7_fill_bad5a_10 (lv_at hl 0 rfl) ?_
  refine lv_iload_n hx hb dJ7_fill_bad5a_12 rfl (lv_at hl 3 rfl) ?_
  refine lv_icmp_ge (tgt := 27) hx hb dJ7_fill_bad5a_13 (by decide) (fun h => absurd h (by decide +kernel)) (fun _ => ?_)
  refine lv_aload_n hx hb dJ7_fill_bad5a_16 rfl (lv_at hl 1 rfl) ?_
  refine lv_iload hx hb dJ7_fill_bad5a_17 (lv_at hl 0 rfl) ?_
  refine lv_lload_n hx hb dJ7_fill_bad5a_19 rfl (lv_at hl 4 rfl) ?_
  refine va_last (D := g.1) hx hb hK hP hD hS 0 1 rfl rfl (vp_in_iff.mpr (by decide +kernel)) dJ7_fill_bad5a_20 (fun H locs hP hD hS => ?_)
  have hP : va_P g.1 vwCl [(h0, .inl (zJ g, 64, .inr (.inl (vp_updL (fun _ => 0) 12 0))))] H := hP
  have hD : va_D A [(h0, .inl (zJ g, 64, .inr (.inl (vp_updL (fun _ => 0) 12 0))))] := hD
  rw [zc_setL] at hP hD
  refine lv_iinc (v := 13) (lv' := [(5, .int 13), (0, .ref h0), (1, .int 0), (2, .int 16), (3, .long 0)]) hx hb dJ7_fill_bad5a_21 hl (k := 0) rfl (by decide) (by decide) rfl (fun ls hl => ?_)
  refine lv_goto (tgt := 10) hx hb dJ7_fill_bad5a_24 (by decide) ?_
  refine lv_iload hx hb dJ7_fill_bad5a_10 (lv_at hl 0 rfl) ?_
  refine lv_iload_n hx hb dJ7_fill_bad5a_12 rfl (lv_at hl 3 rfl) ?_
  refine lv_icmp_ge (tgt := 27) hx hb dJ7_fill_bad5a_13 (by decide) (fun h => absurd h (by decide +kernel)) (fun _ => ?_)
  refine lv_aload_n hx hb dJ7_fill_bad5a_16 rfl (lv_at hl 1 rfl) ?_
  refine lv_iload hx hb dJ7_fill_bad5a_17 (lv_at hl 0 rfl) ?_
  refine lv_lload_n hx hb dJ7_fill_bad5a_19 rfl (lv_at hl 4 rfl) ?_
  refine va_last (D := g.1) hx hb hK hP hD hS 0 1 rfl rfl (vp_in_iff.mpr (by decide +kernel)) dJ7_fill_bad5a_20 (fun H locs hP hD hS => ?_)
  have hP : va_P g.1 vwCl [(h0, .inl (zJ g, 64, .inr (.inl (vp_updL (fun _ => 0) 13 0))))] H := hP
  have hD : va_D A [(h0, .inl (zJ g, 64, .inr (.inl (vp_updL (fun _ => 0) 13 0))))] := hD
  rw [zc_setL] at hP hD
  refine lv_iinc (v := 14) (lv' := [(5, .int 14), (0, .ref h0), (1, .int 0), (2, .int 16), (3, .long 0)]) hx hb dJ7_fill_bad5a_21 hl (k := 0) rfl (by decide) (by decide) rfl (fun ls hl => ?_)
  refine lv_goto (tgt := 10) hx hb dJ7_fill_bad5a_24 (by decide) ?_
  refine lv_iload hx hb dJ7_fill_bad5a_10 (lv_at hl 0 rfl) ?_
  refine lv_iload_n hx hb dJ7_fill_bad5a_12 rfl (lv_at hl 3 rfl) ?_
  refine lv_icmp_ge (tgt := 27) hx hb dJ7_fill_bad5a_13 (by decide) (fun h => absurd h (by decide +kernel)) (fun _ => ?_)
  refine lv_aload_n hx hb dJ7_fill_bad5a_16 rfl (lv_at hl 1 rfl) ?_
  refine lv_iload hx hb dJ7_fill_bad5a_17 (lv_at hl 0 rfl) ?_
  refine lv_lload_n hx hb dJ7_fill_bad5a_19 rfl (lv_at hl 4 rfl) ?_
  refine va_last (D := g.1) hx hb hK hP hD hS 0 1 rfl rfl (vp_in_iff.mpr (by decide +kernel)) dJ7_fill_bad5a_20 (fun H locs hP hD hS => ?_)
  have hP : va_P g.1 vwCl [(h0, .inl (zJ g, 64, .inr (.inl (vp_updL (fun _ => 0) 14 0))))] H := hP
  have hD : va_D A [(h0, .inl (zJ g, 64, .inr (.inl (vp_updL (fun _ => 0) 14 0))))] := hD
  rw [zc_setL] at hP hD
  refine lv_iinc (v := 15) (lv' := [(5, .int 15), (0, .ref h0), (1, .int 0), (2, .int 16), (3, .long 0)]) hx hb dJ7_fill_bad5a_21 hl (k := 0) rfl (by decide) (by decide) rfl (fun ls hl => ?_)
  refine lv_goto (tgt := 10) hx hb dJ7_fill_bad5a_24 (by decide) ?_
  refine lv_iload hx hb dJ7_fill_bad5a_10 (lv_at hl 0 rfl) ?_
  refine lv_iload_n hx hb dJ7_fill_bad5a_12 rfl (lv_at hl 3 rfl) ?_
  refine lv_icmp_ge (tgt := 27) hx hb dJ7_fill_bad5a_13 (by decide) (fun h => absurd h (by decide +kernel)) (fun _ => ?_)
  refine lv_aload_n hx hb dJ7_fill_bad5a_16 rfl (lv_at hl 1 rfl) ?_
  refine lv_iload hx hb dJ7_fill_bad5a_17 (lv_at hl 0 rfl) ?_
  refine lv_lload_n hx hb dJ7_fill_bad5a_19 rfl (lv_at hl 4 rfl) ?_
  refine va_last (D := g.1) hx hb hK hP hD hS 0 1 rfl rfl (vp_in_iff.mpr (by decide +kernel)) dJ7_fill_bad5a_20 (fun H locs hP hD hS => ?_)
  have hP : va_P g.1 vwCl [(h0, .inl (zJ g, 64, .inr (.inl (vp_updL (fun _ => 0) 15 0))))] H := hP
  have hD : va_D A [(h0, .inl (zJ g, 64, .inr (.inl (vp_updL (fun _ => 0) 15 0))))] := hD
  rw [zc_setL] at hP hD
  refine lv_iinc (v := 16) (lv' := [(5, .int 16), (0, .ref h0), (1, .int 0), (2, .int 16), (3, .long 0)]) hx hb dJ7_fill_bad5a_21 hl (k := 0) rfl (by decide) (by decide) rfl (fun ls hl => ?_)
  refine lv_goto (tgt := 10) hx hb dJ7_fill_bad5a_24 (by decide) ?_
  refine lv_iload hx hb dJ7_fill_bad5a_10 (lv_at hl 0 rfl) ?_
  refine lv_iload_n hx hb dJ7_fill_bad5a_12 rfl (lv_at hl 3 rfl) ?_
  refine lv_icmp_ge (tgt := 27) hx hb dJ7_fill_bad5a_13 (by decide) (fun _ => ?_) (fun h => absurd h (by decide +kernel))
  have hP9 := hP.sub (ws' := [(h0, .inl (zJ g, 64, .inr (.inl (fun _ => 0))))]) [0] rfl
  have hD9 := hD.sub (ws' := [(h0, .inl (zJ g, 64, .inr (.inl (fun _ => 0))))]) [0] (by decide) rfl
  exact W.vret hx hb hr (fun t ht hW => ⟨⟨0, rfl, trivial, by rw [ht]; exact hP9, hD9⟩, hS.F ht⟩) hS.2.2 dJ7_fill_bad5a_27
set_option maxHeartbeats 4000000 in
set_option maxRecDepth 100000 in
theorem kJ7_rangeCheck_23922_3 (l : Launch) (g : zG) (sz : Nat) : Met l yJ7_rangeCheck_23922 (.code yJ7_rangeCheck_23922 cJ7_rangeCheck_23922 3 none :: zBig) ({ frames := 0, cells := 0, slots := 0, locals := 0 }) (va_Pc [.int 64, .int 16, .int 32] (zPre g [] sz)) (va_Qv (fun _ : Nat => True) (zPost g (fun _ : Nat => []) (va_A [] sz)) (va_A [] sz)) 0 0 (va_A [] sz) := by
  refine zMetV rfl (Nat.le_of_ble_eq_true rfl) ?_
  intro p e s m args below meth c A ls hx hb hml hr hlocks hin hown hts hK hN hZ hP hD hA hS hAe hl
  have hown : s.vm.findClass RJ7 = some m.cls := hown
  have hl : lv_has ls 3 [(0, .int 64), (1, .int 16), (2, .int 32)] := hl
  refine lv_iload_n hx hb dJ7_rangeCheck_23922_0 rfl (lv_at hl 1 rfl) ?_
  refine lv_iload_n hx hb dJ7_rangeCheck_23922_1 rfl (lv_at hl 2 rfl) ?_
  refine lv_icmp_le (tgt := 46) hx hb dJ7_rangeCheck_23922_2 (by decide) (fun _ => ?_) (fun h => absurd h (by decide +kernel))
  refine lv_iload_n hx hb dJ7_rangeCheck_23922_46 rfl (lv_at hl 1 rfl) ?_
  refine lv_if_ge (tgt := 59) hx hb dJ7_rangeCheck_23922_47 (by decide) (fun _ => ?_) (fun h => absurd h (by decide +kernel))
  refine lv_iload_n hx hb dJ7_rangeCheck_23922_59 rfl (lv_at hl 2 rfl) ?_
  refine lv_iload_n hx hb dJ7_rangeCheck_23922_60 rfl (lv_at hl 0 rfl) ?_
  refine lv_icmp_le (tgt := 73) hx hb dJ7_rangeCheck_23922_61 (by decide) (fun _ => ?_) (fun h => absurd h (by decide +kernel))
  have hP9 := hP.sub (ws' := []) [] rfl
  have hD9 := hD.sub (ws' := []) [] (by decide) rfl
  exact W.vret hx hb hr (fun t ht hW => ⟨⟨0, rfl, trivial, by rw [ht]; exact hP9, hD9⟩, hS.F ht⟩) hS.2.2 dJ7_rangeCheck_23922_73
set_option maxHeartbeats 4000000 in
set_option maxRecDepth 100000 in
theorem kJ7_rangeCheck_23922_4 (l : Launch) (g : zG) (sz : Nat) : Met l yJ7_rangeCheck_23922 (.code yJ7_rangeCheck_23922 cJ7_rangeCheck_23922 3 none :: zBig) ({ frames := 0, cells := 0, slots := 0, locals := 0 }) (va_Pc [.int 64, .int 16, .int 32] (zPre g [] sz)) (va_Qv (fun _ : Nat => True) (zPost g (fun _ : Nat => []) (va_A [] sz)) (va_A [] sz)) 0 0 (va_A [] sz) := by
  refine zMetV rfl (Nat.le_of_ble_eq_true rfl) ?_
  intro p e s m args below meth c A ls hx hb hml hr hlocks hin hown hts hK hN hZ hP hD hA hS hAe hl
  have hown : s.vm.findClass RJ7 = some m.cls := hown
  have hl : lv_has ls 3 [(0, .int 64), (1, .int 16), (2, .int 32)] := hl
  refine lv_iload_n hx hb dJ7_rangeCheck_23922_0 rfl (lv_at hl 1 rfl) ?_
  refine lv_iload_n hx hb dJ7_rangeCheck_23922_1 rfl (lv_at hl 2 rfl) ?_
  refine lv_icmp_le (tgt := 46) hx hb dJ7_rangeCheck_23922_2 (by decide) (fun _ => ?_) (fun h => absurd h (by decide +kernel))
  refine lv_iload_n hx hb dJ7_rangeCheck_23922_46 rfl (lv_at hl 1 rfl) ?_
  refine lv_if_ge (tgt := 59) hx hb dJ7_rangeCheck_23922_47 (by decide) (fun _ => ?_) (fun h => absurd h (by decide +kernel))
  refine lv_iload_n hx hb dJ7_rangeCheck_23922_59 rfl (lv_at hl 2 rfl) ?_
  refine lv_iload_n hx hb dJ7_rangeCheck_23922_60 rfl (lv_at hl 0 rfl) ?_
  refine lv_icmp_le (tgt := 73) hx hb dJ7_rangeCheck_23922_61 (by decide) (fun _ => ?_) (fun h => absurd h (by decide +kernel))
  have hP9 := hP.sub (ws' := []) [] rfl
  have hD9 := hD.sub (ws' := []) [] (by decide) rfl
  exact W.vret hx hb hr (fun t ht hW => ⟨⟨0, rfl, trivial, by rw [ht]; exact hP9, hD9⟩, hS.F ht⟩) hS.2.2 dJ7_rangeCheck_23922_73
set_option maxHeartbeats 4000000 in
set_option maxRecDepth 100000 in
theorem kJ7_fill_bad5a_2 (l : Launch) (g : zG) (h0 : Nat) (sz : Nat) : Met l yJ7_fill_bad5a (.code yJ7_fill_bad5a cJ7_fill_bad5a 6 none :: zBig) ({ frames := 1, cells := 0, slots := 0, locals := 22 }) (va_Pc [.ref h0, .int 16, .int 32, .long 0] (zPre g [(h0, .inl (zJ g, 64, .inr (.inl (fun _ => 0))))] sz)) (va_Qv (fun _ : Nat => True) (zPost g (fun _ : Nat => [(h0, .inl (zJ g, 64, .inr (.inl (fun _ => 0))))]) (va_A [(h0, .inl (zJ g, 64, .inr (.inl (fun _ => 0))))] sz)) (va_A [(h0, .inl (zJ g, 64, .inr (.inl (fun _ => 0))))] sz)) 0 0 (va_A [(h0, .inl (zJ g, 64, .inr (.inl (fun _ => 0))))] sz) := by
  refine zMetV rfl (Nat.le_of_ble_eq_true rfl) ?_
  intro p e s m args below meth c A ls hx hb hml hr hlocks hin hown hts hK hN hZ hP hD hA hS hAe hl
  have hown : s.vm.findClass RJ7 = some m.cls := hown
  have hl : lv_has ls 6 [(0, .ref h0), (1, .int 16), (2, .int 32), (3, .long 0)] := hl
  refine lv_aload_n hx hb dJ7_fill_bad5a_0 rfl (lv_at hl 0 rfl) ?_
  refine va_alen (D := g.1) hx hb hK hP 0 1 rfl rfl (v := 64) (by decide) dJ7_fill_bad5a_1 ?_
  refine lv_iload_n hx hb dJ7_fill_bad5a_2 rfl (lv_at hl 1 rfl) ?_
  refine lv_iload_n hx hb dJ7_fill_bad5a_3 rfl (lv_at hl 2 rfl) ?_
  refine z_callv (wr := [(h0, .inl (zJ g, 64, .inr (.inl (fun _ => 0))))]) hP hD hS hA [] [0] (by decide) rfl rfl (by decide) (va_runS (As := [.int 64, .int 16, .int 32]) (rest := []) ⟨hx, hb, hml, hown, hts⟩ (kJ7_rangeCheck_23922_4 l g  s.heap.size) ⟨callB_of 3 hts (zGood m_o_yJ7_rangeCheck_23922) rfl rfl rfl (hts _ m_z_RJ7) (hts _ m_m_RJ7_13) ⟨by decide +kernel, by decide +kernel, by decide +kernel⟩ ⟨Nat.le_of_ble_eq_true rfl, Nat.le_of_ble_eq_true rfl⟩, hts _ m_s_yJ7_rangeCheck_23922⟩ (zPreS hK hN hZ hP hD hS hA [] (by decide) rfl rfl) rfl rfl hl.1 rfl (lv_room (Nat.le_of_ble_eq_true rfl)) dJ7_fill_bad5a_4 ⟨Nat.le_of_ble_eq_true rfl, Nat.le_of_ble_eq_true rfl⟩) (fun u H locs hw hP hD hS => ?_)
  have hP : va_P g.1 vwCl [(h0, .inl (zJ g, 64, .inr (.inl (fun _ => 0))))] H := hP
  have hD : va_D A [(h0, .inl (zJ g, 64, .inr (.inl (fun _ => 0))))] := hD
  refine lv_iload_n hx hb dJ7_fill_bad5a_7 rfl (lv_at hl 1 rfl) ?_
  refine lv_istore (lv' := [(5, .int 16), (0, .ref h0), (1, .int 16), (2, .int 32), (3, .long 0)]) hx hb dJ7_fill_bad5a_8 hl (by decide) rfl (fun ls hl => ?_)
  refine lv_iload hx hb dJ7_fill_bad5a_10 (lv_at hl 0 rfl) ?_
  refine lv_iload_n hx hb dJ7_fill_bad5a_12 rfl (lv_at hl 3 rfl) ?_
  refine lv_icmp_ge (tgt := 27) hx hb dJ7_fill_bad5a_13 (by decide) (fun h => absurd h (by decide +kernel)) (fun _ => ?_)
  refine lv_aload_n hx hb dJ7_fill_bad5a_16 rfl (lv_at hl 1 rfl) ?_
  refine lv_iload hx hb dJ7_fill_bad5a_17 (lv_at hl 0 rfl) ?_
  refine lv_lload_n hx hb dJ7_fill_bad5a_19 rfl (lv_at hl 4 rfl) ?_
  refine va_last (D := g.1) hx hb hK hP hD hS 0 1 rfl rfl (vp_in_iff.mpr (by decide +kernel)) dJ7_fill_bad5a_20 (fun H locs hP hD hS => ?_)
  have hP : va_P g.1 vwCl [(h0, .inl (zJ g, 64, .inr (.inl (vp_updL (fun _ => 0) 16 0))))] H := hP
  have hD : va_D A [(h0, .inl (zJ g, 64, .inr (.inl (vp_updL (fun _ => 0) 16 0))))] := hD
  rw [zc_setL] at hP hD
  refine lv_iinc (v := 17) (lv' := [(5, .int 17), (0, .ref h0), (1, .int 16), (2, .int 32), (3, .long 0)]) hx hb dJ7_fill_bad5a_21 hl (k := 0) rfl (by decide) (by decide) rfl (fun ls hl => ?_)
  refine lv_goto (tgt := 10) hx hb dJ7_fill_bad5a_24 (by decide) ?_
  refine lv_iload hx hb dJ7_fill_bad5a_10 (lv_at hl 0 rfl) ?_
  refine lv_iload_n hx hb dJ7_fill_bad5a_12 rfl (lv_at hl 3 rfl) ?_
  refine lv_icmp_ge (tgt := 27) hx hb dJ7_fill_bad5a_13 (by decide) (fun h => absurd h (by decide +kernel)) (fun _ => ?_)
  refine lv_aload_n hx hb dJ7_fill_bad5a_16 rfl (lv_at hl 1 rfl) ?_
  refine lv_iload hx hb dJ7_fill_bad5a_17 (lv_at hl 0 rfl) ?_
  refine lv_lload_n hx hb dJ7_fill_bad5a_19 rfl (lv_at hl 4 rfl) ?_
  refine va_last (D := g.1) hx hb hK hP hD hS 0 1 rfl rfl (vp_in_iff.mpr (by decide +kernel)) dJ7_fill_bad5a_20 (fun H locs hP hD hS => ?_)
  have hP : va_P g.1 vwCl [(h0, .inl (zJ g, 64, .inr (.inl (vp_updL (fun _ => 0) 17 0))))] H := hP
  have hD : va_D A [(h0, .inl (zJ g, 64, .inr (.inl (vp_updL (fun _ => 0) 17 0))))] := hD
  rw [zc_setL] at hP hD
  refine lv_iinc (v := 18) (lv' := [(5, .int 18), (0, .ref h0), (1, .int 16), (2, .int 32), (3, .long 0)]) hx hb dJ7_fill_bad5a_21 hl (k := 0) rfl (by decide) (by decide) rfl (fun ls hl => ?_)
  refine lv_goto (tgt := 10) hx hb dJ7_fill_bad5a_24 (by decide) ?_
  refine lv_iload hx hb dJ7_fill_bad5a_10 (lv_at hl 0 rfl) ?_
  refine lv_iload_n hx hb dJ7_fill_bad5a_12 rfl (lv_at hl 3 rfl) ?_
  refine lv_icmp_ge (tgt := 27) hx hb dJ7_fill_bad5a_13 (by decide) (fun h => absurd h (by decide +kernel)) (fun _ => ?_)
  refine lv_aload_n hx hb dJ7_fill_bad5a_16 rfl (lv_at hl 1 rfl) ?_
  refine lv_iload hx hb dJ7_fill_bad5a_17 (lv_at hl 0 rfl) ?_
  refine lv_lload_n hx hb dJ7_fill_bad5a_19 rfl (lv_at hl 4 rfl) ?_
  refine va_last (D := g.1) hx hb hK hP hD hS 0 1 rfl rfl (vp_in_iff.mpr (by decide +kernel)) dJ7_fill_bad5a_20 (fun H locs hP hD hS => ?_)
  have hP : va_P g.1 vwCl [(h0, .inl (zJ g, 64, .inr (.inl (vp_updL (fun _ => 0) 18 0))))] H := hP
  have hD : va_D A [(h0, .inl (zJ g, 64, .inr (.inl (vp_updL (fun _ => 0) 18 0))))] := hD
  rw [zc_setL] at hP hD
  refine lv_iinc (v := 19) (lv' := [(5, .int 19), (0, .ref h0), (1, .int 16), (2, .int 32), (3, .long 0)]) hx hb dJ7_fill_bad5a_21 hl (k := 0) rfl (by decide) (by decide) rfl (fun ls hl => ?_)
  refine lv_goto (tgt := 10) hx hb dJ7_fill_bad5a_24 (by decide) ?_
  refine lv_iload hx hb dJ7_fill_bad5a_10 (lv_at hl 0 rfl) ?_
  refine lv_iload_n hx hb dJ7_fill_bad5a_12 rfl (lv_at hl 3 rfl) ?_
  refine lv_icmp_ge (tgt := 27) hx hb dJ7_fill_bad5a_13 (by decide) (fun h => absurd h (by decide +kernel)) (fun _ => ?_)
  refine lv_aload_n hx hb dJ7_fill_bad5a_16 rfl (lv_at hl 1 rfl) ?_
  refine lv_iload hx hb dJ7_fill_bad5a_17 (lv_at hl 0 rfl) ?_
  refine lv_lload_n hx hb dJ7_fill_bad5a_19 rfl (lv_at hl 4 rfl) ?_
  refine va_last (D := g.1) hx hb hK hP hD hS 0 1 rfl rfl (vp_in_iff.mpr (by decide +kernel)) dJ7_fill_bad5a_20 (fun H locs hP hD hS => ?_)
  have hP : va_P g.1 vwCl [(h0, .inl (zJ g, 64, .inr (.inl (vp_updL (fun _ => 0) 19 0))))] H := hP
  have hD : va_D A [(h0, .inl (zJ g, 64, .inr (.inl (vp_updL (fun _ => 0) 19 0))))] := hD
  rw [zc_setL] at hP hD
  refine lv_iinc (v := 20) (lv' := [(5, .int 20), (0, .ref h0), (1, .int 16), (2, .int 32), (3, .long 0)]) hx hb dJ7_fill_bad5a_21 hl (k := 0) rfl (by decide) (by decide) rfl (fun ls hl => ?_)
  refine lv_goto (tgt := 10) hx hb dJ7_fill_bad5a_24 (by decide) ?_
  refine lv_iload hx hb dJ7_fill_bad5a_10 (lv_at hl 0 rfl) ?_
  refine lv_iload_n hx hb dJ7_fill_bad5a_12 rfl (lv_at hl 3 rfl) ?_
  refine lv_icmp_ge (tgt := 27) hx hb dJ7_fill_bad5a_13 (by decide) (fun h => absurd h (by decide +kernel)) (fun _ => ?_)
  refine lv_aload_n hx hb dJ7_fill_bad5a_16 rfl (lv_at hl 1 rfl) ?_
  refine lv_iload hx hb dJ7_fill_bad5a_17 (lv_at hl 0 rfl) ?_
  refine lv_lload_n hx hb dJ7_fill_bad5a_19 rfl (lv_at hl 4 rfl) ?_
  refine va_last (D := g.1) hx hb hK hP hD hS 0 1 rfl rfl (vp_in_iff.mpr (by decide +kernel)) dJ7_fill_bad5a_20 (fun H locs hP hD hS => ?_)
  have hP : va_P g.1 vwCl [(h0, .inl (zJ g, 64, .inr (.inl (vp_updL (fun _ => 0) 20 0))))] H := hP
  have hD : va_D A [(h0, .inl (zJ g, 64, .inr (.inl (vp_updL (fun _ => 0) 20 0))))] := hD
  rw [zc_setL] at hP hD
  refine lv_iinc (v := 21) (lv' := [(5, .int 21), (0, .ref h0), (1, .int 16), (2, .int 32), (3, .long 0)]) hx hb dJ7_fill_bad5a_21 hl (k := 0) rfl (by decide) (by decide) rfl (fun ls hl => ?_)
  refine lv_goto (tgt := 10) hx hb dJ7_fill_bad5a_24 (by decide) ?_
  refine lv_iload hx hb dJ7_fill_bad5a_10 (lv_at hl 0 rfl) ?_
  refine lv_iload_n hx hb dJ7_fill_bad5a_12 rfl (lv_at hl 3 rfl) ?_
  refine lv_icmp_ge (tgt := 27) hx hb dJ7_fill_bad5a_13 (by decide) (fun h => absurd h (by decide +kernel)) (fun _ => ?_)
  refine lv_aload_n hx hb dJ7_fill_bad5a_16 rfl (lv_at hl 1 rfl) ?_
  refine lv_iload hx hb dJ7_fill_bad5a_17 (lv_at hl 0 rfl) ?_
  refine lv_lload_n hx hb dJ7_fill_bad5a_19 rfl (lv_at hl 4 rfl) ?_
  refine va_last (D := g.1) hx hb hK hP hD hS 0 1 rfl rfl (vp_in_iff.mpr (by decide +kernel)) dJ7_fill_bad5a_20 (fun H locs hP hD hS => ?_)
  have hP : va_P g.1 vwCl [(h0, .inl (zJ g, 64, .inr (.inl (vp_updL (fun _ => 0) 21 0))))] H := hP
  have hD : va_D A [(h0, .inl (zJ g, 64, .inr (.inl (vp_updL (fun _ => 0) 21 0))))] := hD
  rw [zc_setL] at hP hD
  refine lv_iinc (v := 22) (lv' := [(5, .int 22), (0, .ref h0), (1, .int 16), (2, .int 32), (3, .long 0)]) hx hb dJ7_fill_bad5a_21 hl (k := 0) rfl (by decide) (by decide) rfl (fun ls hl => ?_)
  refine lv_goto (tgt := 10) hx hb dJ7_fill_bad5a_24 (by decide) ?_
  refine lv_iload hx hb dJ7_fill_bad5a_10 (lv_at hl 0 rfl) ?_
  refine lv_iload_n hx hb dJ7_fill_bad5a_12 rfl (lv_at hl 3 rfl) ?_
  refine lv_icmp_ge (tgt := 27) hx hb dJ7_fill_bad5a_13 (by decide) (fun h => absurd h (by decide +kernel)) (fun _ => ?_)
  refine lv_aload_n hx hb dJ7_fill_bad5a_16 rfl (lv_at hl 1 rfl) ?_
  refine lv_iload hx hb dJ7_fill_bad5a_17 (lv_at hl 0 rfl) ?_
  refine lv_lload_n hx hb dJ7_fill_bad5a_19 rfl (lv_at hl 4 rfl) ?_
  refine va_last (D := g.1) hx hb hK hP hD hS 0 1 rfl rfl (vp_in_iff.mpr (by decide +kernel)) dJ7_fill_bad5a_20 (fun H locs hP hD hS => ?_)
  have hP : va_P g.1 vwCl [(h0, .inl (zJ g, 64, .inr (.inl (vp_updL (fun _ => 0) 22 0))))] H := hP
  have hD : va_D A [(h0, .inl (zJ g, 64, .inr (.inl (vp_updL (fun _ => 0) 22 0))))] := hD
  rw [zc_setL] at hP hD
  refine lv_iinc (v := 23) (lv' := [(5, .int 23), (0, .ref h0), (1, .int 16), (2, .int 32), (3, .long 0)]) hx hb dJ7_fill_bad5a_21 hl (k := 0) rfl (by decide) (by decide) rfl (fun ls hl => ?_)
  refine lv_goto (tgt := 10) hx hb dJ7_fill_bad5a_24 (by decide) ?_
  refine lv_iload hx hb dJ7_fill_bad5a_10 (lv_at hl 0 rfl) ?_
  refine lv_iload_n hx hb dJ7_fill_bad5a_12 rfl (lv_at hl 3 rfl) ?_
  refine lv_icmp_ge (tgt := 27) hx hb dJ7_fill_bad5a_13 (by decide) (fun h => absurd h (by decide +kernel)) (fun _ => ?_)
  refine lv_aload_n hx hb dJ7_fill_bad5a_16 rfl (lv_at hl 1 rfl) ?_
  refine lv_iload hx hb dJ7_fill_bad5a_17 (lv_at hl 0 rfl) ?_
  refine lv_lload_n hx hb dJ7_fill_bad5a_19 rfl (lv_at hl 4 rfl) ?_
  refine va_last (D := g.1) hx hb hK hP hD hS 0 1 rfl rfl (vp_in_iff.mpr (by decide +kernel)) dJ7_fill_bad5a_20 (fun H locs hP hD hS => ?_)
  have hP : va_P g.1 vwCl [(h0, .inl (zJ g, 64, .inr (.inl (vp_updL (fun _ => 0) 23 0))))] H := hP
  have hD : va_D A [(h0, .inl (zJ g, 64, .inr (.inl (vp_updL (fun _ => 0) 23 0))))] := hD
  rw [zc_setL] at hP hD
  refine lv_iinc (v := 24) (lv' := [(5, .int 24), (0, .ref h0), (1, .int 16), (2, .int 32), (3, .long 0)]) hx hb dJ7_fill_bad5a_21 hl (k := 0) rfl (by decide) (by decide) rfl (fun ls hl => ?_)
  refine lv_goto (tgt := 10) hx hb dJ7_fill_bad5a_24 (by decide) ?_
  refine lv_iload hx hb dJ7_fill_bad5a_10 (lv_at hl 0 rfl) ?_
  refine lv_iload_n hx hb dJ7_fill_bad5a_12 rfl (lv_at hl 3 rfl) ?_
  refine lv_icmp_ge (tgt := 27) hx hb dJ7_fill_bad5a_13 (by decide) (fun h => absurd h (by decide +kernel)) (fun _ => ?_)
  refine lv_aload_n hx hb dJ7_fill_bad5a_16 rfl (lv_at hl 1 rfl) ?_
  refine lv_iload hx hb dJ7_fill_bad5a_17 (lv_at hl 0 rfl) ?_
  refine lv_lload_n hx hb dJ7_fill_bad5a_19 rfl (lv_at hl 4 rfl) ?_
  refine va_last (D := g.1) hx hb hK hP hD hS 0 1 rfl rfl (vp_in_iff.mpr (by decide +kernel)) dJ7_fill_bad5a_20 (fun H locs hP hD hS => ?_)
  have hP : va_P g.1 vwCl [(h0, .inl (zJ g, 64, .inr (.inl (vp_updL (fun _ => 0) 24 0))))] H := hP
  have hD : va_D A [(h0, .inl (zJ g, 64, .inr (.inl (vp_updL (fun _ => 0) 24 0))))] := hD
  rw [zc_setL] at hP hD
  refine lv_iinc (v := 25) (lv' := [(5, .int 25), (0, .ref h0), (1, .int 16), (2, .int 32), (3, .long 0)]) hx hb dJ7_fill_bad5a_21 hl (k := 0) rfl (by decide) (by decide) rfl (fun ls hl => ?_)
  refine lv_goto (tgt := 10) hx hb dJ7_fill_bad5a_24 (by decide) ?_
  refine lv_iload hx hb dJ7_fill_bad5a_10 (lv_at hl 0 rfl) ?_
  refine lv_iload_n hx hb dJ7_fill_bad5a_12 rfl (lv_at hl 3 rfl) ?_
  refine lv_icmp_ge (tgt := 27) hx hb dJ7_fill_bad5a_13 (by decide) (fun h => absurd h (by decide +kernel)) (fun _ => ?_)
  refine lv_aload_n hx hb dJ7_fill_bad5a_16 rfl (lv_at hl 1 rfl) ?_
  refine lv_iload hx hb dJ7_fill_bad5a_17 (lv_at hl 0 rfl) ?_
  refine lv_lload_n hx hb dJ7_fill_bad5a_19 rfl (lv_at hl 4 rfl) ?_
  refine va_last (D := g.1) hx hb hK hP hD hS 0 1 rfl rfl (vp_in_iff.mpr (by decide +kernel)) dJ7_fill_bad5a_20 (fun H locs hP hD hS => ?_)
  have hP : va_P g.1 vwCl [(h0, .inl (zJ g, 64, .inr (.inl (vp_updL (fun _ => 0) 25 0))))] H := hP
  have hD : va_D A [(h0, .inl (zJ g, 64, .inr (.inl (vp_updL (fun _ => 0) 25 0))))] := hD
  rw [zc_setL] at hP hD
  refine lv_iinc (v := 26) (lv' := [(5, .int 26), (0, .ref h0), (1, .int 16), (2, .int 32), (3, .long 0)]) hx hb dJ7_fill_bad5a_21 hl (k := 0) rfl (by decide) (by decide) rfl (fun ls hl => ?_)
  refine lv_goto (tgt := 10) hx hb dJ7_fill_bad5a_24 (by decide) ?_
  refine lv_iload hx hb dJ7_fill_bad5a_10 (lv_at hl 0 rfl) ?_
  refine lv_iload_n hx hb dJ7_fill_bad5a_12 rfl (lv_at hl 3 rfl) ?_
  refine lv_icmp_ge (tgt := 27) hx hb dJ7_fill_bad5a_13 (by decide) (fun h => absurd h (by decide +kernel)) (fun _ => ?_)
  refine lv_aload_n hx hb dJ7_fill_bad5a_16 rfl (lv_at hl 1 rfl) ?_
  refine lv_iload hx hb dJ7_fill_bad5a_17 (lv_at hl 0 rfl) ?_
  refine lv_lload_n hx hb dJ7_fill_bad5a_19 rfl (lv_at hl 4 rfl) ?_
  refine va_last (D := g.1) hx hb hK hP hD hS 0 1 rfl rfl (vp_in_iff.mpr (by decide +kernel)) dJ7_fill_bad5a_20 (fun H locs hP hD hS => ?_)
  have hP : va_P g.1 vwCl [(h0, .inl (zJ g, 64, .inr (.inl (vp_updL (fun _ => 0) 26 0))))] H := hP
  have hD : va_D A [(h0, .inl (zJ g, 64, .inr (.inl (vp_updL (fun _ => 0) 26 0))))] := hD
  rw [zc_setL] at hP hD
  refine lv_iinc (v := 27) (lv' := [(5, .int 27), (0, .ref h0), (1, .int 16), (2, .int 32), (3, .long 0)]) hx hb dJ7_fill_bad5a_21 hl (k := 0) rfl (by decide) (by decide) rfl (fun ls hl => ?_)
  refine lv_goto (tgt := 10) hx hb dJ7_fill_bad5a_24 (by decide) ?_
  refine lv_iload hx hb dJ7_fill_bad5a_10 (lv_at hl 0 rfl) ?_
  refine lv_iload_n hx hb dJ7_fill_bad5a_12 rfl (lv_at hl 3 rfl) ?_
  refine lv_icmp_ge (tgt := 27) hx hb dJ7_fill_bad5a_13 (by decide) (fun h => absurd h (by decide +kernel)) (fun _ => ?_)
  refine lv_aload_n hx hb dJ7_fill_bad5a_16 rfl (lv_at hl 1 rfl) ?_
  refine lv_iload hx hb dJ7_fill_bad5a_17 (lv_at hl 0 rfl) ?_
  refine lv_lload_n hx hb dJ7_fill_bad5a_19 rfl (lv_at hl 4 rfl) ?_
  refine va_last (D := g.1) hx hb hK hP hD hS 0 1 rfl rfl (vp_in_iff.mpr (by decide +kernel)) dJ7_fill_bad5a_20 (fun H locs hP hD hS => ?_)
  have hP : va_P g.1 vwCl [(h0, .inl (zJ g, 64, .inr (.inl (vp_updL (fun _ => 0) 27 0))))] H := hP
  have hD : va_D A [(h0, .inl (zJ g, 64, .inr (.inl (vp_updL (fun _ => 0) 27 0))))] := hD
  rw [zc_setL] at hP hD
  refine lv_iinc (v := 28) (lv' := [(5, .int 28), (0, .ref h0), (1, .int 16), (2, .int 32), (3, .long 0)]) hx hb dJ7_fill_bad5a_21 hl (k := 0) rfl (by decide) (by decide) rfl (fun ls hl => ?_)
  refine lv_goto (tgt := 10) hx hb dJ7_fill_bad5a_24 (by decide) ?_
  refine lv_iload hx hb dJ7_fill_bad5a_10 (lv_at hl 0 rfl) ?_
  refine lv_iload_n hx hb dJ7_fill_bad5a_12 rfl (lv_at hl 3 rfl) ?_
  refine lv_icmp_ge (tgt := 27) hx hb dJ7_fill_bad5a_13 (by decide) (fun h => absurd h (by decide +kernel)) (fun _ => ?_)
  refine lv_aload_n hx hb dJ7_fill_bad5a_16 rfl (lv_at hl 1 rfl) ?_
  refine lv_iload hx hb dJ7_fill_bad5a_17 (lv_at hl 0 rfl) ?_
  refine lv_lload_n hx hb dJ7_fill_bad5a_19 rfl (lv_at hl 4 rfl) ?_
  refine va_last (D := g.1) hx hb hK hP hD hS 0 1 rfl rfl (vp_in_iff.mpr (by decide +kernel)) dJ7_fill_bad5a_20 (fun H locs hP hD hS => ?_)
  have hP : va_P g.1 vwCl [(h0, .inl (zJ g, 64, .inr (.inl (vp_updL (fun _ => 0) 28 0))))] H := hP
  have hD : va_D A [(h0, .inl (zJ g, 64, .inr (.inl (vp_updL (fun _ => 0) 28 0))))] := hD
  rw [zc_setL] at hP hD
  refine lv_iinc (v := 29) (lv' := [(5, .int 29), (0, .ref h0), (1, .int 16), (2, .int 32), (3, .long 0)]) hx hb dJ7_fill_bad5a_21 hl (k := 0) rfl (by decide) (by decide) rfl (fun ls hl => ?_)
  refine lv_goto (tgt := 10) hx hb dJ7_fill_bad5a_24 (by decide) ?_
  refine lv_iload hx hb dJ7_fill_bad5a_10 (lv_at hl 0 rfl) ?_
  refine lv_iload_n hx hb dJ7_fill_bad5a_12 rfl (lv_at hl 3 rfl) ?_
  refine lv_icmp_ge (tgt := 27) hx hb dJ7_fill_bad5a_13 (by decide) (fun h => absurd h (by decide +kernel)) (fun _ => ?_)
  refine lv_aload_n hx hb dJ7_fill_bad5a_16 rfl (lv_at hl 1 rfl) ?_
  refine lv_iload hx hb dJ7_fill_bad5a_17 (lv_at hl 0 rfl) ?_
  refine lv_lload_n hx hb dJ7_fill_bad5a_19 rfl (lv_at hl 4 rfl) ?_
  refine va_last (D := g.1) hx hb hK hP hD hS 0 1 rfl rfl (vp_in_iff.mpr (by decide +kernel)) dJ7_fill_bad5a_20 (fun H locs hP hD hS => ?_)
  have hP : va_P g.1 vwCl [(h0, .inl (zJ g, 64, .inr (.inl (vp_updL (fun _ => 0) 29 0))))] H := hP
  have hD : va_D A [(h0, .inl (zJ g, 64, .inr (.inl (vp_updL (fun _ => 0) 29 0))))] := hD
  rw [zc_setL] at hP hD
  refine lv_iinc (v := 30) (lv' := [(5, .int 30), (0, .ref h0), (1, .int 16), (2, .int 32), (3, .long 0)]) hx hb dJ7_fill_bad5a_21 hl (k := 0) rfl (by decide) (by decide) rfl (fun ls hl => ?_)
  refine lv_goto (tgt := 10) hx hb dJ7_fill_bad5a_24 (by decide) ?_
  refine lv_iload hx hb dJ7_fill_bad5a_10 (lv_at hl 0 rfl) ?_
  refine lv_iload_n hx hb dJ7_fill_bad5a_12 rfl (lv_at hl 3 rfl) ?_
  refine lv_icmp_ge (tgt := 27) hx hb dJ7_fill_bad5a_13 (by decide) (fun h => absurd h (by decide +kernel)) (fun _ => ?_)
  refine lv_aload_n hx hb dJ7_fill_bad5a_16 rfl (lv_at hl 1 rfl) ?_
  refine lv_iload hx hb dJ7_fill_bad5a_17 (lv_at hl 0 rfl) ?_
  refine lv_lload_n hx hb dJ7_fill_bad5a_19 rfl (lv_at hl 4 rfl) ?_
  refine va_last (D := g.1) hx hb hK hP hD hS 0 1 rfl rfl (vp_in_iff.mpr (by decide +kernel)) dJ7_fill_bad5a_20 (fun H locs hP hD hS => ?_)
  have hP : va_P g.1 vwCl [(h0, .inl (zJ g, 64, .inr (.inl (vp_updL (fun _ => 0) 30 0))))] H := hP
  have hD : va_D A [(h0, .inl (zJ g, 64, .inr (.inl (vp_updL (fun _ => 0) 30 0))))] := hD
  rw [zc_setL] at hP hD
  refine lv_iinc (v := 31) (lv' := [(5, .int 31), (0, .ref h0), (1, .int 16), (2, .int 32), (3, .long 0)]) hx hb dJ7_fill_bad5a_21 hl (k := 0) rfl (by decide) (by decide) rfl (fun ls hl => ?_)
  refine lv_goto (tgt := 10) hx hb dJ7_fill_bad5a_24 (by decide) ?_
  refine lv_iload hx hb dJ7_fill_bad5a_10 (lv_at hl 0 rfl) ?_
  refine lv_iload_n hx hb dJ7_fill_bad5a_12 rfl (lv_at hl 3 rfl) ?_
  refine lv_icmp_ge (tgt := 27) hx hb dJ7_fill_bad5a_13 (by decide) (fun h => absurd h (by decide +kernel)) (fun _ => ?_)
  refine lv_aload_n hx hb dJ7_fill_bad5a_16 rfl (lv_at hl 1 rfl) ?_
  refine lv_iload hx hb dJ7_fill_bad5a_17 (lv_at hl 0 rfl) ?_
  refine lv_lload_n hx hb dJ7_fill_bad5a_19 rfl (lv_at hl 4 rfl) ?_
  refine va_last (D := g.1) hx hb hK hP hD hS 0 1 rfl rfl (vp_in_iff.mpr (by decide +kernel)) dJ7_fill_bad5a_20 (fun H locs hP hD hS => ?_)
  have hP : va_P g.1 vwCl [(h0, .inl (zJ g, 64, .inr (.inl (vp_updL (fun _ => 0) 31 0))))] H := hP
  have hD : va_D A [(h0, .inl (zJ g, 64, .inr (.inl (vp_updL (fun _ => 0) 31 0))))] := hD
  rw [zc_setL] at hP hD
  refine lv_iinc (v := 32) (lv' := [(5, .int 32), (0, .ref h0), (1, .int 16), (2, .int 32), (3, .long 0)]) hx hb dJ7_fill_bad5a_21 hl (k := 0) rfl (by decide) (by decide) rfl (fun ls hl => ?_)
  refine lv_goto (tgt := 10) hx hb dJ7_fill_bad5a_24 (by decide) ?_
  refine lv_iload hx hb dJ7_fill_bad5a_10 (lv_at hl 0 rfl) ?_
  refine lv_iload_n hx hb dJ7_fill_bad5a_12 rfl (lv_at hl 3 rfl) ?_
  refine lv_icmp_ge (tgt := 27) hx hb dJ7_fill_bad5a_13 (by decide) (fun _ => ?_) (fun h => absurd h (by decide +kernel))
  have hP9 := hP.sub (ws' := [(h0, .inl (zJ g, 64, .inr (.inl (fun _ => 0))))]) [0] rfl
  have hD9 := hD.sub (ws' := [(h0, .inl (zJ g, 64, .inr (.inl (fun _ => 0))))]) [0] (by decide) rfl
  exact W.vret hx hb hr (fun t ht hW => ⟨⟨0, rfl, trivial, by rw [ht]; exact hP9, hD9⟩, hS.F ht⟩) hS.2.2 dJ7_fill_bad5a_27
set_option maxHeartbeats 4000000 in
set_option maxRecDepth 100000 in
theorem kJ7_rangeCheck_23922_5 (l : Launch) (g : zG) (sz : Nat) : Met l yJ7_rangeCheck_23922 (.code yJ7_rangeCheck_23922 cJ7_rangeCheck_23922 3 none :: zBig) ({ frames := 0, cells := 0, slots := 0, locals := 0 }) (va_Pc [.int 64, .int 32, .int 48] (zPre g [] sz)) (va_Qv (fun _ : Nat => True) (zPost g (fun _ : Nat => []) (va_A [] sz)) (va_A [] sz)) 0 0 (va_A [] sz) := by
  refine zMetV rfl (Nat.le_of_ble_eq_true rfl) ?_
  intro p e s m args below meth c A ls hx hb hml hr hlocks hin hown hts hK hN hZ hP hD hA hS hAe hl
  have hown : s.vm.findClass RJ7 = some m.cls := hown
  have hl : lv_has ls 3 [(0, .int 64), (1, .int 32), (2, .int 48)] := hl
  refine lv_iload_n hx hb dJ7_rangeCheck_23922_0 rfl (lv_at hl 1 rfl) ?_
  refine lv_iload_n hx hb dJ7_rangeCheck_23922_1 rfl (lv_at hl 2 rfl) ?_
  refine lv_icmp_le (tgt := 46) hx hb dJ7_rangeCheck_23922_2 (by decide) (fun _ => ?_) (fun h => absurd h (by decide +kernel))
  refine lv_iload_n hx hb dJ7_rangeCheck_23922_46 rfl (lv_at hl 1 rfl) ?_
  refine lv_if_ge (tgt := 59) hx hb dJ7_rangeCheck_23922_47 (by decide) (fun _ => ?_) (fun h => absurd h (by decide +kernel))
  refine lv_iload_n hx hb dJ7_rangeCheck_23922_59 rfl (lv_at hl 2 rfl) ?_
  refine lv_iload_n hx hb dJ7_rangeCheck_23922_60 rfl (lv_at hl 0 rfl) ?_
  refine lv_icmp_le (tgt := 73) hx hb dJ7_rangeCheck_23922_61 (by decide) (fun _ => ?_) (fun h => absurd h (by decide +kernel))
  have hP9 := hP.sub (ws' := []) [] rfl
  have hD9 := hD.sub (ws' := []) [] (by decide) rfl
  exact W.vret hx hb hr (fun t ht hW => ⟨⟨0, rfl, trivial, by rw [ht]; exact hP9, hD9⟩, hS.F ht⟩) hS.2.2 dJ7_rangeCheck_23922_73
set_option maxHeartbeats 4000000 in
set_option maxRecDepth 100000 in
theorem kJ7_rangeCheck_23922_6 (l : Launch) (g : zG) (sz : Nat) : Met l yJ7_rangeCheck_23922 (.code yJ7_rangeCheck_23922 cJ7_rangeCheck_23922 3 none :: zBig) ({ frames := 0, cells := 0, slots := 0, locals := 0 }) (va_Pc [.int 64, .int 32, .int 48] (zPre g [] sz)) (va_Qv (fun _ : Nat => True) (zPost g (fun _ : Nat => []) (va_A [] sz)) (va_A [] sz)) 0 0 (va_A [] sz) := by
  refine zMetV rfl (Nat.le_of_ble_eq_true rfl) ?_
  intro p e s m args below meth c A ls hx hb hml hr hlocks hin hown hts hK hN hZ hP hD hA hS hAe hl
  have hown : s.vm.findClass RJ7 = some m.cls := hown
  have hl : lv_has ls 3 [(0, .int 64), (1, .int 32), (2, .int 48)] := hl
  refine lv_iload_n hx hb dJ7_rangeCheck_23922_0 rfl (lv_at hl 1 rfl) ?_
  refine lv_iload_n hx hb dJ7_rangeCheck_23922_1 rfl (lv_at hl 2 rfl) ?_
  refine lv_icmp_le (tgt := 46) hx hb dJ7_rangeCheck_23922_2 (by decide) (fun _ => ?_) (fun h => absurd h (by decide +kernel))
  refine lv_iload_n hx hb dJ7_rangeCheck_23922_46 rfl (lv_at hl 1 rfl) ?_
  refine lv_if_ge (tgt := 59) hx hb dJ7_rangeCheck_23922_47 (by decide) (fun _ => ?_) (fun h => absurd h (by decide +kernel))
  refine lv_iload_n hx hb dJ7_rangeCheck_23922_59 rfl (lv_at hl 2 rfl) ?_
  refine lv_iload_n hx hb dJ7_rangeCheck_23922_60 rfl (lv_at hl 0 rfl) ?_
  refine lv_icmp_le (tgt := 73) hx hb dJ7_rangeCheck_23922_61 (by decide) (fun _ => ?_) (fun h => absurd h (by decide +kernel))
  have hP9 := hP.sub (ws' := []) [] rfl
  have hD9 := hD.sub (ws' := []) [] (by decide) rfl
  exact W.vret hx hb hr (fun t ht hW => ⟨⟨0, rfl, trivial, by rw [ht]; exact hP9, hD9⟩, hS.F ht⟩) hS.2.2 dJ7_rangeCheck_23922_73
set_option maxHeartbeats 4000000 in
set_option maxRecDepth 100000 in
theorem kJ7_fill_bad5a_3 (l : Launch) (g : zG) (h0 : Nat) (sz : Nat) : Met l yJ7_fill_bad5a (.code yJ7_fill_bad5a cJ7_fill_bad5a 6 none :: zBig) ({ frames := 1, cells := 0, slots := 0, locals := 22 }) (va_Pc [.ref h0, .int 32, .int 48, .long 0] (zPre g [(h0, .inl (zJ g, 64, .inr (.inl (fun _ => 0))))] sz)) (va_Qv (fun _ : Nat => True) (zPost g (fun _ : Nat => [(h0, .inl (zJ g, 64, .inr (.inl (fun _ => 0))))]) (va_A [(h0, .inl (zJ g, 64, .inr (.inl (fun _ => 0))))] sz)) (va_A [(h0, .inl (zJ g, 64, .inr (.inl (fun _ => 0))))] sz)) 0 0 (va_A [(h0, .inl (zJ g, 64, .inr (.inl (fun _ => 0))))] sz) := by
  refine zMetV rfl (Nat.le_of_ble_eq_true rfl) ?_
  intro p e s m args below meth c A ls hx hb hml hr hlocks hin hown hts hK hN hZ hP hD hA hS hAe hl
  have hown : s.vm.findClass RJ7 = some m.cls := hown
  have hl : lv_has ls 6 [(0, .ref h0), (1, .int 32), (2, .int 48), (3, .long 0)] := hl
  refine lv_aload_n hx hb dJ7_fill_bad5a_0 rfl (lv_at hl 0 rfl) ?_
  refine va_alen (D := g.1) hx hb hK hP 0 1 rfl rfl (v := 64) (by decide) dJ7_fill_bad5a_1 ?_
  refine lv_iload_n hx hb dJ7_fill_bad5a_2 rfl (lv_at hl 1 rfl) ?_
  refine lv_iload_n hx hb dJ7_fill_bad5a_3 rfl (lv_at hl 2 rfl) ?_
  refine z_callv (wr := [(h0, .inl (zJ g, 64, .inr (.inl (fun _ => 0))))]) hP hD hS hA [] [0] (by decide) rfl rfl (by decide) (va_runS (As := [.int 64, .int 32, .int 48]) (rest := []) ⟨hx, hb, hml, hown, hts⟩ (kJ7_rangeCheck_23922_6 l g  s.heap.size) ⟨callB_of 3 hts (zGood m_o_yJ7_rangeCheck_23922) rfl rfl rfl (hts _ m_z_RJ7) (hts _ m_m_RJ7_13) ⟨by decide +kernel, by decide +kernel, by decide +kernel⟩ ⟨Nat.le_of_ble_eq_true rfl, Nat.le_of_ble_eq_true rfl⟩, hts _ m_s_yJ7_rangeCheck_23922⟩ (zPreS hK hN hZ hP hD hS hA [] (by decide) rfl rfl) rfl rfl hl.1 rfl (lv_room (Nat.le_of_ble_eq_true rfl)) dJ7_fill_bad5a_4 ⟨Nat.le_of_ble_eq_true rfl, Nat.le_of_ble_eq_true rfl⟩) (fun u H locs hw hP hD hS => ?_)
  have hP : va_P g.1 vwCl [(h0, .inl (zJ g, 64, .inr (.inl (fun _ => 0))))] H := hP
  have hD : va_D A [(h0, .inl (zJ g, 64, .inr (.inl (fun _ => 0))))] := hD
  refine lv_iload_n hx hb dJ7_fill_bad5a_7 rfl (lv_at hl 1 rfl) ?_
  refine lv_istore (lv' := [(5, .int 32), (0, .ref h0), (1, .int 32), (2, .int 48), (3, .long 0)]) hx hb dJ7_fill_bad5a_8 hl (by decide) rfl (fun ls hl => ?_)
  refine lv_iload hx hb dJ7_fill_bad5a_10 (lv_at hl 0 rfl) ?_
  refine lv_iload_n hx hb dJ7_fill_bad5a_12 rfl (lv_at hl 3 rfl) ?_
  refine lv_icmp_ge (tgt := 27) hx hb dJ7_fill_bad5a_13 (by decide) (fun h => absurd h (by decide +kernel)) (fun _ => ?_)
  refine lv_aload_n hx hb dJ7_fill_bad5a_16 rfl (lv_at hl 1 rfl) ?_
  refine lv_iload hx hb dJ7_fill_bad5a_17 (lv_at hl 0 rfl) ?_
  refine lv_lload_n hx hb dJ7_fill_bad5a_19 rfl (lv_at hl 4 rfl) ?_
  refine va_last (D := g.1) hx hb hK hP hD hS 0 1 rfl rfl (vp_in_iff.mpr (by decide +kernel)) dJ7_fill_bad5a_20 (fun H locs hP hD hS => ?_)
  have hP : va_P g.1 vwCl [(h0, .inl (zJ g, 64, .inr (.inl (vp_updL (fun _ => 0) 32 0))))] H := hP
  have hD : va_D A [(h0, .inl (zJ g, 64, .inr (.inl (vp_updL (fun _ => 0) 32 0))))] := hD
  rw [zc_setL] at hP hD
  refine lv_iinc (v := 33) (lv' := [(5, .int 33), (0, .ref h0), (1, .int 32), (2, .int 48), (3, .long 0)]) hx hb dJ7_fill_bad5a_21 hl (k := 0) rfl (by decide) (by decide) rfl (fun ls hl => ?_)
  refine lv_goto (tgt := 10) hx hb dJ7_fill_bad5a_24 (by decide) ?_
  refine lv_iload hx hb dJ7_fill_bad5a_10 (lv_at hl 0 rfl) ?_
  refine lv_iload_n hx hb dJ7_fill_bad5a_12 rfl (lv_at hl 3 rfl) ?_
  refine lv_icmp_ge (tgt := 27) hx hb dJ7_fill_bad5a_13 (by decide) (fun h => absurd h (by decide +kernel)) (fun _ => ?_)
  refine lv_aload_n hx hb dJ7_fill_bad5a_16 rfl (lv_at hl 1 rfl) ?_
  refine lv_iload hx hb dJ7_fill_bad5a_17 (lv_at hl 0 rfl) ?_
  refine lv_lload_n hx hb dJ7_fill_bad5a_19 rfl (lv_at hl 4 rfl) ?_
  refine va_last (D := g.1) hx hb hK hP hD hS 0 1 rfl rfl (vp_in_iff.mpr (by decide +kernel)) dJ7_fill_bad5a_20 (fun H locs hP hD hS => ?_)
  have hP : va_P g.1 vwCl [(h0, .inl (zJ g, 64, .inr (.inl (vp_updL (fun _ => 0) 33 0))))] H := hP
  have hD : va_D A [(h0, .inl (zJ g, 64, .inr (.inl (vp_updL (fun _ => 0) 33 0))))] := hD
  rw [zc_setL] at hP hD
  refine lv_iinc (v := 34) (lv' := [(5, .int 34), (0, .ref h0), (1, .int 32), (2, .int 48), (3, .long 0)]) hx hb dJ7_fill_bad5a_21 hl (k := 0) rfl (by decide) (by decide) rfl (fun ls hl => ?_)
  refine lv_goto (tgt := 10) hx hb dJ7_fill_bad5a_24 (by decide) ?_
  refine lv_iload hx hb dJ7_fill_bad5a_10 (lv_at hl 0 rfl) ?_
  refine lv_iload_n hx hb dJ7_fill_bad5a_12 rfl (lv_at hl 3 rfl) ?_
  refine lv_icmp_ge (tgt := 27) hx hb dJ7_fill_bad5a_13 (by decide) (fun h => absurd h (by decide +kernel)) (fun _ => ?_)
  refine lv_aload_n hx hb dJ7_fill_bad5a_16 rfl (lv_at hl 1 rfl) ?_
  refine lv_iload hx hb dJ7_fill_bad5a_17 (lv_at hl 0 rfl) ?_
  refine lv_lload_n hx hb dJ7_fill_bad5a_19 rfl (lv_at hl 4 rfl) ?_
  refine va_last (D := g.1) hx hb hK hP hD hS 0 1 rfl rfl (vp_in_iff.mpr (by decide +kernel)) dJ7_fill_bad5a_20 (fun H locs hP hD hS => ?_)
  have hP : va_P g.1 vwCl [(h0, .inl (zJ g, 64, .inr (.inl (vp_updL (fun _ => 0) 34 0))))] H := hP
  have hD : va_D A [(h0, .inl (zJ g, 64, .inr (.inl (vp_updL (fun _ => 0) 34 0))))] := hD
  rw [zc_setL] at hP hD
  refine lv_iinc (v := 35) (lv' := [(5, .int 35), (0, .ref h0), (1, .int 32), (2, .int 48), (3, .long 0)]) hx hb dJ7_fill_bad5a_21 hl (k := 0) rfl (by decide) (by decide) rfl (fun ls hl => ?_)
  refine lv_goto (tgt := 10) hx hb dJ7_fill_bad5a_24 (by decide) ?_
  refine lv_iload hx hb dJ7_fill_bad5a_10 (lv_at hl 0 rfl) ?_
  refine lv_iload_n hx hb dJ7_fill_bad5a_12 rfl (lv_at hl 3 rfl) ?_
  refine lv_icmp_ge (tgt := 27) hx hb dJ7_fill_bad5a_13 (by decide) (fun h => absurd h (by decide +kernel)) (fun _ => ?_)
  refine lv_aload_n hx hb dJ7_fill_bad5a_16 rfl (lv_at hl 1 rfl) ?_
  refine lv_iload hx hb dJ7_fill_bad5a_17 (lv_at hl 0 rfl) ?_
  refine lv_lload_n hx hb dJ7_fill_bad5a_19 rfl (lv_at hl 4 rfl) ?_
  refine va_last (D := g.1) hx hb hK hP hD hS 0 1 rfl rfl (vp_in_iff.mpr (by decide +kernel)) dJ7_fill_bad5a_20 (fun H locs hP hD hS => ?_)
  have hP : va_P g.1 vwCl [(h0, .inl (zJ g, 64, .inr (.inl (vp_updL (fun _ => 0) 35 0))))] H := hP
  have hD : va_D A [(h0, .inl (zJ g, 64, .inr (.inl (vp_updL (fun _ => 0) 35 0))))] := hD
  rw [zc_setL] at hP hD
  refine lv_iinc (v := 36) (lv' := [(5, .int 36), (0, .ref h0), (1, .int 32), (2, .int 48), (3, .long 0)]) hx hb dJ7_fill_bad5a_21 hl (k := 0) rfl (by decide) (by decide) rfl (fun ls hl => ?_)
  refine lv_goto (tgt := 10) hx hb dJ7_fill_bad5a_24 (by decide) ?_
  refine lv_iload hx hb dJ7_fill_bad5a_10 (lv_at hl 0 rfl) ?_
  refine lv_iload_n hx hb dJ7_fill_bad5a_12 rfl (lv_at hl 3 rfl) ?_
  refine lv_icmp_ge (tgt := 27) hx hb dJ7_fill_bad5a_13 (by decide) (fun h => absurd h (by decide +kernel)) (fun _ => ?_)
  refine lv_aload_n hx hb dJ7_fill_bad5a_16 rfl (lv_at hl 1 rfl) ?_
  refine lv_iload hx hb dJ7_fill_bad5a_17 (lv_at hl 0 rfl) ?_
  refine lv_lload_n hx hb dJ7_fill_bad5a_19 rfl (lv_at hl 4 rfl) ?_
  refine va_last (D := g.1) hx hb hK hP hD hS 0 1 rfl rfl (vp_in_iff.mpr (by decide +kernel)) dJ7_fill_bad5a_20 (fun H locs hP hD hS => ?_)
  have hP : va_P g.1 vwCl [(h0, .inl (zJ g, 64, .inr (.inl (vp_updL (fun _ => 0) 36 0))))] H := hP
  have hD : va_D A [(h0, .inl (zJ g, 64, .inr (.inl (vp_updL (fun _ => 0) 36 0))))] := hD
  rw [zc_setL] at hP hD
  refine lv_iinc (v := 37) (lv' := [(5, .int 37), (0, .ref h0), (1, .int 32), (2, .int 48), (3, .long 0)]) hx hb dJ7_fill_bad5a_21 hl (k := 0) rfl (by decide) (by decide) rfl (fun ls hl => ?_)
  refine lv_goto (tgt := 10) hx hb dJ7_fill_bad5a_24 (by decide) ?_
  refine lv_iload hx hb dJ7_fill_bad5a_10 (lv_at hl 0 rfl) ?_
  refine lv_iload_n hx hb dJ7_fill_bad5a_12 rfl (lv_at hl 3 rfl) ?_
  refine lv_icmp_ge (tgt := 27) hx hb dJ7_fill_bad5a_13 (by decide) (fun h => absurd h (by decide +kernel)) (fun _ => ?_)
  refine lv_aload_n hx hb dJ7_fill_bad5a_16 rfl (lv_at hl 1 rfl) ?_
  refine lv_iload hx hb dJ7_fill_bad5a_17 (lv_at hl 0 rfl) ?_
  refine lv_lload_n hx hb dJ7_fill_bad5a_19 rfl (lv_at hl 4 rfl) ?_
  refine va_last (D := g.1) hx hb hK hP hD hS 0 1 rfl rfl (vp_in_iff.mpr (by decide +kernel)) dJ7_fill_bad5a_20 (fun H locs hP hD hS => ?_)
  have hP : va_P g.1 vwCl [(h0, .inl (zJ g, 64, .inr (.inl (vp_updL (fun _ => 0) 37 0))))] H := hP
  have hD : va_D A [(h0, .inl (zJ g, 64, .inr (.inl (vp_updL (fun _ => 0) 37 0))))] := hD
  rw [zc_setL] at hP hD
  refine lv_iinc (v := 38) (lv' := [(5, .int 38), (0, .ref h0), (1, .int 32), (2, .int 48), (3, .long 0)]) hx hb dJ7_fill_bad5a_21 hl (k := 0) rfl (by decide) (by decide) rfl (fun ls hl => ?_)
  refine lv_goto (tgt := 10) hx hb dJ7_fill_bad5a_24 (by decide) ?_
  refine lv_iload hx hb dJ7_fill_bad5a_10 (lv_at hl 0 rfl) ?_
  refine lv_iload_n hx hb dJ7_fill_bad5a_12 rfl (lv_at hl 3 rfl) ?_
  refine lv_icmp_ge (tgt := 27) hx hb dJ7_fill_bad5a_13 (by decide) (fun h => absurd h (by decide +kernel)) (fun _ => ?_)
  refine lv_aload_n hx hb dJ7_fill_bad5a_16 rfl (lv_at hl 1 rfl) ?_
  refine lv_iload hx hb dJ7_fill_bad5a_17 (lv_at hl 0 rfl) ?_
  refine lv_lload_n hx hb dJ7_fill_bad5a_19 rfl (lv_at hl 4 rfl) ?_
  refine va_last (D := g.1) hx hb hK hP hD hS 0 1 rfl rfl (vp_in_iff.mpr (by decide +kernel)) dJ7_fill_bad5a_20 (fun H locs hP hD hS => ?_)
  have hP : va_P g.1 vwCl [(h0, .inl (zJ g, 64, .inr (.inl (vp_updL (fun _ => 0) 38 0))))] H := hP
  have hD : va_D A [(h0, .inl (zJ g, 64, .inr (.inl (vp_updL (fun _ => 0) 38 0))))] := hD
  rw [zc_setL] at hP hD
  refine lv_iinc (v := 39) (lv' := [(5, .int 39), (0, .ref h0), (1, .int 32), (2, .int 48), (3, .long 0)]) hx hb dJ7_fill_bad5a_21 hl (k := 0) rfl (by decide) (by decide) rfl (fun ls hl => ?_)
  refine lv_goto (tgt := 10) hx hb dJ7_fill_bad5a_24 (by decide) ?_
  refine lv_iload hx hb dJ7_fill_bad5a_10 (lv_at hl 0 rfl) ?_
  refine lv_iload_n hx hb dJ7_fill_bad5a_12 rfl (lv_at hl 3 rfl) ?_
  refine lv_icmp_ge (tgt := 27) hx hb dJ7_fill_bad5a_13 (by decide) (fun h => absurd h (by decide +kernel)) (fun _ => ?_)
  refine lv_aload_n hx hb dJ7_fill_bad5a_16 rfl (lv_at hl 1 rfl) ?_
  refine lv_iload hx hb dJ7_fill_bad5a_17 (lv_at hl 0 rfl) ?_
  refine lv_lload_n hx hb dJ7_fill_bad5a_19 rfl (lv_at hl 4 rfl) ?_
  refine va_last (D := g.1) hx hb hK hP hD hS 0 1 rfl rfl (vp_in_iff.mpr (by decide +kernel)) dJ7_fill_bad5a_20 (fun H locs hP hD hS => ?_)
  have hP : va_P g.1 vwCl [(h0, .inl (zJ g, 64, .inr (.inl (vp_updL (fun _ => 0) 39 0))))] H := hP
  have hD : va_D A [(h0, .inl (zJ g, 64, .inr (.inl (vp_updL (fun _ => 0) 39 0))))] := hD
  rw [zc_setL] at hP hD
  refine lv_iinc (v := 40) (lv' := [(5, .int 40), (0, .ref h0), (1, .int 32), (2, .int 48), (3, .long 0)]) hx hb dJ7_fill_bad5a_21 hl (k := 0) rfl (by decide) (by decide) rfl (fun ls hl => ?_)
  refine lv_goto (tgt := 10) hx hb dJ7_fill_bad5a_24 (by decide) ?_
  refine lv_iload hx hb dJ7_fill_bad5a_10 (lv_at hl 0 rfl) ?_
  refine lv_iload_n hx hb dJ7_fill_bad5a_12 rfl (lv_at hl 3 rfl) ?_
  refine lv_icmp_ge (tgt := 27) hx hb dJ7_fill_bad5a_13 (by decide) (fun h => absurd h (by decide +kernel)) (fun _ => ?_)
  refine lv_aload_n hx hb dJ7_fill_bad5a_16 rfl (lv_at hl 1 rfl) ?_
  refine lv_iload hx hb dJ7_fill_bad5a_17 (lv_at hl 0 rfl) ?_
  refine lv_lload_n hx hb dJ7_fill_bad5a_19 rfl (lv_at hl 4 rfl) ?_
  refine va_last (D := g.1) hx hb hK hP hD hS 0 1 rfl rfl (vp_in_iff.mpr (by decide +kernel)) dJ7_fill_bad5a_20 (fun H locs hP hD hS => ?_)
  have hP : va_P g.1 vwCl [(h0, .inl (zJ g, 64, .inr (.inl (vp_updL (fun _ => 0) 40 0))))] H := hP
  have hD : va_D A [(h0, .inl (zJ g, 64, .inr (.inl (vp_updL (fun _ => 0) 40 0))))] := hD
  rw [zc_setL] at hP hD
  refine lv_iinc (v := 41) (lv' := [(5, .int 41), (0, .ref h0), (1, .int 32), (2, .int 48), (3, .long 0)]) hx hb dJ7_fill_bad5a_21 hl (k := 0) rfl (by decide) (by decide) rfl (fun ls hl => ?_)
  refine lv_goto (tgt := 10) hx hb dJ7_fill_bad5a_24 (by decide) ?_
  refine lv_iload hx hb dJ7_fill_bad5a_10 (lv_at hl 0 rfl) ?_
  refine lv_iload_n hx hb dJ7_fill_bad5a_12 rfl (lv_at hl 3 rfl) ?_
  refine lv_icmp_ge (tgt := 27) hx hb dJ7_fill_bad5a_13 (by decide) (fun h => absurd h (by decide +kernel)) (fun _ => ?_)
  refine lv_aload_n hx hb dJ7_fill_bad5a_16 rfl (lv_at hl 1 rfl) ?_
  refine lv_iload hx hb dJ7_fill_bad5a_17 (lv_at hl 0 rfl) ?_
  refine lv_lload_n hx hb dJ7_fill_bad5a_19 rfl (lv_at hl 4 rfl) ?_
  refine va_last (D := g.1) hx hb hK hP hD hS 0 1 rfl rfl (vp_in_iff.mpr (by decide +kernel)) dJ7_fill_bad5a_20 (fun H locs hP hD hS => ?_)
  have hP : va_P g.1 vwCl [(h0, .inl (zJ g, 64, .inr (.inl (vp_updL (fun _ => 0) 41 0))))] H := hP
  have hD : va_D A [(h0, .inl (zJ g, 64, .inr (.inl (vp_updL (fun _ => 0) 41 0))))] := hD
  rw [zc_setL] at hP hD
  refine lv_iinc (v := 42) (lv' := [(5, .int 42), (0, .ref h0), (1, .int 32), (2, .int 48), (3, .long 0)]) hx hb dJ7_fill_bad5a_21 hl (k := 0) rfl (by decide) (by decide) rfl (fun ls hl => ?_)
  refine lv_goto (tgt := 10) hx hb dJ7_fill_bad5a_24 (by decide) ?_
  refine lv_iload hx hb dJ7_fill_bad5a_10 (lv_at hl 0 rfl) ?_
  refine lv_iload_n hx hb dJ7_fill_bad5a_12 rfl (lv_at hl 3 rfl) ?_
  refine lv_icmp_ge (tgt := 27) hx hb dJ7_fill_bad5a_13 (by decide) (fun h => absurd h (by decide +kernel)) (fun _ => ?_)
  refine lv_aload_n hx hb dJ7_fill_bad5a_16 rfl (lv_at hl 1 rfl) ?_
  refine lv_iload hx hb dJ7_fill_bad5a_17 (lv_at hl 0 rfl) ?_
  refine lv_lload_n hx hb dJ7_fill_bad5a_19 rfl (lv_at hl 4 rfl) ?_
  refine va_last (D := g.1) hx hb hK hP hD hS 0 1 rfl rfl (vp_in_iff.mpr (by decide +kernel)) dJ7_fill_bad5a_20 (fun H locs hP hD hS => ?_)
  have hP : va_P g.1 vwCl [(h0, .inl (zJ g, 64, .inr (.inl (vp_updL (fun _ => 0) 42 0))))] H := hP
  have hD : va_D A [(h0, .inl (zJ g, 64, .inr (.inl (vp_updL (fun _ => 0) 42 0))))] := hD
  rw [zc_setL] at hP hD
  refine lv_iinc (v := 43) (lv' := [(5, .int 43), (0, .ref h0), (1, .int 32), (2, .int 48), (3, .long 0)]) hx hb dJ7_fill_bad5a_21 hl (k := 0) rfl (by decide) (by decide) rfl (fun ls hl => ?_)
  refine lv_goto (tgt := 10) hx hb dJ7_fill_bad5a_24 (by decide) ?_
  refine lv_iload hx hb dJ7_fill_bad5a_10 (lv_at hl 0 rfl) ?_
  refine lv_iload_n hx hb dJ7_fill_bad5a_12 rfl (lv_at hl 3 rfl) ?_
  refine lv_icmp_ge (tgt := 27) hx hb dJ7_fill_bad5a_13 (by decide) (fun h => absurd h (by decide +kernel)) (fun _ => ?_)
  refine lv_aload_n hx hb dJ7_fill_bad5a_16 rfl (lv_at hl 1 rfl) ?_
  refine lv_iload hx hb dJ7_fill_bad5a_17 (lv_at hl 0 rfl) ?_
  refine lv_lload_n hx hb dJ7_fill_bad5a_19 rfl (lv_at hl 4 rfl) ?_
  refine va_last (D := g.1) hx hb hK hP hD hS 0 1 rfl rfl (vp_in_iff.mpr (by decide +kernel)) dJ7_fill_bad5a_20 (fun H locs hP hD hS => ?_)
  have hP : va_P g.1 vwCl [(h0, .inl (zJ g, 64, .inr (.inl (vp_updL (fun _ => 0) 43 0))))] H := hP
  have hD : va_D A [(h0, .inl (zJ g, 64, .inr (.inl (vp_updL (fun _ => 0) 43 0))))] := hD
  rw [zc_setL] at hP hD
  refine lv_iinc (v := 44) (lv' := [(5, .int 44), (0, .ref h0), (1, .int 32), (2, .int 48), (3, .long 0)]) hx hb dJ7_fill_bad5a_21 hl (k := 0) rfl (by decide) (by decide) rfl (fun ls hl => ?_)
  refine lv_goto (tgt := 10) hx hb dJ7_fill_bad5a_24 (by decide) ?_
  refine lv_iload hx hb dJ7_fill_bad5a_10 (lv_at hl 0 rfl) ?_
  refine lv_iload_n hx hb dJ7_fill_bad5a_12 rfl (lv_at hl 3 rfl) ?_
  refine lv_icmp_ge (tgt := 27) hx hb dJ7_fill_bad5a_13 (by decide) (fun h => absurd h (by decide +kernel)) (fun _ => ?_)
  refine lv_aload_n hx hb dJ7_fill_bad5a_16 rfl (lv_at hl 1 rfl) ?_
  refine lv_iload hx hb dJ7_fill_bad5a_17 (lv_at hl 0 rfl) ?_
  refine lv_lload_n hx hb dJ7_fill_bad5a_19 rfl (lv_at hl 4 rfl) ?_
  refine va_last (D := g.1) hx hb hK hP hD hS 0 1 rfl rfl (vp_in_iff.mpr (by decide +kernel)) dJ7_fill_bad5a_20 (fun H locs hP hD hS => ?_)
  have hP : va_P g.1 vwCl [(h0, .inl (zJ g, 64, .inr (.inl (vp_updL (fun _ => 0) 44 0))))] H := hP
  have hD : va_D A [(h0, .inl (zJ g, 64, .inr (.inl (vp_updL (fun _ => 0) 44 0))))] := hD
  rw [zc_setL] at hP hD
  refine lv_iinc (v := 45) (lv' := [(5, .int 45), (0, .ref h0), (1, .int 32), (2, .int 48), (3, .long 0)]) hx hb dJ7_fill_bad5a_21 hl (k := 0) rfl (by decide) (by decide) rfl (fun ls hl => ?_)
  refine lv_goto (tgt := 10) hx hb dJ7_fill_bad5a_24 (by decide) ?_
  refine lv_iload hx hb dJ7_fill_bad5a_10 (lv_at hl 0 rfl) ?_
  refine lv_iload_n hx hb dJ7_fill_bad5a_12 rfl (lv_at hl 3 rfl) ?_
  refine lv_icmp_ge (tgt := 27) hx hb dJ7_fill_bad5a_13 (by decide) (fun h => absurd h (by decide +kernel)) (fun _ => ?_)
  refine lv_aload_n hx hb dJ7_fill_bad5a_16 rfl (lv_at hl 1 rfl) ?_
  refine lv_iload hx hb dJ7_fill_bad5a_17 (lv_at hl 0 rfl) ?_
  refine lv_lload_n hx hb dJ7_fill_bad5a_19 rfl (lv_at hl 4 rfl) ?_
  refine va_last (D := g.1) hx hb hK hP hD hS 0 1 rfl rfl (vp_in_iff.mpr (by decide +kernel)) dJ7_fill_bad5a_20 (fun H locs hP hD hS => ?_)
  have hP : va_P g.1 vwCl [(h0, .inl (zJ g, 64, .inr (.inl (vp_updL (fun _ => 0) 45 0))))] H := hP
  have hD : va_D A [(h0, .inl (zJ g, 64, .inr (.inl (vp_updL (fun _ => 0) 45 0))))] := hD
  rw [zc_setL] at hP hD
  refine lv_iinc (v := 46) (lv' := [(5, .int 46), (0, .ref h0), (1, .int 32), (2, .int 48), (3, .long 0)]) hx hb dJ7_fill_bad5a_21 hl (k := 0) rfl (by decide) (by decide) rfl (fun ls hl => ?_)
  refine lv_goto (tgt := 10) hx hb dJ7_fill_bad5a_24 (by decide) ?_
  refine lv_iload hx hb dJ7_fill_bad5a_10 (lv_at hl 0 rfl) ?_
  refine lv_iload_n hx hb dJ7_fill_bad5a_12 rfl (lv_at hl 3 rfl) ?_
  refine lv_icmp_ge (tgt := 27) hx hb dJ7_fill_bad5a_13 (by decide) (fun h => absurd h (by decide +kernel)) (fun _ => ?_)
  refine lv_aload_n hx hb dJ7_fill_bad5a_16 rfl (lv_at hl 1 rfl) ?_
  refine lv_iload hx hb dJ7_fill_bad5a_17 (lv_at hl 0 rfl) ?_
  refine lv_lload_n hx hb dJ7_fill_bad5a_19 rfl (lv_at hl 4 rfl) ?_
  refine va_last (D := g.1) hx hb hK hP hD hS 0 1 rfl rfl (vp_in_iff.mpr (by decide +kernel)) dJ7_fill_bad5a_20 (fun H locs hP hD hS => ?_)
  have hP : va_P g.1 vwCl [(h0, .inl (zJ g, 64, .inr (.inl (vp_updL (fun _ => 0) 46 0))))] H := hP
  have hD : va_D A [(h0, .inl (zJ g, 64, .inr (.inl (vp_updL (fun _ => 0) 46 0))))] := hD
  rw [zc_setL] at hP hD
  refine lv_iinc (v := 47) (lv' := [(5, .int 47), (0, .ref h0), (1, .int 32), (2, .int 48), (3, .long 0)]) hx hb dJ7_fill_bad5a_21 hl (k := 0) rfl (by decide) (by decide) rfl (fun ls hl => ?_)
  refine lv_goto (tgt := 10) hx hb dJ7_fill_bad5a_24 (by decide) ?_
  refine lv_iload hx hb dJ7_fill_bad5a_10 (lv_at hl 0 rfl) ?_
  refine lv_iload_n hx hb dJ7_fill_bad5a_12 rfl (lv_at hl 3 rfl) ?_
  refine lv_icmp_ge (tgt := 27) hx hb dJ7_fill_bad5a_13 (by decide) (fun h => absurd h (by decide +kernel)) (fun _ => ?_)
  refine lv_aload_n hx hb dJ7_fill_bad5a_16 rfl (lv_at hl 1 rfl) ?_
  refine lv_iload hx hb dJ7_fill_bad5a_17 (lv_at hl 0 rfl) ?_
  refine lv_lload_n hx hb dJ7_fill_bad5a_19 rfl (lv_at hl 4 rfl) ?_
  refine va_last (D := g.1) hx hb hK hP hD hS 0 1 rfl rfl (vp_in_iff.mpr (by decide +kernel)) dJ7_fill_bad5a_20 (fun H locs hP hD hS => ?_)
  have hP : va_P g.1 vwCl [(h0, .inl (zJ g, 64, .inr (.inl (vp_updL (fun _ => 0) 47 0))))] H := hP
  have hD : va_D A [(h0, .inl (zJ g, 64, .inr (.inl (vp_updL (fun _ => 0) 47 0))))] := hD
  rw [zc_setL] at hP hD
  refine lv_iinc (v := 48) (lv' := [(5, .int 48), (0, .ref h0), (1, .int 32), (2, .int 48), (3, .long 0)]) hx hb dJ7_fill_bad5a_21 hl (k := 0) rfl (by decide) (by decide) rfl (fun ls hl => ?_)
  refine lv_goto (tgt := 10) hx hb dJ7_fill_bad5a_24 (by decide) ?_
  refine lv_iload hx hb dJ7_fill_bad5a_10 (lv_at hl 0 rfl) ?_
  refine lv_iload_n hx hb dJ7_fill_bad5a_12 rfl (lv_at hl 3 rfl) ?_
  refine lv_icmp_ge (tgt := 27) hx hb dJ7_fill_bad5a_13 (by decide) (fun _ => ?_) (fun h => absurd h (by decide +kernel))
  have hP9 := hP.sub (ws' := [(h0, .inl (zJ g, 64, .inr (.inl (fun _ => 0))))]) [0] rfl
  have hD9 := hD.sub (ws' := [(h0, .inl (zJ g, 64, .inr (.inl (fun _ => 0))))]) [0] (by decide) rfl
  exact W.vret hx hb hr (fun t ht hW => ⟨⟨0, rfl, trivial, by rw [ht]; exact hP9, hD9⟩, hS.F ht⟩) hS.2.2 dJ7_fill_bad5a_27
set_option maxHeartbeats 4000000 in
set_option maxRecDepth 100000 in
theorem kJ7_rangeCheck_23922_7 (l : Launch) (g : zG) (sz : Nat) : Met l yJ7_rangeCheck_23922 (.code yJ7_rangeCheck_23922 cJ7_rangeCheck_23922 3 none :: zBig) ({ frames := 0, cells := 0, slots := 0, locals := 0 }) (va_Pc [.int 64, .int 48, .int 64] (zPre g [] sz)) (va_Qv (fun _ : Nat => True) (zPost g (fun _ : Nat => []) (va_A [] sz)) (va_A [] sz)) 0 0 (va_A [] sz) := by
  refine zMetV rfl (Nat.le_of_ble_eq_true rfl) ?_
  intro p e s m args below meth c A ls hx hb hml hr hlocks hin hown hts hK hN hZ hP hD hA hS hAe hl
  have hown : s.vm.findClass RJ7 = some m.cls := hown
  have hl : lv_has ls 3 [(0, .int 64), (1, .int 48), (2, .int 64)] := hl
  refine lv_iload_n hx hb dJ7_rangeCheck_23922_0 rfl (lv_at hl 1 rfl) ?_
  refine lv_iload_n hx hb dJ7_rangeCheck_23922_1 rfl (lv_at hl 2 rfl) ?_
  refine lv_icmp_le (tgt := 46) hx hb dJ7_rangeCheck_23922_2 (by decide) (fun _ => ?_) (fun h => absurd h (by decide +kernel))
  refine lv_iload_n hx hb dJ7_rangeCheck_23922_46 rfl (lv_at hl 1 rfl) ?_
  refine lv_if_ge (tgt := 59) hx hb dJ7_rangeCheck_23922_47 (by decide) (fun _ => ?_) (fun h => absurd h (by decide +kernel))
  refine lv_iload_n hx hb dJ7_rangeCheck_23922_59 rfl (lv_at hl 2 rfl) ?_
  refine lv_iload_n hx hb dJ7_rangeCheck_23922_60 rfl (lv_at hl 0 rfl) ?_
  refine lv_icmp_le (tgt := 73) hx hb dJ7_rangeCheck_23922_61 (by decide) (fun _ => ?_) (fun h => absurd h (by decide +kernel))
  have hP9 := hP.sub (ws' := []) [] rfl
  have hD9 := hD.sub (ws' := []) [] (by decide) rfl
  exact W.vret hx hb hr (fun t ht hW => ⟨⟨0, rfl, trivial, by rw [ht]; exact hP9, hD9⟩, hS.F ht⟩) hS.2.2 dJ7_rangeCheck_23922_73
set_option maxHeartbeats 4000000 in
set_option maxRecDepth 100000 in
theorem kJ7_rangeCheck_23922_8 (l : Launch) (g : zG) (sz : Nat) : Met l yJ7_rangeCheck_23922 (.code yJ7_rangeCheck_23922 cJ7_rangeCheck_23922 3 none :: zBig) ({ frames := 0, cells := 0, slots := 0, locals := 0 }) (va_Pc [.int 64, .int 48, .int 64] (zPre g [] sz)) (va_Qv (fun _ : Nat => True) (zPost g (fun _ : Nat => []) (va_A [] sz)) (va_A [] sz)) 0 0 (va_A [] sz) := by
  refine zMetV rfl (Nat.le_of_ble_eq_true rfl) ?_
  intro p e s m args below meth c A ls hx hb hml hr hlocks hin hown hts hK hN hZ hP hD hA hS hAe hl
  have hown : s.vm.findClass RJ7 = some m.cls := hown
  have hl : lv_has ls 3 [(0, .int 64), (1, .int 48), (2, .int 64)] := hl
  refine lv_iload_n hx hb dJ7_rangeCheck_23922_0 rfl (lv_at hl 1 rfl) ?_
  refine lv_iload_n hx hb dJ7_rangeCheck_23922_1 rfl (lv_at hl 2 rfl) ?_
  refine lv_icmp_le (tgt := 46) hx hb dJ7_rangeCheck_23922_2 (by decide) (fun _ => ?_) (fun h => absurd h (by decide +kernel))
  refine lv_iload_n hx hb dJ7_rangeCheck_23922_46 rfl (lv_at hl 1 rfl) ?_
  refine lv_if_ge (tgt := 59) hx hb dJ7_rangeCheck_23922_47 (by decide) (fun _ => ?_) (fun h => absurd h (by decide +kernel))
  refine lv_iload_n hx hb dJ7_rangeCheck_23922_59 rfl (lv_at hl 2 rfl) ?_
  refine lv_iload_n hx hb dJ7_rangeCheck_23922_60 rfl (lv_at hl 0 rfl) ?_
  refine lv_icmp_le (tgt := 73) hx hb dJ7_rangeCheck_23922_61 (by decide) (fun _ => ?_) (fun h => absurd h (by decide +kernel))
  have hP9 := hP.sub (ws' := []) [] rfl
  have hD9 := hD.sub (ws' := []) [] (by decide) rfl
  exact W.vret hx hb hr (fun t ht hW => ⟨⟨0, rfl, trivial, by rw [ht]; exact hP9, hD9⟩, hS.F ht⟩) hS.2.2 dJ7_rangeCheck_23922_73
set_option maxHeartbeats 4000000 in
set_option maxRecDepth 100000 in
theorem kJ7_fill_bad5a_4 (l : Launch) (g : zG) (h0 : Nat) (sz : Nat) : Met l yJ7_fill_bad5a (.code yJ7_fill_bad5a cJ7_fill_bad5a 6 none :: zBig) ({ frames := 1, cells := 0, slots := 0, locals := 22 }) (va_Pc [.ref h0, .int 48, .int 64, .long 0] (zPre g [(h0, .inl (zJ g, 64, .inr (.inl (fun _ => 0))))] sz)) (va_Qv (fun _ : Nat => True) (zPost g (fun _ : Nat => [(h0, .inl (zJ g, 64, .inr (.inl (fun _ => 0))))]) (va_A [(h0, .inl (zJ g, 64, .inr (.inl (fun _ => 0))))] sz)) (va_A [(h0, .inl (zJ g, 64, .inr (.inl (fun _ => 0))))] sz)) 0 0 (va_A [(h0, .inl (zJ g, 64, .inr (.inl (fun _ => 0))))] sz) := by
  refine zMetV rfl (Nat.le_of_ble_eq_true rfl) ?_
  intro p e s m args below meth c A ls hx hb hml hr hlocks hin hown hts hK hN hZ hP hD hA hS hAe hl
  have hown : s.vm.findClass RJ7 = some m.cls := hown
  have hl : lv_has ls 6 [(0, .ref h0), (1, .int 48), (2, .int 64), (3, .long 0)] := hl
  refine lv_aload_n hx hb dJ7_fill_bad5a_0 rfl (lv_at hl 0 rfl) ?_
  refine va_alen (D := g.1) hx hb hK hP 0 1 rfl rfl (v := 64) (by decide) dJ7_fill_bad5a_1 ?_
  refine lv_iload_n hx hb dJ7_fill_bad5a_2 rfl (lv_at hl 1 rfl) ?_
  refine lv_iload_n hx hb dJ7_fill_bad5a_3 rfl (lv_at hl 2 rfl) ?_
  refine z_callv (wr := [(h0, .inl (zJ g, 64, .inr (.inl (fun _ => 0))))]) hP hD hS hA [] [0] (by decide) rfl rfl (by decide) (va_runS (As := [.int 64, .int 48, .int 64]) (rest := []) ⟨hx, hb, hml, hown, hts⟩ (kJ7_rangeCheck_23922_8 l g  s.heap.size) ⟨callB_of 3 hts (zGood m_o_yJ7_rangeCheck_23922) rfl rfl rfl (hts _ m_z_RJ7) (hts _ m_m_RJ7_13) ⟨by decide +kernel, by decide +kernel, by decide +kernel⟩ ⟨Nat.le_of_ble_eq_true rfl, Nat.le_of_ble_eq_true rfl⟩, hts _ m_s_yJ7_rangeCheck_23922⟩ (zPreS hK hN hZ hP hD hS hA [] (by decide) rfl rfl) rfl rfl hl.1 rfl (lv_room (Nat.le_of_ble_eq_true rfl)) dJ7_fill_bad5a_4 ⟨Nat.le_of_ble_eq_true rfl, Nat.le_of_ble_eq_true rfl⟩) (fun u H locs hw hP hD hS => ?_)
  have hP : va_P g.1 vwCl [(h0, .inl (zJ g, 64, .inr (.inl (fun _ => 0))))] H := hP
  have hD : va_D A [(h0, .inl (zJ g, 64, .inr (.inl (fun _ => 0))))] := hD
  refine lv_iload_n hx hb dJ7_fill_bad5a_7 rfl (lv_at hl 1 rfl) ?_
  refine lv_istore (lv' := [(5, .int 48), (0, .ref h0), (1, .int 48), (2, .int 64), (3, .long 0)]) hx hb dJ7_fill_bad5a_8 hl (by decide) rfl (fun ls hl => ?_)
  refine lv_iload hx hb dJ7_fill_bad5a_10 (lv_at hl 0 rfl) ?_
  refine lv_iload_n hx hb dJ7_fill_bad5a_12 rfl (lv_at hl 3 rfl) ?_
  refine lv_icmp_ge (tgt := 27) hx hb dJ7_fill_bad5a_13 (by decide) (fun h => absurd h (by decide +kernel)) (fun _ => ?_)
  refine lv_aload_n hx hb dJ7_fill_bad5a_16 rfl (lv_at hl 1 rfl) ?_
  refine lv_iload hx hb dJ7_fill_bad5a_17 (lv_at hl 0 rfl) ?_
  refine lv_lload_n hx hb dJ7_fill_bad5a_19 rfl (lv_at hl 4 rfl) ?_
  refine va_last (D := g.1) hx hb hK hP hD hS 0 1 rfl rfl (vp_in_iff.mpr (by decide +kernel)) dJ7_fill_bad5a_20 (fun H locs hP hD hS => ?_)
  have hP : va_P g.1 vwCl [(h0, .inl (zJ g, 64, .inr (.inl (vp_updL (fun _ => 0) 48 0))))] H := hP
  have hD : va_D A [(h0, .inl (zJ g, 64, .inr (.inl (vp_updL (fun _ => 0) 48 0))))] := hD
  rw [zc_setL] at hP hD
  refine lv_iinc (v := 49) (lv' := [(5, .int 49), (0, .ref h0), (1, .int 48), (2, .int 64), (3, .long 0)]) hx hb dJ7_fill_bad5a_21 hl (k := 0) rfl (by decide) (by decide) rfl (fun ls hl => ?_)
  refine lv_goto (tgt := 10) hx hb dJ7_fill_bad5a_24 (by decide) ?_
  refine lv_iload hx hb dJ7_fill_bad5a_10 (lv_at hl 0 rfl) ?_
  refine lv_iload_n hx hb dJ7_fill_bad5a_12 rfl (lv_at hl 3 rfl) ?_
  refine lv_icmp_ge (tgt := 27) hx hb dJ7_fill_bad5a_13 (by decide) (fun h => absurd h (by decide +kernel)) (fun _ => ?_)
  refine lv_aload_n hx hb dJ7_fill_bad5a_16 rfl (lv_at hl 1 rfl) ?_
  refine lv_iload hx hb dJ7_fill_bad5a_17 (lv_at hl 0 rfl) ?_
  refine lv_lload_n hx hb dJ7_fill_bad5a_19 rfl (lv_at hl 4 rfl) ?_
  refine va_last (D := g.1) hx hb hK hP hD hS 0 1 rfl rfl (vp_in_iff.mpr (by decide +kernel)) dJ7_fill_bad5a_20 (fun H locs hP hD hS => ?_)
  have hP : va_P g.1 vwCl [(h0, .inl (zJ g, 64, .inr (.inl (vp_updL (fun _ => 0) 49 0))))] H := hP
  have hD : va_D A [(h0, .inl (zJ g, 64, .inr (.inl (vp_updL (fun _ => 0) 49 0))))] := hD
  rw [zc_setL] at hP hD
  refine lv_iinc (v := 50) (lv' := [(5, .int 50), (0, .ref h0), (1, .int 48), (2, .int 64), (3, .long 0)]) hx hb dJ7_fill_bad5a_21 hl (k := 0) rfl (by decide) (by decide) rfl (fun ls hl => ?_)
  refine lv_goto (tgt := 10) hx hb dJ7_fill_bad5a_24 (by decide) ?_
  refine lv_iload hx hb dJ7_fill_bad5a_10 (lv_at hl 0 rfl) ?_
  refine lv_iload_n hx hb dJ7_fill_bad5a_12 rfl (lv_at hl 3 rfl) ?_
  refine lv_icmp_ge (tgt := 27) hx hb dJ7_fill_bad5a_13 (by decide) (fun h => absurd h (by decide +kernel)) (fun _ => ?_)
  refine lv_aload_n hx hb dJ7_fill_bad5a_16 rfl (lv_at hl 1 rfl) ?_
  refine lv_iload hx hb dJ7_fill_bad5a_17 (lv_at hl 0 rfl) ?_
  refine lv_lload_n hx hb dJ7_fill_bad5a_19 rfl (lv_at hl 4 rfl) ?_
  refine va_last (D := g.1) hx hb hK hP hD hS 0 1 rfl rfl (vp_in_iff.mpr (by decide +kernel)) dJ7_fill_bad5a_20 (fun H locs hP hD hS => ?_)
  have hP : va_P g.1 vwCl [(h0, .inl (zJ g, 64, .inr (.inl (vp_updL (fun _ => 0) 50 0))))] H := hP
  have hD : va_D A [(h0, .inl (zJ g, 64, .inr (.inl (vp_updL (fun _ => 0) 50 0))))] := hD
  rw [zc_setL] at hP hD
  refine lv_iinc (v := 51) (lv' := [(5, .int 51), (0, .ref h0), (1, .int 48), (2, .int 64), (3, .long 0)]) hx hb dJ7_fill_bad5a_21 hl (k := 0) rfl (by decide) (by decide) rfl (fun ls hl => ?_)
  refine lv_goto (tgt := 10) hx hb dJ7_fill_bad5a_24 (by decide) ?_
  refine lv_iload hx hb dJ7_fill_bad5a_10 (lv_at hl 0 rfl) ?_
  refine lv_iload_n hx hb dJ7_fill_bad5a_12 rfl (lv_at hl 3 rfl) ?_
  refine lv_icmp_ge (tgt := 27) hx hb dJ7_fill_bad5a_13 (by decide) (fun h => absurd h (by decide +kernel)) (fun _ => ?_)
  refine lv_aload_n hx hb dJ7_fill_bad5a_16 rfl (lv_at hl 1 rfl) ?_
  refine lv_iload hx hb dJ7_fill_bad5a_17 (lv_at hl 0 rfl) ?_
  refine lv_lload_n hx hb dJ7_fill_bad5a_19 rfl (lv_at hl 4 rfl) ?_
  refine va_last (D := g.1) hx hb hK hP hD hS 0 1 rfl rfl (vp_in_iff.mpr (by decide +kernel)) dJ7_fill_bad5a_20 (fun H locs hP hD hS => ?_)
  have hP : va_P g.1 vwCl [(h0, .inl (zJ g, 64, .inr (.inl (vp_updL (fun _ => 0) 51 0))))] H := hP
  have hD : va_D A [(h0, .inl (zJ g, 64, .inr (.inl (vp_updL (fun _ => 0) 51 0))))] := hD
  rw [zc_setL] at hP hD
  refine lv_iinc (v := 52) (lv' := [(5, .int 52), (0, .ref h0), (1, .int 48), (2, .int 64), (3, .long 0)]) hx hb dJ7_fill_bad5a_21 hl (k := 0) rfl (by decide) (by decide) rfl (fun ls hl => ?_)
  refine lv_goto (tgt := 10) hx hb dJ7_fill_bad5a_24 (by decide) ?_
  refine lv_iload hx hb dJ7_fill_bad5a_10 (lv_at hl 0 rfl) ?_
  refine lv_iload_n hx hb dJ7_fill_bad5a_12 rfl (lv_at hl 3 rfl) ?_
  refine lv_icmp_ge (tgt := 27) hx hb dJ7_fill_bad5a_13 (by decide) (fun h => absurd h (by decide +kernel)) (fun _ => ?_)
  refine lv_aload_n hx hb dJ7_fill_bad5a_16 rfl (lv_at hl 1 rfl) ?_
  refine lv_iload hx hb dJ7_fill_bad5a_17 (lv_at hl 0 rfl) ?_
  refine lv_lload_n hx hb dJ7_fill_bad5a_19 rfl (lv_at hl 4 rfl) ?_
  refine va_last (D := g.1) hx hb hK hP hD hS 0 1 rfl rfl (vp_in_iff.mpr (by decide +kernel)) dJ7_fill_bad5a_20 (fun H locs hP hD hS => ?_)
  have hP : va_P g.1 vwCl [(h0, .inl (zJ g, 64, .inr (.inl (vp_updL (fun _ => 0) 52 0))))] H := hP
  have hD : va_D A [(h0, .inl (zJ g, 64, .inr (.inl (vp_updL (fun _ => 0) 52 0))))] := hD
  rw [zc_setL] at hP hD
  refine lv_iinc (v := 53) (lv' := [(5, .int 53), (0, .ref h0), (1, .int 48), (2, .int 64), (3, .long 0)]) hx hb dJ7_fill_bad5a_21 hl (k := 0) rfl (by decide) (by decide) rfl (fun ls hl => ?_)
  refine lv_goto (tgt := 10) hx hb dJ7_fill_bad5a_24 (by decide) ?_
  refine lv_iload hx hb dJ7_fill_bad5a_10 (lv_at hl 0 rfl) ?_
  refine lv_iload_n hx hb dJ7_fill_bad5a_12 rfl (lv_at hl 3 rfl) ?_
  refine lv_icmp_ge (tgt := 27) hx hb dJ7_fill_bad5a_13 (by decide) (fun h => absurd h (by decide +kernel)) (fun _ => ?_)
  refine lv_aload_n hx hb dJ7_fill_bad5a_16 rfl (lv_at hl 1 rfl) ?_
  refine lv_iload hx hb dJ7_fill_bad5a_17 (lv_at hl 0 rfl) ?_
  refine lv_lload_n hx hb dJ7_fill_bad5a_19 rfl (lv_at hl 4 rfl) ?_
  refine va_last (D := g.1) hx hb hK hP hD hS 0 1 rfl rfl (vp_in_iff.mpr (by decide +kernel)) dJ7_fill_bad5a_20 (fun H locs hP hD hS => ?_)
  have hP : va_P g.1 vwCl [(h0, .inl (zJ g, 64, .inr (.inl (vp_updL (fun _ => 0) 53 0))))] H := hP
  have hD : va_D A [(h0, .inl (zJ g, 64, .inr (.inl (vp_updL (fun _ => 0) 53 0))))] := hD
  rw [zc_setL] at hP hD
  refine lv_iinc (v := 54) (lv' := [(5, .int 54), (0, .ref h0), (1, .int 48), (2, .int 64), (3, .long 0)]) hx hb dJ7_fill_bad5a_21 hl (k := 0) rfl (by decide) (by decide) rfl (fun ls hl => ?_)
  refine lv_goto (tgt := 10) hx hb dJ7_fill_bad5a_24 (by decide) ?_
  refine lv_iload hx hb dJ7_fill_bad5a_10 (lv_at hl 0 rfl) ?_
  refine lv_iload_n hx hb dJ7_fill_bad5a_12 rfl (lv_at hl 3 rfl) ?_
  refine lv_icmp_ge (tgt := 27) hx hb dJ7_fill_bad5a_13 (by decide) (fun h => absurd h (by decide +kernel)) (fun _ => ?_)
  refine lv_aload_n hx hb dJ7_fill_bad5a_16 rfl (lv_at hl 1 rfl) ?_
  refine lv_iload hx hb dJ7_fill_bad5a_17 (lv_at hl 0 rfl) ?_
  refine lv_lload_n hx hb dJ7_fill_bad5a_19 rfl (lv_at hl 4 rfl) ?_
  refine va_last (D := g.1) hx hb hK hP hD hS 0 1 rfl rfl (vp_in_iff.mpr (by decide +kernel)) dJ7_fill_bad5a_20 (fun H locs hP hD hS => ?_)
  have hP : va_P g.1 vwCl [(h0, .inl (zJ g, 64, .inr (.inl (vp_updL (fun _ => 0) 54 0))))] H := hP
  have hD : va_D A [(h0, .inl (zJ g, 64, .inr (.inl (vp_updL (fun _ => 0) 54 0))))] := hD
  rw [zc_setL] at hP hD
  refine lv_iinc (v := 55) (lv' := [(5, .int 55), (0, .ref h0), (1, .int 48), (2, .int 64), (3, .long 0)]) hx hb dJ7_fill_bad5a_21 hl (k := 0) rfl (by decide) (by decide) rfl (fun ls hl => ?_)
  refine lv_goto (tgt := 10) hx hb dJ7_fill_bad5a_24 (by decide) ?_
  refine lv_iload hx hb dJ7_fill_bad5a_10 (lv_at hl 0 rfl) ?_
  refine lv_iload_n hx hb dJ7_fill_bad5a_12 rfl (lv_at hl 3 rfl) ?_
  refine lv_icmp_ge (tgt := 27) hx hb dJ7_fill_bad5a_13 (by decide) (fun h => absurd h (by decide +kernel)) (fun _ => ?_)
  refine lv_aload_n hx hb dJ7_fill_bad5a_16 rfl (lv_at hl 1 rfl) ?_
  refine lv_iload hx hb dJ7_fill_bad5a_17 (lv_at hl 0 rfl) ?_
  refine lv_lload_n hx hb dJ7_fill_bad5a_19 rfl (lv_at hl 4 rfl) ?_
  refine va_last (D := g.1) hx hb hK hP hD hS 0 1 rfl rfl (vp_in_iff.mpr (by decide +kernel)) dJ7_fill_bad5a_20 (fun H locs hP hD hS => ?_)
  have hP : va_P g.1 vwCl [(h0, .inl (zJ g, 64, .inr (.inl (vp_updL (fun _ => 0) 55 0))))] H := hP
  have hD : va_D A [(h0, .inl (zJ g, 64, .inr (.inl (vp_updL (fun _ => 0) 55 0))))] := hD
  rw [zc_setL] at hP hD
  refine lv_iinc (v := 56) (lv' := [(5, .int 56), (0, .ref h0), (1, .int 48), (2, .int 64), (3, .long 0)]) hx hb dJ7_fill_bad5a_21 hl (k := 0) rfl (by decide) (by decide) rfl (fun ls hl => ?_)
  refine lv_goto (tgt := 10) hx hb dJ7_fill_bad5a_24 (by decide) ?_
  refine lv_iload hx hb dJ7_fill_bad5a_10 (lv_at hl 0 rfl) ?_
  refine lv_iload_n hx hb dJ7_fill_bad5a_12 rfl (lv_at hl 3 rfl) ?_
  refine lv_icmp_ge (tgt := 27) hx hb dJ7_fill_bad5a_13 (by decide) (fun h => absurd h (by decide +kernel)) (fun _ => ?_)
  refine lv_aload_n hx hb dJ7_fill_bad5a_16 rfl (lv_at hl 1 rfl) ?_
  refine lv_iload hx hb dJ7_fill_bad5a_17 (lv_at hl 0 rfl) ?_
  refine lv_lload_n hx hb dJ7_fill_bad5a_19 rfl (lv_at hl 4 rfl) ?_
  refine va_last (D := g.1) hx hb hK hP hD hS 0 1 rfl rfl (vp_in_iff.mpr (by decide +kernel)) dJ7_fill_bad5a_20 (fun H locs hP hD hS => ?_)
  have hP : va_P g.1 vwCl [(h0, .inl (zJ g, 64, .inr (.inl (vp_updL (fun _ => 0) 56 0))))] H := hP
  have hD : va_D A [(h0, .inl (zJ g, 64, .inr (.inl (vp_updL (fun _ => 0) 56 0))))] := hD
  rw [zc_setL] at hP hD
  refine lv_iinc (v := 57) (lv' := [(5, .int 57), (0, .ref h0), (1, .int 48), (2, .int 64), (3, .long 0)]) hx hb dJ7_fill_bad5a_21 hl (k := 0) rfl (by decide) (by decide) rfl (fun ls hl => ?_)
  refine lv_goto (tgt := 10) hx hb dJ7_fill_bad5a_24 (by decide) ?_
  refine lv_iload hx hb dJ7_fill_bad5a_10 (lv_at hl 0 rfl) ?_
  refine lv_iload_n hx hb dJ7_fill_bad5a_12 rfl (lv_at hl 3 rfl) ?_
  refine lv_icmp_ge (tgt := 27) hx hb dJ7_fill_bad5a_13 (by decide) (fun h => absurd h (by decide +kernel)) (fun _ => ?_)
  refine lv_aload_n hx hb dJ7_fill_bad5a_16 rfl (lv_at hl 1 rfl) ?_
  refine lv_iload hx hb dJ7_fill_bad5a_17 (lv_at hl 0 rfl) ?_
  refine lv_lload_n hx hb dJ7_fill_bad5a_19 rfl (lv_at hl 4 rfl) ?_
  refine va_last (D := g.1) hx hb hK hP hD hS 0 1 rfl rfl (vp_in_iff.mpr (by decide +kernel)) dJ7_fill_bad5a_20 (fun H locs hP hD hS => ?_)
  have hP : va_P g.1 vwCl [(h0, .inl (zJ g, 64, .inr (.inl (vp_updL (fun _ => 0) 57 0))))] H := hP
  have hD : va_D A [(h0, .inl (zJ g, 64, .inr (.inl (vp_updL (fun _ => 0) 57 0))))] := hD
  rw [zc_setL] at hP hD
  refine lv_iinc (v := 58) (lv' := [(5, .int 58), (0, .ref h0), (1, .int 48), (2, .int 64), (3, .long 0)]) hx hb dJ7_fill_bad5a_21 hl (k := 0) rfl (by decide) (by decide) rfl (fun ls hl => ?_)
  refine lv_goto (tgt := 10) hx hb dJ7_fill_bad5a_24 (by decide) ?_
  refine lv_iload hx hb dJ7_fill_bad5a_10 (lv_at hl 0 rfl) ?_
  refine lv_iload_n hx hb dJ7_fill_bad5a_12 rfl (lv_at hl 3 rfl) ?_
  refine lv_icmp_ge (tgt := 27) hx hb dJ7_fill_bad5a_13 (by decide) (fun h => absurd h (by decide +kernel)) (fun _ => ?_)
  refine lv_aload_n hx hb dJ7_fill_bad5a_16 rfl (lv_at hl 1 rfl) ?_
  refine lv_iload hx hb dJ7_fill_bad5a_17 (lv_at hl 0 rfl) ?_
  refine lv_lload_n hx hb dJ7_fill_bad5a_19 rfl (lv_at hl 4 rfl) ?_
  refine va_last (D := g.1) hx hb hK hP hD hS 0 1 rfl rfl (vp_in_iff.mpr (by decide +kernel)) dJ7_fill_bad5a_20 (fun H locs hP hD hS => ?_)
  have hP : va_P g.1 vwCl [(h0, .inl (zJ g, 64, .inr (.inl (vp_updL (fun _ => 0) 58 0))))] H := hP
  have hD : va_D A [(h0, .inl (zJ g, 64, .inr (.inl (vp_updL (fun _ => 0) 58 0))))] := hD
  rw [zc_setL] at hP hD
  refine lv_iinc (v := 59) (lv' := [(5, .int 59), (0, .ref h0), (1, .int 48), (2, .int 64), (3, .long 0)]) hx hb dJ7_fill_bad5a_21 hl (k := 0) rfl (by decide) (by decide) rfl (fun ls hl => ?_)
  refine lv_goto (tgt := 10) hx hb dJ7_fill_bad5a_24 (by decide) ?_
  refine lv_iload hx hb dJ7_fill_bad5a_10 (lv_at hl 0 rfl) ?_
  refine lv_iload_n hx hb dJ7_fill_bad5a_12 rfl (lv_at hl 3 rfl) ?_
  refine lv_icmp_ge (tgt := 27) hx hb dJ7_fill_bad5a_13 (by decide) (fun h => absurd h (by decide +kernel)) (fun _ => ?_)
  refine lv_aload_n hx hb dJ7_fill_bad5a_16 rfl (lv_at hl 1 rfl) ?_
  refine lv_iload hx hb dJ7_fill_bad5a_17 (lv_at hl 0 rfl) ?_
  refine lv_lload_n hx hb dJ7_fill_bad5a_19 rfl (lv_at hl 4 rfl) ?_
  refine va_last (D := g.1) hx hb hK hP hD hS 0 1 rfl rfl (vp_in_iff.mpr (by decide +kernel)) dJ7_fill_bad5a_20 (fun H locs hP hD hS => ?_)
  have hP : va_P g.1 vwCl [(h0, .inl (zJ g, 64, .inr (.inl (vp_updL (fun _ => 0) 59 0))))] H := hP
  have hD : va_D A [(h0, .inl (zJ g, 64, .inr (.inl (vp_updL (fun _ => 0) 59 0))))] := hD
  rw [zc_setL] at hP hD
  refine lv_iinc (v := 60) (lv' := [(5, .int 60), (0, .ref h0), (1, .int 48), (2, .int 64), (3, .long 0)]) hx hb dJ7_fill_bad5a_21 hl (k := 0) rfl (by decide) (by decide) rfl (fun ls hl => ?_)
  refine lv_goto (tgt := 10) hx hb dJ7_fill_bad5a_24 (by decide) ?_
  refine lv_iload hx hb dJ7_fill_bad5a_10 (lv_at hl 0 rfl) ?_
  refine lv_iload_n hx hb dJ7_fill_bad5a_12 rfl (lv_at hl 3 rfl) ?_
  refine lv_icmp_ge (tgt := 27) hx hb dJ7_fill_bad5a_13 (by decide) (fun h => absurd h (by decide +kernel)) (fun _ => ?_)
  refine lv_aload_n hx hb dJ7_fill_bad5a_16 rfl (lv_at hl 1 rfl) ?_
  refine lv_iload hx hb dJ7_fill_bad5a_17 (lv_at hl 0 rfl) ?_
  refine lv_lload_n hx hb dJ7_fill_bad5a_19 rfl (lv_at hl 4 rfl) ?_
  refine va_last (D := g.1) hx hb hK hP hD hS 0 1 rfl rfl (vp_in_iff.mpr (by decide +kernel)) dJ7_fill_bad5a_20 (fun H locs hP hD hS => ?_)
  have hP : va_P g.1 vwCl [(h0, .inl (zJ g, 64, .inr (.inl (vp_updL (fun _ => 0) 60 0))))] H := hP
  have hD : va_D A [(h0, .inl (zJ g, 64, .inr (.inl (vp_updL (fun _ => 0) 60 0))))] := hD
  rw [zc_setL] at hP hD
  refine lv_iinc (v := 61) (lv' := [(5, .int 61), (0, .ref h0), (1, .int 48), (2, .int 64), (3, .long 0)]) hx hb dJ7_fill_bad5a_21 hl (k := 0) rfl (by decide) (by decide) rfl (fun ls hl => ?_)
  refine lv_goto (tgt := 10) hx hb dJ7_fill_bad5a_24 (by decide) ?_
  refine lv_iload hx hb dJ7_fill_bad5a_10 (lv_at hl 0 rfl) ?_
  refine lv_iload_n hx hb dJ7_fill_bad5a_12 rfl (lv_at hl 3 rfl) ?_
  refine lv_icmp_ge (tgt := 27) hx hb dJ7_fill_bad5a_13 (by decide) (fun h => absurd h (by decide +kernel)) (fun _ => ?_)
  refine lv_aload_n hx hb dJ7_fill_bad5a_16 rfl (lv_at hl 1 rfl) ?_
  refine lv_iload hx hb dJ7_fill_bad5a_17 (lv_at hl 0 rfl) ?_
  refine lv_lload_n hx hb dJ7_fill_bad5a_19 rfl (lv_at hl 4 rfl) ?_
  refine va_last (D := g.1) hx hb hK hP hD hS 0 1 rfl rfl (vp_in_iff.mpr (by decide +kernel)) dJ7_fill_bad5a_20 (fun H locs hP hD hS => ?_)
  have hP : va_P g.1 vwCl [(h0, .inl (zJ g, 64, .inr (.inl (vp_updL (fun _ => 0) 61 0))))] H := hP
  have hD : va_D A [(h0, .inl (zJ g, 64, .inr (.inl (vp_updL (fun _ => 0) 61 0))))] := hD
  rw [zc_setL] at hP hD
  refine lv_iinc (v := 62) (lv' := [(5, .int 62), (0, .ref h0), (1, .int 48), (2, .int 64), (3, .long 0)]) hx hb dJ7_fill_bad5a_21 hl (k := 0) rfl (by decide) (by decide) rfl (fun ls hl => ?_)
  refine lv_goto (tgt := 10) hx hb dJ7_fill_bad5a_24 (by decide) ?_
  refine lv_iload hx hb dJ7_fill_bad5a_10 (lv_at hl 0 rfl) ?_
  refine lv_iload_n hx hb dJ7_fill_bad5a_12 rfl (lv_at hl 3 rfl) ?_
  refine lv_icmp_ge (tgt := 27) hx hb dJ7_fill_bad5a_13 (by decide) (fun h => absurd h (by decide +kernel)) (fun _ => ?_)
  refine lv_aload_n hx hb dJ7_fill_bad5a_16 rfl (lv_at hl 1 rfl) ?_
  refine lv_iload hx hb dJ7_fill_bad5a_17 (lv_at hl 0 rfl) ?_
  refine lv_lload_n hx hb dJ7_fill_bad5a_19 rfl (lv_at hl 4 rfl) ?_
  refine va_last (D := g.1) hx hb hK hP hD hS 0 1 rfl rfl (vp_in_iff.mpr (by decide +kernel)) dJ7_fill_bad5a_20 (fun H locs hP hD hS => ?_)
  have hP : va_P g.1 vwCl [(h0, .inl (zJ g, 64, .inr (.inl (vp_updL (fun _ => 0) 62 0))))] H := hP
  have hD : va_D A [(h0, .inl (zJ g, 64, .inr (.inl (vp_updL (fun _ => 0) 62 0))))] := hD
  rw [zc_setL] at hP hD
  refine lv_iinc (v := 63) (lv' := [(5, .int 63), (0, .ref h0), (1, .int 48), (2, .int 64), (3, .long 0)]) hx hb dJ7_fill_bad5a_21 hl (k := 0) rfl (by decide) (by decide) rfl (fun ls hl => ?_)
  refine lv_goto (tgt := 10) hx hb dJ7_fill_bad5a_24 (by decide) ?_
  refine lv_iload hx hb dJ7_fill_bad5a_10 (lv_at hl 0 rfl) ?_
  refine lv_iload_n hx hb dJ7_fill_bad5a_12 rfl (lv_at hl 3 rfl) ?_
  refine lv_icmp_ge (tgt := 27) hx hb dJ7_fill_bad5a_13 (by decide) (fun h => absurd h (by decide +kernel)) (fun _ => ?_)
  refine lv_aload_n hx hb dJ7_fill_bad5a_16 rfl (lv_at hl 1 rfl) ?_
  refine lv_iload hx hb dJ7_fill_bad5a_17 (lv_at hl 0 rfl) ?_
  refine lv_lload_n hx hb dJ7_fill_bad5a_19 rfl (lv_at hl 4 rfl) ?_
  refine va_last (D := g.1) hx hb hK hP hD hS 0 1 rfl rfl (vp_in_iff.mpr (by decide +kernel)) dJ7_fill_bad5a_20 (fun H locs hP hD hS => ?_)
  have hP : va_P g.1 vwCl [(h0, .inl (zJ g, 64, .inr (.inl (vp_updL (fun _ => 0) 63 0))))] H := hP
  have hD : va_D A [(h0, .inl (zJ g, 64, .inr (.inl (vp_updL (fun _ => 0) 63 0))))] := hD
  rw [zc_setL] at hP hD
  refine lv_iinc (v := 64) (lv' := [(5, .int 64), (0, .ref h0), (1, .int 48), (2, .int 64), (3, .long 0)]) hx hb dJ7_fill_bad5a_21 hl (k := 0) rfl (by decide) (by decide) rfl (fun ls hl => ?_)
  refine lv_goto (tgt := 10) hx hb dJ7_fill_bad5a_24 (by decide) ?_
  refine lv_iload hx hb dJ7_fill_bad5a_10 (lv_at hl 0 rfl) ?_
  refine lv_iload_n hx hb dJ7_fill_bad5a_12 rfl (lv_at hl 3 rfl) ?_
  refine lv_icmp_ge (tgt := 27) hx hb dJ7_fill_bad5a_13 (by decide) (fun _ => ?_) (fun h => absurd h (by decide +kernel))
  have hP9 := hP.sub (ws' := [(h0, .inl (zJ g, 64, .inr (.inl (fun _ => 0))))]) [0] rfl
  have hD9 := hD.sub (ws' := [(h0, .inl (zJ g, 64, .inr (.inl (fun _ => 0))))]) [0] (by decide) rfl
  exact W.vret hx hb hr (fun t ht hW => ⟨⟨0, rfl, trivial, by rw [ht]; exact hP9, hD9⟩, hS.F ht⟩) hS.2.2 dJ7_fill_bad5a_27
set_option maxHeartbeats 4000000 in
set_option maxRecDepth 100000 in
theorem kX4_isSheet_4 (l : Launch) (g : zG) (sz : Nat) (p0 : Int32) : Met l yX4_isSheet (.code yX4_isSheet cX4_isSheet 1 (some .boolean) :: zBig) ({ frames := 0, cells := 0, slots := 0, locals := 0 }) (va_Pc [.int p0] (zPre g [] sz)) (va_Qi (fun (r : Int32) (_ : Nat) => (p0.toInt < 0 ∧ r = 0) ∨ (0 ≤ p0.toInt ∧ 4 ≤ p0.toInt ∧ r = 0) ∨ (0 ≤ p0.toInt ∧ p0.toInt < 4 ∧ r = 1)) (zPost g (fun _ : Nat => []) (va_A [] sz)) (va_A [] sz)) 0 0 (va_A [] sz) := by
  refine zMetI rfl (Nat.le_of_ble_eq_true rfl) ?_
  intro p e s m args below meth c A ls hx hb hml hr hlocks hin hown hts hK hN hZ hP hD hA hS hAe hl
  have hown : s.vm.findClass RX4 = some m.cls := hown
  have hl : lv_has ls 1 [(0, .int p0)] := hl
  refine lv_iload_n hx hb dX4_isSheet_0 rfl (lv_at hl 0 rfl) ?_
  refine lv_if_lt (tgt := 13) hx hb dX4_isSheet_1 (by decide) (fun c_0 => ?_) (fun c_0 => ?_)
  · have i_0 : p0.toInt < 0 := z_lt (rfl) (rfl) c_0
    refine lv_iconst (v := 0) hx hb dX4_isSheet_13 (by decide) ?_
    have hP9 := hP.sub (ws' := []) [] rfl
    have hD9 := hD.sub (ws' := []) [] (by decide) rfl
    exact W.zret (v := 0) hx hb hr (by decide) (fun t ht hW => ⟨⟨0, 0, rfl, Or.inl ⟨i_0, rfl⟩, by rw [ht]; exact hP9, hD9⟩, hS.F ht⟩) hS.2.2 dX4_isSheet_14
  · have i_0 : 0 ≤ p0.toInt := z_nlt (rfl) (rfl) c_0
    refine lv_iload_n hx hb dX4_isSheet_4 rfl (lv_at hl 0 rfl) ?_
    refine lv_iconst (v := 4) hx hb dX4_isSheet_5 (by decide) ?_
    refine lv_icmp_ge (tgt := 13) hx hb dX4_isSheet_6 (by decide) (fun c_1 => ?_) (fun c_1 => ?_)
    · have i_1 : 4 ≤ p0.toInt := z_le (rfl) (rfl) c_1
      refine lv_iconst (v := 0) hx hb dX4_isSheet_13 (by decide) ?_
      have hP9 := hP.sub (ws' := []) [] rfl
      have hD9 := hD.sub (ws' := []) [] (by decide) rfl
      exact W.zret (v := 0) hx hb hr (by decide) (fun t ht hW => ⟨⟨0, 0, rfl, Or.inr (Or.inl ⟨i_0, i_1, rfl⟩), by rw [ht]; exact hP9, hD9⟩, hS.F ht⟩) hS.2.2 dX4_isSheet_14
    · have i_1 : p0.toInt < 4 := z_nle (rfl) (rfl) c_1
      refine lv_iconst (v := 1) hx hb dX4_isSheet_9 (by decide) ?_
      refine lv_goto (tgt := 14) hx hb dX4_isSheet_10 (by decide) ?_
      have hP9 := hP.sub (ws' := []) [] rfl
      have hD9 := hD.sub (ws' := []) [] (by decide) rfl
      exact W.zret (v := 1) hx hb hr (by decide) (fun t ht hW => ⟨⟨1, 0, rfl, Or.inr (Or.inr (⟨i_0, i_1, rfl⟩)), by rw [ht]; exact hP9, hD9⟩, hS.F ht⟩) hS.2.2 dX4_isSheet_14
set_option maxHeartbeats 4000000 in
set_option maxRecDepth 100000 in
theorem kX4_isLane_4 (l : Launch) (g : zG) (sz : Nat) (p0 : Int32) : Met l yX4_isLane (.code yX4_isLane cX4_isLane 1 (some .boolean) :: zBig) ({ frames := 0, cells := 0, slots := 0, locals := 0 }) (va_Pc [.int p0] (zPre g [] sz)) (va_Qi (fun (r : Int32) (_ : Nat) => (p0.toInt < 0 ∧ r = 0) ∨ (0 ≤ p0.toInt ∧ 3 ≤ p0.toInt ∧ r = 0) ∨ (0 ≤ p0.toInt ∧ p0.toInt < 3 ∧ r = 1)) (zPost g (fun _ : Nat => []) (va_A [] sz)) (va_A [] sz)) 0 0 (va_A [] sz) := by
  refine zMetI rfl (Nat.le_of_ble_eq_true rfl) ?_
  intro p e s m args below meth c A ls hx hb hml hr hlocks hin hown hts hK hN hZ hP hD hA hS hAe hl
  have hown : s.vm.findClass RX4 = some m.cls := hown
  have hl : lv_has ls 1 [(0, .int p0)] := hl
  refine lv_iload_n hx hb dX4_isLane_0 rfl (lv_at hl 0 rfl) ?_
  refine lv_if_lt (tgt := 13) hx hb dX4_isLane_1 (by decide) (fun c_0 => ?_) (fun c_0 => ?_)
  · have i_0 : p0.toInt < 0 := z_lt (rfl) (rfl) c_0
    refine lv_iconst (v := 0) hx hb dX4_isLane_13 (by decide) ?_
    have hP9 := hP.sub (ws' := []) [] rfl
    have hD9 := hD.sub (ws' := []) [] (by decide) rfl
    exact W.zret (v := 0) hx hb hr (by decide) (fun t ht hW => ⟨⟨0, 0, rfl, Or.inl ⟨i_0, rfl⟩, by rw [ht]; exact hP9, hD9⟩, hS.F ht⟩) hS.2.2 dX4_isLane_14
  · have i_0 : 0 ≤ p0.toInt := z_nlt (rfl) (rfl) c_0
    refine lv_iload_n hx hb dX4_isLane_4 rfl (lv_at hl 0 rfl) ?_
    refine lv_iconst (v := 3) hx hb dX4_isLane_5 (by decide) ?_
    refine lv_icmp_ge (tgt := 13) hx hb dX4_isLane_6 (by decide) (fun c_1 => ?_) (fun c_1 => ?_)
    · have i_1 : 3 ≤ p0.toInt := z_le (rfl) (rfl) c_1
      refine lv_iconst (v := 0) hx hb dX4_isLane_13 (by decide) ?_
      have hP9 := hP.sub (ws' := []) [] rfl
      have hD9 := hD.sub (ws' := []) [] (by decide) rfl
      exact W.zret (v := 0) hx hb hr (by decide) (fun t ht hW => ⟨⟨0, 0, rfl, Or.inr (Or.inl ⟨i_0, i_1, rfl⟩), by rw [ht]; exact hP9, hD9⟩, hS.F ht⟩) hS.2.2 dX4_isLane_14
    · have i_1 : p0.toInt < 3 := z_nle (rfl) (rfl) c_1
      refine lv_iconst (v := 1) hx hb dX4_isLane_9 (by decide) ?_
      refine lv_goto (tgt := 14) hx hb dX4_isLane_10 (by decide) ?_
      have hP9 := hP.sub (ws' := []) [] rfl
      have hD9 := hD.sub (ws' := []) [] (by decide) rfl
      exact W.zret (v := 1) hx hb hr (by decide) (fun t ht hW => ⟨⟨1, 0, rfl, Or.inr (Or.inr (⟨i_0, i_1, rfl⟩)), by rw [ht]; exact hP9, hD9⟩, hS.F ht⟩) hS.2.2 dX4_isLane_14
set_option maxHeartbeats 4000000 in
set_option maxRecDepth 100000 in
theorem kJ7_rangeCheck_23922_9 (l : Launch) (g : zG) (sz : Nat) : Met l yJ7_rangeCheck_23922 (.code yJ7_rangeCheck_23922 cJ7_rangeCheck_23922 3 none :: zBig) ({ frames := 0, cells := 0, slots := 0, locals := 0 }) (va_Pc [.int 64, .int 0, .int 16] (zPre g [] sz)) (va_Qv (fun _ : Nat => True) (zPost g (fun _ : Nat => []) (va_A [] sz)) (va_A [] sz)) 0 0 (va_A [] sz) := by
  refine zMetV rfl (Nat.le_of_ble_eq_true rfl) ?_
  intro p e s m args below meth c A ls hx hb hml hr hlocks hin hown hts hK hN hZ hP hD hA hS hAe hl
  have hown : s.vm.findClass RJ7 = some m.cls := hown
  have hl : lv_has ls 3 [(0, .int 64), (1, .int 0), (2, .int 16)] := hl
  refine lv_iload_n hx hb dJ7_rangeCheck_23922_0 rfl (lv_at hl 1 rfl) ?_
  refine lv_iload_n hx hb dJ7_rangeCheck_23922_1 rfl (lv_at hl 2 rfl) ?_
  refine lv_icmp_le (tgt := 46) hx hb dJ7_rangeCheck_23922_2 (by decide) (fun _ => ?_) (fun h => absurd h (by decide +kernel))
  refine lv_iload_n hx hb dJ7_rangeCheck_23922_46 rfl (lv_at hl 1 rfl) ?_
  refine lv_if_ge (tgt := 59) hx hb dJ7_rangeCheck_23922_47 (by decide) (fun _ => ?_) (fun h => absurd h (by decide +kernel))
  refine lv_iload_n hx hb dJ7_rangeCheck_23922_59 rfl (lv_at hl 2 rfl) ?_
  refine lv_iload_n hx hb dJ7_rangeCheck_23922_60 rfl (lv_at hl 0 rfl) ?_
  refine lv_icmp_le (tgt := 73) hx hb dJ7_rangeCheck_23922_61 (by decide) (fun _ => ?_) (fun h => absurd h (by decide +kernel))
  have hP9 := hP.sub (ws' := []) [] rfl
  have hD9 := hD.sub (ws' := []) [] (by decide) rfl
  exact W.vret hx hb hr (fun t ht hW => ⟨⟨0, rfl, trivial, by rw [ht]; exact hP9, hD9⟩, hS.F ht⟩) hS.2.2 dJ7_rangeCheck_23922_73
set_option maxHeartbeats 4000000 in
set_option maxRecDepth 100000 in
theorem kJ7_fill_bad5a_5 (l : Launch) (g : zG) (h0 : Nat) (sz : Nat) : Met l yJ7_fill_bad5a (.code yJ7_fill_bad5a cJ7_fill_bad5a 6 none :: zBig) ({ frames := 1, cells := 0, slots := 0, locals := 22 }) (va_Pc [.ref h0, .int 0, .int 16, .long 0] (zPre g [(h0, .inl (zJ g, 64, .inr (.inl (fun _ => 0))))] sz)) (va_Qv (fun _ : Nat => True) (zPost g (fun _ : Nat => [(h0, .inl (zJ g, 64, .inr (.inl (fun _ => 0))))]) (va_A [(h0, .inl (zJ g, 64, .inr (.inl (fun _ => 0))))] sz)) (va_A [(h0, .inl (zJ g, 64, .inr (.inl (fun _ => 0))))] sz)) 0 0 (va_A [(h0, .inl (zJ g, 64, .inr (.inl (fun _ => 0))))] sz) := by
  refine zMetV rfl (Nat.le_of_ble_eq_true rfl) ?_
  intro p e s m args below meth c A ls hx hb hml hr hlocks hin hown hts hK hN hZ hP hD hA hS hAe hl
  have hown : s.vm.findClass RJ7 = some m.cls := hown
  have hl : lv_has ls 6 [(0, .ref h0), (1, .int 0), (2, .int 16), (3, .long 0)] := hl
  refine lv_aload_n hx hb dJ7_fill_bad5a_0 rfl (lv_at hl 0 rfl) ?_
  refine va_alen (D := g.1) hx hb hK hP 0 1 rfl rfl (v := 64) (by decide) dJ7_fill_bad5a_1 ?_
  refine lv_iload_n hx hb dJ7_fill_bad5a_2 rfl (lv_at hl 1 rfl) ?_
  refine lv_iload_n hx hb dJ7_fill_bad5a_3 rfl (lv_at hl 2 rfl) ?_
  refine z_callv (wr := [(h0, .inl (zJ g, 64, .inr (.inl (fun _ => 0))))]) hP hD hS hA [] [0] (by decide) rfl rfl (by decide) (va_runS (As := [.int 64, .int 0, .int 16]) (rest := []) ⟨hx, hb, hml, hown, hts⟩ (kJ7_rangeCheck_23922_2 l g  s.heap.size) ⟨callB_of 3 hts (zGood m_o_yJ7_rangeCheck_23922) rfl rfl rfl (hts _ m_z_RJ7) (hts _ m_m_RJ7_13) ⟨by decide +kernel, by decide +kernel, by decide +kernel⟩ ⟨Nat.le_of_ble_eq_true rfl, Nat.le_of_ble_eq_true rfl⟩, hts _ m_s_yJ7_rangeCheck_23922⟩ (zPreS hK hN hZ hP hD hS hA [] (by decide) rfl rfl) rfl rfl hl.1 rfl (lv_room (Nat.le_of_ble_eq_true rfl)) dJ7_fill_bad5a_4 ⟨Nat.le_of_ble_eq_true rfl, Nat.le_of_ble_eq_true rfl⟩) (fun u H locs hw hP hD hS => ?_)
  have hP : va_P g.1 vwCl [(h0, .inl (zJ g, 64, .inr (.inl (fun _ => 0))))] H := hP
  have hD : va_D A [(h0, .inl (zJ g, 64, .inr (.inl (fun _ => 0))))] := hD
  refine lv_iload_n hx hb dJ7_fill_bad5a_7 rfl (lv_at hl 1 rfl) ?_
  refine lv_istore (lv' := [(5, .int 0), (0, .ref h0), (1, .int 0), (2, .int 16), (3, .long 0)]) hx hb dJ7_fill_bad5a_8 hl (by decide) rfl (fun ls hl => ?_)
  refine lv_iload hx hb dJ7_fill_bad5a_10 (lv_at hl 0 rfl) ?_
  refine lv_iload_n hx hb dJ7_fill_bad5a_12 rfl (lv_at hl 3 rfl) ?_
  refine lv_icmp_ge (tgt := 27) hx hb dJ7_fill_bad5a_13 (by decide) (fun h => absurd h (by decide +kernel)) (fun _ => ?_)
  refine lv_aload_n hx hb dJ7_fill_bad5a_16 rfl (lv_at hl 1 rfl) ?_
  refine lv_iload hx hb dJ7_fill_bad5a_17 (lv_at hl 0 rfl) ?_
  refine lv_lload_n hx hb dJ7_fill_bad5a_19 rfl (lv_at hl 4 rfl) ?_
  refine va_last (D := g.1) hx hb hK hP hD hS 0 1 rfl rfl (vp_in_iff.mpr (by decide +kernel)) dJ7_fill_bad5a_20 (fun H locs hP hD hS => ?_)
  have hP : va_P g.1 vwCl [(h0, .inl (zJ g, 64, .inr (.inl (vp_updL (fun _ => 0) 0 0))))] H := hP
  have hD : va_D A [(h0, .inl (zJ g, 64, .inr (.inl (vp_updL (fun _ => 0) 0 0))))] := hD
  rw [zc_setL] at hP hD
  refine lv_iinc (v := 1) (lv' := [(5, .int 1), (0, .ref h0), (1, .int 0), (2, .int 16), (3, .long 0)]) hx hb dJ7_fill_bad5a_21 hl (k := 0) rfl (by decide) (by decide) rfl (fun ls hl => ?_)
  refine lv_goto (tgt := 10) hx hb dJ7_fill_bad5a_24 (by decide) ?_
  refine lv_iload hx hb dJ7_fill_bad5a_10 (lv_at hl 0 rfl) ?_
  refine lv_iload_n hx hb dJ7_fill_bad5a_12 rfl (lv_at hl 3 rfl) ?_
  refine lv_icmp_ge (tgt := 27) hx hb dJ7_fill_bad5a_13 (by decide) (fun h => absurd h (by decide +kernel)) (fun _ => ?_)
  refine lv_aload_n hx hb dJ7_fill_bad5a_16 rfl (lv_at hl 1 rfl) ?_
  refine lv_iload hx hb dJ7_fill_bad5a_17 (lv_at hl 0 rfl) ?_
  refine lv_lload_n hx hb dJ7_fill_bad5a_19 rfl (lv_at hl 4 rfl) ?_
  refine va_last (D := g.1) hx hb hK hP hD hS 0 1 rfl rfl (vp_in_iff.mpr (by decide +kernel)) dJ7_fill_bad5a_20 (fun H locs hP hD hS => ?_)
  have hP : va_P g.1 vwCl [(h0, .inl (zJ g, 64, .inr (.inl (vp_updL (fun _ => 0) 1 0))))] H := hP
  have hD : va_D A [(h0, .inl (zJ g, 64, .inr (.inl (vp_updL (fun _ => 0) 1 0))))] := hD
  rw [zc_setL] at hP hD
  refine lv_iinc (v := 2) (lv' := [(5, .int 2), (0, .ref h0), (1, .int 0), (2, .int 16), (3, .long 0)]) hx hb dJ7_fill_bad5a_21 hl (k := 0) rfl (by decide) (by decide) rfl (fun ls hl => ?_)
  refine lv_goto (tgt := 10) hx hb dJ7_fill_bad5a_24 (by decide) ?_
  refine lv_iload hx hb dJ7_fill_bad5a_10 (lv_at hl 0 rfl) ?_
  refine lv_iload_n hx hb dJ7_fill_bad5a_12 rfl (lv_at hl 3 rfl) ?_
  refine lv_icmp_ge (tgt := 27) hx hb dJ7_fill_bad5a_13 (by decide) (fun h => absurd h (by decide +kernel)) (fun _ => ?_)
  refine lv_aload_n hx hb dJ7_fill_bad5a_16 rfl (lv_at hl 1 rfl) ?_
  refine lv_iload hx hb dJ7_fill_bad5a_17 (lv_at hl 0 rfl) ?_
  refine lv_lload_n hx hb dJ7_fill_bad5a_19 rfl (lv_at hl 4 rfl) ?_
  refine va_last (D := g.1) hx hb hK hP hD hS 0 1 rfl rfl (vp_in_iff.mpr (by decide +kernel)) dJ7_fill_bad5a_20 (fun H locs hP hD hS => ?_)
  have hP : va_P g.1 vwCl [(h0, .inl (zJ g, 64, .inr (.inl (vp_updL (fun _ => 0) 2 0))))] H := hP
  have hD : va_D A [(h0, .inl (zJ g, 64, .inr (.inl (vp_updL (fun _ => 0) 2 0))))] := hD
  rw [zc_setL] at hP hD
  refine lv_iinc (v := 3) (lv' := [(5, .int 3), (0, .ref h0), (1, .int 0), (2, .int 16), (3, .long 0)]) hx hb dJ7_fill_bad5a_21 hl (k := 0) rfl (by decide) (by decide) rfl (fun ls hl => ?_)
  refine lv_goto (tgt := 10) hx hb dJ7_fill_bad5a_24 (by decide) ?_
  refine lv_iload hx hb dJ7_fill_bad5a_10 (lv_at hl 0 rfl) ?_
  refine lv_iload_n hx hb dJ7_fill_bad5a_12 rfl (lv_at hl 3 rfl) ?_
  refine lv_icmp_ge (tgt := 27) hx hb dJ7_fill_bad5a_13 (by decide) (fun h => absurd h (by decide +kernel)) (fun _ => ?_)
  refine lv_aload_n hx hb dJ7_fill_bad5a_16 rfl (lv_at hl 1 rfl) ?_
  refine lv_iload hx hb dJ7_fill_bad5a_17 (lv_at hl 0 rfl) ?_
  refine lv_lload_n hx hb dJ7_fill_bad5a_19 rfl (lv_at hl 4 rfl) ?_
  refine va_last (D := g.1) hx hb hK hP hD hS 0 1 rfl rfl (vp_in_iff.mpr (by decide +kernel)) dJ7_fill_bad5a_20 (fun H locs hP hD hS => ?_)
  have hP : va_P g.1 vwCl [(h0, .inl (zJ g, 64, .inr (.inl (vp_updL (fun _ => 0) 3 0))))] H := hP
  have hD : va_D A [(h0, .inl (zJ g, 64, .inr (.inl (vp_updL (fun _ => 0) 3 0))))] := hD
  rw [zc_setL] at hP hD
  refine lv_iinc (v := 4) (lv' := [(5, .int 4), (0, .ref h0), (1, .int 0), (2, .int 16), (3, .long 0)]) hx hb dJ7_fill_bad5a_21 hl (k := 0) rfl (by decide) (by decide) rfl (fun ls hl => ?_)
  refine lv_goto (tgt := 10) hx hb dJ7_fill_bad5a_24 (by decide) ?_
  refine lv_iload hx hb dJ7_fill_bad5a_10 (lv_at hl 0 rfl) ?_
  refine lv_iload_n hx hb dJ7_fill_bad5a_12 rfl (lv_at hl 3 rfl) ?_
  refine lv_icmp_ge (tgt := 27) hx hb dJ7_fill_bad5a_13 (by decide) (fun h => absurd h (by decide +kernel)) (fun _ => ?_)
  refine lv_aload_n hx hb dJ7_fill_bad5a_16 rfl (lv_at hl 1 rfl) ?_
  refine lv_iload hx hb dJ7_fill_bad5a_17 (lv_at hl 0 rfl) ?_
  refine lv_lload_n hx hb dJ7_fill_bad5a_19 rfl (lv_at hl 4 rfl) ?_
  refine va_last (D := g.1) hx hb hK hP hD hS 0 1 rfl rfl (vp_in_iff.mpr (by decide +kernel)) dJ7_fill_bad5a_20 (fun H locs hP hD hS => ?_)
  have hP : va_P g.1 vwCl [(h0, .inl (zJ g, 64, .inr (.inl (vp_updL (fun _ => 0) 4 0))))] H := hP
  have hD : va_D A [(h0, .inl (zJ g, 64, .inr (.inl (vp_updL (fun _ => 0) 4 0))))] := hD
  rw [zc_setL] at hP hD
  refine lv_iinc (v := 5) (lv' := [(5, .int 5), (0, .ref h0), (1, .int 0), (2, .int 16), (3, .long 0)]) hx hb dJ7_fill_bad5a_21 hl (k := 0) rfl (by decide) (by decide) rfl (fun ls hl => ?_)
  refine lv_goto (tgt := 10) hx hb dJ7_fill_bad5a_24 (by decide) ?_
  refine lv_iload hx hb dJ7_fill_bad5a_10 (lv_at hl 0 rfl) ?_
  refine lv_iload_n hx hb dJ7_fill_bad5a_12 rfl (lv_at hl 3 rfl) ?_
  refine lv_icmp_ge (tgt := 27) hx hb dJ7_fill_bad5a_13 (by decide) (fun h => absurd h (by decide +kernel)) (fun _ => ?_)
  refine lv_aload_n hx hb dJ7_fill_bad5a_16 rfl (lv_at hl 1 rfl) ?_
  refine lv_iload hx hb dJ7_fill_bad5a_17 (lv_at hl 0 rfl) ?_
  refine lv_lload_n hx hb dJ7_fill_bad5a_19 rfl (lv_at hl 4 rfl) ?_
  refine va_last (D := g.1) hx hb hK hP hD hS 0 1 rfl rfl (vp_in_iff.mpr (by decide +kernel)) dJ7_fill_bad5a_20 (fun H locs hP hD hS => ?_)
  have hP : va_P g.1 vwCl [(h0, .inl (zJ g, 64, .inr (.inl (vp_updL (fun _ => 0) 5 0))))] H := hP
  have hD : va_D A [(h0, .inl (zJ g, 64, .inr (.inl (vp_updL (fun _ => 0) 5 0))))] := hD
  rw [zc_setL] at hP hD
  refine lv_iinc (v := 6) (lv' := [(5, .int 6), (0, .ref h0), (1, .int 0), (2, .int 16), (3, .long 0)]) hx hb dJ7_fill_bad5a_21 hl (k := 0) rfl (by decide) (by decide) rfl (fun ls hl => ?_)
  refine lv_goto (tgt := 10) hx hb dJ7_fill_bad5a_24 (by decide) ?_
  refine lv_iload hx hb dJ7_fill_bad5a_10 (lv_at hl 0 rfl) ?_
  refine lv_iload_n hx hb dJ7_fill_bad5a_12 rfl (lv_at hl 3 rfl) ?_
  refine lv_icmp_ge (tgt := 27) hx hb dJ7_fill_bad5a_13 (by decide) (fun h => absurd h (by decide +kernel)) (fun _ => ?_)
  refine lv_aload_n hx hb dJ7_fill_bad5a_16 rfl (lv_at hl 1 rfl) ?_
  refine lv_iload hx hb dJ7_fill_bad5a_17 (lv_at hl 0 rfl) ?_
  refine lv_lload_n hx hb dJ7_fill_bad5a_19 rfl (lv_at hl 4 rfl) ?_
  refine va_last (D := g.1) hx hb hK hP hD hS 0 1 rfl rfl (vp_in_iff.mpr (by decide +kernel)) dJ7_fill_bad5a_20 (fun H locs hP hD hS => ?_)
  have hP : va_P g.1 vwCl [(h0, .inl (zJ g, 64, .inr (.inl (vp_updL (fun _ => 0) 6 0))))] H := hP
  have hD : va_D A [(h0, .inl (zJ g, 64, .inr (.inl (vp_updL (fun _ => 0) 6 0))))] := hD
  rw [zc_setL] at hP hD
  refine lv_iinc (v := 7) (lv' := [(5, .int 7), (0, .ref h0), (1, .int 0), (2, .int 16), (3, .long 0)]) hx hb dJ7_fill_bad5a_21 hl (k := 0) rfl (by decide) (by decide) rfl (fun ls hl => ?_)
  refine lv_goto (tgt := 10) hx hb dJ7_fill_bad5a_24 (by decide) ?_
  refine lv_iload hx hb dJ7_fill_bad5a_10 (lv_at hl 0 rfl) ?_
  refine lv_iload_n hx hb dJ7_fill_bad5a_12 rfl (lv_at hl 3 rfl) ?_
  refine lv_icmp_ge (tgt := 27) hx hb dJ7_fill_bad5a_13 (by decide) (fun h => absurd h (by decide +kernel)) (fun _ => ?_)
  refine lv_aload_n hx hb dJ7_fill_bad5a_16 rfl (lv_at hl 1 rfl) ?_
  refine lv_iload hx hb dJ7_fill_bad5a_17 (lv_at hl 0 rfl) ?_
  refine lv_lload_n hx hb dJ7_fill_bad5a_19 rfl (lv_at hl 4 rfl) ?_
  refine va_last (D := g.1) hx hb hK hP hD hS 0 1 rfl rfl (vp_in_iff.mpr (by decide +kernel)) dJ7_fill_bad5a_20 (fun H locs hP hD hS => ?_)
  have hP : va_P g.1 vwCl [(h0, .inl (zJ g, 64, .inr (.inl (vp_updL (fun _ => 0) 7 0))))] H := hP
  have hD : va_D A [(h0, .inl (zJ g, 64, .inr (.inl (vp_updL (fun _ => 0) 7 0))))] := hD
  rw [zc_setL] at hP hD
  refine lv_iinc (v := 8) (lv' := [(5, .int 8), (0, .ref h0), (1, .int 0), (2, .int 16), (3, .long 0)]) hx hb dJ7_fill_bad5a_21 hl (k := 0) rfl (by decide) (by decide) rfl (fun ls hl => ?_)
  refine lv_goto (tgt := 10) hx hb dJ7_fill_bad5a_24 (by decide) ?_
  refine lv_iload hx hb dJ7_fill_bad5a_10 (lv_at hl 0 rfl) ?_
  refine lv_iload_n hx hb dJ7_fill_bad5a_12 rfl (lv_at hl 3 rfl) ?_
  refine lv_icmp_ge (tgt := 27) hx hb dJ7_fill_bad5a_13 (by decide) (fun h => absurd h (by decide +kernel)) (fun _ => ?_)
  refine lv_aload_n hx hb dJ7_fill_bad5a_16 rfl (lv_at hl 1 rfl) ?_
  refine lv_iload hx hb dJ7_fill_bad5a_17 (lv_at hl 0 rfl) ?_
  refine lv_lload_n hx hb dJ7_fill_bad5a_19 rfl (lv_at hl 4 rfl) ?_
  refine va_last (D := g.1) hx hb hK hP hD hS 0 1 rfl rfl (vp_in_iff.mpr (by decide +kernel)) dJ7_fill_bad5a_20 (fun H locs hP hD hS => ?_)
  have hP : va_P g.1 vwCl [(h0, .inl (zJ g, 64, .inr (.inl (vp_updL (fun _ => 0) 8 0))))] H := hP
  have hD : va_D A [(h0, .inl (zJ g, 64, .inr (.inl (vp_updL (fun _ => 0) 8 0))))] := hD
  rw [zc_setL] at hP hD
  refine lv_iinc (v := 9) (lv' := [(5, .int 9), (0, .ref h0), (1, .int 0), (2, .int 16), (3, .long 0)]) hx hb dJ7_fill_bad5a_21 hl (k := 0) rfl (by decide) (by decide) rfl (fun ls hl => ?_)
  refine lv_goto (tgt := 10) hx hb dJ7_fill_bad5a_24 (by decide) ?_
  refine lv_iload hx hb dJ7_fill_bad5a_10 (lv_at hl 0 rfl) ?_
  refine lv_iload_n hx hb dJ7_fill_bad5a_12 rfl (lv_at hl 3 rfl) ?_
  refine lv_icmp_ge (tgt := 27) hx hb dJ7_fill_bad5a_13 (by decide) (fun h => absurd h (by decide +kernel)) (fun _ => ?_)
  refine lv_aload_n hx hb dJ7_fill_bad5a_16 rfl (lv_at hl 1 rfl) ?_
  refine lv_iload hx hb dJ7_fill_bad5a_17 (lv_at hl 0 rfl) ?_
  refine lv_lload_n hx hb dJ7_fill_bad5a_19 rfl (lv_at hl 4 rfl) ?_
  refine va_last (D := g.1) hx hb hK hP hD hS 0 1 rfl rfl (vp_in_iff.mpr (by decide +kernel)) dJ7_fill_bad5a_20 (fun H locs hP hD hS => ?_)
  have hP : va_P g.1 vwCl [(h0, .inl (zJ g, 64, .inr (.inl (vp_updL (fun _ => 0) 9 0))))] H := hP
  have hD : va_D A [(h0, .inl (zJ g, 64, .inr (.inl (vp_updL (fun _ => 0) 9 0))))] := hD
  rw [zc_setL] at hP hD
  refine lv_iinc (v := 10) (lv' := [(5, .int 10), (0, .ref h0), (1, .int 0), (2, .int 16), (3, .long 0)]) hx hb dJ7_fill_bad5a_21 hl (k := 0) rfl (by decide) (by decide) rfl (fun ls hl => ?_)
  refine lv_goto (tgt := 10) hx hb dJ7_fill_bad5a_24 (by decide) ?_
  refine lv_iload hx hb dJ7_fill_bad5a_10 (lv_at hl 0 rfl) ?_
  refine lv_iload_n hx hb dJ7_fill_bad5a_12 rfl (lv_at hl 3 rfl) ?_
  refine lv_icmp_ge (tgt := 27) hx hb dJ7_fill_bad5a_13 (by decide) (fun h => absurd h (by decide +kernel)) (fun _ => ?_)
  refine lv_aload_n hx hb dJ7_fill_bad5a_16 rfl (lv_at hl 1 rfl) ?_
  refine lv_iload hx hb dJ7_fill_bad5a_17 (lv_at hl 0 rfl) ?_
  refine lv_lload_n hx hb dJ7_fill_bad5a_19 rfl (lv_at hl 4 rfl) ?_
  refine va_last (D := g.1) hx hb hK hP hD hS 0 1 rfl rfl (vp_in_iff.mpr (by decide +kernel)) dJ7_fill_bad5a_20 (fun H locs hP hD hS => ?_)
  have hP : va_P g.1 vwCl [(h0, .inl (zJ g, 64, .inr (.inl (vp_updL (fun _ => 0) 10 0))))] H := hP
  have hD : va_D A [(h0, .inl (zJ g, 64, .inr (.inl (vp_updL (fun _ => 0) 10 0))))] := hD
  rw [zc_setL] at hP hD
  refine lv_iinc (v := 11) (lv' := [(5, .int 11), (0, .ref h0), (1, .int 0), (2, .int 16), (3, .long 0)]) hx hb dJ7_fill_bad5a_21 hl (k := 0) rfl (by decide) (by decide) rfl (fun ls hl => ?_)
  refine lv_goto (tgt := 10) hx hb dJ7_fill_bad5a_24 (by decide) ?_
  refine lv_iload hx hb dJ7_fill_bad5a_10 (lv_at hl 0 rfl) ?_
  refine lv_iload_n hx hb dJ7_fill_bad5a_12 rfl (lv_at hl 3 rfl) ?_
  refine lv_icmp_ge (tgt := 27) hx hb dJ7_fill_bad5a_13 (by decide) (fun h => absurd h (by decide +kernel)) (fun _ => ?_)
  refine lv_aload_n hx hb dJ7_fill_bad5a_16 rfl (lv_at hl 1 rfl) ?_
  refine lv_iload hx hb dJ7_fill_bad5a_17 (lv_at hl 0 rfl) ?_
  refine lv_lload_n hx hb dJ7_fill_bad5a_19 rfl (lv_at hl 4 rfl) ?_
  refine va_last (D := g.1) hx hb hK hP hD hS 0 1 rfl rfl (vp_in_iff.mpr (by decide +kernel)) dJ7_fill_bad5a_20 (fun H locs hP hD hS => ?_)
  have hP : va_P g.1 vwCl [(h0, .inl (zJ g, 64, .inr (.inl (vp_updL (fun _ => 0) 11 0))))] H := hP
  have hD : va_D A [(h0, .inl (zJ g, 64, .inr (.inl (vp_updL (fun _ => 0) 11 0))))] := hD
  rw [zc_setL] at hP hD
  refine lv_iinc (v := 12) (lv' := [(5, .int 12), (0, .ref h0), (1, .int 0), (2, .int 16), (3, .long 0)]) hx hb dJ7_fill_bad5a_21 hl (k := 0) rfl (by decide) (by decide) rfl (fun ls hl => ?_)
  refine lv_goto (tgt := 10) hx hb dJ7_fill_bad5a_24 (by decide) ?_
  refine lv_iload hx hb dJ7_fill_bad5a_10 (lv_at hl 0 rfl) ?_
  refine lv_iload_n hx hb dJ7_fill_bad5a_12 rfl (lv_at hl 3 rfl) ?_
  refine lv_icmp_ge (tgt := 27) hx hb dJ7_fill_bad5a_13 (by decide) (fun h => absurd h (by decide +kernel)) (fun _ => ?_)
  refine lv_aload_n hx hb dJ7_fill_bad5a_16 rfl (lv_at hl 1 rfl) ?_
  refine lv_iload hx hb dJ7_fill_bad5a_17 (lv_at hl 0 rfl) ?_
  refine lv_lload_n hx hb dJ7_fill_bad5a_19 rfl (lv_at hl 4 rfl) ?_
  refine va_last (D := g.1) hx hb hK hP hD hS 0 1 rfl rfl (vp_in_iff.mpr (by decide +kernel)) dJ7_fill_bad5a_20 (fun H locs hP hD hS => ?_)
  have hP : va_P g.1 vwCl [(h0, .inl (zJ g, 64, .inr (.inl (vp_updL (fun _ => 0) 12 0))))] H := hP
  have hD : va_D A [(h0, .inl (zJ g, 64, .inr (.inl (vp_updL (fun _ => 0) 12 0))))] := hD
  rw [zc_setL] at hP hD
  refine lv_iinc (v := 13) (lv' := [(5, .int 13), (0, .ref h0), (1, .int 0), (2, .int 16), (3, .long 0)]) hx hb dJ7_fill_bad5a_21 hl (k := 0) rfl (by decide) (by decide) rfl (fun ls hl => ?_)
  refine lv_goto (tgt := 10) hx hb dJ7_fill_bad5a_24 (by decide) ?_
  refine lv_iload hx hb dJ7_fill_bad5a_10 (lv_at hl 0 rfl) ?_
  refine lv_iload_n hx hb dJ7_fill_bad5a_12 rfl (lv_at hl 3 rfl) ?_
  refine lv_icmp_ge (tgt := 27) hx hb dJ7_fill_bad5a_13 (by decide) (fun h => absurd h (by decide +kernel)) (fun _ => ?_)
  refine lv_aload_n hx hb dJ7_fill_bad5a_16 rfl (lv_at hl 1 rfl) ?_
  refine lv_iload hx hb dJ7_fill_bad5a_17 (lv_at hl 0 rfl) ?_
  refine lv_lload_n hx hb dJ7_fill_bad5a_19 rfl (lv_at hl 4 rfl) ?_
  refine va_last (D := g.1) hx hb hK hP hD hS 0 1 rfl rfl (vp_in_iff.mpr (by decide +kernel)) dJ7_fill_bad5a_20 (fun H locs hP hD hS => ?_)
  have hP : va_P g.1 vwCl [(h0, .inl (zJ g, 64, .inr (.inl (vp_updL (fun _ => 0) 13 0))))] H := hP
  have hD : va_D A [(h0, .inl (zJ g, 64, .inr (.inl (vp_updL (fun _ => 0) 13 0))))] := hD
  rw [zc_setL] at hP hD
  refine lv_iinc (v := 14) (lv' := [(5, .int 14), (0, .ref h0), (1, .int 0), (2, .int 16), (3, .long 0)]) hx hb dJ7_fill_bad5a_21 hl (k := 0) rfl (by decide) (by decide) rfl (fun ls hl => ?_)
  refine lv_goto (tgt := 10) hx hb dJ7_fill_bad5a_24 (by decide) ?_
  refine lv_iload hx hb dJ7_fill_bad5a_10 (lv_at hl 0 rfl) ?_
  refine lv_iload_n hx hb dJ7_fill_bad5a_12 rfl (lv_at hl 3 rfl) ?_
  refine lv_icmp_ge (tgt := 27) hx hb dJ7_fill_bad5a_13 (by decide) (fun h => absurd h (by decide +kernel)) (fun _ => ?_)
  refine lv_aload_n hx hb dJ7_fill_bad5a_16 rfl (lv_at hl 1 rfl) ?_
  refine lv_iload hx hb dJ7_fill_bad5a_17 (lv_at hl 0 rfl) ?_
  refine lv_lload_n hx hb dJ7_fill_bad5a_19 rfl (lv_at hl 4 rfl) ?_
  refine va_last (D := g.1) hx hb hK hP hD hS 0 1 rfl rfl (vp_in_iff.mpr (by decide +kernel)) dJ7_fill_bad5a_20 (fun H locs hP hD hS => ?_)
  have hP : va_P g.1 vwCl [(h0, .inl (zJ g, 64, .inr (.inl (vp_updL (fun _ => 0) 14 0))))] H := hP
  have hD : va_D A [(h0, .inl (zJ g, 64, .inr (.inl (vp_updL (fun _ => 0) 14 0))))] := hD
  rw [zc_setL] at hP hD
  refine lv_iinc (v := 15) (lv' := [(5, .int 15), (0, .ref h0), (1, .int 0), (2, .int 16), (3, .long 0)]) hx hb dJ7_fill_bad5a_21 hl (k := 0) rfl (by decide) (by decide) rfl (fun ls hl => ?_)
  refine lv_goto (tgt := 10) hx hb dJ7_fill_bad5a_24 (by decide) ?_
  refine lv_iload hx hb dJ7_fill_bad5a_10 (lv_at hl 0 rfl) ?_
  refine lv_iload_n hx hb dJ7_fill_bad5a_12 rfl (lv_at hl 3 rfl) ?_
  refine lv_icmp_ge (tgt := 27) hx hb dJ7_fill_bad5a_13 (by decide) (fun h => absurd h (by decide +kernel)) (fun _ => ?_)
  refine lv_aload_n hx hb dJ7_fill_bad5a_16 rfl (lv_at hl 1 rfl) ?_
  refine lv_iload hx hb dJ7_fill_bad5a_17 (lv_at hl 0 rfl) ?_
  refine lv_lload_n hx hb dJ7_fill_bad5a_19 rfl (lv_at hl 4 rfl) ?_
  refine va_last (D := g.1) hx hb hK hP hD hS 0 1 rfl rfl (vp_in_iff.mpr (by decide +kernel)) dJ7_fill_bad5a_20 (fun H locs hP hD hS => ?_)
  have hP : va_P g.1 vwCl [(h0, .inl (zJ g, 64, .inr (.inl (vp_updL (fun _ => 0) 15 0))))] H := hP
  have hD : va_D A [(h0, .inl (zJ g, 64, .inr (.inl (vp_updL (fun _ => 0) 15 0))))] := hD
  rw [zc_setL] at hP hD
  refine lv_iinc (v := 16) (lv' := [(5, .int 16), (0, .ref h0), (1, .int 0), (2, .int 16), (3, .long 0)]) hx hb dJ7_fill_bad5a_21 hl (k := 0) rfl (by decide) (by decide) rfl (fun ls hl => ?_)
  refine lv_goto (tgt := 10) hx hb dJ7_fill_bad5a_24 (by decide) ?_
  refine lv_iload hx hb dJ7_fill_bad5a_10 (lv_at hl 0 rfl) ?_
  refine lv_iload_n hx hb dJ7_fill_bad5a_12 rfl (lv_at hl 3 rfl) ?_
  refine lv_icmp_ge (tgt := 27) hx hb dJ7_fill_bad5a_13 (by decide) (fun _ => ?_) (fun h => absurd h (by decide +kernel))
  have hP9 := hP.sub (ws' := [(h0, .inl (zJ g, 64, .inr (.inl (fun _ => 0))))]) [0] rfl
  have hD9 := hD.sub (ws' := [(h0, .inl (zJ g, 64, .inr (.inl (fun _ => 0))))]) [0] (by decide) rfl
  exact W.vret hx hb hr (fun t ht hW => ⟨⟨0, rfl, trivial, by rw [ht]; exact hP9, hD9⟩, hS.F ht⟩) hS.2.2 dJ7_fill_bad5a_27
set_option maxHeartbeats 4000000 in
set_option maxRecDepth 100000 in
theorem kJ7_rangeCheck_23922_10 (l : Launch) (g : zG) (sz : Nat) : Met l yJ7_rangeCheck_23922 (.code yJ7_rangeCheck_23922 cJ7_rangeCheck_23922 3 none :: zBig) ({ frames := 0, cells := 0, slots := 0, locals := 0 }) (va_Pc [.int 64, .int 16, .int 32] (zPre g [] sz)) (va_Qv (fun _ : Nat => True) (zPost g (fun _ : Nat => []) (va_A [] sz)) (va_A [] sz)) 0 0 (va_A [] sz) := by
  refine zMetV rfl (Nat.le_of_ble_eq_true rfl) ?_
  intro p e s m args below meth c A ls hx hb hml hr hlocks hin hown hts hK hN hZ hP hD hA hS hAe hl
  have hown : s.vm.findClass RJ7 = some m.cls := hown
  have hl : lv_has ls 3 [(0, .int 64), (1, .int 16), (2, .int 32)] := hl
  refine lv_iload_n hx hb dJ7_rangeCheck_23922_0 rfl (lv_at hl 1 rfl) ?_
  refine lv_iload_n hx hb dJ7_rangeCheck_23922_1 rfl (lv_at hl 2 rfl) ?_
  refine lv_icmp_le (tgt := 46) hx hb dJ7_rangeCheck_23922_2 (by decide) (fun _ => ?_) (fun h => absurd h (by decide +kernel))
  refine lv_iload_n hx hb dJ7_rangeCheck_23922_46 rfl (lv_at hl 1 rfl) ?_
  refine lv_if_ge (tgt := 59) hx hb dJ7_rangeCheck_23922_47 (by decide) (fun _ => ?_) (fun h => absurd h (by decide +kernel))
  refine lv_iload_n hx hb dJ7_rangeCheck_23922_59 rfl (lv_at hl 2 rfl) ?_
  refine lv_iload_n hx hb dJ7_rangeCheck_23922_60 rfl (lv_at hl 0 rfl) ?_
  refine lv_icmp_le (tgt := 73) hx hb dJ7_rangeCheck_23922_61 (by decide) (fun _ => ?_) (fun h => absurd h (by decide +kernel))
  have hP9 := hP.sub (ws' := []) [] rfl
  have hD9 := hD.sub (ws' := []) [] (by decide) rfl
  exact W.vret hx hb hr (fun t ht hW => ⟨⟨0, rfl, trivial, by rw [ht]; exact hP9, hD9⟩, hS.F ht⟩) hS.2.2 dJ7_rangeCheck_23922_73
