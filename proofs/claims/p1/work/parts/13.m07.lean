set_option maxHeartbeats 4000000 in
set_option maxRecDepth 100000 in
theorem kX1_lay_2 (l : Launch) (g : zG) (h0 h11 h12 h13 : Nat) (sz : Nat) (p1 : Int32) (p2 : Int32) (p3 : Int32) : Met l yX1_lay (.code yX1_lay cX1_lay 4 none :: zBig) ({ frames := 2, cells := 0, slots := 0, locals := 47 }) (va_Pc [.ref h0, .int p1, .int p2, .int p3] (zPre g [(h0, .inr (1, [.ref h11, .ref h12, .ref h13])), (h11, .inl (zI g, 4, .inl (upd (upd (upd (upd (fun _ => 0) 0 (-1)) 1 (-1)) 2 (-1)) 3 (-1)))), (h12, .inl (zI g, 4, .inl (fun _ => 0))), (h13, .inl (zJ g, 64, .inr (.inl (fun _ => 0))))] sz)) (va_Qv (fun _ : Nat => (p1.toInt < 0) ∨ (0 ≤ p1.toInt ∧ 4 ≤ p1.toInt) ∨ (0 ≤ p1.toInt ∧ p1.toInt < 4 ∧ p2.toInt < 0) ∨ (0 ≤ p1.toInt ∧ p1.toInt < 4 ∧ 0 ≤ p2.toInt ∧ 3 ≤ p2.toInt) ∨ (0 ≤ p1.toInt ∧ p1.toInt < 4 ∧ 0 ≤ p2.toInt ∧ p2.toInt < 3 ∧ p3.toInt < 0) ∨ (0 ≤ p1.toInt ∧ p1.toInt < 4 ∧ 0 ≤ p2.toInt ∧ p2.toInt < 3 ∧ 0 ≤ p3.toInt ∧ p3.toInt ≤ 16 ∧ p1.toInt = 0) ∨ (0 ≤ p1.toInt ∧ p1.toInt < 4 ∧ 0 ≤ p2.toInt ∧ p2.toInt < 3 ∧ 0 ≤ p3.toInt ∧ p3.toInt ≤ 16 ∧ p1.toInt = 1) ∨ (0 ≤ p1.toInt ∧ p1.toInt < 4 ∧ 0 ≤ p2.toInt ∧ p2.toInt < 3 ∧ 0 ≤ p3.toInt ∧ p3.toInt ≤ 16 ∧ p1.toInt = 2) ∨ (0 ≤ p1.toInt ∧ p1.toInt < 4 ∧ 0 ≤ p2.toInt ∧ p2.toInt < 3 ∧ 0 ≤ p3.toInt ∧ p3.toInt ≤ 16 ∧ p1.toInt = 3) ∨ (0 ≤ p1.toInt ∧ p1.toInt < 4 ∧ 0 ≤ p2.toInt ∧ p2.toInt < 3 ∧ 0 ≤ p3.toInt ∧ 16 < p3.toInt)) (zPost g (fun _ : Nat => [(h0, .inr (1, [.ref h11, .ref h12, .ref h13]))]) (va_A [(h0, .inr (1, [.ref h11, .ref h12, .ref h13])), (h11, .inl (zI g, 4, .inl (upd (upd (upd (upd (fun _ => 0) 0 (-1)) 1 (-1)) 2 (-1)) 3 (-1)))), (h12, .inl (zI g, 4, .inl (fun _ => 0))), (h13, .inl (zJ g, 64, .inr (.inl (fun _ => 0))))] sz)) (va_A [(h0, .inr (1, [.ref h11, .ref h12, .ref h13])), (h11, .inl (zI g, 4, .inl (upd (upd (upd (upd (fun _ => 0) 0 (-1)) 1 (-1)) 2 (-1)) 3 (-1)))), (h12, .inl (zI g, 4, .inl (fun _ => 0))), (h13, .inl (zJ g, 64, .inr (.inl (fun _ => 0))))] sz)) 0 0 (va_A [(h0, .inr (1, [.ref h11, .ref h12, .ref h13])), (h11, .inl (zI g, 4, .inl (upd (upd (upd (upd (fun _ => 0) 0 (-1)) 1 (-1)) 2 (-1)) 3 (-1)))), (h12, .inl (zI g, 4, .inl (fun _ => 0))), (h13, .inl (zJ g, 64, .inr (.inl (fun _ => 0))))] sz) := by
  refine zMetV rfl (Nat.le_of_ble_eq_true rfl) ?_
  intro p e s m args below meth c A ls hx hb hml hr hlocks hin hown hts hK hN hZ hP hD hA hS hAe hl
  have hown : s.vm.findClass RX1 = some m.cls := hown
  have hl : lv_has ls 4 [(0, .ref h0), (1, .int p1), (2, .int p2), (3, .int p3)] := hl
  refine lv_iload_n hx hb dX1_lay_0 rfl (lv_at hl 1 rfl) ?_
  refine z_calli (wr := [(h0, .inr (1, [.ref h11, .ref h12, .ref h13])), (h11, .inl (zI g, 4, .inl (upd (upd (upd (upd (fun _ => 0) 0 (-1)) 1 (-1)) 2 (-1)) 3 (-1)))), (h12, .inl (zI g, 4, .inl (fun _ => 0))), (h13, .inl (zJ g, 64, .inr (.inl (fun _ => 0))))]) hP hD hS hA [] [0, 1, 2, 3] (by decide) rfl rfl (by decide) (va_runSN (As := [.int p1]) (rest := []) ⟨hx, hb, hml, hown, hts⟩ (kX4_isSheet_4 l g  s.heap.size p1) ⟨va_cnB 1 hts (zGood m_o_yX4_isSheet) rfl rfl rfl (hN.m 29 (q := (RX1, 22, yX4_isSheet)) rfl) (hts _ m_z_RX4) ⟨by decide +kernel, by decide +kernel, by decide +kernel⟩ ⟨Nat.le_of_ble_eq_true rfl, Nat.le_of_ble_eq_true rfl⟩, hts _ m_s_yX4_isSheet, trivial⟩ (zPreS hK hN hZ hP hD hS hA [] (by decide) rfl rfl) rfl rfl hl.1 rfl (lv_room (Nat.le_of_ble_eq_true rfl)) dX1_lay_1 ⟨Nat.le_of_ble_eq_true rfl, Nat.le_of_ble_eq_true rfl⟩) (fun r u H locs hw hP hD hS => ?_)
  rcases hw with ⟨i_0, rfl⟩ | ⟨i_1, i_2, rfl⟩ | ⟨i_3, i_4, rfl⟩
  · skip
    have i_0 : p1.toInt < 0 := i_0
    have hP : va_P g.1 vwCl [(h0, .inr (1, [.ref h11, .ref h12, .ref h13])), (h11, .inl (zI g, 4, .inl (upd (upd (upd (upd (fun _ => 0) 0 (-1)) 1 (-1)) 2 (-1)) 3 (-1)))), (h12, .inl (zI g, 4, .inl (fun _ => 0))), (h13, .inl (zJ g, 64, .inr (.inl (fun _ => 0))))] H := hP
    have hD : va_D A [(h0, .inr (1, [.ref h11, .ref h12, .ref h13])), (h11, .inl (zI g, 4, .inl (upd (upd (upd (upd (fun _ => 0) 0 (-1)) 1 (-1)) 2 (-1)) 3 (-1)))), (h12, .inl (zI g, 4, .inl (fun _ => 0))), (h13, .inl (zJ g, 64, .inr (.inl (fun _ => 0))))] := hD
    refine lv_if_eq (tgt := 24) hx hb dX1_lay_4 (by decide) (fun _ => ?_) (fun h => absurd h (by decide +kernel))
    have hP9 := hP.sub (ws' := [(h0, .inr (1, [.ref h11, .ref h12, .ref h13]))]) [0] rfl
    have hD9 := hD.sub (ws' := [(h0, .inr (1, [.ref h11, .ref h12, .ref h13]))]) [0] (by decide) rfl
    exact W.vret hx hb hr (fun t ht hW => ⟨⟨0, rfl, Or.inl (i_0), by rw [ht]; exact hP9, hD9⟩, hS.F ht⟩) hS.2.2 dX1_lay_24
  · skip
    have i_1 : 0 ≤ p1.toInt := i_1
    have i_2 : 4 ≤ p1.toInt := i_2
    have hP : va_P g.1 vwCl [(h0, .inr (1, [.ref h11, .ref h12, .ref h13])), (h11, .inl (zI g, 4, .inl (upd (upd (upd (upd (fun _ => 0) 0 (-1)) 1 (-1)) 2 (-1)) 3 (-1)))), (h12, .inl (zI g, 4, .inl (fun _ => 0))), (h13, .inl (zJ g, 64, .inr (.inl (fun _ => 0))))] H := hP
    have hD : va_D A [(h0, .inr (1, [.ref h11, .ref h12, .ref h13])), (h11, .inl (zI g, 4, .inl (upd (upd (upd (upd (fun _ => 0) 0 (-1)) 1 (-1)) 2 (-1)) 3 (-1)))), (h12, .inl (zI g, 4, .inl (fun _ => 0))), (h13, .inl (zJ g, 64, .inr (.inl (fun _ => 0))))] := hD
    refine lv_if_eq (tgt := 24) hx hb dX1_lay_4 (by decide) (fun _ => ?_) (fun h => absurd h (by decide +kernel))
    have hP9 := hP.sub (ws' := [(h0, .inr (1, [.ref h11, .ref h12, .ref h13]))]) [0] rfl
    have hD9 := hD.sub (ws' := [(h0, .inr (1, [.ref h11, .ref h12, .ref h13]))]) [0] (by decide) rfl
    exact W.vret hx hb hr (fun t ht hW => ⟨⟨0, rfl, Or.inr (Or.inl ⟨i_1, i_2⟩), by rw [ht]; exact hP9, hD9⟩, hS.F ht⟩) hS.2.2 dX1_lay_24
  · skip
    have i_3 : 0 ≤ p1.toInt := i_3
    have i_4 : p1.toInt < 4 := i_4
    have hP : va_P g.1 vwCl [(h0, .inr (1, [.ref h11, .ref h12, .ref h13])), (h11, .inl (zI g, 4, .inl (upd (upd (upd (upd (fun _ => 0) 0 (-1)) 1 (-1)) 2 (-1)) 3 (-1)))), (h12, .inl (zI g, 4, .inl (fun _ => 0))), (h13, .inl (zJ g, 64, .inr (.inl (fun _ => 0))))] H := hP
    have hD : va_D A [(h0, .inr (1, [.ref h11, .ref h12, .ref h13])), (h11, .inl (zI g, 4, .inl (upd (upd (upd (upd (fun _ => 0) 0 (-1)) 1 (-1)) 2 (-1)) 3 (-1)))), (h12, .inl (zI g, 4, .inl (fun _ => 0))), (h13, .inl (zJ g, 64, .inr (.inl (fun _ => 0))))] := hD
    refine lv_if_eq (tgt := 24) hx hb dX1_lay_4 (by decide) (fun h => absurd h (by decide +kernel)) (fun _ => ?_)
    refine lv_iload_n hx hb dX1_lay_7 rfl (lv_at hl 2 rfl) ?_
    refine z_calli (wr := [(h0, .inr (1, [.ref h11, .ref h12, .ref h13])), (h11, .inl (zI g, 4, .inl (upd (upd (upd (upd (fun _ => 0) 0 (-1)) 1 (-1)) 2 (-1)) 3 (-1)))), (h12, .inl (zI g, 4, .inl (fun _ => 0))), (h13, .inl (zJ g, 64, .inr (.inl (fun _ => 0))))]) hP hD hS hA [] [0, 1, 2, 3] (by decide) rfl rfl (by decide) (va_runSN (As := [.int p2]) (rest := []) ⟨hx, hb, hml, hown, hts⟩ (kX4_isLane_4 l g  H.size p2) ⟨va_cnB 1 hts (zGood m_o_yX4_isLane) rfl rfl rfl (hN.m 30 (q := (RX1, 26, yX4_isLane)) rfl) (hts _ m_z_RX4) ⟨by decide +kernel, by decide +kernel, by decide +kernel⟩ ⟨Nat.le_of_ble_eq_true rfl, Nat.le_of_ble_eq_true rfl⟩, hts _ m_s_yX4_isLane, trivial⟩ (zPreS hK hN hZ hP hD hS hA [] (by decide) rfl rfl) rfl rfl hl.1 rfl (lv_room (Nat.le_of_ble_eq_true rfl)) dX1_lay_8 ⟨Nat.le_of_ble_eq_true rfl, Nat.le_of_ble_eq_true rfl⟩) (fun r u H locs hw hP hD hS => ?_)
    rcases hw with ⟨i_5, rfl⟩ | ⟨i_6, i_7, rfl⟩ | ⟨i_8, i_9, rfl⟩
    · skip
      have i_5 : p2.toInt < 0 := i_5
      have hP : va_P g.1 vwCl [(h0, .inr (1, [.ref h11, .ref h12, .ref h13])), (h11, .inl (zI g, 4, .inl (upd (upd (upd (upd (fun _ => 0) 0 (-1)) 1 (-1)) 2 (-1)) 3 (-1)))), (h12, .inl (zI g, 4, .inl (fun _ => 0))), (h13, .inl (zJ g, 64, .inr (.inl (fun _ => 0))))] H := hP
      have hD : va_D A [(h0, .inr (1, [.ref h11, .ref h12, .ref h13])), (h11, .inl (zI g, 4, .inl (upd (upd (upd (upd (fun _ => 0) 0 (-1)) 1 (-1)) 2 (-1)) 3 (-1)))), (h12, .inl (zI g, 4, .inl (fun _ => 0))), (h13, .inl (zJ g, 64, .inr (.inl (fun _ => 0))))] := hD
      refine lv_if_eq (tgt := 24) hx hb dX1_lay_11 (by decide) (fun _ => ?_) (fun h => absurd h (by decide +kernel))
      have hP9 := hP.sub (ws' := [(h0, .inr (1, [.ref h11, .ref h12, .ref h13]))]) [0] rfl
      have hD9 := hD.sub (ws' := [(h0, .inr (1, [.ref h11, .ref h12, .ref h13]))]) [0] (by decide) rfl
      exact W.vret hx hb hr (fun t ht hW => ⟨⟨0, rfl, Or.inr (Or.inr (Or.inl ⟨i_3, i_4, i_5⟩)), by rw [ht]; exact hP9, hD9⟩, hS.F ht⟩) hS.2.2 dX1_lay_24
    · skip
      have i_6 : 0 ≤ p2.toInt := i_6
      have i_7 : 3 ≤ p2.toInt := i_7
      have hP : va_P g.1 vwCl [(h0, .inr (1, [.ref h11, .ref h12, .ref h13])), (h11, .inl (zI g, 4, .inl (upd (upd (upd (upd (fun _ => 0) 0 (-1)) 1 (-1)) 2 (-1)) 3 (-1)))), (h12, .inl (zI g, 4, .inl (fun _ => 0))), (h13, .inl (zJ g, 64, .inr (.inl (fun _ => 0))))] H := hP
      have hD : va_D A [(h0, .inr (1, [.ref h11, .ref h12, .ref h13])), (h11, .inl (zI g, 4, .inl (upd (upd (upd (upd (fun _ => 0) 0 (-1)) 1 (-1)) 2 (-1)) 3 (-1)))), (h12, .inl (zI g, 4, .inl (fun _ => 0))), (h13, .inl (zJ g, 64, .inr (.inl (fun _ => 0))))] := hD
      refine lv_if_eq (tgt := 24) hx hb dX1_lay_11 (by decide) (fun _ => ?_) (fun h => absurd h (by decide +kernel))
      have hP9 := hP.sub (ws' := [(h0, .inr (1, [.ref h11, .ref h12, .ref h13]))]) [0] rfl
      have hD9 := hD.sub (ws' := [(h0, .inr (1, [.ref h11, .ref h12, .ref h13]))]) [0] (by decide) rfl
      exact W.vret hx hb hr (fun t ht hW => ⟨⟨0, rfl, Or.inr (Or.inr (Or.inr (Or.inl ⟨i_3, i_4, i_6, i_7⟩))), by rw [ht]; exact hP9, hD9⟩, hS.F ht⟩) hS.2.2 dX1_lay_24
    · skip
      have i_8 : 0 ≤ p2.toInt := i_8
      have i_9 : p2.toInt < 3 := i_9
      have hP : va_P g.1 vwCl [(h0, .inr (1, [.ref h11, .ref h12, .ref h13])), (h11, .inl (zI g, 4, .inl (upd (upd (upd (upd (fun _ => 0) 0 (-1)) 1 (-1)) 2 (-1)) 3 (-1)))), (h12, .inl (zI g, 4, .inl (fun _ => 0))), (h13, .inl (zJ g, 64, .inr (.inl (fun _ => 0))))] H := hP
      have hD : va_D A [(h0, .inr (1, [.ref h11, .ref h12, .ref h13])), (h11, .inl (zI g, 4, .inl (upd (upd (upd (upd (fun _ => 0) 0 (-1)) 1 (-1)) 2 (-1)) 3 (-1)))), (h12, .inl (zI g, 4, .inl (fun _ => 0))), (h13, .inl (zJ g, 64, .inr (.inl (fun _ => 0))))] := hD
      refine lv_if_eq (tgt := 24) hx hb dX1_lay_11 (by decide) (fun h => absurd h (by decide +kernel)) (fun _ => ?_)
      refine lv_iload_n hx hb dX1_lay_14 rfl (lv_at hl 3 rfl) ?_
      refine lv_if_lt (tgt := 24) hx hb dX1_lay_15 (by decide) (fun c_10 => ?_) (fun c_10 => ?_)
      · have i_10 : p3.toInt < 0 := z_lt (rfl) (rfl) c_10
        have hP9 := hP.sub (ws' := [(h0, .inr (1, [.ref h11, .ref h12, .ref h13]))]) [0] rfl
        have hD9 := hD.sub (ws' := [(h0, .inr (1, [.ref h11, .ref h12, .ref h13]))]) [0] (by decide) rfl
        exact W.vret hx hb hr (fun t ht hW => ⟨⟨0, rfl, Or.inr (Or.inr (Or.inr (Or.inr (Or.inl ⟨i_3, i_4, i_8, i_9, i_10⟩)))), by rw [ht]; exact hP9, hD9⟩, hS.F ht⟩) hS.2.2 dX1_lay_24
      · have i_10 : 0 ≤ p3.toInt := z_nlt (rfl) (rfl) c_10
        refine lv_iload_n hx hb dX1_lay_18 rfl (lv_at hl 3 rfl) ?_
        refine lv_bipush (v := 16) hx hb dX1_lay_19 (by decide) ?_
        refine lv_icmp_le (tgt := 25) hx hb dX1_lay_21 (by decide) (fun c_11 => ?_) (fun c_11 => ?_)
        · have i_11 : p3.toInt ≤ 16 := z_le (rfl) (rfl) c_11
          refine lv_aload_n hx hb dX1_lay_25 rfl (lv_at hl 0 rfl) ?_
          refine va_get (D := g.1) (ci := 1) (v := .ref h11) (C := RX1) (T := TX1) (N := 3) hx hb hts zl_X1 hown hK hP 0 rfl rfl 0 (by decide) (hts _ m_f_RX1_9) (fun _ h => h) rfl dX1_lay_26 ?_
          refine lv_iload_n hx hb dX1_lay_29 rfl (lv_at hl 1 rfl) ?_
          refine lv_iload_n hx hb dX1_lay_30 rfl (lv_at hl 2 rfl) ?_
          rcases (show p1.toInt = 0 ∨ p1.toInt = 1 ∨ p1.toInt = 2 ∨ p1.toInt = 3 by omega) with j_12 | j_12 | j_12 | j_12
          · obtain rfl : p1 = 0 := Int32.toInt_inj.mp (show p1.toInt = (0 : Int32).toInt from j_12.trans rfl)
            refine va_iast (D := g.1) hx hb hK hP hD hS 1 0 rfl rfl (vp_in_iff.mpr (by decide +kernel)) dX1_lay_31 (fun H locs hP hD hS => ?_)
            have hP : va_P g.1 vwCl [(h0, .inr (1, [.ref h11, .ref h12, .ref h13])), (h11, .inl (zI g, 4, .inl (upd (upd (upd (upd (upd (fun _ => 0) 0 (-1)) 1 (-1)) 2 (-1)) 3 (-1)) 0 p2))), (h12, .inl (zI g, 4, .inl (fun _ => 0))), (h13, .inl (zJ g, 64, .inr (.inl (fun _ => 0))))] H := hP
            have hD : va_D A [(h0, .inr (1, [.ref h11, .ref h12, .ref h13])), (h11, .inl (zI g, 4, .inl (upd (upd (upd (upd (upd (fun _ => 0) 0 (-1)) 1 (-1)) 2 (-1)) 3 (-1)) 0 p2))), (h12, .inl (zI g, 4, .inl (fun _ => 0))), (h13, .inl (zJ g, 64, .inr (.inl (fun _ => 0))))] := hD
            refine lv_aload_n hx hb dX1_lay_32 rfl (lv_at hl 0 rfl) ?_
            refine va_get (D := g.1) (ci := 1) (v := .ref h12) (C := RX1) (T := TX1) (N := 3) hx hb hts zl_X1 hown hK hP 0 rfl rfl 1 (by decide) (hts _ m_f_RX1_15) (fun _ h => h) rfl dX1_lay_33 ?_
            refine lv_iload_n hx hb dX1_lay_36 rfl (lv_at hl 1 rfl) ?_
            refine lv_iload_n hx hb dX1_lay_37 rfl (lv_at hl 3 rfl) ?_
            refine va_iast (D := g.1) hx hb hK hP hD hS 2 0 rfl rfl (vp_in_iff.mpr (by decide +kernel)) dX1_lay_38 (fun H locs hP hD hS => ?_)
            have hP : va_P g.1 vwCl [(h0, .inr (1, [.ref h11, .ref h12, .ref h13])), (h11, .inl (zI g, 4, .inl (upd (upd (upd (upd (upd (fun _ => 0) 0 (-1)) 1 (-1)) 2 (-1)) 3 (-1)) 0 p2))), (h12, .inl (zI g, 4, .inl (upd (fun _ => 0) 0 p3))), (h13, .inl (zJ g, 64, .inr (.inl (fun _ => 0))))] H := hP
            have hD : va_D A [(h0, .inr (1, [.ref h11, .ref h12, .ref h13])), (h11, .inl (zI g, 4, .inl (upd (upd (upd (upd (upd (fun _ => 0) 0 (-1)) 1 (-1)) 2 (-1)) 3 (-1)) 0 p2))), (h12, .inl (zI g, 4, .inl (upd (fun _ => 0) 0 p3))), (h13, .inl (zJ g, 64, .inr (.inl (fun _ => 0))))] := hD
            refine lv_aload_n hx hb dX1_lay_39 rfl (lv_at hl 0 rfl) ?_
            refine va_get (D := g.1) (ci := 1) (v := .ref h13) (C := RX1) (T := TX1) (N := 3) hx hb hts zl_X1 hown hK hP 0 rfl rfl 2 (by decide) (hts _ m_f_RX1_18) (fun _ h => h) rfl dX1_lay_40 ?_
            refine lv_iload_n hx hb dX1_lay_43 rfl (lv_at hl 1 rfl) ?_
            refine lv_bipush (v := 16) hx hb dX1_lay_44 (by decide) ?_
            refine lv_imul hx hb dX1_lay_46 ?_
            refine lv_topi (nm_r (e' := 0) (by decide +kernel) ?_)
            refine lv_iload_n hx hb dX1_lay_47 rfl (lv_at hl 1 rfl) ?_
            refine lv_bipush (v := 16) hx hb dX1_lay_48 (by decide) ?_
            refine lv_imul hx hb dX1_lay_50 ?_
            refine lv_topi (nm_r (e' := 0) (by decide +kernel) ?_)
            refine lv_bipush (v := 16) hx hb dX1_lay_51 (by decide) ?_
            refine lv_iadd hx hb dX1_lay_53 ?_
            refine lv_topi (nm_r (e' := 16) (by decide +kernel) ?_)
            refine lv_lconst (v := 0) hx hb dX1_lay_54 (by decide) ?_
            refine z_callv (wr := [(h0, .inr (1, [.ref h11, .ref h12, .ref h13])), (h11, .inl (zI g, 4, .inl (upd (upd (upd (upd (upd (fun _ => 0) 0 (-1)) 1 (-1)) 2 (-1)) 3 (-1)) 0 p2))), (h12, .inl (zI g, 4, .inl (upd (fun _ => 0) 0 p3)))]) hP hD hS hA [3] [0, 1, 2] (by decide) rfl rfl (by decide) (va_runS (As := [.ref h13, .int 0, .int 16, .long 0]) (rest := []) ⟨hx, hb, hml, hown, hts⟩ (kJ7_fill_bad5a_5 l g h13 H.size) ⟨callB_of 4 hts (zGood m_o_yJ7_fill_bad5a) rfl rfl rfl (hts _ m_z_RJ7) (hts _ m_m_RX1_29) ⟨by decide +kernel, by decide +kernel, by decide +kernel⟩ ⟨Nat.le_of_ble_eq_true rfl, Nat.le_of_ble_eq_true rfl⟩, hts _ m_s_yJ7_fill_bad5a⟩ (zPreS hK hN hZ hP hD hS hA [3] (by decide) rfl rfl) rfl rfl hl.1 rfl (lv_room (Nat.le_of_ble_eq_true rfl)) dX1_lay_55 ⟨Nat.le_of_ble_eq_true rfl, Nat.le_of_ble_eq_true rfl⟩) (fun u H locs hw hP hD hS => ?_)
            have hP : va_P g.1 vwCl [(h0, .inr (1, [.ref h11, .ref h12, .ref h13])), (h11, .inl (zI g, 4, .inl (upd (upd (upd (upd (upd (fun _ => 0) 0 (-1)) 1 (-1)) 2 (-1)) 3 (-1)) 0 p2))), (h12, .inl (zI g, 4, .inl (upd (fun _ => 0) 0 p3))), (h13, .inl (zJ g, 64, .inr (.inl (fun _ => 0))))] H := hP
            have hD : va_D A [(h0, .inr (1, [.ref h11, .ref h12, .ref h13])), (h11, .inl (zI g, 4, .inl (upd (upd (upd (upd (upd (fun _ => 0) 0 (-1)) 1 (-1)) 2 (-1)) 3 (-1)) 0 p2))), (h12, .inl (zI g, 4, .inl (upd (fun _ => 0) 0 p3))), (h13, .inl (zJ g, 64, .inr (.inl (fun _ => 0))))] := hD
            have hP9 := hP.sub (ws' := [(h0, .inr (1, [.ref h11, .ref h12, .ref h13]))]) [0] rfl
            have hD9 := hD.sub (ws' := [(h0, .inr (1, [.ref h11, .ref h12, .ref h13]))]) [0] (by decide) rfl
            exact W.vret hx hb hr (fun t ht hW => ⟨⟨0, rfl, Or.inr (Or.inr (Or.inr (Or.inr (Or.inr (Or.inl ⟨i_3, i_4, i_8, i_9, i_10, i_11, j_12⟩))))), by rw [ht]; exact hP9, hD9⟩, hS.F ht⟩) hS.2.2 dX1_lay_58
          · obtain rfl : p1 = 1 := Int32.toInt_inj.mp (show p1.toInt = (1 : Int32).toInt from j_12.trans rfl)
            refine va_iast (D := g.1) hx hb hK hP hD hS 1 0 rfl rfl (vp_in_iff.mpr (by decide +kernel)) dX1_lay_31 (fun H locs hP hD hS => ?_)
            have hP : va_P g.1 vwCl [(h0, .inr (1, [.ref h11, .ref h12, .ref h13])), (h11, .inl (zI g, 4, .inl (upd (upd (upd (upd (upd (fun _ => 0) 0 (-1)) 1 (-1)) 2 (-1)) 3 (-1)) 1 p2))), (h12, .inl (zI g, 4, .inl (fun _ => 0))), (h13, .inl (zJ g, 64, .inr (.inl (fun _ => 0))))] H := hP
            have hD : va_D A [(h0, .inr (1, [.ref h11, .ref h12, .ref h13])), (h11, .inl (zI g, 4, .inl (upd (upd (upd (upd (upd (fun _ => 0) 0 (-1)) 1 (-1)) 2 (-1)) 3 (-1)) 1 p2))), (h12, .inl (zI g, 4, .inl (fun _ => 0))), (h13, .inl (zJ g, 64, .inr (.inl (fun _ => 0))))] := hD
            refine lv_aload_n hx hb dX1_lay_32 rfl (lv_at hl 0 rfl) ?_
            refine va_get (D := g.1) (ci := 1) (v := .ref h12) (C := RX1) (T := TX1) (N := 3) hx hb hts zl_X1 hown hK hP 0 rfl rfl 1 (by decide) (hts _ m_f_RX1_15) (fun _ h => h) rfl dX1_lay_33 ?_
            refine lv_iload_n hx hb dX1_lay_36 rfl (lv_at hl 1 rfl) ?_
            refine lv_iload_n hx hb dX1_lay_37 rfl (lv_at hl 3 rfl) ?_
            refine va_iast (D := g.1) hx hb hK hP hD hS 2 0 rfl rfl (vp_in_iff.mpr (by decide +kernel)) dX1_lay_38 (fun H locs hP hD hS => ?_)
            have hP : va_P g.1 vwCl [(h0, .inr (1, [.ref h11, .ref h12, .ref h13])), (h11, .inl (zI g, 4, .inl (upd (upd (upd (upd (upd (fun _ => 0) 0 (-1)) 1 (-1)) 2 (-1)) 3 (-1)) 1 p2))), (h12, .inl (zI g, 4, .inl (upd (fun _ => 0) 1 p3))), (h13, .inl (zJ g, 64, .inr (.inl (fun _ => 0))))] H := hP
            have hD : va_D A [(h0, .inr (1, [.ref h11, .ref h12, .ref h13])), (h11, .inl (zI g, 4, .inl (upd (upd (upd (upd (upd (fun _ => 0) 0 (-1)) 1 (-1)) 2 (-1)) 3 (-1)) 1 p2))), (h12, .inl (zI g, 4, .inl (upd (fun _ => 0) 1 p3))), (h13, .inl (zJ g, 64, .inr (.inl (fun _ => 0))))] := hD
            refine lv_aload_n hx hb dX1_lay_39 rfl (lv_at hl 0 rfl) ?_
            refine va_get (D := g.1) (ci := 1) (v := .ref h13) (C := RX1) (T := TX1) (N := 3) hx hb hts zl_X1 hown hK hP 0 rfl rfl 2 (by decide) (hts _ m_f_RX1_18) (fun _ h => h) rfl dX1_lay_40 ?_
            refine lv_iload_n hx hb dX1_lay_43 rfl (lv_at hl 1 rfl) ?_
            refine lv_bipush (v := 16) hx hb dX1_lay_44 (by decide) ?_
            refine lv_imul hx hb dX1_lay_46 ?_
            refine lv_topi (nm_r (e' := 16) (by decide +kernel) ?_)
            refine lv_iload_n hx hb dX1_lay_47 rfl (lv_at hl 1 rfl) ?_
            refine lv_bipush (v := 16) hx hb dX1_lay_48 (by decide) ?_
            refine lv_imul hx hb dX1_lay_50 ?_
            refine lv_topi (nm_r (e' := 16) (by decide +kernel) ?_)
            refine lv_bipush (v := 16) hx hb dX1_lay_51 (by decide) ?_
            refine lv_iadd hx hb dX1_lay_53 ?_
            refine lv_topi (nm_r (e' := 32) (by decide +kernel) ?_)
            refine lv_lconst (v := 0) hx hb dX1_lay_54 (by decide) ?_
            refine z_callv (wr := [(h0, .inr (1, [.ref h11, .ref h12, .ref h13])), (h11, .inl (zI g, 4, .inl (upd (upd (upd (upd (upd (fun _ => 0) 0 (-1)) 1 (-1)) 2 (-1)) 3 (-1)) 1 p2))), (h12, .inl (zI g, 4, .inl (upd (fun _ => 0) 1 p3)))]) hP hD hS hA [3] [0, 1, 2] (by decide) rfl rfl (by decide) (va_runS (As := [.ref h13, .int 16, .int 32, .long 0]) (rest := []) ⟨hx, hb, hml, hown, hts⟩ (kJ7_fill_bad5a_6 l g h13 H.size) ⟨callB_of 4 hts (zGood m_o_yJ7_fill_bad5a) rfl rfl rfl (hts _ m_z_RJ7) (hts _ m_m_RX1_29) ⟨by decide +kernel, by decide +kernel, by decide +kernel⟩ ⟨Nat.le_of_ble_eq_true rfl, Nat.le_of_ble_eq_true rfl⟩, hts _ m_s_yJ7_fill_bad5a⟩ (zPreS hK hN hZ hP hD hS hA [3] (by decide) rfl rfl) rfl rfl hl.1 rfl (lv_room (Nat.le_of_ble_eq_true rfl)) dX1_lay_55 ⟨Nat.le_of_ble_eq_true rfl, Nat.le_of_ble_eq_true rfl⟩) (fun u H locs hw hP hD hS => ?_)
            have hP : va_P g.1 vwCl [(h0, .inr (1, [.ref h11, .ref h12, .ref h13])), (h11, .inl (zI g, 4, .inl (upd (upd (upd (upd (upd (fun _ => 0) 0 (-1)) 1 (-1)) 2 (-1)) 3 (-1)) 1 p2))), (h12, .inl (zI g, 4, .inl (upd (fun _ => 0) 1 p3))), (h13, .inl (zJ g, 64, .inr (.inl (fun _ => 0))))] H := hP
            have hD : va_D A [(h0, .inr (1, [.ref h11, .ref h12, .ref h13])), (h11, .inl (zI g, 4, .inl (upd (upd (upd (upd (upd (fun _ => 0) 0 (-1)) 1 (-1)) 2 (-1)) 3 (-1)) 1 p2))), (h12, .inl (zI g, 4, .inl (upd (fun _ => 0) 1 p3))), (h13, .inl (zJ g, 64, .inr (.inl (fun _ => 0))))] := hD
            have hP9 := hP.sub (ws' := [(h0, .inr (1, [.ref h11, .ref h12, .ref h13]))]) [0] rfl
            have hD9 := hD.sub (ws' := [(h0, .inr (1, [.ref h11, .ref h12, .ref h13]))]) [0] (by decide) rfl
            exact W.vret hx hb hr (fun t ht hW => ⟨⟨0, rfl, Or.inr (Or.inr (Or.inr (Or.inr (Or.inr (Or.inr (Or.inl ⟨i_3, i_4, i_8, i_9, i_10, i_11, j_12⟩)))))), by rw [ht]; exact hP9, hD9⟩, hS.F ht⟩) hS.2.2 dX1_lay_58
          · obtain rfl : p1 = 2 := Int32.toInt_inj.mp (show p1.toInt = (2 : Int32).toInt from j_12.trans rfl)
            refine va_iast (D := g.1) hx hb hK hP hD hS 1 0 rfl rfl (vp_in_iff.mpr (by decide +kernel)) dX1_lay_31 (fun H locs hP hD hS => ?_)
            have hP : va_P g.1 vwCl [(h0, .inr (1, [.ref h11, .ref h12, .ref h13])), (h11, .inl (zI g, 4, .inl (upd (upd (upd (upd (upd (fun _ => 0) 0 (-1)) 1 (-1)) 2 (-1)) 3 (-1)) 2 p2))), (h12, .inl (zI g, 4, .inl (fun _ => 0))), (h13, .inl (zJ g, 64, .inr (.inl (fun _ => 0))))] H := hP
            have hD : va_D A [(h0, .inr (1, [.ref h11, .ref h12, .ref h13])), (h11, .inl (zI g, 4, .inl (upd (upd (upd (upd (upd (fun _ => 0) 0 (-1)) 1 (-1)) 2 (-1)) 3 (-1)) 2 p2))), (h12, .inl (zI g, 4, .inl (fun _ => 0))), (h13, .inl (zJ g, 64, .inr (.inl (fun _ => 0))))] := hD
            refine lv_aload_n hx hb dX1_lay_32 rfl (lv_at hl 0 rfl) ?_
            refine va_get (D := g.1) (ci := 1) (v := .ref h12) (C := RX1) (T := TX1) (N := 3) hx hb hts zl_X1 hown hK hP 0 rfl rfl 1 (by decide) (hts _ m_f_RX1_15) (fun _ h => h) rfl dX1_lay_33 ?_
            refine lv_iload_n hx hb dX1_lay_36 rfl (lv_at hl 1 rfl) ?_
            refine lv_iload_n hx hb dX1_lay_37 rfl (lv_at hl 3 rfl) ?_
            refine va_iast (D := g.1) hx hb hK hP hD hS 2 0 rfl rfl (vp_in_iff.mpr (by decide +kernel)) dX1_lay_38 (fun H locs hP hD hS => ?_)
            have hP : va_P g.1 vwCl [(h0, .inr (1, [.ref h11, .ref h12, .ref h13])), (h11, .inl (zI g, 4, .inl (upd (upd (upd (upd (upd (fun _ => 0) 0 (-1)) 1 (-1)) 2 (-1)) 3 (-1)) 2 p2))), (h12, .inl (zI g, 4, .inl (upd (fun _ => 0) 2 p3))), (h13, .inl (zJ g, 64, .inr (.inl (fun _ => 0))))] H := hP
            have hD : va_D A [(h0, .inr (1, [.ref h11, .ref h12, .ref h13])), (h11, .inl (zI g, 4, .inl (upd (upd (upd (upd (upd (fun _ => 0) 0 (-1)) 1 (-1)) 2 (-1)) 3 (-1)) 2 p2))), (h12, .inl (zI g, 4, .inl (upd (fun _ => 0) 2 p3))), (h13, .inl (zJ g, 64, .inr (.inl (fun _ => 0))))] := hD
            refine lv_aload_n hx hb dX1_lay_39 rfl (lv_at hl 0 rfl) ?_
            refine va_get (D := g.1) (ci := 1) (v := .ref h13) (C := RX1) (T := TX1) (N := 3) hx hb hts zl_X1 hown hK hP 0 rfl rfl 2 (by decide) (hts _ m_f_RX1_18) (fun _ h => h) rfl dX1_lay_40 ?_
            refine lv_iload_n hx hb dX1_lay_43 rfl (lv_at hl 1 rfl) ?_
            refine lv_bipush (v := 16) hx hb dX1_lay_44 (by decide) ?_
            refine lv_imul hx hb dX1_lay_46 ?_
            refine lv_topi (nm_r (e' := 32) (by decide +kernel) ?_)
            refine lv_iload_n hx hb dX1_lay_47 rfl (lv_at hl 1 rfl) ?_
            refine lv_bipush (v := 16) hx hb dX1_lay_48 (by decide) ?_
            refine lv_imul hx hb dX1_lay_50 ?_
            refine lv_topi (nm_r (e' := 32) (by decide +kernel) ?_)
            refine lv_bipush (v := 16) hx hb dX1_lay_51 (by decide) ?_
            refine lv_iadd hx hb dX1_lay_53 ?_
            refine lv_topi (nm_r (e' := 48) (by decide +kernel) ?_)
            refine lv_lconst (v := 0) hx hb dX1_lay_54 (by decide) ?_
            refine z_callv (wr := [(h0, .inr (1, [.ref h11, .ref h12, .ref h13])), (h11, .inl (zI g, 4, .inl (upd (upd (upd (upd (upd (fun _ => 0) 0 (-1)) 1 (-1)) 2 (-1)) 3 (-1)) 2 p2))), (h12, .inl (zI g, 4, .inl (upd (fun _ => 0) 2 p3)))]) hP hD hS hA [3] [0, 1, 2] (by decide) rfl rfl (by decide) (va_runS (As := [.ref h13, .int 32, .int 48, .long 0]) (rest := []) ⟨hx, hb, hml, hown, hts⟩ (kJ7_fill_bad5a_7 l g h13 H.size) ⟨callB_of 4 hts (zGood m_o_yJ7_fill_bad5a) rfl rfl rfl (hts _ m_z_RJ7) (hts _ m_m_RX1_29) ⟨by decide +kernel, by decide +kernel, by decide +kernel⟩ ⟨Nat.le_of_ble_eq_true rfl, Nat.le_of_ble_eq_true rfl⟩, hts _ m_s_yJ7_fill_bad5a⟩ (zPreS hK hN hZ hP hD hS hA [3] (by decide) rfl rfl) rfl rfl hl.1 rfl (lv_room (Nat.le_of_ble_eq_true rfl)) dX1_lay_55 ⟨Nat.le_of_ble_eq_true rfl, Nat.le_of_ble_eq_true rfl⟩) (fun u H locs hw hP hD hS => ?_)
            have hP : va_P g.1 vwCl [(h0, .inr (1, [.ref h11, .ref h12, .ref h13])), (h11, .inl (zI g, 4, .inl (upd (upd (upd (upd (upd (fun _ => 0) 0 (-1)) 1 (-1)) 2 (-1)) 3 (-1)) 2 p2))), (h12, .inl (zI g, 4, .inl (upd (fun _ => 0) 2 p3))), (h13, .inl (zJ g, 64, .inr (.inl (fun _ => 0))))] H := hP
            have hD : va_D A [(h0, .inr (1, [.ref h11, .ref h12, .ref h13])), (h11, .inl (zI g, 4, .inl (upd (upd (upd (upd (upd (fun _ => 0) 0 (-1)) 1 (-1)) 2 (-1)) 3 (-1)) 2 p2))), (h12, .inl (zI g, 4, .inl (upd (fun _ => 0) 2 p3))), (h13, .inl (zJ g, 64, .inr (.inl (fun _ => 0))))] := hD
            have hP9 := hP.sub (ws' := [(h0, .inr (1, [.ref h11, .ref h12, .ref h13]))]) [0] rfl
            have hD9 := hD.sub (ws' := [(h0, .inr (1, [.ref h11, .ref h12, .ref h13]))]) [0] (by decide) rfl
            exact W.vret hx hb hr (fun t ht hW => ⟨⟨0, rfl, Or.inr (Or.inr (Or.inr (Or.inr (Or.inr (Or.inr (Or.inr (Or.inl ⟨i_3, i_4, i_8, i_9, i_10, i_11, j_12⟩))))))), by rw [ht]; exact hP9, hD9⟩, hS.F ht⟩) hS.2.2 dX1_lay_58
          · obtain rfl : p1 = 3 := Int32.toInt_inj.mp (show p1.toInt = (3 : Int32).toInt from j_12.trans rfl)
            refine va_iast (D := g.1) hx hb hK hP hD hS 1 0 rfl rfl (vp_in_iff.mpr (by decide +kernel)) dX1_lay_31 (fun H locs hP hD hS => ?_)
            have hP : va_P g.1 vwCl [(h0, .inr (1, [.ref h11, .ref h12, .ref h13])), (h11, .inl (zI g, 4, .inl (upd (upd (upd (upd (upd (fun _ => 0) 0 (-1)) 1 (-1)) 2 (-1)) 3 (-1)) 3 p2))), (h12, .inl (zI g, 4, .inl (fun _ => 0))), (h13, .inl (zJ g, 64, .inr (.inl (fun _ => 0))))] H := hP
            have hD : va_D A [(h0, .inr (1, [.ref h11, .ref h12, .ref h13])), (h11, .inl (zI g, 4, .inl (upd (upd (upd (upd (upd (fun _ => 0) 0 (-1)) 1 (-1)) 2 (-1)) 3 (-1)) 3 p2))), (h12, .inl (zI g, 4, .inl (fun _ => 0))), (h13, .inl (zJ g, 64, .inr (.inl (fun _ => 0))))] := hD
            refine lv_aload_n hx hb dX1_lay_32 rfl (lv_at hl 0 rfl) ?_
            refine va_get (D := g.1) (ci := 1) (v := .ref h12) (C := RX1) (T := TX1) (N := 3) hx hb hts zl_X1 hown hK hP 0 rfl rfl 1 (by decide) (hts _ m_f_RX1_15) (fun _ h => h) rfl dX1_lay_33 ?_
            refine lv_iload_n hx hb dX1_lay_36 rfl (lv_at hl 1 rfl) ?_
            refine lv_iload_n hx hb dX1_lay_37 rfl (lv_at hl 3 rfl) ?_
            refine va_iast (D := g.1) hx hb hK hP hD hS 2 0 rfl rfl (vp_in_iff.mpr (by decide +kernel)) dX1_lay_38 (fun H locs hP hD hS => ?_)
            have hP : va_P g.1 vwCl [(h0, .inr (1, [.ref h11, .ref h12, .ref h13])), (h11, .inl (zI g, 4, .inl (upd (upd (upd (upd (upd (fun _ => 0) 0 (-1)) 1 (-1)) 2 (-1)) 3 (-1)) 3 p2))), (h12, .inl (zI g, 4, .inl (upd (fun _ => 0) 3 p3))), (h13, .inl (zJ g, 64, .inr (.inl (fun _ => 0))))] H := hP
            have hD : va_D A [(h0, .inr (1, [.ref h11, .ref h12, .ref h13])), (h11, .inl (zI g, 4, .inl (upd (upd (upd (upd (upd (fun _ => 0) 0 (-1)) 1 (-1)) 2 (-1)) 3 (-1)) 3 p2))), (h12, .inl (zI g, 4, .inl (upd (fun _ => 0) 3 p3))), (h13, .inl (zJ g, 64, .inr (.inl (fun _ => 0))))] := hD
            refine lv_aload_n hx hb dX1_lay_39 rfl (lv_at hl 0 rfl) ?_
            refine va_get (D := g.1) (ci := 1) (v := .ref h13) (C := RX1) (T := TX1) (N := 3) hx hb hts zl_X1 hown hK hP 0 rfl rfl 2 (by decide) (hts _ m_f_RX1_18) (fun _ h => h) rfl dX1_lay_40 ?_
            refine lv_iload_n hx hb dX1_lay_43 rfl (lv_at hl 1 rfl) ?_
            refine lv_bipush (v := 16) hx hb dX1_lay_44 (by decide) ?_
            refine lv_imul hx hb dX1_lay_46 ?_
            refine lv_topi (nm_r (e' := 48) (by decide +kernel) ?_)
            refine lv_iload_n hx hb dX1_lay_47 rfl (lv_at hl 1 rfl) ?_
            refine lv_bipush (v := 16) hx hb dX1_lay_48 (by decide) ?_
            refine lv_imul hx hb dX1_lay_50 ?_
            refine lv_topi (nm_r (e' := 48) (by decide +kernel) ?_)
            refine lv_bipush (v := 16) hx hb dX1_lay_51 (by decide) ?_
            refine lv_iadd hx hb dX1_lay_53 ?_
            refine lv_topi (nm_r (e' := 64) (by decide +kernel) ?_)
            refine lv_lconst (v := 0) hx hb dX1_lay_54 (by decide) ?_
            refine z_callv (wr := [(h0, .inr (1, [.ref h11, .ref h12, .ref h13])), (h11, .inl (zI g, 4, .inl (upd (upd (upd (upd (upd (fun _ => 0) 0 (-1)) 1 (-1)) 2 (-1)) 3 (-1)) 3 p2))), (h12, .inl (zI g, 4, .inl (upd (fun _ => 0) 3 p3)))]) hP hD hS hA [3] [0, 1, 2] (by decide) rfl rfl (by decide) (va_runS (As := [.ref h13, .int 48, .int 64, .long 0]) (rest := []) ⟨hx, hb, hml, hown, hts⟩ (kJ7_fill_bad5a_8 l g h13 H.size) ⟨callB_of 4 hts (zGood m_o_yJ7_fill_bad5a) rfl rfl rfl (hts _ m_z_RJ7) (hts _ m_m_RX1_29) ⟨by decide +kernel, by decide +kernel, by decide +kernel⟩ ⟨Nat.le_of_ble_eq_true rfl, Nat.le_of_ble_eq_true rfl⟩, hts _ m_s_yJ7_fill_bad5a⟩ (zPreS hK hN hZ hP hD hS hA [3] (by decide) rfl rfl) rfl rfl hl.1 rfl (lv_room (Nat.le_of_ble_eq_true rfl)) dX1_lay_55 ⟨Nat.le_of_ble_eq_true rfl, Nat.le_of_ble_eq_true rfl⟩) (fun u H locs hw hP hD hS => ?_)
            have hP : va_P g.1 vwCl [(h0, .inr (1, [.ref h11, .ref h12, .ref h13])), (h11, .inl (zI g, 4, .inl (upd (upd (upd (upd (upd (fun _ => 0) 0 (-1)) 1 (-1)) 2 (-1)) 3 (-1)) 3 p2))), (h12, .inl (zI g, 4, .inl (upd (fun _ => 0) 3 p3))), (h13, .inl (zJ g, 64, .inr (.inl (fun _ => 0))))] H := hP
            have hD : va_D A [(h0, .inr (1, [.ref h11, .ref h12, .ref h13])), (h11, .inl (zI g, 4, .inl (upd (upd (upd (upd (upd (fun _ => 0) 0 (-1)) 1 (-1)) 2 (-1)) 3 (-1)) 3 p2))), (h12, .inl (zI g, 4, .inl (upd (fun _ => 0) 3 p3))), (h13, .inl (zJ g, 64, .inr (.inl (fun _ => 0))))] := hD
            have hP9 := hP.sub (ws' := [(h0, .inr (1, [.ref h11, .ref h12, .ref h13]))]) [0] rfl
            have hD9 := hD.sub (ws' := [(h0, .inr (1, [.ref h11, .ref h12, .ref h13]))]) [0] (by decide) rfl
            exact W.vret hx hb hr (fun t ht hW => ⟨⟨0, rfl, Or.inr (Or.inr (Or.inr (Or.inr (Or.inr (Or.inr (Or.inr (Or.inr (Or.inl ⟨i_3, i_4, i_8, i_9, i_10, i_11, j_12⟩)))))))), by rw [ht]; exact hP9, hD9⟩, hS.F ht⟩) hS.2.2 dX1_lay_58
        · have i_11 : 16 < p3.toInt := z_nle (rfl) (rfl) c_11
          have hP9 := hP.sub (ws' := [(h0, .inr (1, [.ref h11, .ref h12, .ref h13]))]) [0] rfl
          have hD9 := hD.sub (ws' := [(h0, .inr (1, [.ref h11, .ref h12, .ref h13]))]) [0] (by decide) rfl
          exact W.vret hx hb hr (fun t ht hW => ⟨⟨0, rfl, Or.inr (Or.inr (Or.inr (Or.inr (Or.inr (Or.inr (Or.inr (Or.inr (Or.inr (⟨i_3, i_4, i_8, i_9, i_10, i_11⟩))))))))), by rw [ht]; exact hP9, hD9⟩, hS.F ht⟩) hS.2.2 dX1_lay_24
set_option maxHeartbeats 4000000 in
set_option maxRecDepth 100000 in
theorem kX4_sheet (l : Launch) (g : zG) (h0 h1 h2 h3 h4 h5 h6 h7 h8 h9 h10 h38 h39 h40 : Nat) (sz : Nat) (p1 : Int32) (p2 : Int32) (p3 : Int32) : Met l yX4_sheet (.code yX4_sheet cX4_sheet 4 (some .int) :: zBig) ({ frames := 3, cells := 0, slots := 0, locals := 70 }) (va_Pc [.ref h0, .int p1, .int p2, .int p3] (zPre g [(h0, .inr (4, [.ref h1, .ref h2, .int 0, .ref h3, .ref h4, .ref h5, .ref h6, .int (-1), .ref h7, .ref h8, .ref h9, .ref h10])), (h5, .inr (1, [.ref h38, .ref h39, .ref h40])), (h38, .inl (zI g, 4, .inl (upd (upd (upd (upd (fun _ => 0) 0 (-1)) 1 (-1)) 2 (-1)) 3 (-1)))), (h39, .inl (zI g, 4, .inl (fun _ => 0))), (h40, .inl (zJ g, 64, .inr (.inl (fun _ => 0))))] sz)) (va_Qi (fun (r : Int32) (_ : Nat) => (p1.toInt < 0 ∧ r = (-1)) ∨ (0 ≤ p1.toInt ∧ 4 ≤ p1.toInt ∧ r = (-1)) ∨ (0 ≤ p1.toInt ∧ p1.toInt < 4 ∧ p2.toInt < 0 ∧ r = (-1)) ∨ (0 ≤ p1.toInt ∧ p1.toInt < 4 ∧ 0 ≤ p2.toInt ∧ 3 ≤ p2.toInt ∧ r = (-1)) ∨ (0 ≤ p1.toInt ∧ p1.toInt < 4 ∧ 0 ≤ p2.toInt ∧ p2.toInt < 3 ∧ p3.toInt ≤ 16 ∧ 0 ≤ p3.toInt ∧ 0 ≤ p1.toInt ∧ p1.toInt < 4 ∧ 0 ≤ p2.toInt ∧ p2.toInt < 3 ∧ 0 ≤ p3.toInt ∧ p3.toInt ≤ 16 ∧ p1.toInt = 0 ∧ r = p3) ∨ (0 ≤ p1.toInt ∧ p1.toInt < 4 ∧ 0 ≤ p2.toInt ∧ p2.toInt < 3 ∧ p3.toInt ≤ 16 ∧ 0 ≤ p3.toInt ∧ 0 ≤ p1.toInt ∧ p1.toInt < 4 ∧ 0 ≤ p2.toInt ∧ p2.toInt < 3 ∧ 0 ≤ p3.toInt ∧ p3.toInt ≤ 16 ∧ p1.toInt = 1 ∧ r = p3) ∨ (0 ≤ p1.toInt ∧ p1.toInt < 4 ∧ 0 ≤ p2.toInt ∧ p2.toInt < 3 ∧ p3.toInt ≤ 16 ∧ 0 ≤ p3.toInt ∧ 0 ≤ p1.toInt ∧ p1.toInt < 4 ∧ 0 ≤ p2.toInt ∧ p2.toInt < 3 ∧ 0 ≤ p3.toInt ∧ p3.toInt ≤ 16 ∧ p1.toInt = 2 ∧ r = p3) ∨ (0 ≤ p1.toInt ∧ p1.toInt < 4 ∧ 0 ≤ p2.toInt ∧ p2.toInt < 3 ∧ p3.toInt ≤ 16 ∧ 0 ≤ p3.toInt ∧ 0 ≤ p1.toInt ∧ p1.toInt < 4 ∧ 0 ≤ p2.toInt ∧ p2.toInt < 3 ∧ 0 ≤ p3.toInt ∧ p3.toInt ≤ 16 ∧ p1.toInt = 3 ∧ r = p3) ∨ (0 ≤ p1.toInt ∧ p1.toInt < 4 ∧ 0 ≤ p2.toInt ∧ p2.toInt < 3 ∧ p3.toInt ≤ 16 ∧ p3.toInt < 0 ∧ r = (-14)) ∨ (0 ≤ p1.toInt ∧ p1.toInt < 4 ∧ 0 ≤ p2.toInt ∧ p2.toInt < 3 ∧ 16 < p3.toInt ∧ r = (-1))) (zPost g (fun _ : Nat => []) (va_A [(h0, .inr (4, [.ref h1, .ref h2, .int 0, .ref h3, .ref h4, .ref h5, .ref h6, .int (-1), .ref h7, .ref h8, .ref h9, .ref h10])), (h5, .inr (1, [.ref h38, .ref h39, .ref h40])), (h38, .inl (zI g, 4, .inl (upd (upd (upd (upd (fun _ => 0) 0 (-1)) 1 (-1)) 2 (-1)) 3 (-1)))), (h39, .inl (zI g, 4, .inl (fun _ => 0))), (h40, .inl (zJ g, 64, .inr (.inl (fun _ => 0))))] sz)) (va_A [(h0, .inr (4, [.ref h1, .ref h2, .int 0, .ref h3, .ref h4, .ref h5, .ref h6, .int (-1), .ref h7, .ref h8, .ref h9, .ref h10])), (h5, .inr (1, [.ref h38, .ref h39, .ref h40])), (h38, .inl (zI g, 4, .inl (upd (upd (upd (upd (fun _ => 0) 0 (-1)) 1 (-1)) 2 (-1)) 3 (-1)))), (h39, .inl (zI g, 4, .inl (fun _ => 0))), (h40, .inl (zJ g, 64, .inr (.inl (fun _ => 0))))] sz)) 0 0 (va_A [(h0, .inr (4, [.ref h1, .ref h2, .int 0, .ref h3, .ref h4, .ref h5, .ref h6, .int (-1), .ref h7, .ref h8, .ref h9, .ref h10])), (h5, .inr (1, [.ref h38, .ref h39, .ref h40])), (h38, .inl (zI g, 4, .inl (upd (upd (upd (upd (fun _ => 0) 0 (-1)) 1 (-1)) 2 (-1)) 3 (-1)))), (h39, .inl (zI g, 4, .inl (fun _ => 0))), (h40, .inl (zJ g, 64, .inr (.inl (fun _ => 0))))] sz) := by
  refine zMetI rfl (Nat.le_of_ble_eq_true rfl) ?_
  intro p e s m args below meth c A ls hx hb hml hr hlocks hin hown hts hK hN hZ hP hD hA hS hAe hl
  have hown : s.vm.findClass RX4 = some m.cls := hown
  have hl : lv_has ls 4 [(0, .ref h0), (1, .int p1), (2, .int p2), (3, .int p3)] := hl
  refine lv_iload_n hx hb dX4_sheet_0 rfl (lv_at hl 1 rfl) ?_
  refine z_calli (wr := [(h0, .inr (4, [.ref h1, .ref h2, .int 0, .ref h3, .ref h4, .ref h5, .ref h6, .int (-1), .ref h7, .ref h8, .ref h9, .ref h10])), (h5, .inr (1, [.ref h38, .ref h39, .ref h40])), (h38, .inl (zI g, 4, .inl (upd (upd (upd (upd (fun _ => 0) 0 (-1)) 1 (-1)) 2 (-1)) 3 (-1)))), (h39, .inl (zI g, 4, .inl (fun _ => 0))), (h40, .inl (zJ g, 64, .inr (.inl (fun _ => 0))))]) hP hD hS hA [] [0, 1, 2, 3, 4] (by decide) rfl rfl (by decide) (va_runS (As := [.int p1]) (rest := []) ⟨hx, hb, hml, hown, hts⟩ (kX4_isSheet_5 l g  s.heap.size p1) ⟨callB_of 1 hts (zGood m_o_yX4_isSheet) rfl rfl rfl (hts _ m_z_RX4) (hts _ m_m_RX4_221) ⟨by decide +kernel, by decide +kernel, by decide +kernel⟩ ⟨Nat.le_of_ble_eq_true rfl, Nat.le_of_ble_eq_true rfl⟩, hts _ m_s_yX4_isSheet⟩ (zPreS hK hN hZ hP hD hS hA [] (by decide) rfl rfl) rfl rfl hl.1 rfl (lv_room (Nat.le_of_ble_eq_true rfl)) dX4_sheet_1 ⟨Nat.le_of_ble_eq_true rfl, Nat.le_of_ble_eq_true rfl⟩) (fun r u H locs hw hP hD hS => ?_)
  rcases hw with ⟨i_0, rfl⟩ | ⟨i_1, i_2, rfl⟩ | ⟨i_3, i_4, rfl⟩
  · skip
    have i_0 : p1.toInt < 0 := i_0
    have hP : va_P g.1 vwCl [(h0, .inr (4, [.ref h1, .ref h2, .int 0, .ref h3, .ref h4, .ref h5, .ref h6, .int (-1), .ref h7, .ref h8, .ref h9, .ref h10])), (h5, .inr (1, [.ref h38, .ref h39, .ref h40])), (h38, .inl (zI g, 4, .inl (upd (upd (upd (upd (fun _ => 0) 0 (-1)) 1 (-1)) 2 (-1)) 3 (-1)))), (h39, .inl (zI g, 4, .inl (fun _ => 0))), (h40, .inl (zJ g, 64, .inr (.inl (fun _ => 0))))] H := hP
    have hD : va_D A [(h0, .inr (4, [.ref h1, .ref h2, .int 0, .ref h3, .ref h4, .ref h5, .ref h6, .int (-1), .ref h7, .ref h8, .ref h9, .ref h10])), (h5, .inr (1, [.ref h38, .ref h39, .ref h40])), (h38, .inl (zI g, 4, .inl (upd (upd (upd (upd (fun _ => 0) 0 (-1)) 1 (-1)) 2 (-1)) 3 (-1)))), (h39, .inl (zI g, 4, .inl (fun _ => 0))), (h40, .inl (zJ g, 64, .inr (.inl (fun _ => 0))))] := hD
    refine lv_if_eq (tgt := 20) hx hb dX4_sheet_4 (by decide) (fun _ => ?_) (fun h => absurd h (by decide +kernel))
    refine lv_iconst (v := (-1)) hx hb dX4_sheet_20 (by decide) ?_
    have hP9 := hP.sub (ws' := []) [] rfl
    have hD9 := hD.sub (ws' := []) [] (by decide) rfl
    exact W.iret (v := (-1)) hx hb hr (fun t ht hW => ⟨⟨(-1), 0, rfl, Or.inl ⟨i_0, rfl⟩, by rw [ht]; exact hP9, hD9⟩, hS.F ht⟩) hS.2.2 dX4_sheet_21
  · skip
    have i_1 : 0 ≤ p1.toInt := i_1
    have i_2 : 4 ≤ p1.toInt := i_2
    have hP : va_P g.1 vwCl [(h0, .inr (4, [.ref h1, .ref h2, .int 0, .ref h3, .ref h4, .ref h5, .ref h6, .int (-1), .ref h7, .ref h8, .ref h9, .ref h10])), (h5, .inr (1, [.ref h38, .ref h39, .ref h40])), (h38, .inl (zI g, 4, .inl (upd (upd (upd (upd (fun _ => 0) 0 (-1)) 1 (-1)) 2 (-1)) 3 (-1)))), (h39, .inl (zI g, 4, .inl (fun _ => 0))), (h40, .inl (zJ g, 64, .inr (.inl (fun _ => 0))))] H := hP
    have hD : va_D A [(h0, .inr (4, [.ref h1, .ref h2, .int 0, .ref h3, .ref h4, .ref h5, .ref h6, .int (-1), .ref h7, .ref h8, .ref h9, .ref h10])), (h5, .inr (1, [.ref h38, .ref h39, .ref h40])), (h38, .inl (zI g, 4, .inl (upd (upd (upd (upd (fun _ => 0) 0 (-1)) 1 (-1)) 2 (-1)) 3 (-1)))), (h39, .inl (zI g, 4, .inl (fun _ => 0))), (h40, .inl (zJ g, 64, .inr (.inl (fun _ => 0))))] := hD
    refine lv_if_eq (tgt := 20) hx hb dX4_sheet_4 (by decide) (fun _ => ?_) (fun h => absurd h (by decide +kernel))
    refine lv_iconst (v := (-1)) hx hb dX4_sheet_20 (by decide) ?_
    have hP9 := hP.sub (ws' := []) [] rfl
    have hD9 := hD.sub (ws' := []) [] (by decide) rfl
    exact W.iret (v := (-1)) hx hb hr (fun t ht hW => ⟨⟨(-1), 0, rfl, Or.inr (Or.inl ⟨i_1, i_2, rfl⟩), by rw [ht]; exact hP9, hD9⟩, hS.F ht⟩) hS.2.2 dX4_sheet_21
  · skip
    have i_3 : 0 ≤ p1.toInt := i_3
    have i_4 : p1.toInt < 4 := i_4
    have hP : va_P g.1 vwCl [(h0, .inr (4, [.ref h1, .ref h2, .int 0, .ref h3, .ref h4, .ref h5, .ref h6, .int (-1), .ref h7, .ref h8, .ref h9, .ref h10])), (h5, .inr (1, [.ref h38, .ref h39, .ref h40])), (h38, .inl (zI g, 4, .inl (upd (upd (upd (upd (fun _ => 0) 0 (-1)) 1 (-1)) 2 (-1)) 3 (-1)))), (h39, .inl (zI g, 4, .inl (fun _ => 0))), (h40, .inl (zJ g, 64, .inr (.inl (fun _ => 0))))] H := hP
    have hD : va_D A [(h0, .inr (4, [.ref h1, .ref h2, .int 0, .ref h3, .ref h4, .ref h5, .ref h6, .int (-1), .ref h7, .ref h8, .ref h9, .ref h10])), (h5, .inr (1, [.ref h38, .ref h39, .ref h40])), (h38, .inl (zI g, 4, .inl (upd (upd (upd (upd (fun _ => 0) 0 (-1)) 1 (-1)) 2 (-1)) 3 (-1)))), (h39, .inl (zI g, 4, .inl (fun _ => 0))), (h40, .inl (zJ g, 64, .inr (.inl (fun _ => 0))))] := hD
    refine lv_if_eq (tgt := 20) hx hb dX4_sheet_4 (by decide) (fun h => absurd h (by decide +kernel)) (fun _ => ?_)
    refine lv_iload_n hx hb dX4_sheet_7 rfl (lv_at hl 2 rfl) ?_
    refine z_calli (wr := [(h0, .inr (4, [.ref h1, .ref h2, .int 0, .ref h3, .ref h4, .ref h5, .ref h6, .int (-1), .ref h7, .ref h8, .ref h9, .ref h10])), (h5, .inr (1, [.ref h38, .ref h39, .ref h40])), (h38, .inl (zI g, 4, .inl (upd (upd (upd (upd (fun _ => 0) 0 (-1)) 1 (-1)) 2 (-1)) 3 (-1)))), (h39, .inl (zI g, 4, .inl (fun _ => 0))), (h40, .inl (zJ g, 64, .inr (.inl (fun _ => 0))))]) hP hD hS hA [] [0, 1, 2, 3, 4] (by decide) rfl rfl (by decide) (va_runS (As := [.int p2]) (rest := []) ⟨hx, hb, hml, hown, hts⟩ (kX4_isLane_5 l g  H.size p2) ⟨callB_of 1 hts (zGood m_o_yX4_isLane) rfl rfl rfl (hts _ m_z_RX4) (hts _ m_m_RX4_224) ⟨by decide +kernel, by decide +kernel, by decide +kernel⟩ ⟨Nat.le_of_ble_eq_true rfl, Nat.le_of_ble_eq_true rfl⟩, hts _ m_s_yX4_isLane⟩ (zPreS hK hN hZ hP hD hS hA [] (by decide) rfl rfl) rfl rfl hl.1 rfl (lv_room (Nat.le_of_ble_eq_true rfl)) dX4_sheet_8 ⟨Nat.le_of_ble_eq_true rfl, Nat.le_of_ble_eq_true rfl⟩) (fun r u H locs hw hP hD hS => ?_)
    rcases hw with ⟨i_5, rfl⟩ | ⟨i_6, i_7, rfl⟩ | ⟨i_8, i_9, rfl⟩
    · skip
      have i_5 : p2.toInt < 0 := i_5
      have hP : va_P g.1 vwCl [(h0, .inr (4, [.ref h1, .ref h2, .int 0, .ref h3, .ref h4, .ref h5, .ref h6, .int (-1), .ref h7, .ref h8, .ref h9, .ref h10])), (h5, .inr (1, [.ref h38, .ref h39, .ref h40])), (h38, .inl (zI g, 4, .inl (upd (upd (upd (upd (fun _ => 0) 0 (-1)) 1 (-1)) 2 (-1)) 3 (-1)))), (h39, .inl (zI g, 4, .inl (fun _ => 0))), (h40, .inl (zJ g, 64, .inr (.inl (fun _ => 0))))] H := hP
      have hD : va_D A [(h0, .inr (4, [.ref h1, .ref h2, .int 0, .ref h3, .ref h4, .ref h5, .ref h6, .int (-1), .ref h7, .ref h8, .ref h9, .ref h10])), (h5, .inr (1, [.ref h38, .ref h39, .ref h40])), (h38, .inl (zI g, 4, .inl (upd (upd (upd (upd (fun _ => 0) 0 (-1)) 1 (-1)) 2 (-1)) 3 (-1)))), (h39, .inl (zI g, 4, .inl (fun _ => 0))), (h40, .inl (zJ g, 64, .inr (.inl (fun _ => 0))))] := hD
      refine lv_if_eq (tgt := 20) hx hb dX4_sheet_11 (by decide) (fun _ => ?_) (fun h => absurd h (by decide +kernel))
      refine lv_iconst (v := (-1)) hx hb dX4_sheet_20 (by decide) ?_
      have hP9 := hP.sub (ws' := []) [] rfl
      have hD9 := hD.sub (ws' := []) [] (by decide) rfl
      exact W.iret (v := (-1)) hx hb hr (fun t ht hW => ⟨⟨(-1), 0, rfl, Or.inr (Or.inr (Or.inl ⟨i_3, i_4, i_5, rfl⟩)), by rw [ht]; exact hP9, hD9⟩, hS.F ht⟩) hS.2.2 dX4_sheet_21
    · skip
      have i_6 : 0 ≤ p2.toInt := i_6
      have i_7 : 3 ≤ p2.toInt := i_7
      have hP : va_P g.1 vwCl [(h0, .inr (4, [.ref h1, .ref h2, .int 0, .ref h3, .ref h4, .ref h5, .ref h6, .int (-1), .ref h7, .ref h8, .ref h9, .ref h10])), (h5, .inr (1, [.ref h38, .ref h39, .ref h40])), (h38, .inl (zI g, 4, .inl (upd (upd (upd (upd (fun _ => 0) 0 (-1)) 1 (-1)) 2 (-1)) 3 (-1)))), (h39, .inl (zI g, 4, .inl (fun _ => 0))), (h40, .inl (zJ g, 64, .inr (.inl (fun _ => 0))))] H := hP
      have hD : va_D A [(h0, .inr (4, [.ref h1, .ref h2, .int 0, .ref h3, .ref h4, .ref h5, .ref h6, .int (-1), .ref h7, .ref h8, .ref h9, .ref h10])), (h5, .inr (1, [.ref h38, .ref h39, .ref h40])), (h38, .inl (zI g, 4, .inl (upd (upd (upd (upd (fun _ => 0) 0 (-1)) 1 (-1)) 2 (-1)) 3 (-1)))), (h39, .inl (zI g, 4, .inl (fun _ => 0))), (h40, .inl (zJ g, 64, .inr (.inl (fun _ => 0))))] := hD
      refine lv_if_eq (tgt := 20) hx hb dX4_sheet_11 (by decide) (fun _ => ?_) (fun h => absurd h (by decide +kernel))
      refine lv_iconst (v := (-1)) hx hb dX4_sheet_20 (by decide) ?_
      have hP9 := hP.sub (ws' := []) [] rfl
      have hD9 := hD.sub (ws' := []) [] (by decide) rfl
      exact W.iret (v := (-1)) hx hb hr (fun t ht hW => ⟨⟨(-1), 0, rfl, Or.inr (Or.inr (Or.inr (Or.inl ⟨i_3, i_4, i_6, i_7, rfl⟩))), by rw [ht]; exact hP9, hD9⟩, hS.F ht⟩) hS.2.2 dX4_sheet_21
    · skip
      have i_8 : 0 ≤ p2.toInt := i_8
      have i_9 : p2.toInt < 3 := i_9
      have hP : va_P g.1 vwCl [(h0, .inr (4, [.ref h1, .ref h2, .int 0, .ref h3, .ref h4, .ref h5, .ref h6, .int (-1), .ref h7, .ref h8, .ref h9, .ref h10])), (h5, .inr (1, [.ref h38, .ref h39, .ref h40])), (h38, .inl (zI g, 4, .inl (upd (upd (upd (upd (fun _ => 0) 0 (-1)) 1 (-1)) 2 (-1)) 3 (-1)))), (h39, .inl (zI g, 4, .inl (fun _ => 0))), (h40, .inl (zJ g, 64, .inr (.inl (fun _ => 0))))] H := hP
      have hD : va_D A [(h0, .inr (4, [.ref h1, .ref h2, .int 0, .ref h3, .ref h4, .ref h5, .ref h6, .int (-1), .ref h7, .ref h8, .ref h9, .ref h10])), (h5, .inr (1, [.ref h38, .ref h39, .ref h40])), (h38, .inl (zI g, 4, .inl (upd (upd (upd (upd (fun _ => 0) 0 (-1)) 1 (-1)) 2 (-1)) 3 (-1)))), (h39, .inl (zI g, 4, .inl (fun _ => 0))), (h40, .inl (zJ g, 64, .inr (.inl (fun _ => 0))))] := hD
      refine lv_if_eq (tgt := 20) hx hb dX4_sheet_11 (by decide) (fun h => absurd h (by decide +kernel)) (fun _ => ?_)
      refine lv_iload_n hx hb dX4_sheet_14 rfl (lv_at hl 3 rfl) ?_
      refine lv_bipush (v := 16) hx hb dX4_sheet_15 (by decide) ?_
      refine lv_icmp_le (tgt := 22) hx hb dX4_sheet_17 (by decide) (fun c_10 => ?_) (fun c_10 => ?_)
      · have i_10 : p3.toInt ≤ 16 := z_le (rfl) (rfl) c_10
        refine lv_iload_n hx hb dX4_sheet_22 rfl (lv_at hl 3 rfl) ?_
        refine lv_if_ge (tgt := 29) hx hb dX4_sheet_23 (by decide) (fun c_11 => ?_) (fun c_11 => ?_)
        · have i_11 : 0 ≤ p3.toInt := z_le (rfl) (rfl) c_11
          refine lv_aload_n hx hb dX4_sheet_29 rfl (lv_at hl 0 rfl) ?_
          refine va_get (D := g.1) (ci := 4) (v := .ref h5) (C := RX4) (T := TX4) (N := 12) hx hb hts zl_X4 hown hK hP 0 rfl rfl 5 (by decide) (hts _ m_f_RX4_40) (fun _ h => h) rfl dX4_sheet_30 ?_
          refine lv_iload_n hx hb dX4_sheet_33 rfl (lv_at hl 1 rfl) ?_
          refine lv_iload_n hx hb dX4_sheet_34 rfl (lv_at hl 2 rfl) ?_
          refine lv_iload_n hx hb dX4_sheet_35 rfl (lv_at hl 3 rfl) ?_
          refine z_callv (wr := [(h0, .inr (4, [.ref h1, .ref h2, .int 0, .ref h3, .ref h4, .ref h5, .ref h6, .int (-1), .ref h7, .ref h8, .ref h9, .ref h10]))]) hP hD hS hA [1, 2, 3, 4] [0] (by decide) rfl rfl (by decide) (va_runVN (As := [.int p1, .int p2, .int p3]) (rest := []) ⟨hx, hb, hml, hown, hts⟩ (kX1_lay_2 l g h5 h38 h39 h40 H.size p1 p2 p3) ⟨va_cnB 3 hts (zGood m_o_yX1_lay) rfl rfl rfl (hN.m 33 (q := (RX4, 227, yX1_lay)) rfl) (hts _ m_z_RX1) ⟨by decide +kernel, by decide +kernel, by decide +kernel⟩ ⟨Nat.le_of_ble_eq_true rfl, Nat.le_of_ble_eq_true rfl⟩, hts _ m_i_yX1_lay, hts _ m_e_yX1_lay⟩ (zPreV hK hN hZ hP hD hS hA [1, 2, 3, 4] (by decide) rfl rfl 1 1 rfl rfl) rfl rfl hl.1 rfl (lv_room (Nat.le_of_ble_eq_true rfl)) dX4_sheet_36 ⟨Nat.le_of_ble_eq_true rfl, Nat.le_of_ble_eq_true rfl⟩) (fun u H locs hw hP hD hS => ?_)
          rcases hw with i_12 | ⟨i_13, i_14⟩ | ⟨i_15, i_16, i_17⟩ | ⟨i_18, i_19, i_20, i_21⟩ | ⟨i_22, i_23, i_24, i_25, i_26⟩ | ⟨i_27, i_28, i_29, i_30, i_31, i_32, i_33⟩ | ⟨i_34, i_35, i_36, i_37, i_38, i_39, i_40⟩ | ⟨i_41, i_42, i_43, i_44, i_45, i_46, i_47⟩ | ⟨i_48, i_49, i_50, i_51, i_52, i_53, i_54⟩ | ⟨i_55, i_56, i_57, i_58, i_59, i_60⟩
          · exfalso; omega
          · exfalso; omega
          · exfalso; omega
          · exfalso; omega
          · exfalso; omega
          · skip
            have i_27 : 0 ≤ p1.toInt := i_27
            have i_28 : p1.toInt < 4 := i_28
            have i_29 : 0 ≤ p2.toInt := i_29
            have i_30 : p2.toInt < 3 := i_30
            have i_31 : 0 ≤ p3.toInt := i_31
            have i_32 : p3.toInt ≤ 16 := i_32
            have i_33 : p1.toInt = 0 := i_33
            have hP : va_P g.1 vwCl [(h0, .inr (4, [.ref h1, .ref h2, .int 0, .ref h3, .ref h4, .ref h5, .ref h6, .int (-1), .ref h7, .ref h8, .ref h9, .ref h10])), (h5, .inr (1, [.ref h38, .ref h39, .ref h40]))] H := hP
            have hD : va_D A [(h0, .inr (4, [.ref h1, .ref h2, .int 0, .ref h3, .ref h4, .ref h5, .ref h6, .int (-1), .ref h7, .ref h8, .ref h9, .ref h10])), (h5, .inr (1, [.ref h38, .ref h39, .ref h40]))] := hD
            refine lv_iload_n hx hb dX4_sheet_39 rfl (lv_at hl 3 rfl) ?_
            have hP9 := hP.sub (ws' := []) [] rfl
            have hD9 := hD.sub (ws' := []) [] (by decide) rfl
            exact W.iret (v := p3) hx hb hr (fun t ht hW => ⟨⟨p3, 0, rfl, Or.inr (Or.inr (Or.inr (Or.inr (Or.inl ⟨i_3, i_4, i_8, i_9, i_10, i_11, i_27, i_28, i_29, i_30, i_31, i_32, i_33, rfl⟩)))), by rw [ht]; exact hP9, hD9⟩, hS.F ht⟩) hS.2.2 dX4_sheet_40
          · skip
            have i_34 : 0 ≤ p1.toInt := i_34
            have i_35 : p1.toInt < 4 := i_35
            have i_36 : 0 ≤ p2.toInt := i_36
            have i_37 : p2.toInt < 3 := i_37
            have i_38 : 0 ≤ p3.toInt := i_38
            have i_39 : p3.toInt ≤ 16 := i_39
            have i_40 : p1.toInt = 1 := i_40
            have hP : va_P g.1 vwCl [(h0, .inr (4, [.ref h1, .ref h2, .int 0, .ref h3, .ref h4, .ref h5, .ref h6, .int (-1), .ref h7, .ref h8, .ref h9, .ref h10])), (h5, .inr (1, [.ref h38, .ref h39, .ref h40]))] H := hP
            have hD : va_D A [(h0, .inr (4, [.ref h1, .ref h2, .int 0, .ref h3, .ref h4, .ref h5, .ref h6, .int (-1), .ref h7, .ref h8, .ref h9, .ref h10])), (h5, .inr (1, [.ref h38, .ref h39, .ref h40]))] := hD
            refine lv_iload_n hx hb dX4_sheet_39 rfl (lv_at hl 3 rfl) ?_
            have hP9 := hP.sub (ws' := []) [] rfl
            have hD9 := hD.sub (ws' := []) [] (by decide) rfl
            exact W.iret (v := p3) hx hb hr (fun t ht hW => ⟨⟨p3, 0, rfl, Or.inr (Or.inr (Or.inr (Or.inr (Or.inr (Or.inl ⟨i_3, i_4, i_8, i_9, i_10, i_11, i_34, i_35, i_36, i_37, i_38, i_39, i_40, rfl⟩))))), by rw [ht]; exact hP9, hD9⟩, hS.F ht⟩) hS.2.2 dX4_sheet_40
          · skip
            have i_41 : 0 ≤ p1.toInt := i_41
            have i_42 : p1.toInt < 4 := i_42
            have i_43 : 0 ≤ p2.toInt := i_43
            have i_44 : p2.toInt < 3 := i_44
            have i_45 : 0 ≤ p3.toInt := i_45
            have i_46 : p3.toInt ≤ 16 := i_46
            have i_47 : p1.toInt = 2 := i_47
            have hP : va_P g.1 vwCl [(h0, .inr (4, [.ref h1, .ref h2, .int 0, .ref h3, .ref h4, .ref h5, .ref h6, .int (-1), .ref h7, .ref h8, .ref h9, .ref h10])), (h5, .inr (1, [.ref h38, .ref h39, .ref h40]))] H := hP
            have hD : va_D A [(h0, .inr (4, [.ref h1, .ref h2, .int 0, .ref h3, .ref h4, .ref h5, .ref h6, .int (-1), .ref h7, .ref h8, .ref h9, .ref h10])), (h5, .inr (1, [.ref h38, .ref h39, .ref h40]))] := hD
            refine lv_iload_n hx hb dX4_sheet_39 rfl (lv_at hl 3 rfl) ?_
            have hP9 := hP.sub (ws' := []) [] rfl
            have hD9 := hD.sub (ws' := []) [] (by decide) rfl
            exact W.iret (v := p3) hx hb hr (fun t ht hW => ⟨⟨p3, 0, rfl, Or.inr (Or.inr (Or.inr (Or.inr (Or.inr (Or.inr (Or.inl ⟨i_3, i_4, i_8, i_9, i_10, i_11, i_41, i_42, i_43, i_44, i_45, i_46, i_47, rfl⟩)))))), by rw [ht]; exact hP9, hD9⟩, hS.F ht⟩) hS.2.2 dX4_sheet_40
          · skip
            have i_48 : 0 ≤ p1.toInt := i_48
            have i_49 : p1.toInt < 4 := i_49
            have i_50 : 0 ≤ p2.toInt := i_50
            have i_51 : p2.toInt < 3 := i_51
            have i_52 : 0 ≤ p3.toInt := i_52
            have i_53 : p3.toInt ≤ 16 := i_53
            have i_54 : p1.toInt = 3 := i_54
            have hP : va_P g.1 vwCl [(h0, .inr (4, [.ref h1, .ref h2, .int 0, .ref h3, .ref h4, .ref h5, .ref h6, .int (-1), .ref h7, .ref h8, .ref h9, .ref h10])), (h5, .inr (1, [.ref h38, .ref h39, .ref h40]))] H := hP
            have hD : va_D A [(h0, .inr (4, [.ref h1, .ref h2, .int 0, .ref h3, .ref h4, .ref h5, .ref h6, .int (-1), .ref h7, .ref h8, .ref h9, .ref h10])), (h5, .inr (1, [.ref h38, .ref h39, .ref h40]))] := hD
            refine lv_iload_n hx hb dX4_sheet_39 rfl (lv_at hl 3 rfl) ?_
            have hP9 := hP.sub (ws' := []) [] rfl
            have hD9 := hD.sub (ws' := []) [] (by decide) rfl
            exact W.iret (v := p3) hx hb hr (fun t ht hW => ⟨⟨p3, 0, rfl, Or.inr (Or.inr (Or.inr (Or.inr (Or.inr (Or.inr (Or.inr (Or.inl ⟨i_3, i_4, i_8, i_9, i_10, i_11, i_48, i_49, i_50, i_51, i_52, i_53, i_54, rfl⟩))))))), by rw [ht]; exact hP9, hD9⟩, hS.F ht⟩) hS.2.2 dX4_sheet_40
          · exfalso; omega
        · have i_11 : p3.toInt < 0 := z_nle (rfl) (rfl) c_11
          refine lv_bipush (v := (-14)) hx hb dX4_sheet_26 (by decide) ?_
          have hP9 := hP.sub (ws' := []) [] rfl
          have hD9 := hD.sub (ws' := []) [] (by decide) rfl
          exact W.iret (v := (-14)) hx hb hr (fun t ht hW => ⟨⟨(-14), 0, rfl, Or.inr (Or.inr (Or.inr (Or.inr (Or.inr (Or.inr (Or.inr (Or.inr (Or.inl ⟨i_3, i_4, i_8, i_9, i_10, i_11, rfl⟩)))))))), by rw [ht]; exact hP9, hD9⟩, hS.F ht⟩) hS.2.2 dX4_sheet_28
      · have i_10 : 16 < p3.toInt := z_nle (rfl) (rfl) c_10
        refine lv_iconst (v := (-1)) hx hb dX4_sheet_20 (by decide) ?_
        have hP9 := hP.sub (ws' := []) [] rfl
        have hD9 := hD.sub (ws' := []) [] (by decide) rfl
        exact W.iret (v := (-1)) hx hb hr (fun t ht hW => ⟨⟨(-1), 0, rfl, Or.inr (Or.inr (Or.inr (Or.inr (Or.inr (Or.inr (Or.inr (Or.inr (Or.inr (⟨i_3, i_4, i_8, i_9, i_10, rfl⟩))))))))), by rw [ht]; exact hP9, hD9⟩, hS.F ht⟩) hS.2.2 dX4_sheet_21
set_option maxHeartbeats 4000000 in
set_option maxRecDepth 100000 in
theorem kX4_isSheet_6 (l : Launch) (g : zG) (sz : Nat) (p0 : Int32) : Met l yX4_isSheet (.code yX4_isSheet cX4_isSheet 1 (some .boolean) :: zBig) ({ frames := 0, cells := 0, slots := 0, locals := 0 }) (va_Pc [.int p0] (zPre g [] sz)) (va_Qi (fun (r : Int32) (_ : Nat) => (p0.toInt < 0 ∧ r = 0) ∨ (0 ≤ p0.toInt ∧ 4 ≤ p0.toInt ∧ r = 0) ∨ (0 ≤ p0.toInt ∧ p0.toInt < 4 ∧ r = 1)) (zPost g (fun _ : Nat => []) (va_A [] sz)) (va_A [] sz)) 0 0 (va_A [] sz) := by
  refine zMetI rfl (Nat.le_of_ble_eq_true rfl) ?_
  intro p e s m args below meth c A ls hx hb hml hr hlocks hin hown hts hK hN hZ hP hD hA hS hAe hl
  have hown : s.vm.findClass RX4 = some m.cls := hown
  have hl : lv_has ls 1 [(0, .int p0)] := hl
  refine lv_iload_n hx hb dX4_isSheet_0 rfl (lv_at hl 0 rfl) ?_
  refine lv_if_lt (tgt := 13) hx hb dX4_isSheet_1 (by decide) (fun c_0 => ?_) (fun c_0 => ?_)
  · have i_0 : p0.toInt < 0 := z_lt (rfl) (rfl) c_0
    refine lv_iconst (v := 0) hx hb dX4_isSheet_13 (by decide) ?_
    have hP9 := hP.sub (ws' := []) [] rfl
    have hD9 := hD.sub (ws' := []) [] (by decide) rfl
    exact W.zret (v := 0) hx hb hr (by decide) (fun t ht hW => ⟨⟨0, 0, rfl, Or.inl ⟨i_0, rfl⟩, by rw [ht]; exact hP9, hD9⟩, hS.F ht⟩) hS.2.2 dX4_isSheet_14
  · have i_0 : 0 ≤ p0.toInt := z_nlt (rfl) (rfl) c_0
    refine lv_iload_n hx hb dX4_isSheet_4 rfl (lv_at hl 0 rfl) ?_
    refine lv_iconst (v := 4) hx hb dX4_isSheet_5 (by decide) ?_
    refine lv_icmp_ge (tgt := 13) hx hb dX4_isSheet_6 (by decide) (fun c_1 => ?_) (fun c_1 => ?_)
    · have i_1 : 4 ≤ p0.toInt := z_le (rfl) (rfl) c_1
      refine lv_iconst (v := 0) hx hb dX4_isSheet_13 (by decide) ?_
      have hP9 := hP.sub (ws' := []) [] rfl
      have hD9 := hD.sub (ws' := []) [] (by decide) rfl
      exact W.zret (v := 0) hx hb hr (by decide) (fun t ht hW => ⟨⟨0, 0, rfl, Or.inr (Or.inl ⟨i_0, i_1, rfl⟩), by rw [ht]; exact hP9, hD9⟩, hS.F ht⟩) hS.2.2 dX4_isSheet_14
    · have i_1 : p0.toInt < 4 := z_nle (rfl) (rfl) c_1
      refine lv_iconst (v := 1) hx hb dX4_isSheet_9 (by decide) ?_
      refine lv_goto (tgt := 14) hx hb dX4_isSheet_10 (by decide) ?_
      have hP9 := hP.sub (ws' := []) [] rfl
      have hD9 := hD.sub (ws' := []) [] (by decide) rfl
      exact W.zret (v := 1) hx hb hr (by decide) (fun t ht hW => ⟨⟨1, 0, rfl, Or.inr (Or.inr (⟨i_0, i_1, rfl⟩)), by rw [ht]; exact hP9, hD9⟩, hS.F ht⟩) hS.2.2 dX4_isSheet_14
set_option maxHeartbeats 4000000 in
set_option maxRecDepth 100000 in
theorem kX4_drop (l : Launch) (g : zG) (h0 h1 h2 h3 h4 h5 h6 h7 h8 h9 h10 h38 h39 h40 : Nat) (sz : Nat) (p1 : Int32) : Met l yX4_drop (.code yX4_drop cX4_drop 2 (some .int) :: zBig) ({ frames := 1, cells := 0, slots := 0, locals := 20 }) (va_Pc [.ref h0, .int p1] (zPre g [(h0, .inr (4, [.ref h1, .ref h2, .int 0, .ref h3, .ref h4, .ref h5, .ref h6, .int (-1), .ref h7, .ref h8, .ref h9, .ref h10])), (h5, .inr (1, [.ref h38, .ref h39, .ref h40])), (h38, .inl (zI g, 4, .inl (upd (upd (upd (upd (fun _ => 0) 0 (-1)) 1 (-1)) 2 (-1)) 3 (-1))))] sz)) (va_Qi (fun (r : Int32) (_ : Nat) => (p1.toInt < 0 ∧ r = (-1)) ∨ (0 ≤ p1.toInt ∧ 4 ≤ p1.toInt ∧ r = (-1)) ∨ (0 ≤ p1.toInt ∧ p1.toInt < 4 ∧ p1.toInt = 0 ∧ r = (-11)) ∨ (0 ≤ p1.toInt ∧ p1.toInt < 4 ∧ p1.toInt = 1 ∧ r = (-11)) ∨ (0 ≤ p1.toInt ∧ p1.toInt < 4 ∧ p1.toInt = 2 ∧ r = (-11)) ∨ (0 ≤ p1.toInt ∧ p1.toInt < 4 ∧ p1.toInt = 3 ∧ r = (-11))) (zPost g (fun _ : Nat => []) (va_A [(h0, .inr (4, [.ref h1, .ref h2, .int 0, .ref h3, .ref h4, .ref h5, .ref h6, .int (-1), .ref h7, .ref h8, .ref h9, .ref h10])), (h5, .inr (1, [.ref h38, .ref h39, .ref h40])), (h38, .inl (zI g, 4, .inl (upd (upd (upd (upd (fun _ => 0) 0 (-1)) 1 (-1)) 2 (-1)) 3 (-1))))] sz)) (va_A [(h0, .inr (4, [.ref h1, .ref h2, .int 0, .ref h3, .ref h4, .ref h5, .ref h6, .int (-1), .ref h7, .ref h8, .ref h9, .ref h10])), (h5, .inr (1, [.ref h38, .ref h39, .ref h40])), (h38, .inl (zI g, 4, .inl (upd (upd (upd (upd (fun _ => 0) 0 (-1)) 1 (-1)) 2 (-1)) 3 (-1))))] sz)) 0 0 (va_A [(h0, .inr (4, [.ref h1, .ref h2, .int 0, .ref h3, .ref h4, .ref h5, .ref h6, .int (-1), .ref h7, .ref h8, .ref h9, .ref h10])), (h5, .inr (1, [.ref h38, .ref h39, .ref h40])), (h38, .inl (zI g, 4, .inl (upd (upd (upd (upd (fun _ => 0) 0 (-1)) 1 (-1)) 2 (-1)) 3 (-1))))] sz) := by
  refine zMetI rfl (Nat.le_of_ble_eq_true rfl) ?_
  intro p e s m args below meth c A ls hx hb hml hr hlocks hin hown hts hK hN hZ hP hD hA hS hAe hl
  have hown : s.vm.findClass RX4 = some m.cls := hown
  have hl : lv_has ls 2 [(0, .ref h0), (1, .int p1)] := hl
  refine lv_iload_n hx hb dX4_drop_0 rfl (lv_at hl 1 rfl) ?_
  refine z_calli (wr := [(h0, .inr (4, [.ref h1, .ref h2, .int 0, .ref h3, .ref h4, .ref h5, .ref h6, .int (-1), .ref h7, .ref h8, .ref h9, .ref h10])), (h5, .inr (1, [.ref h38, .ref h39, .ref h40])), (h38, .inl (zI g, 4, .inl (upd (upd (upd (upd (fun _ => 0) 0 (-1)) 1 (-1)) 2 (-1)) 3 (-1))))]) hP hD hS hA [] [0, 1, 2] (by decide) rfl rfl (by decide) (va_runS (As := [.int p1]) (rest := []) ⟨hx, hb, hml, hown, hts⟩ (kX4_isSheet_6 l g  s.heap.size p1) ⟨callB_of 1 hts (zGood m_o_yX4_isSheet) rfl rfl rfl (hts _ m_z_RX4) (hts _ m_m_RX4_221) ⟨by decide +kernel, by decide +kernel, by decide +kernel⟩ ⟨Nat.le_of_ble_eq_true rfl, Nat.le_of_ble_eq_true rfl⟩, hts _ m_s_yX4_isSheet⟩ (zPreS hK hN hZ hP hD hS hA [] (by decide) rfl rfl) rfl rfl hl.1 rfl (lv_room (Nat.le_of_ble_eq_true rfl)) dX4_drop_1 ⟨Nat.le_of_ble_eq_true rfl, Nat.le_of_ble_eq_true rfl⟩) (fun r u H locs hw hP hD hS => ?_)
  rcases hw with ⟨i_0, rfl⟩ | ⟨i_1, i_2, rfl⟩ | ⟨i_3, i_4, rfl⟩
  · skip
    have i_0 : p1.toInt < 0 := i_0
    have hP : va_P g.1 vwCl [(h0, .inr (4, [.ref h1, .ref h2, .int 0, .ref h3, .ref h4, .ref h5, .ref h6, .int (-1), .ref h7, .ref h8, .ref h9, .ref h10])), (h5, .inr (1, [.ref h38, .ref h39, .ref h40])), (h38, .inl (zI g, 4, .inl (upd (upd (upd (upd (fun _ => 0) 0 (-1)) 1 (-1)) 2 (-1)) 3 (-1))))] H := hP
    have hD : va_D A [(h0, .inr (4, [.ref h1, .ref h2, .int 0, .ref h3, .ref h4, .ref h5, .ref h6, .int (-1), .ref h7, .ref h8, .ref h9, .ref h10])), (h5, .inr (1, [.ref h38, .ref h39, .ref h40])), (h38, .inl (zI g, 4, .inl (upd (upd (upd (upd (fun _ => 0) 0 (-1)) 1 (-1)) 2 (-1)) 3 (-1))))] := hD
    refine lv_if_ne (tgt := 9) hx hb dX4_drop_4 (by decide) (fun h => absurd h (by decide +kernel)) (fun _ => ?_)
    refine lv_iconst (v := (-1)) hx hb dX4_drop_7 (by decide) ?_
    have hP9 := hP.sub (ws' := []) [] rfl
    have hD9 := hD.sub (ws' := []) [] (by decide) rfl
    exact W.iret (v := (-1)) hx hb hr (fun t ht hW => ⟨⟨(-1), 0, rfl, Or.inl ⟨i_0, rfl⟩, by rw [ht]; exact hP9, hD9⟩, hS.F ht⟩) hS.2.2 dX4_drop_8
  · skip
    have i_1 : 0 ≤ p1.toInt := i_1
    have i_2 : 4 ≤ p1.toInt := i_2
    have hP : va_P g.1 vwCl [(h0, .inr (4, [.ref h1, .ref h2, .int 0, .ref h3, .ref h4, .ref h5, .ref h6, .int (-1), .ref h7, .ref h8, .ref h9, .ref h10])), (h5, .inr (1, [.ref h38, .ref h39, .ref h40])), (h38, .inl (zI g, 4, .inl (upd (upd (upd (upd (fun _ => 0) 0 (-1)) 1 (-1)) 2 (-1)) 3 (-1))))] H := hP
    have hD : va_D A [(h0, .inr (4, [.ref h1, .ref h2, .int 0, .ref h3, .ref h4, .ref h5, .ref h6, .int (-1), .ref h7, .ref h8, .ref h9, .ref h10])), (h5, .inr (1, [.ref h38, .ref h39, .ref h40])), (h38, .inl (zI g, 4, .inl (upd (upd (upd (upd (fun _ => 0) 0 (-1)) 1 (-1)) 2 (-1)) 3 (-1))))] := hD
    refine lv_if_ne (tgt := 9) hx hb dX4_drop_4 (by decide) (fun h => absurd h (by decide +kernel)) (fun _ => ?_)
    refine lv_iconst (v := (-1)) hx hb dX4_drop_7 (by decide) ?_
    have hP9 := hP.sub (ws' := []) [] rfl
    have hD9 := hD.sub (ws' := []) [] (by decide) rfl
    exact W.iret (v := (-1)) hx hb hr (fun t ht hW => ⟨⟨(-1), 0, rfl, Or.inr (Or.inl ⟨i_1, i_2, rfl⟩), by rw [ht]; exact hP9, hD9⟩, hS.F ht⟩) hS.2.2 dX4_drop_8
  · skip
    have i_3 : 0 ≤ p1.toInt := i_3
    have i_4 : p1.toInt < 4 := i_4
    have hP : va_P g.1 vwCl [(h0, .inr (4, [.ref h1, .ref h2, .int 0, .ref h3, .ref h4, .ref h5, .ref h6, .int (-1), .ref h7, .ref h8, .ref h9, .ref h10])), (h5, .inr (1, [.ref h38, .ref h39, .ref h40])), (h38, .inl (zI g, 4, .inl (upd (upd (upd (upd (fun _ => 0) 0 (-1)) 1 (-1)) 2 (-1)) 3 (-1))))] H := hP
    have hD : va_D A [(h0, .inr (4, [.ref h1, .ref h2, .int 0, .ref h3, .ref h4, .ref h5, .ref h6, .int (-1), .ref h7, .ref h8, .ref h9, .ref h10])), (h5, .inr (1, [.ref h38, .ref h39, .ref h40])), (h38, .inl (zI g, 4, .inl (upd (upd (upd (upd (fun _ => 0) 0 (-1)) 1 (-1)) 2 (-1)) 3 (-1))))] := hD
    refine lv_if_ne (tgt := 9) hx hb dX4_drop_4 (by decide) (fun _ => ?_) (fun h => absurd h (by decide +kernel))
    refine lv_aload_n hx hb dX4_drop_9 rfl (lv_at hl 0 rfl) ?_
    refine va_get (D := g.1) (ci := 4) (v := .ref h5) (C := RX4) (T := TX4) (N := 12) hx hb hts zl_X4 hown hK hP 0 rfl rfl 5 (by decide) (hts _ m_f_RX4_40) (fun _ h => h) rfl dX4_drop_10 ?_
    refine va_getN (D := g.1) (ci := 1) (v := .ref h38) (C := RX1) (T := TX1) (N := 3) hx hb hts zl_X1 hown hK hP 1 rfl rfl 0 (by decide) (hN.f 27 (q := (RX4, 231, "FishSteps$Sheets", "lane", "[I")) rfl) (fun _ h => h) rfl dX4_drop_13 ?_
    refine lv_iload_n hx hb dX4_drop_16 rfl (lv_at hl 1 rfl) ?_
    rcases (show p1.toInt = 0 ∨ p1.toInt = 1 ∨ p1.toInt = 2 ∨ p1.toInt = 3 by omega) with j_5 | j_5 | j_5 | j_5
    · obtain rfl : p1 = 0 := Int32.toInt_inj.mp (show p1.toInt = (0 : Int32).toInt from j_5.trans rfl)
      refine va_iald (D := g.1) hx hb hK hP 2 0 rfl rfl (vp_in_iff.mpr (by decide +kernel)) dX4_drop_17 ?_
      refine lv_topi (nm_r (e' := (-1)) (by rfl) ?_)
      refine lv_if_ge (tgt := 24) hx hb dX4_drop_18 (by decide) (fun h => absurd h (by decide +kernel)) (fun _ => ?_)
      refine lv_bipush (v := (-11)) hx hb dX4_drop_21 (by decide) ?_
      have hP9 := hP.sub (ws' := []) [] rfl
      have hD9 := hD.sub (ws' := []) [] (by decide) rfl
      exact W.iret (v := (-11)) hx hb hr (fun t ht hW => ⟨⟨(-11), 0, rfl, Or.inr (Or.inr (Or.inl ⟨i_3, i_4, j_5, rfl⟩)), by rw [ht]; exact hP9, hD9⟩, hS.F ht⟩) hS.2.2 dX4_drop_23
    · obtain rfl : p1 = 1 := Int32.toInt_inj.mp (show p1.toInt = (1 : Int32).toInt from j_5.trans rfl)
      refine va_iald (D := g.1) hx hb hK hP 2 0 rfl rfl (vp_in_iff.mpr (by decide +kernel)) dX4_drop_17 ?_
      refine lv_topi (nm_r (e' := (-1)) (by rfl) ?_)
      refine lv_if_ge (tgt := 24) hx hb dX4_drop_18 (by decide) (fun h => absurd h (by decide +kernel)) (fun _ => ?_)
      refine lv_bipush (v := (-11)) hx hb dX4_drop_21 (by decide) ?_
      have hP9 := hP.sub (ws' := []) [] rfl
      have hD9 := hD.sub (ws' := []) [] (by decide) rfl
      exact W.iret (v := (-11)) hx hb hr (fun t ht hW => ⟨⟨(-11), 0, rfl, Or.inr (Or.inr (Or.inr (Or.inl ⟨i_3, i_4, j_5, rfl⟩))), by rw [ht]; exact hP9, hD9⟩, hS.F ht⟩) hS.2.2 dX4_drop_23
    · obtain rfl : p1 = 2 := Int32.toInt_inj.mp (show p1.toInt = (2 : Int32).toInt from j_5.trans rfl)
      refine va_iald (D := g.1) hx hb hK hP 2 0 rfl rfl (vp_in_iff.mpr (by decide +kernel)) dX4_drop_17 ?_
      refine lv_topi (nm_r (e' := (-1)) (by rfl) ?_)
      refine lv_if_ge (tgt := 24) hx hb dX4_drop_18 (by decide) (fun h => absurd h (by decide +kernel)) (fun _ => ?_)
      refine lv_bipush (v := (-11)) hx hb dX4_drop_21 (by decide) ?_
      have hP9 := hP.sub (ws' := []) [] rfl
      have hD9 := hD.sub (ws' := []) [] (by decide) rfl
      exact W.iret (v := (-11)) hx hb hr (fun t ht hW => ⟨⟨(-11), 0, rfl, Or.inr (Or.inr (Or.inr (Or.inr (Or.inl ⟨i_3, i_4, j_5, rfl⟩)))), by rw [ht]; exact hP9, hD9⟩, hS.F ht⟩) hS.2.2 dX4_drop_23
    · obtain rfl : p1 = 3 := Int32.toInt_inj.mp (show p1.toInt = (3 : Int32).toInt from j_5.trans rfl)
      refine va_iald (D := g.1) hx hb hK hP 2 0 rfl rfl (vp_in_iff.mpr (by decide +kernel)) dX4_drop_17 ?_
      refine lv_topi (nm_r (e' := (-1)) (by rfl) ?_)
      refine lv_if_ge (tgt := 24) hx hb dX4_drop_18 (by decide) (fun h => absurd h (by decide +kernel)) (fun _ => ?_)
      refine lv_bipush (v := (-11)) hx hb dX4_drop_21 (by decide) ?_
      have hP9 := hP.sub (ws' := []) [] rfl
      have hD9 := hD.sub (ws' := []) [] (by decide) rfl
      exact W.iret (v := (-11)) hx hb hr (fun t ht hW => ⟨⟨(-11), 0, rfl, Or.inr (Or.inr (Or.inr (Or.inr (Or.inr (⟨i_3, i_4, j_5, rfl⟩))))), by rw [ht]; exact hP9, hD9⟩, hS.F ht⟩) hS.2.2 dX4_drop_23
set_option maxHeartbeats 4000000 in
set_option maxRecDepth 100000 in
theorem kX1_refuse_3 (l : Launch) (g : zG) (h0 h38 h39 h40 : Nat) (sz : Nat) (p1 : Int32) (p2 : Int32) (p3 : Int32) : Met l yX1_refuse (.code yX1_refuse cX1_refuse 5 (some .int) :: zBig) ({ frames := 1, cells := 0, slots := 0, locals := 20 }) (va_Pc [.ref h0, .int p1, .int p2, .int p3, .int 1] (zPre g [(h0, .inr (1, [.ref h38, .ref h39, .ref h40])), (h38, .inl (zI g, 4, .inl (upd (upd (upd (upd (fun _ => 0) 0 (-1)) 1 (-1)) 2 (-1)) 3 (-1))))] sz)) (va_Qi (fun (r : Int32) (_ : Nat) => (p1.toInt < 0 ∧ r = (-1)) ∨ (0 ≤ p1.toInt ∧ 4 ≤ p1.toInt ∧ r = (-1)) ∨ (0 ≤ p1.toInt ∧ p1.toInt < 4 ∧ p2.toInt < 0 ∧ r = (-1)) ∨ (0 ≤ p1.toInt ∧ p1.toInt < 4 ∧ 0 ≤ p2.toInt ∧ 3 ≤ p2.toInt ∧ r = (-1)) ∨ (0 ≤ p1.toInt ∧ p1.toInt < 4 ∧ 0 ≤ p2.toInt ∧ p2.toInt < 3 ∧ p1.toInt = 0 ∧ r = (-11)) ∨ (0 ≤ p1.toInt ∧ p1.toInt < 4 ∧ 0 ≤ p2.toInt ∧ p2.toInt < 3 ∧ p1.toInt = 1 ∧ r = (-11)) ∨ (0 ≤ p1.toInt ∧ p1.toInt < 4 ∧ 0 ≤ p2.toInt ∧ p2.toInt < 3 ∧ p1.toInt = 2 ∧ r = (-11)) ∨ (0 ≤ p1.toInt ∧ p1.toInt < 4 ∧ 0 ≤ p2.toInt ∧ p2.toInt < 3 ∧ p1.toInt = 3 ∧ r = (-11))) (zPost g (fun _ : Nat => [(h0, .inr (1, [.ref h38, .ref h39, .ref h40])), (h38, .inl (zI g, 4, .inl (upd (upd (upd (upd (fun _ => 0) 0 (-1)) 1 (-1)) 2 (-1)) 3 (-1))))]) (va_A [(h0, .inr (1, [.ref h38, .ref h39, .ref h40])), (h38, .inl (zI g, 4, .inl (upd (upd (upd (upd (fun _ => 0) 0 (-1)) 1 (-1)) 2 (-1)) 3 (-1))))] sz)) (va_A [(h0, .inr (1, [.ref h38, .ref h39, .ref h40])), (h38, .inl (zI g, 4, .inl (upd (upd (upd (upd (fun _ => 0) 0 (-1)) 1 (-1)) 2 (-1)) 3 (-1))))] sz)) 0 0 (va_A [(h0, .inr (1, [.ref h38, .ref h39, .ref h40])), (h38, .inl (zI g, 4, .inl (upd (upd (upd (upd (fun _ => 0) 0 (-1)) 1 (-1)) 2 (-1)) 3 (-1))))] sz) := by
  refine zMetI rfl (Nat.le_of_ble_eq_true rfl) ?_
  intro p e s m args below meth c A ls hx hb hml hr hlocks hin hown hts hK hN hZ hP hD hA hS hAe hl
  have hown : s.vm.findClass RX1 = some m.cls := hown
  have hl : lv_has ls 5 [(0, .ref h0), (1, .int p1), (2, .int p2), (3, .int p3), (4, .int 1)] := hl
  refine lv_iload_n hx hb dX1_refuse_0 rfl (lv_at hl 1 rfl) ?_
  refine z_calli (wr := [(h0, .inr (1, [.ref h38, .ref h39, .ref h40])), (h38, .inl (zI g, 4, .inl (upd (upd (upd (upd (fun _ => 0) 0 (-1)) 1 (-1)) 2 (-1)) 3 (-1))))]) hP hD hS hA [] [0, 1] (by decide) rfl rfl (by decide) (va_runSN (As := [.int p1]) (rest := []) ⟨hx, hb, hml, hown, hts⟩ (kX4_isSheet_2 l g  s.heap.size p1) ⟨va_cnB 1 hts (zGood m_o_yX4_isSheet) rfl rfl rfl (hN.m 29 (q := (RX1, 22, yX4_isSheet)) rfl) (hts _ m_z_RX4) ⟨by decide +kernel, by decide +kernel, by decide +kernel⟩ ⟨Nat.le_of_ble_eq_true rfl, Nat.le_of_ble_eq_true rfl⟩, hts _ m_s_yX4_isSheet, trivial⟩ (zPreS hK hN hZ hP hD hS hA [] (by decide) rfl rfl) rfl rfl hl.1 rfl (lv_room (Nat.le_of_ble_eq_true rfl)) dX1_refuse_1 ⟨Nat.le_of_ble_eq_true rfl, Nat.le_of_ble_eq_true rfl⟩) (fun r u H locs hw hP hD hS => ?_)
  rcases hw with ⟨i_0, rfl⟩ | ⟨i_1, i_2, rfl⟩ | ⟨i_3, i_4, rfl⟩
  · skip
    have i_0 : p1.toInt < 0 := i_0
    have hP : va_P g.1 vwCl [(h0, .inr (1, [.ref h38, .ref h39, .ref h40])), (h38, .inl (zI g, 4, .inl (upd (upd (upd (upd (fun _ => 0) 0 (-1)) 1 (-1)) 2 (-1)) 3 (-1))))] H := hP
    have hD : va_D A [(h0, .inr (1, [.ref h38, .ref h39, .ref h40])), (h38, .inl (zI g, 4, .inl (upd (upd (upd (upd (fun _ => 0) 0 (-1)) 1 (-1)) 2 (-1)) 3 (-1))))] := hD
    refine lv_if_eq (tgt := 14) hx hb dX1_refuse_4 (by decide) (fun _ => ?_) (fun h => absurd h (by decide +kernel))
    refine lv_iconst (v := (-1)) hx hb dX1_refuse_14 (by decide) ?_
    have hP9 := hP.sub (ws' := [(h0, .inr (1, [.ref h38, .ref h39, .ref h40])), (h38, .inl (zI g, 4, .inl (upd (upd (upd (upd (fun _ => 0) 0 (-1)) 1 (-1)) 2 (-1)) 3 (-1))))]) [0, 1] rfl
    have hD9 := hD.sub (ws' := [(h0, .inr (1, [.ref h38, .ref h39, .ref h40])), (h38, .inl (zI g, 4, .inl (upd (upd (upd (upd (fun _ => 0) 0 (-1)) 1 (-1)) 2 (-1)) 3 (-1))))]) [0, 1] (by decide) rfl
    exact W.iret (v := (-1)) hx hb hr (fun t ht hW => ⟨⟨(-1), 0, rfl, Or.inl ⟨i_0, rfl⟩, by rw [ht]; exact hP9, hD9⟩, hS.F ht⟩) hS.2.2 dX1_refuse_15
  · skip
    have i_1 : 0 ≤ p1.toInt := i_1
    have i_2 : 4 ≤ p1.toInt := i_2
    have hP : va_P g.1 vwCl [(h0, .inr (1, [.ref h38, .ref h39, .ref h40])), (h38, .inl (zI g, 4, .inl (upd (upd (upd (upd (fun _ => 0) 0 (-1)) 1 (-1)) 2 (-1)) 3 (-1))))] H := hP
    have hD : va_D A [(h0, .inr (1, [.ref h38, .ref h39, .ref h40])), (h38, .inl (zI g, 4, .inl (upd (upd (upd (upd (fun _ => 0) 0 (-1)) 1 (-1)) 2 (-1)) 3 (-1))))] := hD
    refine lv_if_eq (tgt := 14) hx hb dX1_refuse_4 (by decide) (fun _ => ?_) (fun h => absurd h (by decide +kernel))
    refine lv_iconst (v := (-1)) hx hb dX1_refuse_14 (by decide) ?_
    have hP9 := hP.sub (ws' := [(h0, .inr (1, [.ref h38, .ref h39, .ref h40])), (h38, .inl (zI g, 4, .inl (upd (upd (upd (upd (fun _ => 0) 0 (-1)) 1 (-1)) 2 (-1)) 3 (-1))))]) [0, 1] rfl
    have hD9 := hD.sub (ws' := [(h0, .inr (1, [.ref h38, .ref h39, .ref h40])), (h38, .inl (zI g, 4, .inl (upd (upd (upd (upd (fun _ => 0) 0 (-1)) 1 (-1)) 2 (-1)) 3 (-1))))]) [0, 1] (by decide) rfl
    exact W.iret (v := (-1)) hx hb hr (fun t ht hW => ⟨⟨(-1), 0, rfl, Or.inr (Or.inl ⟨i_1, i_2, rfl⟩), by rw [ht]; exact hP9, hD9⟩, hS.F ht⟩) hS.2.2 dX1_refuse_15
  · skip
    have i_3 : 0 ≤ p1.toInt := i_3
    have i_4 : p1.toInt < 4 := i_4
    have hP : va_P g.1 vwCl [(h0, .inr (1, [.ref h38, .ref h39, .ref h40])), (h38, .inl (zI g, 4, .inl (upd (upd (upd (upd (fun _ => 0) 0 (-1)) 1 (-1)) 2 (-1)) 3 (-1))))] H := hP
    have hD : va_D A [(h0, .inr (1, [.ref h38, .ref h39, .ref h40])), (h38, .inl (zI g, 4, .inl (upd (upd (upd (upd (fun _ => 0) 0 (-1)) 1 (-1)) 2 (-1)) 3 (-1))))] := hD
    refine lv_if_eq (tgt := 14) hx hb dX1_refuse_4 (by decide) (fun h => absurd h (by decide +kernel)) (fun _ => ?_)
    refine lv_iload_n hx hb dX1_refuse_7 rfl (lv_at hl 2 rfl) ?_
    refine z_calli (wr := [(h0, .inr (1, [.ref h38, .ref h39, .ref h40])), (h38, .inl (zI g, 4, .inl (upd (upd (upd (upd (fun _ => 0) 0 (-1)) 1 (-1)) 2 (-1)) 3 (-1))))]) hP hD hS hA [] [0, 1] (by decide) rfl rfl (by decide) (va_runSN (As := [.int p2]) (rest := []) ⟨hx, hb, hml, hown, hts⟩ (kX4_isLane_2 l g  H.size p2) ⟨va_cnB 1 hts (zGood m_o_yX4_isLane) rfl rfl rfl (hN.m 30 (q := (RX1, 26, yX4_isLane)) rfl) (hts _ m_z_RX4) ⟨by decide +kernel, by decide +kernel, by decide +kernel⟩ ⟨Nat.le_of_ble_eq_true rfl, Nat.le_of_ble_eq_true rfl⟩, hts _ m_s_yX4_isLane, trivial⟩ (zPreS hK hN hZ hP hD hS hA [] (by decide) rfl rfl) rfl rfl hl.1 rfl (lv_room (Nat.le_of_ble_eq_true rfl)) dX1_refuse_8 ⟨Nat.le_of_ble_eq_true rfl, Nat.le_of_ble_eq_true rfl⟩) (fun r u H locs hw hP hD hS => ?_)
    rcases hw with ⟨i_5, rfl⟩ | ⟨i_6, i_7, rfl⟩ | ⟨i_8, i_9, rfl⟩
    · skip
      have i_5 : p2.toInt < 0 := i_5
      have hP : va_P g.1 vwCl [(h0, .inr (1, [.ref h38, .ref h39, .ref h40])), (h38, .inl (zI g, 4, .inl (upd (upd (upd (upd (fun _ => 0) 0 (-1)) 1 (-1)) 2 (-1)) 3 (-1))))] H := hP
      have hD : va_D A [(h0, .inr (1, [.ref h38, .ref h39, .ref h40])), (h38, .inl (zI g, 4, .inl (upd (upd (upd (upd (fun _ => 0) 0 (-1)) 1 (-1)) 2 (-1)) 3 (-1))))] := hD
      refine lv_if_ne (tgt := 16) hx hb dX1_refuse_11 (by decide) (fun h => absurd h (by decide +kernel)) (fun _ => ?_)
      refine lv_iconst (v := (-1)) hx hb dX1_refuse_14 (by decide) ?_
      have hP9 := hP.sub (ws' := [(h0, .inr (1, [.ref h38, .ref h39, .ref h40])), (h38, .inl (zI g, 4, .inl (upd (upd (upd (upd (fun _ => 0) 0 (-1)) 1 (-1)) 2 (-1)) 3 (-1))))]) [0, 1] rfl
      have hD9 := hD.sub (ws' := [(h0, .inr (1, [.ref h38, .ref h39, .ref h40])), (h38, .inl (zI g, 4, .inl (upd (upd (upd (upd (fun _ => 0) 0 (-1)) 1 (-1)) 2 (-1)) 3 (-1))))]) [0, 1] (by decide) rfl
      exact W.iret (v := (-1)) hx hb hr (fun t ht hW => ⟨⟨(-1), 0, rfl, Or.inr (Or.inr (Or.inl ⟨i_3, i_4, i_5, rfl⟩)), by rw [ht]; exact hP9, hD9⟩, hS.F ht⟩) hS.2.2 dX1_refuse_15
    · skip
      have i_6 : 0 ≤ p2.toInt := i_6
      have i_7 : 3 ≤ p2.toInt := i_7
      have hP : va_P g.1 vwCl [(h0, .inr (1, [.ref h38, .ref h39, .ref h40])), (h38, .inl (zI g, 4, .inl (upd (upd (upd (upd (fun _ => 0) 0 (-1)) 1 (-1)) 2 (-1)) 3 (-1))))] H := hP
      have hD : va_D A [(h0, .inr (1, [.ref h38, .ref h39, .ref h40])), (h38, .inl (zI g, 4, .inl (upd (upd (upd (upd (fun _ => 0) 0 (-1)) 1 (-1)) 2 (-1)) 3 (-1))))] := hD
      refine lv_if_ne (tgt := 16) hx hb dX1_refuse_11 (by decide) (fun h => absurd h (by decide +kernel)) (fun _ => ?_)
      refine lv_iconst (v := (-1)) hx hb dX1_refuse_14 (by decide) ?_
      have hP9 := hP.sub (ws' := [(h0, .inr (1, [.ref h38, .ref h39, .ref h40])), (h38, .inl (zI g, 4, .inl (upd (upd (upd (upd (fun _ => 0) 0 (-1)) 1 (-1)) 2 (-1)) 3 (-1))))]) [0, 1] rfl
      have hD9 := hD.sub (ws' := [(h0, .inr (1, [.ref h38, .ref h39, .ref h40])), (h38, .inl (zI g, 4, .inl (upd (upd (upd (upd (fun _ => 0) 0 (-1)) 1 (-1)) 2 (-1)) 3 (-1))))]) [0, 1] (by decide) rfl
      exact W.iret (v := (-1)) hx hb hr (fun t ht hW => ⟨⟨(-1), 0, rfl, Or.inr (Or.inr (Or.inr (Or.inl ⟨i_3, i_4, i_6, i_7, rfl⟩))), by rw [ht]; exact hP9, hD9⟩, hS.F ht⟩) hS.2.2 dX1_refuse_15
    · skip
      have i_8 : 0 ≤ p2.toInt := i_8
      have i_9 : p2.toInt < 3 := i_9
      have hP : va_P g.1 vwCl [(h0, .inr (1, [.ref h38, .ref h39, .ref h40])), (h38, .inl (zI g, 4, .inl (upd (upd (upd (upd (fun _ => 0) 0 (-1)) 1 (-1)) 2 (-1)) 3 (-1))))] H := hP
      have hD : va_D A [(h0, .inr (1, [.ref h38, .ref h39, .ref h40])), (h38, .inl (zI g, 4, .inl (upd (upd (upd (upd (fun _ => 0) 0 (-1)) 1 (-1)) 2 (-1)) 3 (-1))))] := hD
      refine lv_if_ne (tgt := 16) hx hb dX1_refuse_11 (by decide) (fun _ => ?_) (fun h => absurd h (by decide +kernel))
      refine lv_aload_n hx hb dX1_refuse_16 rfl (lv_at hl 0 rfl) ?_
      refine va_get (D := g.1) (ci := 1) (v := .ref h38) (C := RX1) (T := TX1) (N := 3) hx hb hts zl_X1 hown hK hP 0 rfl rfl 0 (by decide) (hts _ m_f_RX1_9) (fun _ h => h) rfl dX1_refuse_17 ?_
      refine lv_iload_n hx hb dX1_refuse_20 rfl (lv_at hl 1 rfl) ?_
      rcases (show p1.toInt = 0 ∨ p1.toInt = 1 ∨ p1.toInt = 2 ∨ p1.toInt = 3 by omega) with j_10 | j_10 | j_10 | j_10
      · obtain rfl : p1 = 0 := Int32.toInt_inj.mp (show p1.toInt = (0 : Int32).toInt from j_10.trans rfl)
        refine va_iald (D := g.1) hx hb hK hP 1 0 rfl rfl (vp_in_iff.mpr (by decide +kernel)) dX1_refuse_21 ?_
        refine lv_topi (nm_r (e' := (-1)) (by rfl) ?_)
        refine lv_if_ge (tgt := 28) hx hb dX1_refuse_22 (by decide) (fun h => absurd h (by decide +kernel)) (fun _ => ?_)
        refine lv_bipush (v := (-11)) hx hb dX1_refuse_25 (by decide) ?_
        have hP9 := hP.sub (ws' := [(h0, .inr (1, [.ref h38, .ref h39, .ref h40])), (h38, .inl (zI g, 4, .inl (upd (upd (upd (upd (fun _ => 0) 0 (-1)) 1 (-1)) 2 (-1)) 3 (-1))))]) [0, 1] rfl
        have hD9 := hD.sub (ws' := [(h0, .inr (1, [.ref h38, .ref h39, .ref h40])), (h38, .inl (zI g, 4, .inl (upd (upd (upd (upd (fun _ => 0) 0 (-1)) 1 (-1)) 2 (-1)) 3 (-1))))]) [0, 1] (by decide) rfl
        exact W.iret (v := (-11)) hx hb hr (fun t ht hW => ⟨⟨(-11), 0, rfl, Or.inr (Or.inr (Or.inr (Or.inr (Or.inl ⟨i_3, i_4, i_8, i_9, j_10, rfl⟩)))), by rw [ht]; exact hP9, hD9⟩, hS.F ht⟩) hS.2.2 dX1_refuse_27
      · obtain rfl : p1 = 1 := Int32.toInt_inj.mp (show p1.toInt = (1 : Int32).toInt from j_10.trans rfl)
        refine va_iald (D := g.1) hx hb hK hP 1 0 rfl rfl (vp_in_iff.mpr (by decide +kernel)) dX1_refuse_21 ?_
        refine lv_topi (nm_r (e' := (-1)) (by rfl) ?_)
        refine lv_if_ge (tgt := 28) hx hb dX1_refuse_22 (by decide) (fun h => absurd h (by decide +kernel)) (fun _ => ?_)
        refine lv_bipush (v := (-11)) hx hb dX1_refuse_25 (by decide) ?_
        have hP9 := hP.sub (ws' := [(h0, .inr (1, [.ref h38, .ref h39, .ref h40])), (h38, .inl (zI g, 4, .inl (upd (upd (upd (upd (fun _ => 0) 0 (-1)) 1 (-1)) 2 (-1)) 3 (-1))))]) [0, 1] rfl
        have hD9 := hD.sub (ws' := [(h0, .inr (1, [.ref h38, .ref h39, .ref h40])), (h38, .inl (zI g, 4, .inl (upd (upd (upd (upd (fun _ => 0) 0 (-1)) 1 (-1)) 2 (-1)) 3 (-1))))]) [0, 1] (by decide) rfl
        exact W.iret (v := (-11)) hx hb hr (fun t ht hW => ⟨⟨(-11), 0, rfl, Or.inr (Or.inr (Or.inr (Or.inr (Or.inr (Or.inl ⟨i_3, i_4, i_8, i_9, j_10, rfl⟩))))), by rw [ht]; exact hP9, hD9⟩, hS.F ht⟩) hS.2.2 dX1_refuse_27
      · obtain rfl : p1 = 2 := Int32.toInt_inj.mp (show p1.toInt = (2 : Int32).toInt from j_10.trans rfl)
        refine va_iald (D := g.1) hx hb hK hP 1 0 rfl rfl (vp_in_iff.mpr (by decide +kernel)) dX1_refuse_21 ?_
        refine lv_topi (nm_r (e' := (-1)) (by rfl) ?_)
        refine lv_if_ge (tgt := 28) hx hb dX1_refuse_22 (by decide) (fun h => absurd h (by decide +kernel)) (fun _ => ?_)
        refine lv_bipush (v := (-11)) hx hb dX1_refuse_25 (by decide) ?_
        have hP9 := hP.sub (ws' := [(h0, .inr (1, [.ref h38, .ref h39, .ref h40])), (h38, .inl (zI g, 4, .inl (upd (upd (upd (upd (fun _ => 0) 0 (-1)) 1 (-1)) 2 (-1)) 3 (-1))))]) [0, 1] rfl
        have hD9 := hD.sub (ws' := [(h0, .inr (1, [.ref h38, .ref h39, .ref h40])), (h38, .inl (zI g, 4, .inl (upd (upd (upd (upd (fun _ => 0) 0 (-1)) 1 (-1)) 2 (-1)) 3 (-1))))]) [0, 1] (by decide) rfl
        exact W.iret (v := (-11)) hx hb hr (fun t ht hW => ⟨⟨(-11), 0, rfl, Or.inr (Or.inr (Or.inr (Or.inr (Or.inr (Or.inr (Or.inl ⟨i_3, i_4, i_8, i_9, j_10, rfl⟩)))))), by rw [ht]; exact hP9, hD9⟩, hS.F ht⟩) hS.2.2 dX1_refuse_27
      · obtain rfl : p1 = 3 := Int32.toInt_inj.mp (show p1.toInt = (3 : Int32).toInt from j_10.trans rfl)
        refine va_iald (D := g.1) hx hb hK hP 1 0 rfl rfl (vp_in_iff.mpr (by decide +kernel)) dX1_refuse_21 ?_
        refine lv_topi (nm_r (e' := (-1)) (by rfl) ?_)
        refine lv_if_ge (tgt := 28) hx hb dX1_refuse_22 (by decide) (fun h => absurd h (by decide +kernel)) (fun _ => ?_)
        refine lv_bipush (v := (-11)) hx hb dX1_refuse_25 (by decide) ?_
        have hP9 := hP.sub (ws' := [(h0, .inr (1, [.ref h38, .ref h39, .ref h40])), (h38, .inl (zI g, 4, .inl (upd (upd (upd (upd (fun _ => 0) 0 (-1)) 1 (-1)) 2 (-1)) 3 (-1))))]) [0, 1] rfl
        have hD9 := hD.sub (ws' := [(h0, .inr (1, [.ref h38, .ref h39, .ref h40])), (h38, .inl (zI g, 4, .inl (upd (upd (upd (upd (fun _ => 0) 0 (-1)) 1 (-1)) 2 (-1)) 3 (-1))))]) [0, 1] (by decide) rfl
        exact W.iret (v := (-11)) hx hb hr (fun t ht hW => ⟨⟨(-11), 0, rfl, Or.inr (Or.inr (Or.inr (Or.inr (Or.inr (Or.inr (Or.inr (⟨i_3, i_4, i_8, i_9, j_10, rfl⟩))))))), by rw [ht]; exact hP9, hD9⟩, hS.F ht⟩) hS.2.2 dX1_refuse_27
set_option maxHeartbeats 4000000 in
set_option maxRecDepth 100000 in
theorem kX4_isLane_6 (l : Launch) (g : zG) (sz : Nat) (p0 : Int32) : Met l yX4_isLane (.code yX4_isLane cX4_isLane 1 (some .boolean) :: zBig) ({ frames := 0, cells := 0, slots := 0, locals := 0 }) (va_Pc [.int p0] (zPre g [] sz)) (va_Qi (fun (r : Int32) (_ : Nat) => (p0.toInt < 0 ∧ r = 0) ∨ (0 ≤ p0.toInt ∧ 3 ≤ p0.toInt ∧ r = 0) ∨ (0 ≤ p0.toInt ∧ p0.toInt < 3 ∧ r = 1)) (zPost g (fun _ : Nat => []) (va_A [] sz)) (va_A [] sz)) 0 0 (va_A [] sz) := by
  refine zMetI rfl (Nat.le_of_ble_eq_true rfl) ?_
  intro p e s m args below meth c A ls hx hb hml hr hlocks hin hown hts hK hN hZ hP hD hA hS hAe hl
  have hown : s.vm.findClass RX4 = some m.cls := hown
  have hl : lv_has ls 1 [(0, .int p0)] := hl
  refine lv_iload_n hx hb dX4_isLane_0 rfl (lv_at hl 0 rfl) ?_
  refine lv_if_lt (tgt := 13) hx hb dX4_isLane_1 (by decide) (fun c_0 => ?_) (fun c_0 => ?_)
  · have i_0 : p0.toInt < 0 := z_lt (rfl) (rfl) c_0
    refine lv_iconst (v := 0) hx hb dX4_isLane_13 (by decide) ?_
    have hP9 := hP.sub (ws' := []) [] rfl
    have hD9 := hD.sub (ws' := []) [] (by decide) rfl
    exact W.zret (v := 0) hx hb hr (by decide) (fun t ht hW => ⟨⟨0, 0, rfl, Or.inl ⟨i_0, rfl⟩, by rw [ht]; exact hP9, hD9⟩, hS.F ht⟩) hS.2.2 dX4_isLane_14
  · have i_0 : 0 ≤ p0.toInt := z_nlt (rfl) (rfl) c_0
    refine lv_iload_n hx hb dX4_isLane_4 rfl (lv_at hl 0 rfl) ?_
    refine lv_iconst (v := 3) hx hb dX4_isLane_5 (by decide) ?_
    refine lv_icmp_ge (tgt := 13) hx hb dX4_isLane_6 (by decide) (fun c_1 => ?_) (fun c_1 => ?_)
    · have i_1 : 3 ≤ p0.toInt := z_le (rfl) (rfl) c_1
      refine lv_iconst (v := 0) hx hb dX4_isLane_13 (by decide) ?_
      have hP9 := hP.sub (ws' := []) [] rfl
      have hD9 := hD.sub (ws' := []) [] (by decide) rfl
      exact W.zret (v := 0) hx hb hr (by decide) (fun t ht hW => ⟨⟨0, 0, rfl, Or.inr (Or.inl ⟨i_0, i_1, rfl⟩), by rw [ht]; exact hP9, hD9⟩, hS.F ht⟩) hS.2.2 dX4_isLane_14
    · have i_1 : p0.toInt < 3 := z_nle (rfl) (rfl) c_1
      refine lv_iconst (v := 1) hx hb dX4_isLane_9 (by decide) ?_
      refine lv_goto (tgt := 14) hx hb dX4_isLane_10 (by decide) ?_
      have hP9 := hP.sub (ws' := []) [] rfl
      have hD9 := hD.sub (ws' := []) [] (by decide) rfl
      exact W.zret (v := 1) hx hb hr (by decide) (fun t ht hW => ⟨⟨1, 0, rfl, Or.inr (Or.inr (⟨i_0, i_1, rfl⟩)), by rw [ht]; exact hP9, hD9⟩, hS.F ht⟩) hS.2.2 dX4_isLane_14
set_option maxHeartbeats 4000000 in
set_option maxRecDepth 100000 in
theorem kX1_refuse_4 (l : Launch) (g : zG) (h0 h11 h12 h13 : Nat) (sz : Nat) (p1 : Int32) (p2 : Int32) (p3 : Int32) : Met l yX1_refuse (.code yX1_refuse cX1_refuse 5 (some .int) :: zBig) ({ frames := 1, cells := 0, slots := 0, locals := 20 }) (va_Pc [.ref h0, .int p1, .int p2, .int p3, .int 1] (zPre g [(h0, .inr (1, [.ref h11, .ref h12, .ref h13])), (h11, .inl (zI g, 4, .inl (upd (upd (upd (upd (fun _ => 0) 0 (-1)) 1 (-1)) 2 (-1)) 3 (-1))))] sz)) (va_Qi (fun (r : Int32) (_ : Nat) => (p1.toInt < 0 ∧ r = (-1)) ∨ (0 ≤ p1.toInt ∧ 4 ≤ p1.toInt ∧ r = (-1)) ∨ (0 ≤ p1.toInt ∧ p1.toInt < 4 ∧ p2.toInt < 0 ∧ r = (-1)) ∨ (0 ≤ p1.toInt ∧ p1.toInt < 4 ∧ 0 ≤ p2.toInt ∧ 3 ≤ p2.toInt ∧ r = (-1)) ∨ (0 ≤ p1.toInt ∧ p1.toInt < 4 ∧ 0 ≤ p2.toInt ∧ p2.toInt < 3 ∧ p1.toInt = 0 ∧ r = (-11)) ∨ (0 ≤ p1.toInt ∧ p1.toInt < 4 ∧ 0 ≤ p2.toInt ∧ p2.toInt < 3 ∧ p1.toInt = 1 ∧ r = (-11)) ∨ (0 ≤ p1.toInt ∧ p1.toInt < 4 ∧ 0 ≤ p2.toInt ∧ p2.toInt < 3 ∧ p1.toInt = 2 ∧ r = (-11)) ∨ (0 ≤ p1.toInt ∧ p1.toInt < 4 ∧ 0 ≤ p2.toInt ∧ p2.toInt < 3 ∧ p1.toInt = 3 ∧ r = (-11))) (zPost g (fun _ : Nat => [(h0, .inr (1, [.ref h11, .ref h12, .ref h13])), (h11, .inl (zI g, 4, .inl (upd (upd (upd (upd (fun _ => 0) 0 (-1)) 1 (-1)) 2 (-1)) 3 (-1))))]) (va_A [(h0, .inr (1, [.ref h11, .ref h12, .ref h13])), (h11, .inl (zI g, 4, .inl (upd (upd (upd (upd (fun _ => 0) 0 (-1)) 1 (-1)) 2 (-1)) 3 (-1))))] sz)) (va_A [(h0, .inr (1, [.ref h11, .ref h12, .ref h13])), (h11, .inl (zI g, 4, .inl (upd (upd (upd (upd (fun _ => 0) 0 (-1)) 1 (-1)) 2 (-1)) 3 (-1))))] sz)) 0 0 (va_A [(h0, .inr (1, [.ref h11, .ref h12, .ref h13])), (h11, .inl (zI g, 4, .inl (upd (upd (upd (upd (fun _ => 0) 0 (-1)) 1 (-1)) 2 (-1)) 3 (-1))))] sz) := by
  refine zMetI rfl (Nat.le_of_ble_eq_true rfl) ?_
  intro p e s m args below meth c A ls hx hb hml hr hlocks hin hown hts hK hN hZ hP hD hA hS hAe hl
  have hown : s.vm.findClass RX1 = some m.cls := hown
  have hl : lv_has ls 5 [(0, .ref h0), (1, .int p1), (2, .int p2), (3, .int p3), (4, .int 1)] := hl
  refine lv_iload_n hx hb dX1_refuse_0 rfl (lv_at hl 1 rfl) ?_
  refine z_calli (wr := [(h0, .inr (1, [.ref h11, .ref h12, .ref h13])), (h11, .inl (zI g, 4, .inl (upd (upd (upd (upd (fun _ => 0) 0 (-1)) 1 (-1)) 2 (-1)) 3 (-1))))]) hP hD hS hA [] [0, 1] (by decide) rfl rfl (by decide) (va_runSN (As := [.int p1]) (rest := []) ⟨hx, hb, hml, hown, hts⟩ (kX4_isSheet_2 l g  s.heap.size p1) ⟨va_cnB 1 hts (zGood m_o_yX4_isSheet) rfl rfl rfl (hN.m 29 (q := (RX1, 22, yX4_isSheet)) rfl) (hts _ m_z_RX4) ⟨by decide +kernel, by decide +kernel, by decide +kernel⟩ ⟨Nat.le_of_ble_eq_true rfl, Nat.le_of_ble_eq_true rfl⟩, hts _ m_s_yX4_isSheet, trivial⟩ (zPreS hK hN hZ hP hD hS hA [] (by decide) rfl rfl) rfl rfl hl.1 rfl (lv_room (Nat.le_of_ble_eq_true rfl)) dX1_refuse_1 ⟨Nat.le_of_ble_eq_true rfl, Nat.le_of_ble_eq_true rfl⟩) (fun r u H locs hw hP hD hS => ?_)
  rcases hw with ⟨i_0, rfl⟩ | ⟨i_1, i_2, rfl⟩ | ⟨i_3, i_4, rfl⟩
  · skip
    have i_0 : p1.toInt < 0 := i_0
    have hP : va_P g.1 vwCl [(h0, .inr (1, [.ref h11, .ref h12, .ref h13])), (h11, .inl (zI g, 4, .inl (upd (upd (upd (upd (fun _ => 0) 0 (-1)) 1 (-1)) 2 (-1)) 3 (-1))))] H := hP
    have hD : va_D A [(h0, .inr (1, [.ref h11, .ref h12, .ref h13])), (h11, .inl (zI g, 4, .inl (upd (upd (upd (upd (fun _ => 0) 0 (-1)) 1 (-1)) 2 (-1)) 3 (-1))))] := hD
    refine lv_if_eq (tgt := 14) hx hb dX1_refuse_4 (by decide) (fun _ => ?_) (fun h => absurd h (by decide +kernel))
    refine lv_iconst (v := (-1)) hx hb dX1_refuse_14 (by decide) ?_
    have hP9 := hP.sub (ws' := [(h0, .inr (1, [.ref h11, .ref h12, .ref h13])), (h11, .inl (zI g, 4, .inl (upd (upd (upd (upd (fun _ => 0) 0 (-1)) 1 (-1)) 2 (-1)) 3 (-1))))]) [0, 1] rfl
    have hD9 := hD.sub (ws' := [(h0, .inr (1, [.ref h11, .ref h12, .ref h13])), (h11, .inl (zI g, 4, .inl (upd (upd (upd (upd (fun _ => 0) 0 (-1)) 1 (-1)) 2 (-1)) 3 (-1))))]) [0, 1] (by decide) rfl
    exact W.iret (v := (-1)) hx hb hr (fun t ht hW => ⟨⟨(-1), 0, rfl, Or.inl ⟨i_0, rfl⟩, by rw [ht]; exact hP9, hD9⟩, hS.F ht⟩) hS.2.2 dX1_refuse_15
  · skip
    have i_1 : 0 ≤ p1.toInt := i_1
    have i_2 : 4 ≤ p1.toInt := i_2
    have hP : va_P g.1 vwCl [(h0, .inr (1, [.ref h11, .ref h12, .ref h13])), (h11, .inl (zI g, 4, .inl (upd (upd (upd (upd (fun _ => 0) 0 (-1)) 1 (-1)) 2 (-1)) 3 (-1))))] H := hP
    have hD : va_D A [(h0, .inr (1, [.ref h11, .ref h12, .ref h13])), (h11, .inl (zI g, 4, .inl (upd (upd (upd (upd (fun _ => 0) 0 (-1)) 1 (-1)) 2 (-1)) 3 (-1))))] := hD
    refine lv_if_eq (tgt := 14) hx hb dX1_refuse_4 (by decide) (fun _ => ?_) (fun h => absurd h (by decide +kernel))
    refine lv_iconst (v := (-1)) hx hb dX1_refuse_14 (by decide) ?_
    have hP9 := hP.sub (ws' := [(h0, .inr (1, [.ref h11, .ref h12, .ref h13])), (h11, .inl (zI g, 4, .inl (upd (upd (upd (upd (fun _ => 0) 0 (-1)) 1 (-1)) 2 (-1)) 3 (-1))))]) [0, 1] rfl
    have hD9 := hD.sub (ws' := [(h0, .inr (1, [.ref h11, .ref h12, .ref h13])), (h11, .inl (zI g, 4, .inl (upd (upd (upd (upd (fun _ => 0) 0 (-1)) 1 (-1)) 2 (-1)) 3 (-1))))]) [0, 1] (by decide) rfl
    exact W.iret (v := (-1)) hx hb hr (fun t ht hW => ⟨⟨(-1), 0, rfl, Or.inr (Or.inl ⟨i_1, i_2, rfl⟩), by rw [ht]; exact hP9, hD9⟩, hS.F ht⟩) hS.2.2 dX1_refuse_15
  · skip
    have i_3 : 0 ≤ p1.toInt := i_3
    have i_4 : p1.toInt < 4 := i_4
    have hP : va_P g.1 vwCl [(h0, .inr (1, [.ref h11, .ref h12, .ref h13])), (h11, .inl (zI g, 4, .inl (upd (upd (upd (upd (fun _ => 0) 0 (-1)) 1 (-1)) 2 (-1)) 3 (-1))))] H := hP
    have hD : va_D A [(h0, .inr (1, [.ref h11, .ref h12, .ref h13])), (h11, .inl (zI g, 4, .inl (upd (upd (upd (upd (fun _ => 0) 0 (-1)) 1 (-1)) 2 (-1)) 3 (-1))))] := hD
    refine lv_if_eq (tgt := 14) hx hb dX1_refuse_4 (by decide) (fun h => absurd h (by decide +kernel)) (fun _ => ?_)
    refine lv_iload_n hx hb dX1_refuse_7 rfl (lv_at hl 2 rfl) ?_
    refine z_calli (wr := [(h0, .inr (1, [.ref h11, .ref h12, .ref h13])), (h11, .inl (zI g, 4, .inl (upd (upd (upd (upd (fun _ => 0) 0 (-1)) 1 (-1)) 2 (-1)) 3 (-1))))]) hP hD hS hA [] [0, 1] (by decide) rfl rfl (by decide) (va_runSN (As := [.int p2]) (rest := []) ⟨hx, hb, hml, hown, hts⟩ (kX4_isLane_2 l g  H.size p2) ⟨va_cnB 1 hts (zGood m_o_yX4_isLane) rfl rfl rfl (hN.m 30 (q := (RX1, 26, yX4_isLane)) rfl) (hts _ m_z_RX4) ⟨by decide +kernel, by decide +kernel, by decide +kernel⟩ ⟨Nat.le_of_ble_eq_true rfl, Nat.le_of_ble_eq_true rfl⟩, hts _ m_s_yX4_isLane, trivial⟩ (zPreS hK hN hZ hP hD hS hA [] (by decide) rfl rfl) rfl rfl hl.1 rfl (lv_room (Nat.le_of_ble_eq_true rfl)) dX1_refuse_8 ⟨Nat.le_of_ble_eq_true rfl, Nat.le_of_ble_eq_true rfl⟩) (fun r u H locs hw hP hD hS => ?_)
    rcases hw with ⟨i_5, rfl⟩ | ⟨i_6, i_7, rfl⟩ | ⟨i_8, i_9, rfl⟩
    · skip
      have i_5 : p2.toInt < 0 := i_5
      have hP : va_P g.1 vwCl [(h0, .inr (1, [.ref h11, .ref h12, .ref h13])), (h11, .inl (zI g, 4, .inl (upd (upd (upd (upd (fun _ => 0) 0 (-1)) 1 (-1)) 2 (-1)) 3 (-1))))] H := hP
      have hD : va_D A [(h0, .inr (1, [.ref h11, .ref h12, .ref h13])), (h11, .inl (zI g, 4, .inl (upd (upd (upd (upd (fun _ => 0) 0 (-1)) 1 (-1)) 2 (-1)) 3 (-1))))] := hD
      refine lv_if_ne (tgt := 16) hx hb dX1_refuse_11 (by decide) (fun h => absurd h (by decide +kernel)) (fun _ => ?_)
      refine lv_iconst (v := (-1)) hx hb dX1_refuse_14 (by decide) ?_
      have hP9 := hP.sub (ws' := [(h0, .inr (1, [.ref h11, .ref h12, .ref h13])), (h11, .inl (zI g, 4, .inl (upd (upd (upd (upd (fun _ => 0) 0 (-1)) 1 (-1)) 2 (-1)) 3 (-1))))]) [0, 1] rfl
      have hD9 := hD.sub (ws' := [(h0, .inr (1, [.ref h11, .ref h12, .ref h13])), (h11, .inl (zI g, 4, .inl (upd (upd (upd (upd (fun _ => 0) 0 (-1)) 1 (-1)) 2 (-1)) 3 (-1))))]) [0, 1] (by decide) rfl
      exact W.iret (v := (-1)) hx hb hr (fun t ht hW => ⟨⟨(-1), 0, rfl, Or.inr (Or.inr (Or.inl ⟨i_3, i_4, i_5, rfl⟩)), by rw [ht]; exact hP9, hD9⟩, hS.F ht⟩) hS.2.2 dX1_refuse_15
    · skip
      have i_6 : 0 ≤ p2.toInt := i_6
      have i_7 : 3 ≤ p2.toInt := i_7
      have hP : va_P g.1 vwCl [(h0, .inr (1, [.ref h11, .ref h12, .ref h13])), (h11, .inl (zI g, 4, .inl (upd (upd (upd (upd (fun _ => 0) 0 (-1)) 1 (-1)) 2 (-1)) 3 (-1))))] H := hP
      have hD : va_D A [(h0, .inr (1, [.ref h11, .ref h12, .ref h13])), (h11, .inl (zI g, 4, .inl (upd (upd (upd (upd (fun _ => 0) 0 (-1)) 1 (-1)) 2 (-1)) 3 (-1))))] := hD
      refine lv_if_ne (tgt := 16) hx hb dX1_refuse_11 (by decide) (fun h => absurd h (by decide +kernel)) (fun _ => ?_)
      refine lv_iconst (v := (-1)) hx hb dX1_refuse_14 (by decide) ?_
      have hP9 := hP.sub (ws' := [(h0, .inr (1, [.ref h11, .ref h12, .ref h13])), (h11, .inl (zI g, 4, .inl (upd (upd (upd (upd (fun _ => 0) 0 (-1)) 1 (-1)) 2 (-1)) 3 (-1))))]) [0, 1] rfl
      have hD9 := hD.sub (ws' := [(h0, .inr (1, [.ref h11, .ref h12, .ref h13])), (h11, .inl (zI g, 4, .inl (upd (upd (upd (upd (fun _ => 0) 0 (-1)) 1 (-1)) 2 (-1)) 3 (-1))))]) [0, 1] (by decide) rfl
      exact W.iret (v := (-1)) hx hb hr (fun t ht hW => ⟨⟨(-1), 0, rfl, Or.inr (Or.inr (Or.inr (Or.inl ⟨i_3, i_4, i_6, i_7, rfl⟩))), by rw [ht]; exact hP9, hD9⟩, hS.F ht⟩) hS.2.2 dX1_refuse_15
    · skip
      have i_8 : 0 ≤ p2.toInt := i_8
      have i_9 : p2.toInt < 3 := i_9
      have hP : va_P g.1 vwCl [(h0, .inr (1, [.ref h11, .ref h12, .ref h13])), (h11, .inl (zI g, 4, .inl (upd (upd (upd (upd (fun _ => 0) 0 (-1)) 1 (-1)) 2 (-1)) 3 (-1))))] H := hP
      have hD : va_D A [(h0, .inr (1, [.ref h11, .ref h12, .ref h13])), (h11, .inl (zI g, 4, .inl (upd (upd (upd (upd (fun _ => 0) 0 (-1)) 1 (-1)) 2 (-1)) 3 (-1))))] := hD
      refine lv_if_ne (tgt := 16) hx hb dX1_refuse_11 (by decide) (fun _ => ?_) (fun h => absurd h (by decide +kernel))
      refine lv_aload_n hx hb dX1_refuse_16 rfl (lv_at hl 0 rfl) ?_
      refine va_get (D := g.1) (ci := 1) (v := .ref h11) (C := RX1) (T := TX1) (N := 3) hx hb hts zl_X1 hown hK hP 0 rfl rfl 0 (by decide) (hts _ m_f_RX1_9) (fun _ h => h) rfl dX1_refuse_17 ?_
      refine lv_iload_n hx hb dX1_refuse_20 rfl (lv_at hl 1 rfl) ?_
      rcases (show p1.toInt = 0 ∨ p1.toInt = 1 ∨ p1.toInt = 2 ∨ p1.toInt = 3 by omega) with j_10 | j_10 | j_10 | j_10
      · obtain rfl : p1 = 0 := Int32.toInt_inj.mp (show p1.toInt = (0 : Int32).toInt from j_10.trans rfl)
        refine va_iald (D := g.1) hx hb hK hP 1 0 rfl rfl (vp_in_iff.mpr (by decide +kernel)) dX1_refuse_21 ?_
        refine lv_topi (nm_r (e' := (-1)) (by rfl) ?_)
        refine lv_if_ge (tgt := 28) hx hb dX1_refuse_22 (by decide) (fun h => absurd h (by decide +kernel)) (fun _ => ?_)
        refine lv_bipush (v := (-11)) hx hb dX1_refuse_25 (by decide) ?_
        have hP9 := hP.sub (ws' := [(h0, .inr (1, [.ref h11, .ref h12, .ref h13])), (h11, .inl (zI g, 4, .inl (upd (upd (upd (upd (fun _ => 0) 0 (-1)) 1 (-1)) 2 (-1)) 3 (-1))))]) [0, 1] rfl
        have hD9 := hD.sub (ws' := [(h0, .inr (1, [.ref h11, .ref h12, .ref h13])), (h11, .inl (zI g, 4, .inl (upd (upd (upd (upd (fun _ => 0) 0 (-1)) 1 (-1)) 2 (-1)) 3 (-1))))]) [0, 1] (by decide) rfl
        exact W.iret (v := (-11)) hx hb hr (fun t ht hW => ⟨⟨(-11), 0, rfl, Or.inr (Or.inr (Or.inr (Or.inr (Or.inl ⟨i_3, i_4, i_8, i_9, j_10, rfl⟩)))), by rw [ht]; exact hP9, hD9⟩, hS.F ht⟩) hS.2.2 dX1_refuse_27
      · obtain rfl : p1 = 1 := Int32.toInt_inj.mp (show p1.toInt = (1 : Int32).toInt from j_10.trans rfl)
        refine va_iald (D := g.1) hx hb hK hP 1 0 rfl rfl (vp_in_iff.mpr (by decide +kernel)) dX1_refuse_21 ?_
        refine lv_topi (nm_r (e' := (-1)) (by rfl) ?_)
        refine lv_if_ge (tgt := 28) hx hb dX1_refuse_22 (by decide) (fun h => absurd h (by decide +kernel)) (fun _ => ?_)
        refine lv_bipush (v := (-11)) hx hb dX1_refuse_25 (by decide) ?_
        have hP9 := hP.sub (ws' := [(h0, .inr (1, [.ref h11, .ref h12, .ref h13])), (h11, .inl (zI g, 4, .inl (upd (upd (upd (upd (fun _ => 0) 0 (-1)) 1 (-1)) 2 (-1)) 3 (-1))))]) [0, 1] rfl
        have hD9 := hD.sub (ws' := [(h0, .inr (1, [.ref h11, .ref h12, .ref h13])), (h11, .inl (zI g, 4, .inl (upd (upd (upd (upd (fun _ => 0) 0 (-1)) 1 (-1)) 2 (-1)) 3 (-1))))]) [0, 1] (by decide) rfl
        exact W.iret (v := (-11)) hx hb hr (fun t ht hW => ⟨⟨(-11), 0, rfl, Or.inr (Or.inr (Or.inr (Or.inr (Or.inr (Or.inl ⟨i_3, i_4, i_8, i_9, j_10, rfl⟩))))), by rw [ht]; exact hP9, hD9⟩, hS.F ht⟩) hS.2.2 dX1_refuse_27
      · obtain rfl : p1 = 2 := Int32.toInt_inj.mp (show p1.toInt = (2 : Int32).toInt from j_10.trans rfl)
        refine va_iald (D := g.1) hx hb hK hP 1 0 rfl rfl (vp_in_iff.mpr (by decide +kernel)) dX1_refuse_21 ?_
        refine lv_topi (nm_r (e' := (-1)) (by rfl) ?_)
        refine lv_if_ge (tgt := 28) hx hb dX1_refuse_22 (by decide) (fun h => absurd h (by decide +kernel)) (fun _ => ?_)
        refine lv_bipush (v := (-11)) hx hb dX1_refuse_25 (by decide) ?_
        have hP9 := hP.sub (ws' := [(h0, .inr (1, [.ref h11, .ref h12, .ref h13])), (h11, .inl (zI g, 4, .inl (upd (upd (upd (upd (fun _ => 0) 0 (-1)) 1 (-1)) 2 (-1)) 3 (-1))))]) [0, 1] rfl
        have hD9 := hD.sub (ws' := [(h0, .inr (1, [.ref h11, .ref h12, .ref h13])), (h11, .inl (zI g, 4, .inl (upd (upd (upd (upd (fun _ => 0) 0 (-1)) 1 (-1)) 2 (-1)) 3 (-1))))]) [0, 1] (by decide) rfl
        exact W.iret (v := (-11)) hx hb hr (fun t ht hW => ⟨⟨(-11), 0, rfl, Or.inr (Or.inr (Or.inr (Or.inr (Or.inr (Or.inr (Or.inl ⟨i_3, i_4, i_8, i_9, j_10, rfl⟩)))))), by rw [ht]; exact hP9, hD9⟩, hS.F ht⟩) hS.2.2 dX1_refuse_27
      · obtain rfl : p1 = 3 := Int32.toInt_inj.mp (show p1.toInt = (3 : Int32).toInt from j_10.trans rfl)
        refine va_iald (D := g.1) hx hb hK hP 1 0 rfl rfl (vp_in_iff.mpr (by decide +kernel)) dX1_refuse_21 ?_
        refine lv_topi (nm_r (e' := (-1)) (by rfl) ?_)
        refine lv_if_ge (tgt := 28) hx hb dX1_refuse_22 (by decide) (fun h => absurd h (by decide +kernel)) (fun _ => ?_)
        refine lv_bipush (v := (-11)) hx hb dX1_refuse_25 (by decide) ?_
        have hP9 := hP.sub (ws' := [(h0, .inr (1, [.ref h11, .ref h12, .ref h13])), (h11, .inl (zI g, 4, .inl (upd (upd (upd (upd (fun _ => 0) 0 (-1)) 1 (-1)) 2 (-1)) 3 (-1))))]) [0, 1] rfl
        have hD9 := hD.sub (ws' := [(h0, .inr (1, [.ref h11, .ref h12, .ref h13])), (h11, .inl (zI g, 4, .inl (upd (upd (upd (upd (fun _ => 0) 0 (-1)) 1 (-1)) 2 (-1)) 3 (-1))))]) [0, 1] (by decide) rfl
        exact W.iret (v := (-11)) hx hb hr (fun t ht hW => ⟨⟨(-11), 0, rfl, Or.inr (Or.inr (Or.inr (Or.inr (Or.inr (Or.inr (Or.inr (⟨i_3, i_4, i_8, i_9, j_10, rfl⟩))))))), by rw [ht]; exact hP9, hD9⟩, hS.F ht⟩) hS.2.2 dX1_refuse_27
set_option maxHeartbeats 4000000 in
set_option maxRecDepth 100000 in
theorem kX4_item (l : Launch) (g : zG) (h0 h1 h2 h3 h4 h5 h6 h7 h8 h9 h10 h38 h39 h40 : Nat) (sz : Nat) (p1 : Int32) (p2 : Int32) (p3 : Int32) (p4 : Int64) : Met l yX4_item (.code yX4_item cX4_item 7 (some .int) :: zBig) ({ frames := 2, cells := 0, slots := 0, locals := 44 }) (va_Pc [.ref h0, .int p1, .int p2, .int p3, .long p4] (zPre g [(h0, .inr (4, [.ref h1, .ref h2, .int 0, .ref h3, .ref h4, .ref h5, .ref h6, .int (-1), .ref h7, .ref h8, .ref h9, .ref h10])), (h5, .inr (1, [.ref h38, .ref h39, .ref h40])), (h38, .inl (zI g, 4, .inl (upd (upd (upd (upd (fun _ => 0) 0 (-1)) 1 (-1)) 2 (-1)) 3 (-1))))] sz)) (va_Qi (fun (r : Int32) (_ : Nat) => (p1.toInt < 0 ∧ r = (-1)) ∨ (0 ≤ p1.toInt ∧ 4 ≤ p1.toInt ∧ r = (-1)) ∨ (0 ≤ p1.toInt ∧ p1.toInt < 4 ∧ p2.toInt < 0 ∧ r = (-1)) ∨ (0 ≤ p1.toInt ∧ p1.toInt < 4 ∧ 0 ≤ p2.toInt ∧ 3 ≤ p2.toInt ∧ r = (-1)) ∨ (0 ≤ p1.toInt ∧ p1.toInt < 4 ∧ 0 ≤ p2.toInt ∧ p2.toInt < 3 ∧ p1.toInt = 0 ∧ r = (-11)) ∨ (0 ≤ p1.toInt ∧ p1.toInt < 4 ∧ 0 ≤ p2.toInt ∧ p2.toInt < 3 ∧ p1.toInt = 1 ∧ r = (-11)) ∨ (0 ≤ p1.toInt ∧ p1.toInt < 4 ∧ 0 ≤ p2.toInt ∧ p2.toInt < 3 ∧ p1.toInt = 2 ∧ r = (-11)) ∨ (0 ≤ p1.toInt ∧ p1.toInt < 4 ∧ 0 ≤ p2.toInt ∧ p2.toInt < 3 ∧ p1.toInt = 3 ∧ r = (-11))) (zPost g (fun _ : Nat => []) (va_A [(h0, .inr (4, [.ref h1, .ref h2, .int 0, .ref h3, .ref h4, .ref h5, .ref h6, .int (-1), .ref h7, .ref h8, .ref h9, .ref h10])), (h5, .inr (1, [.ref h38, .ref h39, .ref h40])), (h38, .inl (zI g, 4, .inl (upd (upd (upd (upd (fun _ => 0) 0 (-1)) 1 (-1)) 2 (-1)) 3 (-1))))] sz)) (va_A [(h0, .inr (4, [.ref h1, .ref h2, .int 0, .ref h3, .ref h4, .ref h5, .ref h6, .int (-1), .ref h7, .ref h8, .ref h9, .ref h10])), (h5, .inr (1, [.ref h38, .ref h39, .ref h40])), (h38, .inl (zI g, 4, .inl (upd (upd (upd (upd (fun _ => 0) 0 (-1)) 1 (-1)) 2 (-1)) 3 (-1))))] sz)) 0 0 (va_A [(h0, .inr (4, [.ref h1, .ref h2, .int 0, .ref h3, .ref h4, .ref h5, .ref h6, .int (-1), .ref h7, .ref h8, .ref h9, .ref h10])), (h5, .inr (1, [.ref h38, .ref h39, .ref h40])), (h38, .inl (zI g, 4, .inl (upd (upd (upd (upd (fun _ => 0) 0 (-1)) 1 (-1)) 2 (-1)) 3 (-1))))] sz) := by
  refine zMetI rfl (Nat.le_of_ble_eq_true rfl) ?_
  intro p e s m args below meth c A ls hx hb hml hr hlocks hin hown hts hK hN hZ hP hD hA hS hAe hl
  have hown : s.vm.findClass RX4 = some m.cls := hown
  have hl : lv_has ls 7 [(0, .ref h0), (1, .int p1), (2, .int p2), (3, .int p3), (4, .long p4)] := hl
  refine lv_aload_n hx hb dX4_item_0 rfl (lv_at hl 0 rfl) ?_
  refine va_get (D := g.1) (ci := 4) (v := .ref h5) (C := RX4) (T := TX4) (N := 12) hx hb hts zl_X4 hown hK hP 0 rfl rfl 5 (by decide) (hts _ m_f_RX4_40) (fun _ h => h) rfl dX4_item_1 ?_
  refine lv_iload_n hx hb dX4_item_4 rfl (lv_at hl 1 rfl) ?_
  refine lv_iload_n hx hb dX4_item_5 rfl (lv_at hl 2 rfl) ?_
  refine lv_iload_n hx hb dX4_item_6 rfl (lv_at hl 3 rfl) ?_
  refine lv_iconst (v := 1) hx hb dX4_item_7 (by decide) ?_
  refine z_calli (wr := [(h0, .inr (4, [.ref h1, .ref h2, .int 0, .ref h3, .ref h4, .ref h5, .ref h6, .int (-1), .ref h7, .ref h8, .ref h9, .ref h10]))]) hP hD hS hA [1, 2] [0] (by decide) rfl rfl (by decide) (va_runVN (As := [.int p1, .int p2, .int p3, .int 1]) (rest := []) ⟨hx, hb, hml, hown, hts⟩ (kX1_refuse_4 l g h5 h38 h39 h40 s.heap.size p1 p2 p3) ⟨va_cnB 4 hts (zGood m_o_yX1_refuse) rfl rfl rfl (hN.m 28 (q := (RX4, 208, yX1_refuse)) rfl) (hts _ m_z_RX1) ⟨by decide +kernel, by decide +kernel, by decide +kernel⟩ ⟨Nat.le_of_ble_eq_true rfl, Nat.le_of_ble_eq_true rfl⟩, hts _ m_i_yX1_refuse, hts _ m_e_yX1_refuse⟩ (zPreV hK hN hZ hP hD hS hA [1, 2] (by decide) rfl rfl 1 1 rfl rfl) rfl rfl hl.1 rfl (lv_room (Nat.le_of_ble_eq_true rfl)) dX4_item_8 ⟨Nat.le_of_ble_eq_true rfl, Nat.le_of_ble_eq_true rfl⟩) (fun r u H locs hw hP hD hS => ?_)
  rcases hw with ⟨i_0, rfl⟩ | ⟨i_1, i_2, rfl⟩ | ⟨i_3, i_4, i_5, rfl⟩ | ⟨i_6, i_7, i_8, i_9, rfl⟩ | ⟨i_10, i_11, i_12, i_13, i_14, rfl⟩ | ⟨i_15, i_16, i_17, i_18, i_19, rfl⟩ | ⟨i_20, i_21, i_22, i_23, i_24, rfl⟩ | ⟨i_25, i_26, i_27, i_28, i_29, rfl⟩
  · skip
    have i_0 : p1.toInt < 0 := i_0
    have hP : va_P g.1 vwCl [(h0, .inr (4, [.ref h1, .ref h2, .int 0, .ref h3, .ref h4, .ref h5, .ref h6, .int (-1), .ref h7, .ref h8, .ref h9, .ref h10])), (h5, .inr (1, [.ref h38, .ref h39, .ref h40])), (h38, .inl (zI g, 4, .inl (upd (upd (upd (upd (fun _ => 0) 0 (-1)) 1 (-1)) 2 (-1)) 3 (-1))))] H := hP
    have hD : va_D A [(h0, .inr (4, [.ref h1, .ref h2, .int 0, .ref h3, .ref h4, .ref h5, .ref h6, .int (-1), .ref h7, .ref h8, .ref h9, .ref h10])), (h5, .inr (1, [.ref h38, .ref h39, .ref h40])), (h38, .inl (zI g, 4, .inl (upd (upd (upd (upd (fun _ => 0) 0 (-1)) 1 (-1)) 2 (-1)) 3 (-1))))] := hD
    refine lv_istore (lv' := [(6, .int (-1)), (0, .ref h0), (1, .int p1), (2, .int p2), (3, .int p3), (4, .long p4)]) hx hb dX4_item_11 hl (by decide) rfl (fun ls hl => ?_)
    refine lv_iload hx hb dX4_item_13 (lv_at hl 0 rfl) ?_
    refine lv_if_ge (tgt := 21) hx hb dX4_item_15 (by decide) (fun h => absurd h (by decide +kernel)) (fun _ => ?_)
    refine lv_iload hx hb dX4_item_18 (lv_at hl 0 rfl) ?_
    have hP9 := hP.sub (ws' := []) [] rfl
    have hD9 := hD.sub (ws' := []) [] (by decide) rfl
    exact W.iret (v := (-1)) hx hb hr (fun t ht hW => ⟨⟨(-1), 0, rfl, Or.inl ⟨i_0, rfl⟩, by rw [ht]; exact hP9, hD9⟩, hS.F ht⟩) hS.2.2 dX4_item_20
  · skip
    have i_1 : 0 ≤ p1.toInt := i_1
    have i_2 : 4 ≤ p1.toInt := i_2
    have hP : va_P g.1 vwCl [(h0, .inr (4, [.ref h1, .ref h2, .int 0, .ref h3, .ref h4, .ref h5, .ref h6, .int (-1), .ref h7, .ref h8, .ref h9, .ref h10])), (h5, .inr (1, [.ref h38, .ref h39, .ref h40])), (h38, .inl (zI g, 4, .inl (upd (upd (upd (upd (fun _ => 0) 0 (-1)) 1 (-1)) 2 (-1)) 3 (-1))))] H := hP
    have hD : va_D A [(h0, .inr (4, [.ref h1, .ref h2, .int 0, .ref h3, .ref h4, .ref h5, .ref h6, .int (-1), .ref h7, .ref h8, .ref h9, .ref h10])), (h5, .inr (1, [.ref h38, .ref h39, .ref h40])), (h38, .inl (zI g, 4, .inl (upd (upd (upd (upd (fun _ => 0) 0 (-1)) 1 (-1)) 2 (-1)) 3 (-1))))] := hD
    refine lv_istore (lv' := [(6, .int (-1)), (0, .ref h0), (1, .int p1), (2, .int p2), (3, .int p3), (4, .long p4)]) hx hb dX4_item_11 hl (by decide) rfl (fun ls hl => ?_)
    refine lv_iload hx hb dX4_item_13 (lv_at hl 0 rfl) ?_
    refine lv_if_ge (tgt := 21) hx hb dX4_item_15 (by decide) (fun h => absurd h (by decide +kernel)) (fun _ => ?_)
    refine lv_iload hx hb dX4_item_18 (lv_at hl 0 rfl) ?_
    have hP9 := hP.sub (ws' := []) [] rfl
    have hD9 := hD.sub (ws' := []) [] (by decide) rfl
    exact W.iret (v := (-1)) hx hb hr (fun t ht hW => ⟨⟨(-1), 0, rfl, Or.inr (Or.inl ⟨i_1, i_2, rfl⟩), by rw [ht]; exact hP9, hD9⟩, hS.F ht⟩) hS.2.2 dX4_item_20
  · skip
    have i_3 : 0 ≤ p1.toInt := i_3
    have i_4 : p1.toInt < 4 := i_4
    have i_5 : p2.toInt < 0 := i_5
    have hP : va_P g.1 vwCl [(h0, .inr (4, [.ref h1, .ref h2, .int 0, .ref h3, .ref h4, .ref h5, .ref h6, .int (-1), .ref h7, .ref h8, .ref h9, .ref h10])), (h5, .inr (1, [.ref h38, .ref h39, .ref h40])), (h38, .inl (zI g, 4, .inl (upd (upd (upd (upd (fun _ => 0) 0 (-1)) 1 (-1)) 2 (-1)) 3 (-1))))] H := hP
    have hD : va_D A [(h0, .inr (4, [.ref h1, .ref h2, .int 0, .ref h3, .ref h4, .ref h5, .ref h6, .int (-1), .ref h7, .ref h8, .ref h9, .ref h10])), (h5, .inr (1, [.ref h38, .ref h39, .ref h40])), (h38, .inl (zI g, 4, .inl (upd (upd (upd (upd (fun _ => 0) 0 (-1)) 1 (-1)) 2 (-1)) 3 (-1))))] := hD
    refine lv_istore (lv' := [(6, .int (-1)), (0, .ref h0), (1, .int p1), (2, .int p2), (3, .int p3), (4, .long p4)]) hx hb dX4_item_11 hl (by decide) rfl (fun ls hl => ?_)
    refine lv_iload hx hb dX4_item_13 (lv_at hl 0 rfl) ?_
    refine lv_if_ge (tgt := 21) hx hb dX4_item_15 (by decide) (fun h => absurd h (by decide +kernel)) (fun _ => ?_)
    refine lv_iload hx hb dX4_item_18 (lv_at hl 0 rfl) ?_
    have hP9 := hP.sub (ws' := []) [] rfl
    have hD9 := hD.sub (ws' := []) [] (by decide) rfl
    exact W.iret (v := (-1)) hx hb hr (fun t ht hW => ⟨⟨(-1), 0, rfl, Or.inr (Or.inr (Or.inl ⟨i_3, i_4, i_5, rfl⟩)), by rw [ht]; exact hP9, hD9⟩, hS.F ht⟩) hS.2.2 dX4_item_20
  · skip
    have i_6 : 0 ≤ p1.toInt := i_6
    have i_7 : p1.toInt < 4 := i_7
    have i_8 : 0 ≤ p2.toInt := i_8
    have i_9 : 3 ≤ p2.toInt := i_9
    have hP : va_P g.1 vwCl [(h0, .inr (4, [.ref h1, .ref h2, .int 0, .ref h3, .ref h4, .ref h5, .ref h6, .int (-1), .ref h7, .ref h8, .ref h9, .ref h10])), (h5, .inr (1, [.ref h38, .ref h39, .ref h40])), (h38, .inl (zI g, 4, .inl (upd (upd (upd (upd (fun _ => 0) 0 (-1)) 1 (-1)) 2 (-1)) 3 (-1))))] H := hP
    have hD : va_D A [(h0, .inr (4, [.ref h1, .ref h2, .int 0, .ref h3, .ref h4, .ref h5, .ref h6, .int (-1), .ref h7, .ref h8, .ref h9, .ref h10])), (h5, .inr (1, [.ref h38, .ref h39, .ref h40])), (h38, .inl (zI g, 4, .inl (upd (upd (upd (upd (fun _ => 0) 0 (-1)) 1 (-1)) 2 (-1)) 3 (-1))))] := hD
    refine lv_istore (lv' := [(6, .int (-1)), (0, .ref h0), (1, .int p1), (2, .int p2), (3, .int p3), (4, .long p4)]) hx hb dX4_item_11 hl (by decide) rfl (fun ls hl => ?_)
    refine lv_iload hx hb dX4_item_13 (lv_at hl 0 rfl) ?_
    refine lv_if_ge (tgt := 21) hx hb dX4_item_15 (by decide) (fun h => absurd h (by decide +kernel)) (fun _ => ?_)
    refine lv_iload hx hb dX4_item_18 (lv_at hl 0 rfl) ?_
    have hP9 := hP.sub (ws' := []) [] rfl
    have hD9 := hD.sub (ws' := []) [] (by decide) rfl
    exact W.iret (v := (-1)) hx hb hr (fun t ht hW => ⟨⟨(-1), 0, rfl, Or.inr (Or.inr (Or.inr (Or.inl ⟨i_6, i_7, i_8, i_9, rfl⟩))), by rw [ht]; exact hP9, hD9⟩, hS.F ht⟩) hS.2.2 dX4_item_20
  · skip
    have i_10 : 0 ≤ p1.toInt := i_10
    have i_11 : p1.toInt < 4 := i_11
    have i_12 : 0 ≤ p2.toInt := i_12
    have i_13 : p2.toInt < 3 := i_13
    have i_14 : p1.toInt = 0 := i_14
    have hP : va_P g.1 vwCl [(h0, .inr (4, [.ref h1, .ref h2, .int 0, .ref h3, .ref h4, .ref h5, .ref h6, .int (-1), .ref h7, .ref h8, .ref h9, .ref h10])), (h5, .inr (1, [.ref h38, .ref h39, .ref h40])), (h38, .inl (zI g, 4, .inl (upd (upd (upd (upd (fun _ => 0) 0 (-1)) 1 (-1)) 2 (-1)) 3 (-1))))] H := hP
    have hD : va_D A [(h0, .inr (4, [.ref h1, .ref h2, .int 0, .ref h3, .ref h4, .ref h5, .ref h6, .int (-1), .ref h7, .ref h8, .ref h9, .ref h10])), (h5, .inr (1, [.ref h38, .ref h39, .ref h40])), (h38, .inl (zI g, 4, .inl (upd (upd (upd (upd (fun _ => 0) 0 (-1)) 1 (-1)) 2 (-1)) 3 (-1))))] := hD
    refine lv_istore (lv' := [(6, .int (-11)), (0, .ref h0), (1, .int p1), (2, .int p2), (3, .int p3), (4, .long p4)]) hx hb dX4_item_11 hl (by decide) rfl (fun ls hl => ?_)
    refine lv_iload hx hb dX4_item_13 (lv_at hl 0 rfl) ?_
    refine lv_if_ge (tgt := 21) hx hb dX4_item_15 (by decide) (fun h => absurd h (by decide +kernel)) (fun _ => ?_)
    refine lv_iload hx hb dX4_item_18 (lv_at hl 0 rfl) ?_
    have hP9 := hP.sub (ws' := []) [] rfl
    have hD9 := hD.sub (ws' := []) [] (by decide) rfl
    exact W.iret (v := (-11)) hx hb hr (fun t ht hW => ⟨⟨(-11), 0, rfl, Or.inr (Or.inr (Or.inr (Or.inr (Or.inl ⟨i_10, i_11, i_12, i_13, i_14, rfl⟩)))), by rw [ht]; exact hP9, hD9⟩, hS.F ht⟩) hS.2.2 dX4_item_20
  · skip
    have i_15 : 0 ≤ p1.toInt := i_15
    have i_16 : p1.toInt < 4 := i_16
    have i_17 : 0 ≤ p2.toInt := i_17
    have i_18 : p2.toInt < 3 := i_18
    have i_19 : p1.toInt = 1 := i_19
    have hP : va_P g.1 vwCl [(h0, .inr (4, [.ref h1, .ref h2, .int 0, .ref h3, .ref h4, .ref h5, .ref h6, .int (-1), .ref h7, .ref h8, .ref h9, .ref h10])), (h5, .inr (1, [.ref h38, .ref h39, .ref h40])), (h38, .inl (zI g, 4, .inl (upd (upd (upd (upd (fun _ => 0) 0 (-1)) 1 (-1)) 2 (-1)) 3 (-1))))] H := hP
    have hD : va_D A [(h0, .inr (4, [.ref h1, .ref h2, .int 0, .ref h3, .ref h4, .ref h5, .ref h6, .int (-1), .ref h7, .ref h8, .ref h9, .ref h10])), (h5, .inr (1, [.ref h38, .ref h39, .ref h40])), (h38, .inl (zI g, 4, .inl (upd (upd (upd (upd (fun _ => 0) 0 (-1)) 1 (-1)) 2 (-1)) 3 (-1))))] := hD
    refine lv_istore (lv' := [(6, .int (-11)), (0, .ref h0), (1, .int p1), (2, .int p2), (3, .int p3), (4, .long p4)]) hx hb dX4_item_11 hl (by decide) rfl (fun ls hl => ?_)
    refine lv_iload hx hb dX4_item_13 (lv_at hl 0 rfl) ?_
    refine lv_if_ge (tgt := 21) hx hb dX4_item_15 (by decide) (fun h => absurd h (by decide +kernel)) (fun _ => ?_)
    refine lv_iload hx hb dX4_item_18 (lv_at hl 0 rfl) ?_
    have hP9 := hP.sub (ws' := []) [] rfl
    have hD9 := hD.sub (ws' := []) [] (by decide) rfl
    exact W.iret (v := (-11)) hx hb hr (fun t ht hW => ⟨⟨(-11), 0, rfl, Or.inr (Or.inr (Or.inr (Or.inr (Or.inr (Or.inl ⟨i_15, i_16, i_17, i_18, i_19, rfl⟩))))), by rw [ht]; exact hP9, hD9⟩, hS.F ht⟩) hS.2.2 dX4_item_20
  · skip
    have i_20 : 0 ≤ p1.toInt := i_20
    have i_21 : p1.toInt < 4 := i_21
    have i_22 : 0 ≤ p2.toInt := i_22
    have i_23 : p2.toInt < 3 := i_23
    have i_24 : p1.toInt = 2 := i_24
    have hP : va_P g.1 vwCl [(h0, .inr (4, [.ref h1, .ref h2, .int 0, .ref h3, .ref h4, .ref h5, .ref h6, .int (-1), .ref h7, .ref h8, .ref h9, .ref h10])), (h5, .inr (1, [.ref h38, .ref h39, .ref h40])), (h38, .inl (zI g, 4, .inl (upd (upd (upd (upd (fun _ => 0) 0 (-1)) 1 (-1)) 2 (-1)) 3 (-1))))] H := hP
    have hD : va_D A [(h0, .inr (4, [.ref h1, .ref h2, .int 0, .ref h3, .ref h4, .ref h5, .ref h6, .int (-1), .ref h7, .ref h8, .ref h9, .ref h10])), (h5, .inr (1, [.ref h38, .ref h39, .ref h40])), (h38, .inl (zI g, 4, .inl (upd (upd (upd (upd (fun _ => 0) 0 (-1)) 1 (-1)) 2 (-1)) 3 (-1))))] := hD
    refine lv_istore (lv' := [(6, .int (-11)), (0, .ref h0), (1, .int p1), (2, .int p2), (3, .int p3), (4, .long p4)]) hx hb dX4_item_11 hl (by decide) rfl (fun ls hl => ?_)
    refine lv_iload hx hb dX4_item_13 (lv_at hl 0 rfl) ?_
    refine lv_if_ge (tgt := 21) hx hb dX4_item_15 (by decide) (fun h => absurd h (by decide +kernel)) (fun _ => ?_)
    refine lv_iload hx hb dX4_item_18 (lv_at hl 0 rfl) ?_
    have hP9 := hP.sub (ws' := []) [] rfl
    have hD9 := hD.sub (ws' := []) [] (by decide) rfl
    exact W.iret (v := (-11)) hx hb hr (fun t ht hW => ⟨⟨(-11), 0, rfl, Or.inr (Or.inr (Or.inr (Or.inr (Or.inr (Or.inr (Or.inl ⟨i_20, i_21, i_22, i_23, i_24, rfl⟩)))))), by rw [ht]; exact hP9, hD9⟩, hS.F ht⟩) hS.2.2 dX4_item_20
  · skip
    have i_25 : 0 ≤ p1.toInt := i_25
    have i_26 : p1.toInt < 4 := i_26
    have i_27 : 0 ≤ p2.toInt := i_27
    have i_28 : p2.toInt < 3 := i_28
    have i_29 : p1.toInt = 3 := i_29
    have hP : va_P g.1 vwCl [(h0, .inr (4, [.ref h1, .ref h2, .int 0, .ref h3, .ref h4, .ref h5, .ref h6, .int (-1), .ref h7, .ref h8, .ref h9, .ref h10])), (h5, .inr (1, [.ref h38, .ref h39, .ref h40])), (h38, .inl (zI g, 4, .inl (upd (upd (upd (upd (fun _ => 0) 0 (-1)) 1 (-1)) 2 (-1)) 3 (-1))))] H := hP
    have hD : va_D A [(h0, .inr (4, [.ref h1, .ref h2, .int 0, .ref h3, .ref h4, .ref h5, .ref h6, .int (-1), .ref h7, .ref h8, .ref h9, .ref h10])), (h5, .inr (1, [.ref h38, .ref h39, .ref h40])), (h38, .inl (zI g, 4, .inl (upd (upd (upd (upd (fun _ => 0) 0 (-1)) 1 (-1)) 2 (-1)) 3 (-1))))] := hD
    refine lv_istore (lv' := [(6, .int (-11)), (0, .ref h0), (1, .int p1), (2, .int p2), (3, .int p3), (4, .long p4)]) hx hb dX4_item_11 hl (by decide) rfl (fun ls hl => ?_)
    refine lv_iload hx hb dX4_item_13 (lv_at hl 0 rfl) ?_
    refine lv_if_ge (tgt := 21) hx hb dX4_item_15 (by decide) (fun h => absurd h (by decide +kernel)) (fun _ => ?_)
    refine lv_iload hx hb dX4_item_18 (lv_at hl 0 rfl) ?_
    have hP9 := hP.sub (ws' := []) [] rfl
    have hD9 := hD.sub (ws' := []) [] (by decide) rfl
    exact W.iret (v := (-11)) hx hb hr (fun t ht hW => ⟨⟨(-11), 0, rfl, Or.inr (Or.inr (Or.inr (Or.inr (Or.inr (Or.inr (Or.inr (⟨i_25, i_26, i_27, i_28, i_29, rfl⟩))))))), by rw [ht]; exact hP9, hD9⟩, hS.F ht⟩) hS.2.2 dX4_item_20
set_option maxHeartbeats 4000000 in
set_option maxRecDepth 100000 in
theorem kX4_copy (l : Launch) (g : zG) (h0 h1 h2 h3 h4 h5 h6 h7 h8 h9 h10 h38 h39 h40 : Nat) (sz : Nat) (p1 : Int32) (p2 : Int32) (p3 : Int32) (p4 : Int32) (p5 : Int32) : Met l yX4_copy (.code yX4_copy cX4_copy 6 (some .int) :: zBig) ({ frames := 1, cells := 0, slots := 0, locals := 20 }) (va_Pc [.ref h0, .int p1, .int p2, .int p3, .int p4, .int p5] (zPre g [(h0, .inr (4, [.ref h1, .ref h2, .int 0, .ref h3, .ref h4, .ref h5, .ref h6, .int (-1), .ref h7, .ref h8, .ref h9, .ref h10])), (h5, .inr (1, [.ref h38, .ref h39, .ref h40])), (h38, .inl (zI g, 4, .inl (upd (upd (upd (upd (fun _ => 0) 0 (-1)) 1 (-1)) 2 (-1)) 3 (-1))))] sz)) (va_Qi (fun (r : Int32) (_ : Nat) => (p1.toInt < 0 ∧ r = (-1)) ∨ (0 ≤ p1.toInt ∧ 4 ≤ p1.toInt ∧ r = (-1)) ∨ (0 ≤ p1.toInt ∧ p1.toInt < 4 ∧ p3.toInt < 0 ∧ r = (-1)) ∨ (0 ≤ p1.toInt ∧ p1.toInt < 4 ∧ 0 ≤ p3.toInt ∧ 4 ≤ p3.toInt ∧ r = (-1)) ∨ (0 ≤ p1.toInt ∧ p1.toInt < 4 ∧ 0 ≤ p3.toInt ∧ p3.toInt < 4 ∧ p1.toInt = 0 ∧ r = (-11)) ∨ (0 ≤ p1.toInt ∧ p1.toInt < 4 ∧ 0 ≤ p3.toInt ∧ p3.toInt < 4 ∧ p1.toInt = 1 ∧ r = (-11)) ∨ (0 ≤ p1.toInt ∧ p1.toInt < 4 ∧ 0 ≤ p3.toInt ∧ p3.toInt < 4 ∧ p1.toInt = 2 ∧ r = (-11)) ∨ (0 ≤ p1.toInt ∧ p1.toInt < 4 ∧ 0 ≤ p3.toInt ∧ p3.toInt < 4 ∧ p1.toInt = 3 ∧ r = (-11))) (zPost g (fun _ : Nat => []) (va_A [(h0, .inr (4, [.ref h1, .ref h2, .int 0, .ref h3, .ref h4, .ref h5, .ref h6, .int (-1), .ref h7, .ref h8, .ref h9, .ref h10])), (h5, .inr (1, [.ref h38, .ref h39, .ref h40])), (h38, .inl (zI g, 4, .inl (upd (upd (upd (upd (fun _ => 0) 0 (-1)) 1 (-1)) 2 (-1)) 3 (-1))))] sz)) (va_A [(h0, .inr (4, [.ref h1, .ref h2, .int 0, .ref h3, .ref h4, .ref h5, .ref h6, .int (-1), .ref h7, .ref h8, .ref h9, .ref h10])), (h5, .inr (1, [.ref h38, .ref h39, .ref h40])), (h38, .inl (zI g, 4, .inl (upd (upd (upd (upd (fun _ => 0) 0 (-1)) 1 (-1)) 2 (-1)) 3 (-1))))] sz)) 0 0 (va_A [(h0, .inr (4, [.ref h1, .ref h2, .int 0, .ref h3, .ref h4, .ref h5, .ref h6, .int (-1), .ref h7, .ref h8, .ref h9, .ref h10])), (h5, .inr (1, [.ref h38, .ref h39, .ref h40])), (h38, .inl (zI g, 4, .inl (upd (upd (upd (upd (fun _ => 0) 0 (-1)) 1 (-1)) 2 (-1)) 3 (-1))))] sz) := by
  refine zMetI rfl (Nat.le_of_ble_eq_true rfl) ?_
  intro p e s m args below meth c A ls hx hb hml hr hlocks hin hown hts hK hN hZ hP hD hA hS hAe hl
  have hown : s.vm.findClass RX4 = some m.cls := hown
  have hl : lv_has ls 6 [(0, .ref h0), (1, .int p1), (2, .int p2), (3, .int p3), (4, .int p4), (5, .int p5)] := hl
  refine lv_iload_n hx hb dX4_copy_0 rfl (lv_at hl 1 rfl) ?_
  refine z_calli (wr := [(h0, .inr (4, [.ref h1, .ref h2, .int 0, .ref h3, .ref h4, .ref h5, .ref h6, .int (-1), .ref h7, .ref h8, .ref h9, .ref h10])), (h5, .inr (1, [.ref h38, .ref h39, .ref h40])), (h38, .inl (zI g, 4, .inl (upd (upd (upd (upd (fun _ => 0) 0 (-1)) 1 (-1)) 2 (-1)) 3 (-1))))]) hP hD hS hA [] [0, 1, 2] (by decide) rfl rfl (by decide) (va_runS (As := [.int p1]) (rest := []) ⟨hx, hb, hml, hown, hts⟩ (kX4_isSheet_6 l g  s.heap.size p1) ⟨callB_of 1 hts (zGood m_o_yX4_isSheet) rfl rfl rfl (hts _ m_z_RX4) (hts _ m_m_RX4_221) ⟨by decide +kernel, by decide +kernel, by decide +kernel⟩ ⟨Nat.le_of_ble_eq_true rfl, Nat.le_of_ble_eq_true rfl⟩, hts _ m_s_yX4_isSheet⟩ (zPreS hK hN hZ hP hD hS hA [] (by decide) rfl rfl) rfl rfl hl.1 rfl (lv_room (Nat.le_of_ble_eq_true rfl)) dX4_copy_1 ⟨Nat.le_of_ble_eq_true rfl, Nat.le_of_ble_eq_true rfl⟩) (fun r u H locs hw hP hD hS => ?_)
  rcases hw with ⟨i_0, rfl⟩ | ⟨i_1, i_2, rfl⟩ | ⟨i_3, i_4, rfl⟩
  · skip
    have i_0 : p1.toInt < 0 := i_0
    have hP : va_P g.1 vwCl [(h0, .inr (4, [.ref h1, .ref h2, .int 0, .ref h3, .ref h4, .ref h5, .ref h6, .int (-1), .ref h7, .ref h8, .ref h9, .ref h10])), (h5, .inr (1, [.ref h38, .ref h39, .ref h40])), (h38, .inl (zI g, 4, .inl (upd (upd (upd (upd (fun _ => 0) 0 (-1)) 1 (-1)) 2 (-1)) 3 (-1))))] H := hP
    have hD : va_D A [(h0, .inr (4, [.ref h1, .ref h2, .int 0, .ref h3, .ref h4, .ref h5, .ref h6, .int (-1), .ref h7, .ref h8, .ref h9, .ref h10])), (h5, .inr (1, [.ref h38, .ref h39, .ref h40])), (h38, .inl (zI g, 4, .inl (upd (upd (upd (upd (fun _ => 0) 0 (-1)) 1 (-1)) 2 (-1)) 3 (-1))))] := hD
    refine lv_if_eq (tgt := 14) hx hb dX4_copy_4 (by decide) (fun _ => ?_) (fun h => absurd h (by decide +kernel))
    refine lv_iconst (v := (-1)) hx hb dX4_copy_14 (by decide) ?_
    have hP9 := hP.sub (ws' := []) [] rfl
    have hD9 := hD.sub (ws' := []) [] (by decide) rfl
    exact W.iret (v := (-1)) hx hb hr (fun t ht hW => ⟨⟨(-1), 0, rfl, Or.inl ⟨i_0, rfl⟩, by rw [ht]; exact hP9, hD9⟩, hS.F ht⟩) hS.2.2 dX4_copy_15
  · skip
    have i_1 : 0 ≤ p1.toInt := i_1
    have i_2 : 4 ≤ p1.toInt := i_2
    have hP : va_P g.1 vwCl [(h0, .inr (4, [.ref h1, .ref h2, .int 0, .ref h3, .ref h4, .ref h5, .ref h6, .int (-1), .ref h7, .ref h8, .ref h9, .ref h10])), (h5, .inr (1, [.ref h38, .ref h39, .ref h40])), (h38, .inl (zI g, 4, .inl (upd (upd (upd (upd (fun _ => 0) 0 (-1)) 1 (-1)) 2 (-1)) 3 (-1))))] H := hP
    have hD : va_D A [(h0, .inr (4, [.ref h1, .ref h2, .int 0, .ref h3, .ref h4, .ref h5, .ref h6, .int (-1), .ref h7, .ref h8, .ref h9, .ref h10])), (h5, .inr (1, [.ref h38, .ref h39, .ref h40])), (h38, .inl (zI g, 4, .inl (upd (upd (upd (upd (fun _ => 0) 0 (-1)) 1 (-1)) 2 (-1)) 3 (-1))))] := hD
    refine lv_if_eq (tgt := 14) hx hb dX4_copy_4 (by decide) (fun _ => ?_) (fun h => absurd h (by decide +kernel))
    refine lv_iconst (v := (-1)) hx hb dX4_copy_14 (by decide) ?_
    have hP9 := hP.sub (ws' := []) [] rfl
    have hD9 := hD.sub (ws' := []) [] (by decide) rfl
    exact W.iret (v := (-1)) hx hb hr (fun t ht hW => ⟨⟨(-1), 0, rfl, Or.inr (Or.inl ⟨i_1, i_2, rfl⟩), by rw [ht]; exact hP9, hD9⟩, hS.F ht⟩) hS.2.2 dX4_copy_15
  · skip
    have i_3 : 0 ≤ p1.toInt := i_3
    have i_4 : p1.toInt < 4 := i_4
    have hP : va_P g.1 vwCl [(h0, .inr (4, [.ref h1, .ref h2, .int 0, .ref h3, .ref h4, .ref h5, .ref h6, .int (-1), .ref h7, .ref h8, .ref h9, .ref h10])), (h5, .inr (1, [.ref h38, .ref h39, .ref h40])), (h38, .inl (zI g, 4, .inl (upd (upd (upd (upd (fun _ => 0) 0 (-1)) 1 (-1)) 2 (-1)) 3 (-1))))] H := hP
    have hD : va_D A [(h0, .inr (4, [.ref h1, .ref h2, .int 0, .ref h3, .ref h4, .ref h5, .ref h6, .int (-1), .ref h7, .ref h8, .ref h9, .ref h10])), (h5, .inr (1, [.ref h38, .ref h39, .ref h40])), (h38, .inl (zI g, 4, .inl (upd (upd (upd (upd (fun _ => 0) 0 (-1)) 1 (-1)) 2 (-1)) 3 (-1))))] := hD
    refine lv_if_eq (tgt := 14) hx hb dX4_copy_4 (by decide) (fun h => absurd h (by decide +kernel)) (fun _ => ?_)
    refine lv_iload_n hx hb dX4_copy_7 rfl (lv_at hl 3 rfl) ?_
    refine z_calli (wr := [(h0, .inr (4, [.ref h1, .ref h2, .int 0, .ref h3, .ref h4, .ref h5, .ref h6, .int (-1), .ref h7, .ref h8, .ref h9, .ref h10])), (h5, .inr (1, [.ref h38, .ref h39, .ref h40])), (h38, .inl (zI g, 4, .inl (upd (upd (upd (upd (fun _ => 0) 0 (-1)) 1 (-1)) 2 (-1)) 3 (-1))))]) hP hD hS hA [] [0, 1, 2] (by decide) rfl rfl (by decide) (va_runS (As := [.int p3]) (rest := []) ⟨hx, hb, hml, hown, hts⟩ (kX4_isSheet_6 l g  H.size p3) ⟨callB_of 1 hts (zGood m_o_yX4_isSheet) rfl rfl rfl (hts _ m_z_RX4) (hts _ m_m_RX4_221) ⟨by decide +kernel, by decide +kernel, by decide +kernel⟩ ⟨Nat.le_of_ble_eq_true rfl, Nat.le_of_ble_eq_true rfl⟩, hts _ m_s_yX4_isSheet⟩ (zPreS hK hN hZ hP hD hS hA [] (by decide) rfl rfl) rfl rfl hl.1 rfl (lv_room (Nat.le_of_ble_eq_true rfl)) dX4_copy_8 ⟨Nat.le_of_ble_eq_true rfl, Nat.le_of_ble_eq_true rfl⟩) (fun r u H locs hw hP hD hS => ?_)
    rcases hw with ⟨i_5, rfl⟩ | ⟨i_6, i_7, rfl⟩ | ⟨i_8, i_9, rfl⟩
    · skip
      have i_5 : p3.toInt < 0 := i_5
      have hP : va_P g.1 vwCl [(h0, .inr (4, [.ref h1, .ref h2, .int 0, .ref h3, .ref h4, .ref h5, .ref h6, .int (-1), .ref h7, .ref h8, .ref h9, .ref h10])), (h5, .inr (1, [.ref h38, .ref h39, .ref h40])), (h38, .inl (zI g, 4, .inl (upd (upd (upd (upd (fun _ => 0) 0 (-1)) 1 (-1)) 2 (-1)) 3 (-1))))] H := hP
      have hD : va_D A [(h0, .inr (4, [.ref h1, .ref h2, .int 0, .ref h3, .ref h4, .ref h5, .ref h6, .int (-1), .ref h7, .ref h8, .ref h9, .ref h10])), (h5, .inr (1, [.ref h38, .ref h39, .ref h40])), (h38, .inl (zI g, 4, .inl (upd (upd (upd (upd (fun _ => 0) 0 (-1)) 1 (-1)) 2 (-1)) 3 (-1))))] := hD
      refine lv_if_ne (tgt := 16) hx hb dX4_copy_11 (by decide) (fun h => absurd h (by decide +kernel)) (fun _ => ?_)
      refine lv_iconst (v := (-1)) hx hb dX4_copy_14 (by decide) ?_
      have hP9 := hP.sub (ws' := []) [] rfl
      have hD9 := hD.sub (ws' := []) [] (by decide) rfl
      exact W.iret (v := (-1)) hx hb hr (fun t ht hW => ⟨⟨(-1), 0, rfl, Or.inr (Or.inr (Or.inl ⟨i_3, i_4, i_5, rfl⟩)), by rw [ht]; exact hP9, hD9⟩, hS.F ht⟩) hS.2.2 dX4_copy_15
    · skip
      have i_6 : 0 ≤ p3.toInt := i_6
      have i_7 : 4 ≤ p3.toInt := i_7
      have hP : va_P g.1 vwCl [(h0, .inr (4, [.ref h1, .ref h2, .int 0, .ref h3, .ref h4, .ref h5, .ref h6, .int (-1), .ref h7, .ref h8, .ref h9, .ref h10])), (h5, .inr (1, [.ref h38, .ref h39, .ref h40])), (h38, .inl (zI g, 4, .inl (upd (upd (upd (upd (fun _ => 0) 0 (-1)) 1 (-1)) 2 (-1)) 3 (-1))))] H := hP
      have hD : va_D A [(h0, .inr (4, [.ref h1, .ref h2, .int 0, .ref h3, .ref h4, .ref h5, .ref h6, .int (-1), .ref h7, .ref h8, .ref h9, .ref h10])), (h5, .inr (1, [.ref h38, .ref h39, .ref h40])), (h38, .inl (zI g, 4, .inl (upd (upd (upd (upd (fun _ => 0) 0 (-1)) 1 (-1)) 2 (-1)) 3 (-1))))] := hD
      refine lv_if_ne (tgt := 16) hx hb dX4_copy_11 (by decide) (fun h => absurd h (by decide +kernel)) (fun _ => ?_)
      refine lv_iconst (v := (-1)) hx hb dX4_copy_14 (by decide) ?_
      have hP9 := hP.sub (ws' := []) [] rfl
      have hD9 := hD.sub (ws' := []) [] (by decide) rfl
      exact W.iret (v := (-1)) hx hb hr (fun t ht hW => ⟨⟨(-1), 0, rfl, Or.inr (Or.inr (Or.inr (Or.inl ⟨i_3, i_4, i_6, i_7, rfl⟩))), by rw [ht]; exact hP9, hD9⟩, hS.F ht⟩) hS.2.2 dX4_copy_15
    · skip
      have i_8 : 0 ≤ p3.toInt := i_8
      have i_9 : p3.toInt < 4 := i_9
      have hP : va_P g.1 vwCl [(h0, .inr (4, [.ref h1, .ref h2, .int 0, .ref h3, .ref h4, .ref h5, .ref h6, .int (-1), .ref h7, .ref h8, .ref h9, .ref h10])), (h5, .inr (1, [.ref h38, .ref h39, .ref h40])), (h38, .inl (zI g, 4, .inl (upd (upd (upd (upd (fun _ => 0) 0 (-1)) 1 (-1)) 2 (-1)) 3 (-1))))] H := hP
      have hD : va_D A [(h0, .inr (4, [.ref h1, .ref h2, .int 0, .ref h3, .ref h4, .ref h5, .ref h6, .int (-1), .ref h7, .ref h8, .ref h9, .ref h10])), (h5, .inr (1, [.ref h38, .ref h39, .ref h40])), (h38, .inl (zI g, 4, .inl (upd (upd (upd (upd (fun _ => 0) 0 (-1)) 1 (-1)) 2 (-1)) 3 (-1))))] := hD
      refine lv_if_ne (tgt := 16) hx hb dX4_copy_11 (by decide) (fun _ => ?_) (fun h => absurd h (by decide +kernel))
      refine lv_aload_n hx hb dX4_copy_16 rfl (lv_at hl 0 rfl) ?_
      refine va_get (D := g.1) (ci := 4) (v := .ref h5) (C := RX4) (T := TX4) (N := 12) hx hb hts zl_X4 hown hK hP 0 rfl rfl 5 (by decide) (hts _ m_f_RX4_40) (fun _ h => h) rfl dX4_copy_17 ?_
      refine va_getN (D := g.1) (ci := 1) (v := .ref h38) (C := RX1) (T := TX1) (N := 3) hx hb hts zl_X1 hown hK hP 1 rfl rfl 0 (by decide) (hN.f 27 (q := (RX4, 231, "FishSteps$Sheets", "lane", "[I")) rfl) (fun _ h => h) rfl dX4_copy_20 ?_
      refine lv_iload_n hx hb dX4_copy_23 rfl (lv_at hl 1 rfl) ?_
      rcases (show p1.toInt = 0 ∨ p1.toInt = 1 ∨ p1.toInt = 2 ∨ p1.toInt = 3 by omega) with j_10 | j_10 | j_10 | j_10
      · obtain rfl : p1 = 0 := Int32.toInt_inj.mp (show p1.toInt = (0 : Int32).toInt from j_10.trans rfl)
        refine va_iald (D := g.1) hx hb hK hP 2 0 rfl rfl (vp_in_iff.mpr (by decide +kernel)) dX4_copy_24 ?_
        refine lv_topi (nm_r (e' := (-1)) (by rfl) ?_)
        refine lv_if_lt (tgt := 40) hx hb dX4_copy_25 (by decide) (fun _ => ?_) (fun h => absurd h (by decide +kernel))
        refine lv_bipush (v := (-11)) hx hb dX4_copy_40 (by decide) ?_
        have hP9 := hP.sub (ws' := []) [] rfl
        have hD9 := hD.sub (ws' := []) [] (by decide) rfl
        exact W.iret (v := (-11)) hx hb hr (fun t ht hW => ⟨⟨(-11), 0, rfl, Or.inr (Or.inr (Or.inr (Or.inr (Or.inl ⟨i_3, i_4, i_8, i_9, j_10, rfl⟩)))), by rw [ht]; exact hP9, hD9⟩, hS.F ht⟩) hS.2.2 dX4_copy_42
      · obtain rfl : p1 = 1 := Int32.toInt_inj.mp (show p1.toInt = (1 : Int32).toInt from j_10.trans rfl)
        refine va_iald (D := g.1) hx hb hK hP 2 0 rfl rfl (vp_in_iff.mpr (by decide +kernel)) dX4_copy_24 ?_
        refine lv_topi (nm_r (e' := (-1)) (by rfl) ?_)
        refine lv_if_lt (tgt := 40) hx hb dX4_copy_25 (by decide) (fun _ => ?_) (fun h => absurd h (by decide +kernel))
        refine lv_bipush (v := (-11)) hx hb dX4_copy_40 (by decide) ?_
        have hP9 := hP.sub (ws' := []) [] rfl
        have hD9 := hD.sub (ws' := []) [] (by decide) rfl
        exact W.iret (v := (-11)) hx hb hr (fun t ht hW => ⟨⟨(-11), 0, rfl, Or.inr (Or.inr (Or.inr (Or.inr (Or.inr (Or.inl ⟨i_3, i_4, i_8, i_9, j_10, rfl⟩))))), by rw [ht]; exact hP9, hD9⟩, hS.F ht⟩) hS.2.2 dX4_copy_42
      · obtain rfl : p1 = 2 := Int32.toInt_inj.mp (show p1.toInt = (2 : Int32).toInt from j_10.trans rfl)
        refine va_iald (D := g.1) hx hb hK hP 2 0 rfl rfl (vp_in_iff.mpr (by decide +kernel)) dX4_copy_24 ?_
        refine lv_topi (nm_r (e' := (-1)) (by rfl) ?_)
        refine lv_if_lt (tgt := 40) hx hb dX4_copy_25 (by decide) (fun _ => ?_) (fun h => absurd h (by decide +kernel))
        refine lv_bipush (v := (-11)) hx hb dX4_copy_40 (by decide) ?_
        have hP9 := hP.sub (ws' := []) [] rfl
        have hD9 := hD.sub (ws' := []) [] (by decide) rfl
        exact W.iret (v := (-11)) hx hb hr (fun t ht hW => ⟨⟨(-11), 0, rfl, Or.inr (Or.inr (Or.inr (Or.inr (Or.inr (Or.inr (Or.inl ⟨i_3, i_4, i_8, i_9, j_10, rfl⟩)))))), by rw [ht]; exact hP9, hD9⟩, hS.F ht⟩) hS.2.2 dX4_copy_42
      · obtain rfl : p1 = 3 := Int32.toInt_inj.mp (show p1.toInt = (3 : Int32).toInt from j_10.trans rfl)
        refine va_iald (D := g.1) hx hb hK hP 2 0 rfl rfl (vp_in_iff.mpr (by decide +kernel)) dX4_copy_24 ?_
        refine lv_topi (nm_r (e' := (-1)) (by rfl) ?_)
        refine lv_if_lt (tgt := 40) hx hb dX4_copy_25 (by decide) (fun _ => ?_) (fun h => absurd h (by decide +kernel))
        refine lv_bipush (v := (-11)) hx hb dX4_copy_40 (by decide) ?_
        have hP9 := hP.sub (ws' := []) [] rfl
        have hD9 := hD.sub (ws' := []) [] (by decide) rfl
        exact W.iret (v := (-11)) hx hb hr (fun t ht hW => ⟨⟨(-11), 0, rfl, Or.inr (Or.inr (Or.inr (Or.inr (Or.inr (Or.inr (Or.inr (⟨i_3, i_4, i_8, i_9, j_10, rfl⟩))))))), by rw [ht]; exact hP9, hD9⟩, hS.F ht⟩) hS.2.2 dX4_copy_42
set_option maxHeartbeats 4000000 in
set_option maxRecDepth 100000 in
theorem kX5_in (l : Launch) (g : zG) (sz : Nat) (p0 : Int64) : Met l yX5_in (.code yX5_in cX5_in 6 (some .boolean) :: zBig) ({ frames := 0, cells := 0, slots := 0, locals := 0 }) (va_Pc [.long p0, .long 0, .long 4] (zPre g [] sz)) (va_Qi (fun (r : Int32) (_ : Nat) => ((p0 : Int64).toInt < 0 ∧ r = 0) ∨ (0 ≤ (p0 : Int64).toInt ∧ 4 < (p0 : Int64).toInt ∧ r = 0) ∨ (0 ≤ (p0 : Int64).toInt ∧ (p0 : Int64).toInt ≤ 4 ∧ r = 1)) (zPost g (fun _ : Nat => []) (va_A [] sz)) (va_A [] sz)) 0 0 (va_A [] sz) := by
  refine zMetI rfl (Nat.le_of_ble_eq_true rfl) ?_
  intro p e s m args below meth c A ls hx hb hml hr hlocks hin hown hts hK hN hZ hP hD hA hS hAe hl
  have hown : s.vm.findClass RX5 = some m.cls := hown
  have hl : lv_has ls 6 [(0, .long p0), (2, .long 0), (4, .long 4)] := hl
  refine lv_lload_n hx hb dX5_in_0 rfl (lv_at hl 0 rfl) ?_
  refine lv_lload_n hx hb dX5_in_1 rfl (lv_at hl 1 rfl) ?_
  refine W.lcmp hx hb dX5_in_2 ?_
  refine lv_if_lt (tgt := 17) hx hb dX5_in_3 (by decide) (fun c_0 => ?_) (fun c_0 => ?_)
  · have i_0 : (p0 : Int64).toInt < 0 := zl_lt (rfl) (rfl) ((lg_cmp_lt _ _).mp c_0)
    refine lv_iconst (v := 0) hx hb dX5_in_17 (by decide) ?_
    have hP9 := hP.sub (ws' := []) [] rfl
    have hD9 := hD.sub (ws' := []) [] (by decide) rfl
    exact W.zret (v := 0) hx hb hr (by decide) (fun t ht hW => ⟨⟨0, 0, rfl, Or.inl ⟨i_0, rfl⟩, by rw [ht]; exact hP9, hD9⟩, hS.F ht⟩) hS.2.2 dX5_in_18
  · have i_0 : 0 ≤ (p0 : Int64).toInt := zl_nlt (rfl) (rfl) (fun h => c_0 ((lg_cmp_lt _ _).mpr h))
    refine lv_lload_n hx hb dX5_in_6 rfl (lv_at hl 0 rfl) ?_
    refine lv_lload hx hb dX5_in_7 (lv_at hl 2 rfl) ?_
    refine W.lcmp hx hb dX5_in_9 ?_
    refine lv_if_gt (tgt := 17) hx hb dX5_in_10 (by decide) (fun c_1 => ?_) (fun c_1 => ?_)
    · have i_1 : 4 < (p0 : Int64).toInt := zl_lt (rfl) (rfl) ((lg_cmp_gt _ _).mp c_1)
      refine lv_iconst (v := 0) hx hb dX5_in_17 (by decide) ?_
      have hP9 := hP.sub (ws' := []) [] rfl
      have hD9 := hD.sub (ws' := []) [] (by decide) rfl
      exact W.zret (v := 0) hx hb hr (by decide) (fun t ht hW => ⟨⟨0, 0, rfl, Or.inr (Or.inl ⟨i_0, i_1, rfl⟩), by rw [ht]; exact hP9, hD9⟩, hS.F ht⟩) hS.2.2 dX5_in_18
    · have i_1 : (p0 : Int64).toInt ≤ 4 := zl_nlt (rfl) (rfl) (fun h => c_1 ((lg_cmp_gt _ _).mpr h))
      refine lv_iconst (v := 1) hx hb dX5_in_13 (by decide) ?_
      refine lv_goto (tgt := 18) hx hb dX5_in_14 (by decide) ?_
      have hP9 := hP.sub (ws' := []) [] rfl
      have hD9 := hD.sub (ws' := []) [] (by decide) rfl
      exact W.zret (v := 1) hx hb hr (by decide) (fun t ht hW => ⟨⟨1, 0, rfl, Or.inr (Or.inr (⟨i_0, i_1, rfl⟩)), by rw [ht]; exact hP9, hD9⟩, hS.F ht⟩) hS.2.2 dX5_in_18
set_option maxHeartbeats 4000000 in
set_option maxRecDepth 100000 in
theorem kX5_leastOf (l : Launch) (g : zG) (sz : Nat) (p0 : Int32) : Met l yX5_leastOf (.code yX5_leastOf cX5_leastOf 1 (some .int) :: zBig) ({ frames := 0, cells := 0, slots := 0, locals := 0 }) (va_Pc [.int p0] (zPre g [] sz)) (va_Qi (fun (r : Int32) (_ : Nat) => (2 ≤ p0.toInt ∧ r = 0) ∨ (p0.toInt < 2 ∧ r = 1)) (zPost g (fun _ : Nat => []) (va_A [] sz)) (va_A [] sz)) 0 0 (va_A [] sz) := by
  refine zMetI rfl (Nat.le_of_ble_eq_true rfl) ?_
  intro p e s m args below meth c A ls hx hb hml hr hlocks hin hown hts hK hN hZ hP hD hA hS hAe hl
  have hown : s.vm.findClass RX5 = some m.cls := hown
  have hl : lv_has ls 1 [(0, .int p0)] := hl
  refine lv_iload_n hx hb dX5_leastOf_0 rfl (lv_at hl 0 rfl) ?_
  refine lv_iconst (v := 2) hx hb dX5_leastOf_1 (by decide) ?_
  refine lv_icmp_ge (tgt := 9) hx hb dX5_leastOf_2 (by decide) (fun c_0 => ?_) (fun c_0 => ?_)
  · have i_0 : 2 ≤ p0.toInt := z_le (rfl) (rfl) c_0
    refine lv_iconst (v := 0) hx hb dX5_leastOf_9 (by decide) ?_
    have hP9 := hP.sub (ws' := []) [] rfl
    have hD9 := hD.sub (ws' := []) [] (by decide) rfl
    exact W.iret (v := 0) hx hb hr (fun t ht hW => ⟨⟨0, 0, rfl, Or.inl ⟨i_0, rfl⟩, by rw [ht]; exact hP9, hD9⟩, hS.F ht⟩) hS.2.2 dX5_leastOf_10
  · have i_0 : p0.toInt < 2 := z_nle (rfl) (rfl) c_0
    refine lv_iconst (v := 1) hx hb dX5_leastOf_5 (by decide) ?_
    refine lv_goto (tgt := 10) hx hb dX5_leastOf_6 (by decide) ?_
    have hP9 := hP.sub (ws' := []) [] rfl
    have hD9 := hD.sub (ws' := []) [] (by decide) rfl
    exact W.iret (v := 1) hx hb hr (fun t ht hW => ⟨⟨1, 0, rfl, Or.inr (⟨i_0, rfl⟩), by rw [ht]; exact hP9, hD9⟩, hS.F ht⟩) hS.2.2 dX5_leastOf_10
set_option maxHeartbeats 4000000 in
set_option maxRecDepth 100000 in
theorem kX5_mostOf (l : Launch) (g : zG) (sz : Nat) (p0 : Int32) : Met l yX5_mostOf (.code yX5_mostOf cX5_mostOf 1 (some .int) :: zBig) ({ frames := 0, cells := 0, slots := 0, locals := 0 }) (va_Pc [.int p0] (zPre g [] sz)) (va_Qi (fun (r : Int32) (_ : Nat) => (p0.toInt ≠ 1 ∧ p0.toInt ≠ 3 ∧ r = 99) ∨ (p0.toInt ≠ 1 ∧ p0.toInt = 3 ∧ r = 1) ∨ (p0.toInt = 1 ∧ r = 9)) (zPost g (fun _ : Nat => []) (va_A [] sz)) (va_A [] sz)) 0 0 (va_A [] sz) := by
  refine zMetI rfl (Nat.le_of_ble_eq_true rfl) ?_
  intro p e s m args below meth c A ls hx hb hml hr hlocks hin hown hts hK hN hZ hP hD hA hS hAe hl
  have hown : s.vm.findClass RX5 = some m.cls := hown
  have hl : lv_has ls 1 [(0, .int p0)] := hl
  refine lv_iload_n hx hb dX5_mostOf_0 rfl (lv_at hl 0 rfl) ?_
  refine lv_iconst (v := 1) hx hb dX5_mostOf_1 (by decide) ?_
  refine lv_icmp_ne (tgt := 10) hx hb dX5_mostOf_2 (by decide) (fun c_0 => ?_) (fun c_0 => ?_)
  · have i_0 : p0.toInt ≠ 1 := z_ne (rfl) (rfl) c_0
    refine lv_iload_n hx hb dX5_mostOf_10 rfl (lv_at hl 0 rfl) ?_
    refine lv_iconst (v := 3) hx hb dX5_mostOf_11 (by decide) ?_
    refine lv_icmp_ne (tgt := 19) hx hb dX5_mostOf_12 (by decide) (fun c_1 => ?_) (fun c_1 => ?_)
    · have i_1 : p0.toInt ≠ 3 := z_ne (rfl) (rfl) c_1
      refine lv_bipush (v := 99) hx hb dX5_mostOf_19 (by decide) ?_
      have hP9 := hP.sub (ws' := []) [] rfl
      have hD9 := hD.sub (ws' := []) [] (by decide) rfl
      exact W.iret (v := 99) hx hb hr (fun t ht hW => ⟨⟨99, 0, rfl, Or.inl ⟨i_0, i_1, rfl⟩, by rw [ht]; exact hP9, hD9⟩, hS.F ht⟩) hS.2.2 dX5_mostOf_21
    · have i_1 : p0.toInt = 3 := z_eq (rfl) (rfl) c_1
      refine lv_iconst (v := 1) hx hb dX5_mostOf_15 (by decide) ?_
      refine lv_goto (tgt := 21) hx hb dX5_mostOf_16 (by decide) ?_
      have hP9 := hP.sub (ws' := []) [] rfl
      have hD9 := hD.sub (ws' := []) [] (by decide) rfl
      exact W.iret (v := 1) hx hb hr (fun t ht hW => ⟨⟨1, 0, rfl, Or.inr (Or.inl ⟨i_0, i_1, rfl⟩), by rw [ht]; exact hP9, hD9⟩, hS.F ht⟩) hS.2.2 dX5_mostOf_21
  · have i_0 : p0.toInt = 1 := z_eq (rfl) (rfl) c_0
    refine lv_bipush (v := 9) hx hb dX5_mostOf_5 (by decide) ?_
    refine lv_goto (tgt := 21) hx hb dX5_mostOf_7 (by decide) ?_
    have hP9 := hP.sub (ws' := []) [] rfl
    have hD9 := hD.sub (ws' := []) [] (by decide) rfl
    exact W.iret (v := 9) hx hb hr (fun t ht hW => ⟨⟨9, 0, rfl, Or.inr (Or.inr (⟨i_0, rfl⟩)), by rw [ht]; exact hP9, hD9⟩, hS.F ht⟩) hS.2.2 dX5_mostOf_21
set_option maxHeartbeats 4000000 in
set_option maxRecDepth 100000 in
theorem kX5_in_2 (l : Launch) (g : zG) (sz : Nat) (p0 : Int64) : Met l yX5_in (.code yX5_in cX5_in 6 (some .boolean) :: zBig) ({ frames := 0, cells := 0, slots := 0, locals := 0 }) (va_Pc [.long p0, .long 0, .long 99] (zPre g [] sz)) (va_Qi (fun (r : Int32) (_ : Nat) => ((p0 : Int64).toInt < 0 ∧ r = 0) ∨ (0 ≤ (p0 : Int64).toInt ∧ 99 < (p0 : Int64).toInt ∧ r = 0) ∨ (0 ≤ (p0 : Int64).toInt ∧ (p0 : Int64).toInt ≤ 99 ∧ r = 1)) (zPost g (fun _ : Nat => []) (va_A [] sz)) (va_A [] sz)) 0 0 (va_A [] sz) := by
  refine zMetI rfl (Nat.le_of_ble_eq_true rfl) ?_
  intro p e s m args below meth c A ls hx hb hml hr hlocks hin hown hts hK hN hZ hP hD hA hS hAe hl
  have hown : s.vm.findClass RX5 = some m.cls := hown
  have hl : lv_has ls 6 [(0, .long p0), (2, .long 0), (4, .long 99)] := hl
  refine lv_lload_n hx hb dX5_in_0 rfl (lv_at hl 0 rfl) ?_
  refine lv_lload_n hx hb dX5_in_1 rfl (lv_at hl 1 rfl) ?_
  refine W.lcmp hx hb dX5_in_2 ?_
  refine lv_if_lt (tgt := 17) hx hb dX5_in_3 (by decide) (fun c_0 => ?_) (fun c_0 => ?_)
  · have i_0 : (p0 : Int64).toInt < 0 := zl_lt (rfl) (rfl) ((lg_cmp_lt _ _).mp c_0)
    refine lv_iconst (v := 0) hx hb dX5_in_17 (by decide) ?_
    have hP9 := hP.sub (ws' := []) [] rfl
    have hD9 := hD.sub (ws' := []) [] (by decide) rfl
    exact W.zret (v := 0) hx hb hr (by decide) (fun t ht hW => ⟨⟨0, 0, rfl, Or.inl ⟨i_0, rfl⟩, by rw [ht]; exact hP9, hD9⟩, hS.F ht⟩) hS.2.2 dX5_in_18
  · have i_0 : 0 ≤ (p0 : Int64).toInt := zl_nlt (rfl) (rfl) (fun h => c_0 ((lg_cmp_lt _ _).mpr h))
    refine lv_lload_n hx hb dX5_in_6 rfl (lv_at hl 0 rfl) ?_
    refine lv_lload hx hb dX5_in_7 (lv_at hl 2 rfl) ?_
    refine W.lcmp hx hb dX5_in_9 ?_
    refine lv_if_gt (tgt := 17) hx hb dX5_in_10 (by decide) (fun c_1 => ?_) (fun c_1 => ?_)
    · have i_1 : 99 < (p0 : Int64).toInt := zl_lt (rfl) (rfl) ((lg_cmp_gt _ _).mp c_1)
      refine lv_iconst (v := 0) hx hb dX5_in_17 (by decide) ?_
      have hP9 := hP.sub (ws' := []) [] rfl
      have hD9 := hD.sub (ws' := []) [] (by decide) rfl
      exact W.zret (v := 0) hx hb hr (by decide) (fun t ht hW => ⟨⟨0, 0, rfl, Or.inr (Or.inl ⟨i_0, i_1, rfl⟩), by rw [ht]; exact hP9, hD9⟩, hS.F ht⟩) hS.2.2 dX5_in_18
    · have i_1 : (p0 : Int64).toInt ≤ 99 := zl_nlt (rfl) (rfl) (fun h => c_1 ((lg_cmp_gt _ _).mpr h))
      refine lv_iconst (v := 1) hx hb dX5_in_13 (by decide) ?_
      refine lv_goto (tgt := 18) hx hb dX5_in_14 (by decide) ?_
      have hP9 := hP.sub (ws' := []) [] rfl
      have hD9 := hD.sub (ws' := []) [] (by decide) rfl
      exact W.zret (v := 1) hx hb hr (by decide) (fun t ht hW => ⟨⟨1, 0, rfl, Or.inr (Or.inr (⟨i_0, i_1, rfl⟩)), by rw [ht]; exact hP9, hD9⟩, hS.F ht⟩) hS.2.2 dX5_in_18
set_option maxHeartbeats 4000000 in
set_option maxRecDepth 100000 in
theorem kX5_in_3 (l : Launch) (g : zG) (sz : Nat) (p0 : Int64) : Met l yX5_in (.code yX5_in cX5_in 6 (some .boolean) :: zBig) ({ frames := 0, cells := 0, slots := 0, locals := 0 }) (va_Pc [.long p0, .long 0, .long 1] (zPre g [] sz)) (va_Qi (fun (r : Int32) (_ : Nat) => ((p0 : Int64).toInt < 0 ∧ r = 0) ∨ (0 ≤ (p0 : Int64).toInt ∧ 1 < (p0 : Int64).toInt ∧ r = 0) ∨ (0 ≤ (p0 : Int64).toInt ∧ (p0 : Int64).toInt ≤ 1 ∧ r = 1)) (zPost g (fun _ : Nat => []) (va_A [] sz)) (va_A [] sz)) 0 0 (va_A [] sz) := by
  refine zMetI rfl (Nat.le_of_ble_eq_true rfl) ?_
  intro p e s m args below meth c A ls hx hb hml hr hlocks hin hown hts hK hN hZ hP hD hA hS hAe hl
  have hown : s.vm.findClass RX5 = some m.cls := hown
  have hl : lv_has ls 6 [(0, .long p0), (2, .long 0), (4, .long 1)] := hl
  refine lv_lload_n hx hb dX5_in_0 rfl (lv_at hl 0 rfl) ?_
  refine lv_lload_n hx hb dX5_in_1 rfl (lv_at hl 1 rfl) ?_
  refine W.lcmp hx hb dX5_in_2 ?_
  refine lv_if_lt (tgt := 17) hx hb dX5_in_3 (by decide) (fun c_0 => ?_) (fun c_0 => ?_)
  · have i_0 : (p0 : Int64).toInt < 0 := zl_lt (rfl) (rfl) ((lg_cmp_lt _ _).mp c_0)
    refine lv_iconst (v := 0) hx hb dX5_in_17 (by decide) ?_
    have hP9 := hP.sub (ws' := []) [] rfl
    have hD9 := hD.sub (ws' := []) [] (by decide) rfl
    exact W.zret (v := 0) hx hb hr (by decide) (fun t ht hW => ⟨⟨0, 0, rfl, Or.inl ⟨i_0, rfl⟩, by rw [ht]; exact hP9, hD9⟩, hS.F ht⟩) hS.2.2 dX5_in_18
  · have i_0 : 0 ≤ (p0 : Int64).toInt := zl_nlt (rfl) (rfl) (fun h => c_0 ((lg_cmp_lt _ _).mpr h))
    refine lv_lload_n hx hb dX5_in_6 rfl (lv_at hl 0 rfl) ?_
    refine lv_lload hx hb dX5_in_7 (lv_at hl 2 rfl) ?_
    refine W.lcmp hx hb dX5_in_9 ?_
    refine lv_if_gt (tgt := 17) hx hb dX5_in_10 (by decide) (fun c_1 => ?_) (fun c_1 => ?_)
    · have i_1 : 1 < (p0 : Int64).toInt := zl_lt (rfl) (rfl) ((lg_cmp_gt _ _).mp c_1)
      refine lv_iconst (v := 0) hx hb dX5_in_17 (by decide) ?_
      have hP9 := hP.sub (ws' := []) [] rfl
      have hD9 := hD.sub (ws' := []) [] (by decide) rfl
      exact W.zret (v := 0) hx hb hr (by decide) (fun t ht hW => ⟨⟨0, 0, rfl, Or.inr (Or.inl ⟨i_0, i_1, rfl⟩), by rw [ht]; exact hP9, hD9⟩, hS.F ht⟩) hS.2.2 dX5_in_18
    · have i_1 : (p0 : Int64).toInt ≤ 1 := zl_nlt (rfl) (rfl) (fun h => c_1 ((lg_cmp_gt _ _).mpr h))
      refine lv_iconst (v := 1) hx hb dX5_in_13 (by decide) ?_
      refine lv_goto (tgt := 18) hx hb dX5_in_14 (by decide) ?_
      have hP9 := hP.sub (ws' := []) [] rfl
      have hD9 := hD.sub (ws' := []) [] (by decide) rfl
      exact W.zret (v := 1) hx hb hr (by decide) (fun t ht hW => ⟨⟨1, 0, rfl, Or.inr (Or.inr (⟨i_0, i_1, rfl⟩)), by rw [ht]; exact hP9, hD9⟩, hS.F ht⟩) hS.2.2 dX5_in_18
set_option maxHeartbeats 4000000 in
set_option maxRecDepth 100000 in
theorem kX5_in_4 (l : Launch) (g : zG) (sz : Nat) (p0 : Int64) : Met l yX5_in (.code yX5_in cX5_in 6 (some .boolean) :: zBig) ({ frames := 0, cells := 0, slots := 0, locals := 0 }) (va_Pc [.long p0, .long 1, .long 99] (zPre g [] sz)) (va_Qi (fun (r : Int32) (_ : Nat) => ((p0 : Int64).toInt < 1 ∧ r = 0) ∨ (1 ≤ (p0 : Int64).toInt ∧ 99 < (p0 : Int64).toInt ∧ r = 0) ∨ (1 ≤ (p0 : Int64).toInt ∧ (p0 : Int64).toInt ≤ 99 ∧ r = 1)) (zPost g (fun _ : Nat => []) (va_A [] sz)) (va_A [] sz)) 0 0 (va_A [] sz) := by
  refine zMetI rfl (Nat.le_of_ble_eq_true rfl) ?_
  intro p e s m args below meth c A ls hx hb hml hr hlocks hin hown hts hK hN hZ hP hD hA hS hAe hl
  have hown : s.vm.findClass RX5 = some m.cls := hown
  have hl : lv_has ls 6 [(0, .long p0), (2, .long 1), (4, .long 99)] := hl
  refine lv_lload_n hx hb dX5_in_0 rfl (lv_at hl 0 rfl) ?_
  refine lv_lload_n hx hb dX5_in_1 rfl (lv_at hl 1 rfl) ?_
  refine W.lcmp hx hb dX5_in_2 ?_
  refine lv_if_lt (tgt := 17) hx hb dX5_in_3 (by decide) (fun c_0 => ?_) (fun c_0 => ?_)
  · have i_0 : (p0 : Int64).toInt < 1 := zl_lt (rfl) (rfl) ((lg_cmp_lt _ _).mp c_0)
    refine lv_iconst (v := 0) hx hb dX5_in_17 (by decide) ?_
    have hP9 := hP.sub (ws' := []) [] rfl
    have hD9 := hD.sub (ws' := []) [] (by decide) rfl
    exact W.zret (v := 0) hx hb hr (by decide) (fun t ht hW => ⟨⟨0, 0, rfl, Or.inl ⟨i_0, rfl⟩, by rw [ht]; exact hP9, hD9⟩, hS.F ht⟩) hS.2.2 dX5_in_18
  · have i_0 : 1 ≤ (p0 : Int64).toInt := zl_nlt (rfl) (rfl) (fun h => c_0 ((lg_cmp_lt _ _).mpr h))
    refine lv_lload_n hx hb dX5_in_6 rfl (lv_at hl 0 rfl) ?_
    refine lv_lload hx hb dX5_in_7 (lv_at hl 2 rfl) ?_
    refine W.lcmp hx hb dX5_in_9 ?_
    refine lv_if_gt (tgt := 17) hx hb dX5_in_10 (by decide) (fun c_1 => ?_) (fun c_1 => ?_)
    · have i_1 : 99 < (p0 : Int64).toInt := zl_lt (rfl) (rfl) ((lg_cmp_gt _ _).mp c_1)
      refine lv_iconst (v := 0) hx hb dX5_in_17 (by decide) ?_
      have hP9 := hP.sub (ws' := []) [] rfl
      have hD9 := hD.sub (ws' := []) [] (by decide) rfl
      exact W.zret (v := 0) hx hb hr (by decide) (fun t ht hW => ⟨⟨0, 0, rfl, Or.inr (Or.inl ⟨i_0, i_1, rfl⟩), by rw [ht]; exact hP9, hD9⟩, hS.F ht⟩) hS.2.2 dX5_in_18
    · have i_1 : (p0 : Int64).toInt ≤ 99 := zl_nlt (rfl) (rfl) (fun h => c_1 ((lg_cmp_gt _ _).mpr h))
      refine lv_iconst (v := 1) hx hb dX5_in_13 (by decide) ?_
      refine lv_goto (tgt := 18) hx hb dX5_in_14 (by decide) ?_
      have hP9 := hP.sub (ws' := []) [] rfl
      have hD9 := hD.sub (ws' := []) [] (by decide) rfl
      exact W.zret (v := 1) hx hb hr (by decide) (fun t ht hW => ⟨⟨1, 0, rfl, Or.inr (Or.inr (⟨i_0, i_1, rfl⟩)), by rw [ht]; exact hP9, hD9⟩, hS.F ht⟩) hS.2.2 dX5_in_18
set_option maxHeartbeats 4000000 in
set_option maxRecDepth 100000 in
theorem kX5_in_5 (l : Launch) (g : zG) (sz : Nat) (p0 : Int64) : Met l yX5_in (.code yX5_in cX5_in 6 (some .boolean) :: zBig) ({ frames := 0, cells := 0, slots := 0, locals := 0 }) (va_Pc [.long p0, .long 1, .long 9] (zPre g [] sz)) (va_Qi (fun (r : Int32) (_ : Nat) => ((p0 : Int64).toInt < 1 ∧ r = 0) ∨ (1 ≤ (p0 : Int64).toInt ∧ 9 < (p0 : Int64).toInt ∧ r = 0) ∨ (1 ≤ (p0 : Int64).toInt ∧ (p0 : Int64).toInt ≤ 9 ∧ r = 1)) (zPost g (fun _ : Nat => []) (va_A [] sz)) (va_A [] sz)) 0 0 (va_A [] sz) := by
  refine zMetI rfl (Nat.le_of_ble_eq_true rfl) ?_
  intro p e s m args below meth c A ls hx hb hml hr hlocks hin hown hts hK hN hZ hP hD hA hS hAe hl
  have hown : s.vm.findClass RX5 = some m.cls := hown
  have hl : lv_has ls 6 [(0, .long p0), (2, .long 1), (4, .long 9)] := hl
  refine lv_lload_n hx hb dX5_in_0 rfl (lv_at hl 0 rfl) ?_
  refine lv_lload_n hx hb dX5_in_1 rfl (lv_at hl 1 rfl) ?_
  refine W.lcmp hx hb dX5_in_2 ?_
  refine lv_if_lt (tgt := 17) hx hb dX5_in_3 (by decide) (fun c_0 => ?_) (fun c_0 => ?_)
  · have i_0 : (p0 : Int64).toInt < 1 := zl_lt (rfl) (rfl) ((lg_cmp_lt _ _).mp c_0)
    refine lv_iconst (v := 0) hx hb dX5_in_17 (by decide) ?_
    have hP9 := hP.sub (ws' := []) [] rfl
    have hD9 := hD.sub (ws' := []) [] (by decide) rfl
    exact W.zret (v := 0) hx hb hr (by decide) (fun t ht hW => ⟨⟨0, 0, rfl, Or.inl ⟨i_0, rfl⟩, by rw [ht]; exact hP9, hD9⟩, hS.F ht⟩) hS.2.2 dX5_in_18
  · have i_0 : 1 ≤ (p0 : Int64).toInt := zl_nlt (rfl) (rfl) (fun h => c_0 ((lg_cmp_lt _ _).mpr h))
    refine lv_lload_n hx hb dX5_in_6 rfl (lv_at hl 0 rfl) ?_
    refine lv_lload hx hb dX5_in_7 (lv_at hl 2 rfl) ?_
    refine W.lcmp hx hb dX5_in_9 ?_
    refine lv_if_gt (tgt := 17) hx hb dX5_in_10 (by decide) (fun c_1 => ?_) (fun c_1 => ?_)
    · have i_1 : 9 < (p0 : Int64).toInt := zl_lt (rfl) (rfl) ((lg_cmp_gt _ _).mp c_1)
      refine lv_iconst (v := 0) hx hb dX5_in_17 (by decide) ?_
      have hP9 := hP.sub (ws' := []) [] rfl
      have hD9 := hD.sub (ws' := []) [] (by decide) rfl
      exact W.zret (v := 0) hx hb hr (by decide) (fun t ht hW => ⟨⟨0, 0, rfl, Or.inr (Or.inl ⟨i_0, i_1, rfl⟩), by rw [ht]; exact hP9, hD9⟩, hS.F ht⟩) hS.2.2 dX5_in_18
    · have i_1 : (p0 : Int64).toInt ≤ 9 := zl_nlt (rfl) (rfl) (fun h => c_1 ((lg_cmp_gt _ _).mpr h))
      refine lv_iconst (v := 1) hx hb dX5_in_13 (by decide) ?_
      refine lv_goto (tgt := 18) hx hb dX5_in_14 (by decide) ?_
      have hP9 := hP.sub (ws' := []) [] rfl
      have hD9 := hD.sub (ws' := []) [] (by decide) rfl
      exact W.zret (v := 1) hx hb hr (by decide) (fun t ht hW => ⟨⟨1, 0, rfl, Or.inr (Or.inr (⟨i_0, i_1, rfl⟩)), by rw [ht]; exact hP9, hD9⟩, hS.F ht⟩) hS.2.2 dX5_in_18
set_option maxHeartbeats 4000000 in
set_option maxRecDepth 100000 in
theorem kX5_in_6 (l : Launch) (g : zG) (sz : Nat) (p0 : Int64) : Met l yX5_in (.code yX5_in cX5_in 6 (some .boolean) :: zBig) ({ frames := 0, cells := 0, slots := 0, locals := 0 }) (va_Pc [.long p0, .long 0, .long 4] (zPre g [] sz)) (va_Qi (fun (r : Int32) (_ : Nat) => ((p0 : Int64).toInt < 0 ∧ r = 0) ∨ (0 ≤ (p0 : Int64).toInt ∧ 4 < (p0 : Int64).toInt ∧ r = 0) ∨ (0 ≤ (p0 : Int64).toInt ∧ (p0 : Int64).toInt ≤ 4 ∧ r = 1)) (zPost g (fun _ : Nat => []) (va_A [] sz)) (va_A [] sz)) 0 0 (va_A [] sz) := by
  refine zMetI rfl (Nat.le_of_ble_eq_true rfl) ?_
  intro p e s m args below meth c A ls hx hb hml hr hlocks hin hown hts hK hN hZ hP hD hA hS hAe hl
  have hown : s.vm.findClass RX5 = some m.cls := hown
  have hl : lv_has ls 6 [(0, .long p0), (2, .long 0), (4, .long 4)] := hl
  refine lv_lload_n hx hb dX5_in_0 rfl (lv_at hl 0 rfl) ?_
  refine lv_lload_n hx hb dX5_in_1 rfl (lv_at hl 1 rfl) ?_
  refine W.lcmp hx hb dX5_in_2 ?_
  refine lv_if_lt (tgt := 17) hx hb dX5_in_3 (by decide) (fun c_0 => ?_) (fun c_0 => ?_)
  · have i_0 : (p0 : Int64).toInt < 0 := zl_lt (rfl) (rfl) ((lg_cmp_lt _ _).mp c_0)
    refine lv_iconst (v := 0) hx hb dX5_in_17 (by decide) ?_
    have hP9 := hP.sub (ws' := []) [] rfl
    have hD9 := hD.sub (ws' := []) [] (by decide) rfl
    exact W.zret (v := 0) hx hb hr (by decide) (fun t ht hW => ⟨⟨0, 0, rfl, Or.inl ⟨i_0, rfl⟩, by rw [ht]; exact hP9, hD9⟩, hS.F ht⟩) hS.2.2 dX5_in_18
  · have i_0 : 0 ≤ (p0 : Int64).toInt := zl_nlt (rfl) (rfl) (fun h => c_0 ((lg_cmp_lt _ _).mpr h))
    refine lv_lload_n hx hb dX5_in_6 rfl (lv_at hl 0 rfl) ?_
    refine lv_lload hx hb dX5_in_7 (lv_at hl 2 rfl) ?_
    refine W.lcmp hx hb dX5_in_9 ?_
    refine lv_if_gt (tgt := 17) hx hb dX5_in_10 (by decide) (fun c_1 => ?_) (fun c_1 => ?_)
    · have i_1 : 4 < (p0 : Int64).toInt := zl_lt (rfl) (rfl) ((lg_cmp_gt _ _).mp c_1)
      refine lv_iconst (v := 0) hx hb dX5_in_17 (by decide) ?_
      have hP9 := hP.sub (ws' := []) [] rfl
      have hD9 := hD.sub (ws' := []) [] (by decide) rfl
      exact W.zret (v := 0) hx hb hr (by decide) (fun t ht hW => ⟨⟨0, 0, rfl, Or.inr (Or.inl ⟨i_0, i_1, rfl⟩), by rw [ht]; exact hP9, hD9⟩, hS.F ht⟩) hS.2.2 dX5_in_18
    · have i_1 : (p0 : Int64).toInt ≤ 4 := zl_nlt (rfl) (rfl) (fun h => c_1 ((lg_cmp_gt _ _).mpr h))
      refine lv_iconst (v := 1) hx hb dX5_in_13 (by decide) ?_
      refine lv_goto (tgt := 18) hx hb dX5_in_14 (by decide) ?_
      have hP9 := hP.sub (ws' := []) [] rfl
      have hD9 := hD.sub (ws' := []) [] (by decide) rfl
      exact W.zret (v := 1) hx hb hr (by decide) (fun t ht hW => ⟨⟨1, 0, rfl, Or.inr (Or.inr (⟨i_0, i_1, rfl⟩)), by rw [ht]; exact hP9, hD9⟩, hS.F ht⟩) hS.2.2 dX5_in_18
set_option maxHeartbeats 4000000 in
set_option maxRecDepth 100000 in
theorem kX5_leastOf_2 (l : Launch) (g : zG) (sz : Nat) (p0 : Int32) : Met l yX5_leastOf (.code yX5_leastOf cX5_leastOf 1 (some .int) :: zBig) ({ frames := 0, cells := 0, slots := 0, locals := 0 }) (va_Pc [.int p0] (zPre g [] sz)) (va_Qi (fun (r : Int32) (_ : Nat) => (2 ≤ p0.toInt ∧ r = 0) ∨ (p0.toInt < 2 ∧ r = 1)) (zPost g (fun _ : Nat => []) (va_A [] sz)) (va_A [] sz)) 0 0 (va_A [] sz) := by
  refine zMetI rfl (Nat.le_of_ble_eq_true rfl) ?_
  intro p e s m args below meth c A ls hx hb hml hr hlocks hin hown hts hK hN hZ hP hD hA hS hAe hl
  have hown : s.vm.findClass RX5 = some m.cls := hown
  have hl : lv_has ls 1 [(0, .int p0)] := hl
  refine lv_iload_n hx hb dX5_leastOf_0 rfl (lv_at hl 0 rfl) ?_
  refine lv_iconst (v := 2) hx hb dX5_leastOf_1 (by decide) ?_
  refine lv_icmp_ge (tgt := 9) hx hb dX5_leastOf_2 (by decide) (fun c_0 => ?_) (fun c_0 => ?_)
  · have i_0 : 2 ≤ p0.toInt := z_le (rfl) (rfl) c_0
    refine lv_iconst (v := 0) hx hb dX5_leastOf_9 (by decide) ?_
    have hP9 := hP.sub (ws' := []) [] rfl
    have hD9 := hD.sub (ws' := []) [] (by decide) rfl
    exact W.iret (v := 0) hx hb hr (fun t ht hW => ⟨⟨0, 0, rfl, Or.inl ⟨i_0, rfl⟩, by rw [ht]; exact hP9, hD9⟩, hS.F ht⟩) hS.2.2 dX5_leastOf_10
  · have i_0 : p0.toInt < 2 := z_nle (rfl) (rfl) c_0
    refine lv_iconst (v := 1) hx hb dX5_leastOf_5 (by decide) ?_
    refine lv_goto (tgt := 10) hx hb dX5_leastOf_6 (by decide) ?_
    have hP9 := hP.sub (ws' := []) [] rfl
    have hD9 := hD.sub (ws' := []) [] (by decide) rfl
    exact W.iret (v := 1) hx hb hr (fun t ht hW => ⟨⟨1, 0, rfl, Or.inr (⟨i_0, rfl⟩), by rw [ht]; exact hP9, hD9⟩, hS.F ht⟩) hS.2.2 dX5_leastOf_10
set_option maxHeartbeats 4000000 in
set_option maxRecDepth 100000 in
theorem kX5_mostOf_2 (l : Launch) (g : zG) (sz : Nat) (p0 : Int32) : Met l yX5_mostOf (.code yX5_mostOf cX5_mostOf 1 (some .int) :: zBig) ({ frames := 0, cells := 0, slots := 0, locals := 0 }) (va_Pc [.int p0] (zPre g [] sz)) (va_Qi (fun (r : Int32) (_ : Nat) => (p0.toInt ≠ 1 ∧ p0.toInt ≠ 3 ∧ r = 99) ∨ (p0.toInt ≠ 1 ∧ p0.toInt = 3 ∧ r = 1) ∨ (p0.toInt = 1 ∧ r = 9)) (zPost g (fun _ : Nat => []) (va_A [] sz)) (va_A [] sz)) 0 0 (va_A [] sz) := by
  refine zMetI rfl (Nat.le_of_ble_eq_true rfl) ?_
  intro p e s m args below meth c A ls hx hb hml hr hlocks hin hown hts hK hN hZ hP hD hA hS hAe hl
  have hown : s.vm.findClass RX5 = some m.cls := hown
  have hl : lv_has ls 1 [(0, .int p0)] := hl
  refine lv_iload_n hx hb dX5_mostOf_0 rfl (lv_at hl 0 rfl) ?_
  refine lv_iconst (v := 1) hx hb dX5_mostOf_1 (by decide) ?_
  refine lv_icmp_ne (tgt := 10) hx hb dX5_mostOf_2 (by decide) (fun c_0 => ?_) (fun c_0 => ?_)
  · have i_0 : p0.toInt ≠ 1 := z_ne (rfl) (rfl) c_0
    refine lv_iload_n hx hb dX5_mostOf_10 rfl (lv_at hl 0 rfl) ?_
    refine lv_iconst (v := 3) hx hb dX5_mostOf_11 (by decide) ?_
    refine lv_icmp_ne (tgt := 19) hx hb dX5_mostOf_12 (by decide) (fun c_1 => ?_) (fun c_1 => ?_)
    · have i_1 : p0.toInt ≠ 3 := z_ne (rfl) (rfl) c_1
      refine lv_bipush (v := 99) hx hb dX5_mostOf_19 (by decide) ?_
      have hP9 := hP.sub (ws' := []) [] rfl
      have hD9 := hD.sub (ws' := []) [] (by decide) rfl
      exact W.iret (v := 99) hx hb hr (fun t ht hW => ⟨⟨99, 0, rfl, Or.inl ⟨i_0, i_1, rfl⟩, by rw [ht]; exact hP9, hD9⟩, hS.F ht⟩) hS.2.2 dX5_mostOf_21
    · have i_1 : p0.toInt = 3 := z_eq (rfl) (rfl) c_1
      refine lv_iconst (v := 1) hx hb dX5_mostOf_15 (by decide) ?_
      refine lv_goto (tgt := 21) hx hb dX5_mostOf_16 (by decide) ?_
      have hP9 := hP.sub (ws' := []) [] rfl
      have hD9 := hD.sub (ws' := []) [] (by decide) rfl
      exact W.iret (v := 1) hx hb hr (fun t ht hW => ⟨⟨1, 0, rfl, Or.inr (Or.inl ⟨i_0, i_1, rfl⟩), by rw [ht]; exact hP9, hD9⟩, hS.F ht⟩) hS.2.2 dX5_mostOf_21
  · have i_0 : p0.toInt = 1 := z_eq (rfl) (rfl) c_0
    refine lv_bipush (v := 9) hx hb dX5_mostOf_5 (by decide) ?_
    refine lv_goto (tgt := 21) hx hb dX5_mostOf_7 (by decide) ?_
    have hP9 := hP.sub (ws' := []) [] rfl
    have hD9 := hD.sub (ws' := []) [] (by decide) rfl
    exact W.iret (v := 9) hx hb hr (fun t ht hW => ⟨⟨9, 0, rfl, Or.inr (Or.inr (⟨i_0, rfl⟩)), by rw [ht]; exact hP9, hD9⟩, hS.F ht⟩) hS.2.2 dX5_mostOf_21
set_option maxHeartbeats 4000000 in
set_option maxRecDepth 100000 in
theorem kX5_in_7 (l : Launch) (g : zG) (sz : Nat) (p0 : Int64) : Met l yX5_in (.code yX5_in cX5_in 6 (some .boolean) :: zBig) ({ frames := 0, cells := 0, slots := 0, locals := 0 }) (va_Pc [.long p0, .long 0, .long 99] (zPre g [] sz)) (va_Qi (fun (r : Int32) (_ : Nat) => ((p0 : Int64).toInt < 0 ∧ r = 0) ∨ (0 ≤ (p0 : Int64).toInt ∧ 99 < (p0 : Int64).toInt ∧ r = 0) ∨ (0 ≤ (p0 : Int64).toInt ∧ (p0 : Int64).toInt ≤ 99 ∧ r = 1)) (zPost g (fun _ : Nat => []) (va_A [] sz)) (va_A [] sz)) 0 0 (va_A [] sz) := by
  refine zMetI rfl (Nat.le_of_ble_eq_true rfl) ?_
  intro p e s m args below meth c A ls hx hb hml hr hlocks hin hown hts hK hN hZ hP hD hA hS hAe hl
  have hown : s.vm.findClass RX5 = some m.cls := hown
  have hl : lv_has ls 6 [(0, .long p0), (2, .long 0), (4, .long 99)] := hl
  refine lv_lload_n hx hb dX5_in_0 rfl (lv_at hl 0 rfl) ?_
  refine lv_lload_n hx hb dX5_in_1 rfl (lv_at hl 1 rfl) ?_
  refine W.lcmp hx hb dX5_in_2 ?_
  refine lv_if_lt (tgt := 17) hx hb dX5_in_3 (by decide) (fun c_0 => ?_) (fun c_0 => ?_)
  · have i_0 : (p0 : Int64).toInt < 0 := zl_lt (rfl) (rfl) ((lg_cmp_lt _ _).mp c_0)
    refine lv_iconst (v := 0) hx hb dX5_in_17 (by decide) ?_
    have hP9 := hP.sub (ws' := []) [] rfl
    have hD9 := hD.sub (ws' := []) [] (by decide) rfl
    exact W.zret (v := 0) hx hb hr (by decide) (fun t ht hW => ⟨⟨0, 0, rfl, Or.inl ⟨i_0, rfl⟩, by rw [ht]; exact hP9, hD9⟩, hS.F ht⟩) hS.2.2 dX5_in_18
  · have i_0 : 0 ≤ (p0 : Int64).toInt := zl_nlt (rfl) (rfl) (fun h => c_0 ((lg_cmp_lt _ _).mpr h))
    refine lv_lload_n hx hb dX5_in_6 rfl (lv_at hl 0 rfl) ?_
    refine lv_lload hx hb dX5_in_7 (lv_at hl 2 rfl) ?_
    refine W.lcmp hx hb dX5_in_9 ?_
    refine lv_if_gt (tgt := 17) hx hb dX5_in_10 (by decide) (fun c_1 => ?_) (fun c_1 => ?_)
    · have i_1 : 99 < (p0 : Int64).toInt := zl_lt (rfl) (rfl) ((lg_cmp_gt _ _).mp c_1)
      refine lv_iconst (v := 0) hx hb dX5_in_17 (by decide) ?_
      have hP9 := hP.sub (ws' := []) [] rfl
      have hD9 := hD.sub (ws' := []) [] (by decide) rfl
      exact W.zret (v := 0) hx hb hr (by decide) (fun t ht hW => ⟨⟨0, 0, rfl, Or.inr (Or.inl ⟨i_0, i_1, rfl⟩), by rw [ht]; exact hP9, hD9⟩, hS.F ht⟩) hS.2.2 dX5_in_18
    · have i_1 : (p0 : Int64).toInt ≤ 99 := zl_nlt (rfl) (rfl) (fun h => c_1 ((lg_cmp_gt _ _).mpr h))
      refine lv_iconst (v := 1) hx hb dX5_in_13 (by decide) ?_
      refine lv_goto (tgt := 18) hx hb dX5_in_14 (by decide) ?_
      have hP9 := hP.sub (ws' := []) [] rfl
      have hD9 := hD.sub (ws' := []) [] (by decide) rfl
      exact W.zret (v := 1) hx hb hr (by decide) (fun t ht hW => ⟨⟨1, 0, rfl, Or.inr (Or.inr (⟨i_0, i_1, rfl⟩)), by rw [ht]; exact hP9, hD9⟩, hS.F ht⟩) hS.2.2 dX5_in_18
set_option maxHeartbeats 4000000 in
set_option maxRecDepth 100000 in
theorem kX5_in_8 (l : Launch) (g : zG) (sz : Nat) (p0 : Int64) : Met l yX5_in (.code yX5_in cX5_in 6 (some .boolean) :: zBig) ({ frames := 0, cells := 0, slots := 0, locals := 0 }) (va_Pc [.long p0, .long 0, .long 1] (zPre g [] sz)) (va_Qi (fun (r : Int32) (_ : Nat) => ((p0 : Int64).toInt < 0 ∧ r = 0) ∨ (0 ≤ (p0 : Int64).toInt ∧ 1 < (p0 : Int64).toInt ∧ r = 0) ∨ (0 ≤ (p0 : Int64).toInt ∧ (p0 : Int64).toInt ≤ 1 ∧ r = 1)) (zPost g (fun _ : Nat => []) (va_A [] sz)) (va_A [] sz)) 0 0 (va_A [] sz) := by
  refine zMetI rfl (Nat.le_of_ble_eq_true rfl) ?_
  intro p e s m args below meth c A ls hx hb hml hr hlocks hin hown hts hK hN hZ hP hD hA hS hAe hl
  have hown : s.vm.findClass RX5 = some m.cls := hown
  have hl : lv_has ls 6 [(0, .long p0), (2, .long 0), (4, .long 1)] := hl
  refine lv_lload_n hx hb dX5_in_0 rfl (lv_at hl 0 rfl) ?_
  refine lv_lload_n hx hb dX5_in_1 rfl (lv_at hl 1 rfl) ?_
  refine W.lcmp hx hb dX5_in_2 ?_
  refine lv_if_lt (tgt := 17) hx hb dX5_in_3 (by decide) (fun c_0 => ?_) (fun c_0 => ?_)
  · have i_0 : (p0 : Int64).toInt < 0 := zl_lt (rfl) (rfl) ((lg_cmp_lt _ _).mp c_0)
    refine lv_iconst (v := 0) hx hb dX5_in_17 (by decide) ?_
    have hP9 := hP.sub (ws' := []) [] rfl
    have hD9 := hD.sub (ws' := []) [] (by decide) rfl
    exact W.zret (v := 0) hx hb hr (by decide) (fun t ht hW => ⟨⟨0, 0, rfl, Or.inl ⟨i_0, rfl⟩, by rw [ht]; exact hP9, hD9⟩, hS.F ht⟩) hS.2.2 dX5_in_18
  · have i_0 : 0 ≤ (p0 : Int64).toInt := zl_nlt (rfl) (rfl) (fun h => c_0 ((lg_cmp_lt _ _).mpr h))
    refine lv_lload_n hx hb dX5_in_6 rfl (lv_at hl 0 rfl) ?_
    refine lv_lload hx hb dX5_in_7 (lv_at hl 2 rfl) ?_
    refine W.lcmp hx hb dX5_in_9 ?_
    refine lv_if_gt (tgt := 17) hx hb dX5_in_10 (by decide) (fun c_1 => ?_) (fun c_1 => ?_)
    · have i_1 : 1 < (p0 : Int64).toInt := zl_lt (rfl) (rfl) ((lg_cmp_gt _ _).mp c_1)
      refine lv_iconst (v := 0) hx hb dX5_in_17 (by decide) ?_
      have hP9 := hP.sub (ws' := []) [] rfl
      have hD9 := hD.sub (ws' := []) [] (by decide) rfl
      exact W.zret (v := 0) hx hb hr (by decide) (fun t ht hW => ⟨⟨0, 0, rfl, Or.inr (Or.inl ⟨i_0, i_1, rfl⟩), by rw [ht]; exact hP9, hD9⟩, hS.F ht⟩) hS.2.2 dX5_in_18
    · have i_1 : (p0 : Int64).toInt ≤ 1 := zl_nlt (rfl) (rfl) (fun h => c_1 ((lg_cmp_gt _ _).mpr h))
      refine lv_iconst (v := 1) hx hb dX5_in_13 (by decide) ?_
      refine lv_goto (tgt := 18) hx hb dX5_in_14 (by decide) ?_
      have hP9 := hP.sub (ws' := []) [] rfl
      have hD9 := hD.sub (ws' := []) [] (by decide) rfl
      exact W.zret (v := 1) hx hb hr (by decide) (fun t ht hW => ⟨⟨1, 0, rfl, Or.inr (Or.inr (⟨i_0, i_1, rfl⟩)), by rw [ht]; exact hP9, hD9⟩, hS.F ht⟩) hS.2.2 dX5_in_18
set_option maxHeartbeats 4000000 in
set_option maxRecDepth 100000 in
theorem kX5_in_9 (l : Launch) (g : zG) (sz : Nat) (p0 : Int64) : Met l yX5_in (.code yX5_in cX5_in 6 (some .boolean) :: zBig) ({ frames := 0, cells := 0, slots := 0, locals := 0 }) (va_Pc [.long p0, .long 1, .long 99] (zPre g [] sz)) (va_Qi (fun (r : Int32) (_ : Nat) => ((p0 : Int64).toInt < 1 ∧ r = 0) ∨ (1 ≤ (p0 : Int64).toInt ∧ 99 < (p0 : Int64).toInt ∧ r = 0) ∨ (1 ≤ (p0 : Int64).toInt ∧ (p0 : Int64).toInt ≤ 99 ∧ r = 1)) (zPost g (fun _ : Nat => []) (va_A [] sz)) (va_A [] sz)) 0 0 (va_A [] sz) := by
  refine zMetI rfl (Nat.le_of_ble_eq_true rfl) ?_
  intro p e s m args below meth c A ls hx hb hml hr hlocks hin hown hts hK hN hZ hP hD hA hS hAe hl
  have hown : s.vm.findClass RX5 = some m.cls := hown
  have hl : lv_has ls 6 [(0, .long p0), (2, .long 1), (4, .long 99)] := hl
  refine lv_lload_n hx hb dX5_in_0 rfl (lv_at hl 0 rfl) ?_
  refine lv_lload_n hx hb dX5_in_1 rfl (lv_at hl 1 rfl) ?_
  refine W.lcmp hx hb dX5_in_2 ?_
  refine lv_if_lt (tgt := 17) hx hb dX5_in_3 (by decide) (fun c_0 => ?_) (fun c_0 => ?_)
  · have i_0 : (p0 : Int64).toInt < 1 := zl_lt (rfl) (rfl) ((lg_cmp_lt _ _).mp c_0)
    refine lv_iconst (v := 0) hx hb dX5_in_17 (by decide) ?_
    have hP9 := hP.sub (ws' := []) [] rfl
    have hD9 := hD.sub (ws' := []) [] (by decide) rfl
    exact W.zret (v := 0) hx hb hr (by decide) (fun t ht hW => ⟨⟨0, 0, rfl, Or.inl ⟨i_0, rfl⟩, by rw [ht]; exact hP9, hD9⟩, hS.F ht⟩) hS.2.2 dX5_in_18
  · have i_0 : 1 ≤ (p0 : Int64).toInt := zl_nlt (rfl) (rfl) (fun h => c_0 ((lg_cmp_lt _ _).mpr h))
    refine lv_lload_n hx hb dX5_in_6 rfl (lv_at hl 0 rfl) ?_
    refine lv_lload hx hb dX5_in_7 (lv_at hl 2 rfl) ?_
    refine W.lcmp hx hb dX5_in_9 ?_
    refine lv_if_gt (tgt := 17) hx hb dX5_in_10 (by decide) (fun c_1 => ?_) (fun c_1 => ?_)
    · have i_1 : 99 < (p0 : Int64).toInt := zl_lt (rfl) (rfl) ((lg_cmp_gt _ _).mp c_1)
      refine lv_iconst (v := 0) hx hb dX5_in_17 (by decide) ?_
      have hP9 := hP.sub (ws' := []) [] rfl
      have hD9 := hD.sub (ws' := []) [] (by decide) rfl
      exact W.zret (v := 0) hx hb hr (by decide) (fun t ht hW => ⟨⟨0, 0, rfl, Or.inr (Or.inl ⟨i_0, i_1, rfl⟩), by rw [ht]; exact hP9, hD9⟩, hS.F ht⟩) hS.2.2 dX5_in_18
    · have i_1 : (p0 : Int64).toInt ≤ 99 := zl_nlt (rfl) (rfl) (fun h => c_1 ((lg_cmp_gt _ _).mpr h))
      refine lv_iconst (v := 1) hx hb dX5_in_13 (by decide) ?_
      refine lv_goto (tgt := 18) hx hb dX5_in_14 (by decide) ?_
      have hP9 := hP.sub (ws' := []) [] rfl
      have hD9 := hD.sub (ws' := []) [] (by decide) rfl
      exact W.zret (v := 1) hx hb hr (by decide) (fun t ht hW => ⟨⟨1, 0, rfl, Or.inr (Or.inr (⟨i_0, i_1, rfl⟩)), by rw [ht]; exact hP9, hD9⟩, hS.F ht⟩) hS.2.2 dX5_in_18
set_option maxHeartbeats 4000000 in
set_option maxRecDepth 100000 in
theorem kX5_in_10 (l : Launch) (g : zG) (sz : Nat) (p0 : Int64) : Met l yX5_in (.code yX5_in cX5_in 6 (some .boolean) :: zBig) ({ frames := 0, cells := 0, slots := 0, locals := 0 }) (va_Pc [.long p0, .long 1, .long 9] (zPre g [] sz)) (va_Qi (fun (r : Int32) (_ : Nat) => ((p0 : Int64).toInt < 1 ∧ r = 0) ∨ (1 ≤ (p0 : Int64).toInt ∧ 9 < (p0 : Int64).toInt ∧ r = 0) ∨ (1 ≤ (p0 : Int64).toInt ∧ (p0 : Int64).toInt ≤ 9 ∧ r = 1)) (zPost g (fun _ : Nat => []) (va_A [] sz)) (va_A [] sz)) 0 0 (va_A [] sz) := by
  refine zMetI rfl (Nat.le_of_ble_eq_true rfl) ?_
  intro p e s m args below meth c A ls hx hb hml hr hlocks hin hown hts hK hN hZ hP hD hA hS hAe hl
  have hown : s.vm.findClass RX5 = some m.cls := hown
  have hl : lv_has ls 6 [(0, .long p0), (2, .long 1), (4, .long 9)] := hl
  refine lv_lload_n hx hb dX5_in_0 rfl (lv_at hl 0 rfl) ?_
  refine lv_lload_n hx hb dX5_in_1 rfl (lv_at hl 1 rfl) ?_
  refine W.lcmp hx hb dX5_in_2 ?_
  refine lv_if_lt (tgt := 17) hx hb dX5_in_3 (by decide) (fun c_0 => ?_) (fun c_0 => ?_)
  · have i_0 : (p0 : Int64).toInt < 1 := zl_lt (rfl) (rfl) ((lg_cmp_lt _ _).mp c_0)
    refine lv_iconst (v := 0) hx hb dX5_in_17 (by decide) ?_
    have hP9 := hP.sub (ws' := []) [] rfl
    have hD9 := hD.sub (ws' := []) [] (by decide) rfl
    exact W.zret (v := 0) hx hb hr (by decide) (fun t ht hW => ⟨⟨0, 0, rfl, Or.inl ⟨i_0, rfl⟩, by rw [ht]; exact hP9, hD9⟩, hS.F ht⟩) hS.2.2 dX5_in_18
  · have i_0 : 1 ≤ (p0 : Int64).toInt := zl_nlt (rfl) (rfl) (fun h => c_0 ((lg_cmp_lt _ _).mpr h))
    refine lv_lload_n hx hb dX5_in_6 rfl (lv_at hl 0 rfl) ?_
    refine lv_lload hx hb dX5_in_7 (lv_at hl 2 rfl) ?_
    refine W.lcmp hx hb dX5_in_9 ?_
    refine lv_if_gt (tgt := 17) hx hb dX5_in_10 (by decide) (fun c_1 => ?_) (fun c_1 => ?_)
    · have i_1 : 9 < (p0 : Int64).toInt := zl_lt (rfl) (rfl) ((lg_cmp_gt _ _).mp c_1)
      refine lv_iconst (v := 0) hx hb dX5_in_17 (by decide) ?_
      have hP9 := hP.sub (ws' := []) [] rfl
      have hD9 := hD.sub (ws' := []) [] (by decide) rfl
      exact W.zret (v := 0) hx hb hr (by decide) (fun t ht hW => ⟨⟨0, 0, rfl, Or.inr (Or.inl ⟨i_0, i_1, rfl⟩), by rw [ht]; exact hP9, hD9⟩, hS.F ht⟩) hS.2.2 dX5_in_18
    · have i_1 : (p0 : Int64).toInt ≤ 9 := zl_nlt (rfl) (rfl) (fun h => c_1 ((lg_cmp_gt _ _).mpr h))
      refine lv_iconst (v := 1) hx hb dX5_in_13 (by decide) ?_
      refine lv_goto (tgt := 18) hx hb dX5_in_14 (by decide) ?_
      have hP9 := hP.sub (ws' := []) [] rfl
      have hD9 := hD.sub (ws' := []) [] (by decide) rfl
      exact W.zret (v := 1) hx hb hr (by decide) (fun t ht hW => ⟨⟨1, 0, rfl, Or.inr (Or.inr (⟨i_0, i_1, rfl⟩)), by rw [ht]; exact hP9, hD9⟩, hS.F ht⟩) hS.2.2 dX5_in_18
set_option maxHeartbeats 4000000 in
set_option maxRecDepth 100000 in
theorem kX5_rule (l : Launch) (g : zG) (h0 h1 h2 h3 h4 h5 h6 h7 h8 h9 h10 h11 h12 h13 h14 h15 h16 h17 h18 h19 h20 h21 h22 : Nat) (sz : Nat) (p1 : Int32) (p2 : Int32) : Met l yX5_rule (.code yX5_rule cX5_rule 4 (some .int) :: zBig) ({ frames := 1, cells := 0, slots := 0, locals := 25 }) (va_Pc [.ref h0, .int p1, .int p2] (zPre g [(h0, .inr (5, [.ref h1, .int 0, .ref h2, .int 0, .int 0, .ref h3, .ref h4, .ref h5, .ref h6, .int 0, .ref h7, .ref h8, .ref h9, .int 0, .ref h10, .ref h11, .ref h12, .ref h13, .ref h14, .ref h15, .ref h16, .ref h17, .ref h18, .ref h19, .ref h20, .ref h21, .ref h22])), (h1, .inl (zI g, 180, .inl (upd (upd (upd (fun _ => 0) 0 60) 1 1) 2 1)))] sz)) (va_Qi (fun (r : Int32) (_ : Nat) => (p1.toInt < 0 ∧ r = (-1)) ∨ (0 ≤ p1.toInt ∧ 4 < p1.toInt ∧ r = (-1)) ∨ (0 ≤ p1.toInt ∧ p1.toInt ≤ 4 ∧ 2 ≤ p1.toInt ∧ p1.toInt ≠ 1 ∧ p1.toInt ≠ 3 ∧ p2.toInt < 0 ∧ r = (-1)) ∨ (0 ≤ p1.toInt ∧ p1.toInt ≤ 4 ∧ 2 ≤ p1.toInt ∧ p1.toInt ≠ 1 ∧ p1.toInt ≠ 3 ∧ 0 ≤ p2.toInt ∧ 99 < p2.toInt ∧ r = (-1)) ∨ (0 ≤ p1.toInt ∧ p1.toInt ≤ 4 ∧ 2 ≤ p1.toInt ∧ p1.toInt ≠ 1 ∧ p1.toInt ≠ 3 ∧ 0 ≤ p2.toInt ∧ p2.toInt ≤ 99 ∧ p1.toInt = 2 ∧ r = 1) ∨ (0 ≤ p1.toInt ∧ p1.toInt ≤ 4 ∧ 2 ≤ p1.toInt ∧ p1.toInt ≠ 1 ∧ p1.toInt ≠ 3 ∧ 0 ≤ p2.toInt ∧ p2.toInt ≤ 99 ∧ p1.toInt = 3 ∧ r = 0) ∨ (0 ≤ p1.toInt ∧ p1.toInt ≤ 4 ∧ 2 ≤ p1.toInt ∧ p1.toInt ≠ 1 ∧ p1.toInt ≠ 3 ∧ 0 ≤ p2.toInt ∧ p2.toInt ≤ 99 ∧ p1.toInt = 4 ∧ r = 0) ∨ (0 ≤ p1.toInt ∧ p1.toInt ≤ 4 ∧ 2 ≤ p1.toInt ∧ p1.toInt ≠ 1 ∧ p1.toInt = 3 ∧ p2.toInt < 0 ∧ r = (-1)) ∨ (0 ≤ p1.toInt ∧ p1.toInt ≤ 4 ∧ 2 ≤ p1.toInt ∧ p1.toInt ≠ 1 ∧ p1.toInt = 3 ∧ 0 ≤ p2.toInt ∧ 1 < p2.toInt ∧ r = (-1)) ∨ (0 ≤ p1.toInt ∧ p1.toInt ≤ 4 ∧ 2 ≤ p1.toInt ∧ p1.toInt ≠ 1 ∧ p1.toInt = 3 ∧ 0 ≤ p2.toInt ∧ p2.toInt ≤ 1 ∧ r = 0) ∨ (0 ≤ p1.toInt ∧ p1.toInt ≤ 4 ∧ p1.toInt < 2 ∧ p1.toInt ≠ 1 ∧ p1.toInt ≠ 3 ∧ p2.toInt < 1 ∧ r = (-1)) ∨ (0 ≤ p1.toInt ∧ p1.toInt ≤ 4 ∧ p1.toInt < 2 ∧ p1.toInt ≠ 1 ∧ p1.toInt ≠ 3 ∧ 1 ≤ p2.toInt ∧ 99 < p2.toInt ∧ r = (-1)) ∨ (0 ≤ p1.toInt ∧ p1.toInt ≤ 4 ∧ p1.toInt < 2 ∧ p1.toInt ≠ 1 ∧ p1.toInt ≠ 3 ∧ 1 ≤ p2.toInt ∧ p2.toInt ≤ 99 ∧ r = 60) ∨ (0 ≤ p1.toInt ∧ p1.toInt ≤ 4 ∧ p1.toInt < 2 ∧ p1.toInt = 1 ∧ p2.toInt < 1 ∧ r = (-1)) ∨ (0 ≤ p1.toInt ∧ p1.toInt ≤ 4 ∧ p1.toInt < 2 ∧ p1.toInt = 1 ∧ 1 ≤ p2.toInt ∧ 9 < p2.toInt ∧ r = (-1)) ∨ (0 ≤ p1.toInt ∧ p1.toInt ≤ 4 ∧ p1.toInt < 2 ∧ p1.toInt = 1 ∧ 1 ≤ p2.toInt ∧ p2.toInt ≤ 9 ∧ r = 1)) (zPost g (fun _ : Nat => []) (va_A [(h0, .inr (5, [.ref h1, .int 0, .ref h2, .int 0, .int 0, .ref h3, .ref h4, .ref h5, .ref h6, .int 0, .ref h7, .ref h8, .ref h9, .int 0, .ref h10, .ref h11, .ref h12, .ref h13, .ref h14, .ref h15, .ref h16, .ref h17, .ref h18, .ref h19, .ref h20, .ref h21, .ref h22])), (h1, .inl (zI g, 180, .inl (upd (upd (upd (fun _ => 0) 0 60) 1 1) 2 1)))] sz)) (va_A [(h0, .inr (5, [.ref h1, .int 0, .ref h2, .int 0, .int 0, .ref h3, .ref h4, .ref h5, .ref h6, .int 0, .ref h7, .ref h8, .ref h9, .int 0, .ref h10, .ref h11, .ref h12, .ref h13, .ref h14, .ref h15, .ref h16, .ref h17, .ref h18, .ref h19, .ref h20, .ref h21, .ref h22])), (h1, .inl (zI g, 180, .inl (upd (upd (upd (fun _ => 0) 0 60) 1 1) 2 1)))] sz)) 0 0 (va_A [(h0, .inr (5, [.ref h1, .int 0, .ref h2, .int 0, .int 0, .ref h3, .ref h4, .ref h5, .ref h6, .int 0, .ref h7, .ref h8, .ref h9, .int 0, .ref h10, .ref h11, .ref h12, .ref h13, .ref h14, .ref h15, .ref h16, .ref h17, .ref h18, .ref h19, .ref h20, .ref h21, .ref h22])), (h1, .inl (zI g, 180, .inl (upd (upd (upd (fun _ => 0) 0 60) 1 1) 2 1)))] sz) := by
  refine zMetI rfl (Nat.le_of_ble_eq_true rfl) ?_
  intro p e s m args below meth c A ls hx hb hml hr hlocks hin hown hts hK hN hZ hP hD hA hS hAe hl
  have hown : s.vm.findClass RX5 = some m.cls := hown
  have hl : lv_has ls 4 [(0, .ref h0), (1, .int p1), (2, .int p2)] := hl
  refine lv_iload_n hx hb dX5_rule_0 rfl (lv_at hl 1 rfl) ?_
  refine lv_i2l (v := p1.toInt64) hx hb dX5_rule_1 rfl ?_
  refine lv_lconst (v := 0) hx hb dX5_rule_2 (by decide) ?_
  refine lv_ldc2 (v := 4) hx hb hown (hts _ m_k_RX5_81) dX5_rule_3 ?_
  refine z_calli (wr := [(h0, .inr (5, [.ref h1, .int 0, .ref h2, .int 0, .int 0, .ref h3, .ref h4, .ref h5, .ref h6, .int 0, .ref h7, .ref h8, .ref h9, .int 0, .ref h10, .ref h11, .ref h12, .ref h13, .ref h14, .ref h15, .ref h16, .ref h17, .ref h18, .ref h19, .ref h20, .ref h21, .ref h22])), (h1, .inl (zI g, 180, .inl (upd (upd (upd (fun _ => 0) 0 60) 1 1) 2 1)))]) hP hD hS hA [] [0, 1] (by decide) rfl rfl (by decide) (va_runS (As := [.long p1.toInt64, .long 0, .long 4]) (rest := []) ⟨hx, hb, hml, hown, hts⟩ (kX5_in_6 l g  s.heap.size p1.toInt64) ⟨callB_of 3 hts (zGood m_o_yX5_in) rfl rfl rfl (hts _ m_z_RX5) (hts _ m_m_RX5_77) ⟨by decide +kernel, by decide +kernel, by decide +kernel⟩ ⟨Nat.le_of_ble_eq_true rfl, Nat.le_of_ble_eq_true rfl⟩, hts _ m_s_yX5_in⟩ (zPreS hK hN hZ hP hD hS hA [] (by decide) rfl rfl) rfl rfl hl.1 rfl (lv_room (Nat.le_of_ble_eq_true rfl)) dX5_rule_6 ⟨Nat.le_of_ble_eq_true rfl, Nat.le_of_ble_eq_true rfl⟩) (fun r u H locs hw hP hD hS => ?_)
  rcases hw with ⟨i_0, rfl⟩ | ⟨i_1, i_2, rfl⟩ | ⟨i_3, i_4, rfl⟩
  · skip
    have i_0 : p1.toInt < 0 := by simpa only [Int32.toInt_toInt64] using i_0
    have hP : va_P g.1 vwCl [(h0, .inr (5, [.ref h1, .int 0, .ref h2, .int 0, .int 0, .ref h3, .ref h4, .ref h5, .ref h6, .int 0, .ref h7, .ref h8, .ref h9, .int 0, .ref h10, .ref h11, .ref h12, .ref h13, .ref h14, .ref h15, .ref h16, .ref h17, .ref h18, .ref h19, .ref h20, .ref h21, .ref h22])), (h1, .inl (zI g, 180, .inl (upd (upd (upd (fun _ => 0) 0 60) 1 1) 2 1)))] H := hP
    have hD : va_D A [(h0, .inr (5, [.ref h1, .int 0, .ref h2, .int 0, .int 0, .ref h3, .ref h4, .ref h5, .ref h6, .int 0, .ref h7, .ref h8, .ref h9, .int 0, .ref h10, .ref h11, .ref h12, .ref h13, .ref h14, .ref h15, .ref h16, .ref h17, .ref h18, .ref h19, .ref h20, .ref h21, .ref h22])), (h1, .inl (zI g, 180, .inl (upd (upd (upd (fun _ => 0) 0 60) 1 1) 2 1)))] := hD
    refine lv_if_eq (tgt := 30) hx hb dX5_rule_9 (by decide) (fun _ => ?_) (fun h => absurd h (by decide +kernel))
    refine lv_iconst (v := (-1)) hx hb dX5_rule_30 (by decide) ?_
    have hP9 := hP.sub (ws' := []) [] rfl
    have hD9 := hD.sub (ws' := []) [] (by decide) rfl
    exact W.iret (v := (-1)) hx hb hr (fun t ht hW => ⟨⟨(-1), 0, rfl, Or.inl ⟨i_0, rfl⟩, by rw [ht]; exact hP9, hD9⟩, hS.F ht⟩) hS.2.2 dX5_rule_31
  · skip
    have i_1 : 0 ≤ p1.toInt := by simpa only [Int32.toInt_toInt64] using i_1
    have i_2 : 4 < p1.toInt := by simpa only [Int32.toInt_toInt64] using i_2
    have hP : va_P g.1 vwCl [(h0, .inr (5, [.ref h1, .int 0, .ref h2, .int 0, .int 0, .ref h3, .ref h4, .ref h5, .ref h6, .int 0, .ref h7, .ref h8, .ref h9, .int 0, .ref h10, .ref h11, .ref h12, .ref h13, .ref h14, .ref h15, .ref h16, .ref h17, .ref h18, .ref h19, .ref h20, .ref h21, .ref h22])), (h1, .inl (zI g, 180, .inl (upd (upd (upd (fun _ => 0) 0 60) 1 1) 2 1)))] H := hP
    have hD : va_D A [(h0, .inr (5, [.ref h1, .int 0, .ref h2, .int 0, .int 0, .ref h3, .ref h4, .ref h5, .ref h6, .int 0, .ref h7, .ref h8, .ref h9, .int 0, .ref h10, .ref h11, .ref h12, .ref h13, .ref h14, .ref h15, .ref h16, .ref h17, .ref h18, .ref h19, .ref h20, .ref h21, .ref h22])), (h1, .inl (zI g, 180, .inl (upd (upd (upd (fun _ => 0) 0 60) 1 1) 2 1)))] := hD
    refine lv_if_eq (tgt := 30) hx hb dX5_rule_9 (by decide) (fun _ => ?_) (fun h => absurd h (by decide +kernel))
    refine lv_iconst (v := (-1)) hx hb dX5_rule_30 (by decide) ?_
    have hP9 := hP.sub (ws' := []) [] rfl
    have hD9 := hD.sub (ws' := []) [] (by decide) rfl
    exact W.iret (v := (-1)) hx hb hr (fun t ht hW => ⟨⟨(-1), 0, rfl, Or.inr (Or.inl ⟨i_1, i_2, rfl⟩), by rw [ht]; exact hP9, hD9⟩, hS.F ht⟩) hS.2.2 dX5_rule_31
  · skip
    have i_3 : 0 ≤ p1.toInt := by simpa only [Int32.toInt_toInt64] using i_3
    have i_4 : p1.toInt ≤ 4 := by simpa only [Int32.toInt_toInt64] using i_4
    have hP : va_P g.1 vwCl [(h0, .inr (5, [.ref h1, .int 0, .ref h2, .int 0, .int 0, .ref h3, .ref h4, .ref h5, .ref h6, .int 0, .ref h7, .ref h8, .ref h9, .int 0, .ref h10, .ref h11, .ref h12, .ref h13, .ref h14, .ref h15, .ref h16, .ref h17, .ref h18, .ref h19, .ref h20, .ref h21, .ref h22])), (h1, .inl (zI g, 180, .inl (upd (upd (upd (fun _ => 0) 0 60) 1 1) 2 1)))] H := hP
    have hD : va_D A [(h0, .inr (5, [.ref h1, .int 0, .ref h2, .int 0, .int 0, .ref h3, .ref h4, .ref h5, .ref h6, .int 0, .ref h7, .ref h8, .ref h9, .int 0, .ref h10, .ref h11, .ref h12, .ref h13, .ref h14, .ref h15, .ref h16, .ref h17, .ref h18, .ref h19, .ref h20, .ref h21, .ref h22])), (h1, .inl (zI g, 180, .inl (upd (upd (upd (fun _ => 0) 0 60) 1 1) 2 1)))] := hD
    refine lv_if_eq (tgt := 30) hx hb dX5_rule_9 (by decide) (fun h => absurd h (by decide +kernel)) (fun _ => ?_)
    refine lv_iload_n hx hb dX5_rule_12 rfl (lv_at hl 2 rfl) ?_
    refine lv_i2l (v := p2.toInt64) hx hb dX5_rule_13 rfl ?_
    refine lv_iload_n hx hb dX5_rule_14 rfl (lv_at hl 1 rfl) ?_
    refine z_calli (wr := [(h0, .inr (5, [.ref h1, .int 0, .ref h2, .int 0, .int 0, .ref h3, .ref h4, .ref h5, .ref h6, .int 0, .ref h7, .ref h8, .ref h9, .int 0, .ref h10, .ref h11, .ref h12, .ref h13, .ref h14, .ref h15, .ref h16, .ref h17, .ref h18, .ref h19, .ref h20, .ref h21, .ref h22])), (h1, .inl (zI g, 180, .inl (upd (upd (upd (fun _ => 0) 0 60) 1 1) 2 1)))]) hP hD hS hA [] [0, 1] (by decide) rfl rfl (by decide) (va_runS (As := [.int p1]) (rest := [.long p2.toInt64]) ⟨hx, hb, hml, hown, hts⟩ (kX5_leastOf_2 l g  H.size p1) ⟨callB_of 1 hts (zGood m_o_yX5_leastOf) rfl rfl rfl (hts _ m_z_RX5) (hts _ m_m_RX5_83) ⟨by decide +kernel, by decide +kernel, by decide +kernel⟩ ⟨Nat.le_of_ble_eq_true rfl, Nat.le_of_ble_eq_true rfl⟩, hts _ m_s_yX5_leastOf⟩ (zPreS hK hN hZ hP hD hS hA [] (by decide) rfl rfl) rfl rfl hl.1 rfl (lv_room (Nat.le_of_ble_eq_true rfl)) dX5_rule_15 ⟨Nat.le_of_ble_eq_true rfl, Nat.le_of_ble_eq_true rfl⟩) (fun r u H locs hw hP hD hS => ?_)
    rcases hw with ⟨i_5, rfl⟩ | ⟨i_6, rfl⟩
    · skip
      have i_5 : 2 ≤ p1.toInt := i_5
      have hP : va_P g.1 vwCl [(h0, .inr (5, [.ref h1, .int 0, .ref h2, .int 0, .int 0, .ref h3, .ref h4, .ref h5, .ref h6, .int 0, .ref h7, .ref h8, .ref h9, .int 0, .ref h10, .ref h11, .ref h12, .ref h13, .ref h14, .ref h15, .ref h16, .ref h17, .ref h18, .ref h19, .ref h20, .ref h21, .ref h22])), (h1, .inl (zI g, 180, .inl (upd (upd (upd (fun _ => 0) 0 60) 1 1) 2 1)))] H := hP
      have hD : va_D A [(h0, .inr (5, [.ref h1, .int 0, .ref h2, .int 0, .int 0, .ref h3, .ref h4, .ref h5, .ref h6, .int 0, .ref h7, .ref h8, .ref h9, .int 0, .ref h10, .ref h11, .ref h12, .ref h13, .ref h14, .ref h15, .ref h16, .ref h17, .ref h18, .ref h19, .ref h20, .ref h21, .ref h22])), (h1, .inl (zI g, 180, .inl (upd (upd (upd (fun _ => 0) 0 60) 1 1) 2 1)))] := hD
      refine lv_i2l (v := 0) hx hb dX5_rule_18 (by decide) ?_
      refine lv_iload_n hx hb dX5_rule_19 rfl (lv_at hl 1 rfl) ?_
      refine z_calli (wr := [(h0, .inr (5, [.ref h1, .int 0, .ref h2, .int 0, .int 0, .ref h3, .ref h4, .ref h5, .ref h6, .int 0, .ref h7, .ref h8, .ref h9, .int 0, .ref h10, .ref h11, .ref h12, .ref h13, .ref h14, .ref h15, .ref h16, .ref h17, .ref h18, .ref h19, .ref h20, .ref h21, .ref h22])), (h1, .inl (zI g, 180, .inl (upd (upd (upd (fun _ => 0) 0 60) 1 1) 2 1)))]) hP hD hS hA [] [0, 1] (by decide) rfl rfl (by decide) (va_runS (As := [.int p1]) (rest := [.long 0, .long p2.toInt64]) ⟨hx, hb, hml, hown, hts⟩ (kX5_mostOf_2 l g  H.size p1) ⟨callB_of 1 hts (zGood m_o_yX5_mostOf) rfl rfl rfl (hts _ m_z_RX5) (hts _ m_m_RX5_87) ⟨by decide +kernel, by decide +kernel, by decide +kernel⟩ ⟨Nat.le_of_ble_eq_true rfl, Nat.le_of_ble_eq_true rfl⟩, hts _ m_s_yX5_mostOf⟩ (zPreS hK hN hZ hP hD hS hA [] (by decide) rfl rfl) rfl rfl hl.1 rfl (lv_room (Nat.le_of_ble_eq_true rfl)) dX5_rule_20 ⟨Nat.le_of_ble_eq_true rfl, Nat.le_of_ble_eq_true rfl⟩) (fun r u H locs hw hP hD hS => ?_)
      rcases hw with ⟨i_7, i_8, rfl⟩ | ⟨i_9, i_10, rfl⟩ | ⟨i_11, rfl⟩
      · skip
        have i_7 : p1.toInt ≠ 1 := i_7
        have i_8 : p1.toInt ≠ 3 := i_8
        have hP : va_P g.1 vwCl [(h0, .inr (5, [.ref h1, .int 0, .ref h2, .int 0, .int 0, .ref h3, .ref h4, .ref h5, .ref h6, .int 0, .ref h7, .ref h8, .ref h9, .int 0, .ref h10, .ref h11, .ref h12, .ref h13, .ref h14, .ref h15, .ref h16, .ref h17, .ref h18, .ref h19, .ref h20, .ref h21, .ref h22])), (h1, .inl (zI g, 180, .inl (upd (upd (upd (fun _ => 0) 0 60) 1 1) 2 1)))] H := hP
        have hD : va_D A [(h0, .inr (5, [.ref h1, .int 0, .ref h2, .int 0, .int 0, .ref h3, .ref h4, .ref h5, .ref h6, .int 0, .ref h7, .ref h8, .ref h9, .int 0, .ref h10, .ref h11, .ref h12, .ref h13, .ref h14, .ref h15, .ref h16, .ref h17, .ref h18, .ref h19, .ref h20, .ref h21, .ref h22])), (h1, .inl (zI g, 180, .inl (upd (upd (upd (fun _ => 0) 0 60) 1 1) 2 1)))] := hD
        refine lv_i2l (v := 99) hx hb dX5_rule_23 (by decide) ?_
        refine z_calli (wr := [(h0, .inr (5, [.ref h1, .int 0, .ref h2, .int 0, .int 0, .ref h3, .ref h4, .ref h5, .ref h6, .int 0, .ref h7, .ref h8, .ref h9, .int 0, .ref h10, .ref h11, .ref h12, .ref h13, .ref h14, .ref h15, .ref h16, .ref h17, .ref h18, .ref h19, .ref h20, .ref h21, .ref h22])), (h1, .inl (zI g, 180, .inl (upd (upd (upd (fun _ => 0) 0 60) 1 1) 2 1)))]) hP hD hS hA [] [0, 1] (by decide) rfl rfl (by decide) (va_runS (As := [.long p2.toInt64, .long 0, .long 99]) (rest := []) ⟨hx, hb, hml, hown, hts⟩ (kX5_in_7 l g  H.size p2.toInt64) ⟨callB_of 3 hts (zGood m_o_yX5_in) rfl rfl rfl (hts _ m_z_RX5) (hts _ m_m_RX5_77) ⟨by decide +kernel, by decide +kernel, by decide +kernel⟩ ⟨Nat.le_of_ble_eq_true rfl, Nat.le_of_ble_eq_true rfl⟩, hts _ m_s_yX5_in⟩ (zPreS hK hN hZ hP hD hS hA [] (by decide) rfl rfl) rfl rfl hl.1 rfl (lv_room (Nat.le_of_ble_eq_true rfl)) dX5_rule_24 ⟨Nat.le_of_ble_eq_true rfl, Nat.le_of_ble_eq_true rfl⟩) (fun r u H locs hw hP hD hS => ?_)
        rcases hw with ⟨i_12, rfl⟩ | ⟨i_13, i_14, rfl⟩ | ⟨i_15, i_16, rfl⟩
        · skip
          have i_12 : p2.toInt < 0 := by simpa only [Int32.toInt_toInt64] using i_12
          have hP : va_P g.1 vwCl [(h0, .inr (5, [.ref h1, .int 0, .ref h2, .int 0, .int 0, .ref h3, .ref h4, .ref h5, .ref h6, .int 0, .ref h7, .ref h8, .ref h9, .int 0, .ref h10, .ref h11, .ref h12, .ref h13, .ref h14, .ref h15, .ref h16, .ref h17, .ref h18, .ref h19, .ref h20, .ref h21, .ref h22])), (h1, .inl (zI g, 180, .inl (upd (upd (upd (fun _ => 0) 0 60) 1 1) 2 1)))] H := hP
          have hD : va_D A [(h0, .inr (5, [.ref h1, .int 0, .ref h2, .int 0, .int 0, .ref h3, .ref h4, .ref h5, .ref h6, .int 0, .ref h7, .ref h8, .ref h9, .int 0, .ref h10, .ref h11, .ref h12, .ref h13, .ref h14, .ref h15, .ref h16, .ref h17, .ref h18, .ref h19, .ref h20, .ref h21, .ref h22])), (h1, .inl (zI g, 180, .inl (upd (upd (upd (fun _ => 0) 0 60) 1 1) 2 1)))] := hD
          refine lv_if_ne (tgt := 32) hx hb dX5_rule_27 (by decide) (fun h => absurd h (by decide +kernel)) (fun _ => ?_)
          refine lv_iconst (v := (-1)) hx hb dX5_rule_30 (by decide) ?_
          have hP9 := hP.sub (ws' := []) [] rfl
          have hD9 := hD.sub (ws' := []) [] (by decide) rfl
          exact W.iret (v := (-1)) hx hb hr (fun t ht hW => ⟨⟨(-1), 0, rfl, Or.inr (Or.inr (Or.inl ⟨i_3, i_4, i_5, i_7, i_8, i_12, rfl⟩)), by rw [ht]; exact hP9, hD9⟩, hS.F ht⟩) hS.2.2 dX5_rule_31
        · skip
          have i_13 : 0 ≤ p2.toInt := by simpa only [Int32.toInt_toInt64] using i_13
          have i_14 : 99 < p2.toInt := by simpa only [Int32.toInt_toInt64] using i_14
          have hP : va_P g.1 vwCl [(h0, .inr (5, [.ref h1, .int 0, .ref h2, .int 0, .int 0, .ref h3, .ref h4, .ref h5, .ref h6, .int 0, .ref h7, .ref h8, .ref h9, .int 0, .ref h10, .ref h11, .ref h12, .ref h13, .ref h14, .ref h15, .ref h16, .ref h17, .ref h18, .ref h19, .ref h20, .ref h21, .ref h22])), (h1, .inl (zI g, 180, .inl (upd (upd (upd (fun _ => 0) 0 60) 1 1) 2 1)))] H := hP
          have hD : va_D A [(h0, .inr (5, [.ref h1, .int 0, .ref h2, .int 0, .int 0, .ref h3, .ref h4, .ref h5, .ref h6, .int 0, .ref h7, .ref h8, .ref h9, .int 0, .ref h10, .ref h11, .ref h12, .ref h13, .ref h14, .ref h15, .ref h16, .ref h17, .ref h18, .ref h19, .ref h20, .ref h21, .ref h22])), (h1, .inl (zI g, 180, .inl (upd (upd (upd (fun _ => 0) 0 60) 1 1) 2 1)))] := hD
          refine lv_if_ne (tgt := 32) hx hb dX5_rule_27 (by decide) (fun h => absurd h (by decide +kernel)) (fun _ => ?_)
          refine lv_iconst (v := (-1)) hx hb dX5_rule_30 (by decide) ?_
          have hP9 := hP.sub (ws' := []) [] rfl
          have hD9 := hD.sub (ws' := []) [] (by decide) rfl
          exact W.iret (v := (-1)) hx hb hr (fun t ht hW => ⟨⟨(-1), 0, rfl, Or.inr (Or.inr (Or.inr (Or.inl ⟨i_3, i_4, i_5, i_7, i_8, i_13, i_14, rfl⟩))), by rw [ht]; exact hP9, hD9⟩, hS.F ht⟩) hS.2.2 dX5_rule_31
        · skip
          have i_15 : 0 ≤ p2.toInt := by simpa only [Int32.toInt_toInt64] using i_15
          have i_16 : p2.toInt ≤ 99 := by simpa only [Int32.toInt_toInt64] using i_16
          have hP : va_P g.1 vwCl [(h0, .inr (5, [.ref h1, .int 0, .ref h2, .int 0, .int 0, .ref h3, .ref h4, .ref h5, .ref h6, .int 0, .ref h7, .ref h8, .ref h9, .int 0, .ref h10, .ref h11, .ref h12, .ref h13, .ref h14, .ref h15, .ref h16, .ref h17, .ref h18, .ref h19, .ref h20, .ref h21, .ref h22])), (h1, .inl (zI g, 180, .inl (upd (upd (upd (fun _ => 0) 0 60) 1 1) 2 1)))] H := hP
          have hD : va_D A [(h0, .inr (5, [.ref h1, .int 0, .ref h2, .int 0, .int 0, .ref h3, .ref h4, .ref h5, .ref h6, .int 0, .ref h7, .ref h8, .ref h9, .int 0, .ref h10, .ref h11, .ref h12, .ref h13, .ref h14, .ref h15, .ref h16, .ref h17, .ref h18, .ref h19, .ref h20, .ref h21, .ref h22])), (h1, .inl (zI g, 180, .inl (upd (upd (upd (fun _ => 0) 0 60) 1 1) 2 1)))] := hD
          refine lv_if_ne (tgt := 32) hx hb dX5_rule_27 (by decide) (fun _ => ?_) (fun h => absurd h (by decide +kernel))
          refine lv_aload_n hx hb dX5_rule_32 rfl (lv_at hl 0 rfl) ?_
          refine va_get (D := g.1) (ci := 5) (v := .ref h1) (C := RX5) (T := TX5) (N := 27) hx hb hts zl_X5 hown hK hP 0 rfl rfl 0 (by decide) (hts _ m_f_RX5_7) (fun _ h => h) rfl dX5_rule_33 ?_
          refine lv_iload_n hx hb dX5_rule_36 rfl (lv_at hl 1 rfl) ?_
          rcases (show p1.toInt = 2 ∨ p1.toInt = 3 ∨ p1.toInt = 4 by omega) with j_17 | j_17 | j_17
          · obtain rfl : p1 = 2 := Int32.toInt_inj.mp (show p1.toInt = (2 : Int32).toInt from j_17.trans rfl)
            refine va_iald (D := g.1) hx hb hK hP 1 0 rfl rfl (vp_in_iff.mpr (by decide +kernel)) dX5_rule_37 ?_
            refine lv_topi (nm_r (e' := 1) (by rfl) ?_)
            refine lv_istore_n (lv' := [(3, .int 1), (0, .ref h0), (1, .int 2), (2, .int p2)]) hx hb dX5_rule_38 rfl hl (by decide) rfl (fun ls hl => ?_)
            refine lv_aload_n hx hb dX5_rule_39 rfl (lv_at hl 1 rfl) ?_
            refine va_get (D := g.1) (ci := 5) (v := .ref h1) (C := RX5) (T := TX5) (N := 27) hx hb hts zl_X5 hown hK hP 0 rfl rfl 0 (by decide) (hts _ m_f_RX5_7) (fun _ h => h) rfl dX5_rule_40 ?_
            refine lv_iload_n hx hb dX5_rule_43 rfl (lv_at hl 2 rfl) ?_
            refine lv_iload_n hx hb dX5_rule_44 rfl (lv_at hl 3 rfl) ?_
            refine va_iast (D := g.1) hx hb hK hP hD hS 1 0 rfl rfl (vp_in_iff.mpr (by decide +kernel)) dX5_rule_45 (fun H locs hP hD hS => ?_)
            have hP : va_P g.1 vwCl [(h0, .inr (5, [.ref h1, .int 0, .ref h2, .int 0, .int 0, .ref h3, .ref h4, .ref h5, .ref h6, .int 0, .ref h7, .ref h8, .ref h9, .int 0, .ref h10, .ref h11, .ref h12, .ref h13, .ref h14, .ref h15, .ref h16, .ref h17, .ref h18, .ref h19, .ref h20, .ref h21, .ref h22])), (h1, .inl (zI g, 180, .inl (upd (upd (upd (upd (fun _ => 0) 0 60) 1 1) 2 1) 2 p2)))] H := hP
            have hD : va_D A [(h0, .inr (5, [.ref h1, .int 0, .ref h2, .int 0, .int 0, .ref h3, .ref h4, .ref h5, .ref h6, .int 0, .ref h7, .ref h8, .ref h9, .int 0, .ref h10, .ref h11, .ref h12, .ref h13, .ref h14, .ref h15, .ref h16, .ref h17, .ref h18, .ref h19, .ref h20, .ref h21, .ref h22])), (h1, .inl (zI g, 180, .inl (upd (upd (upd (upd (fun _ => 0) 0 60) 1 1) 2 1) 2 p2)))] := hD
            refine lv_iload_n hx hb dX5_rule_46 rfl (lv_at hl 0 rfl) ?_
            have hP9 := hP.sub (ws' := []) [] rfl
            have hD9 := hD.sub (ws' := []) [] (by decide) rfl
            exact W.iret (v := 1) hx hb hr (fun t ht hW => ⟨⟨1, 0, rfl, Or.inr (Or.inr (Or.inr (Or.inr (Or.inl ⟨i_3, i_4, i_5, i_7, i_8, i_15, i_16, j_17, rfl⟩)))), by rw [ht]; exact hP9, hD9⟩, hS.F ht⟩) hS.2.2 dX5_rule_47
          · obtain rfl : p1 = 3 := Int32.toInt_inj.mp (show p1.toInt = (3 : Int32).toInt from j_17.trans rfl)
            refine va_iald (D := g.1) hx hb hK hP 1 0 rfl rfl (vp_in_iff.mpr (by decide +kernel)) dX5_rule_37 ?_
            refine lv_topi (nm_r (e' := 0) (by rfl) ?_)
            refine lv_istore_n (lv' := [(3, .int 0), (0, .ref h0), (1, .int 3), (2, .int p2)]) hx hb dX5_rule_38 rfl hl (by decide) rfl (fun ls hl => ?_)
            refine lv_aload_n hx hb dX5_rule_39 rfl (lv_at hl 1 rfl) ?_
            refine va_get (D := g.1) (ci := 5) (v := .ref h1) (C := RX5) (T := TX5) (N := 27) hx hb hts zl_X5 hown hK hP 0 rfl rfl 0 (by decide) (hts _ m_f_RX5_7) (fun _ h => h) rfl dX5_rule_40 ?_
            refine lv_iload_n hx hb dX5_rule_43 rfl (lv_at hl 2 rfl) ?_
            refine lv_iload_n hx hb dX5_rule_44 rfl (lv_at hl 3 rfl) ?_
            refine va_iast (D := g.1) hx hb hK hP hD hS 1 0 rfl rfl (vp_in_iff.mpr (by decide +kernel)) dX5_rule_45 (fun H locs hP hD hS => ?_)
            have hP : va_P g.1 vwCl [(h0, .inr (5, [.ref h1, .int 0, .ref h2, .int 0, .int 0, .ref h3, .ref h4, .ref h5, .ref h6, .int 0, .ref h7, .ref h8, .ref h9, .int 0, .ref h10, .ref h11, .ref h12, .ref h13, .ref h14, .ref h15, .ref h16, .ref h17, .ref h18, .ref h19, .ref h20, .ref h21, .ref h22])), (h1, .inl (zI g, 180, .inl (upd (upd (upd (upd (fun _ => 0) 0 60) 1 1) 2 1) 3 p2)))] H := hP
            have hD : va_D A [(h0, .inr (5, [.ref h1, .int 0, .ref h2, .int 0, .int 0, .ref h3, .ref h4, .ref h5, .ref h6, .int 0, .ref h7, .ref h8, .ref h9, .int 0, .ref h10, .ref h11, .ref h12, .ref h13, .ref h14, .ref h15, .ref h16, .ref h17, .ref h18, .ref h19, .ref h20, .ref h21, .ref h22])), (h1, .inl (zI g, 180, .inl (upd (upd (upd (upd (fun _ => 0) 0 60) 1 1) 2 1) 3 p2)))] := hD
            refine lv_iload_n hx hb dX5_rule_46 rfl (lv_at hl 0 rfl) ?_
            have hP9 := hP.sub (ws' := []) [] rfl
            have hD9 := hD.sub (ws' := []) [] (by decide) rfl
            exact W.iret (v := 0) hx hb hr (fun t ht hW => ⟨⟨0, 0, rfl, Or.inr (Or.inr (Or.inr (Or.inr (Or.inr (Or.inl ⟨i_3, i_4, i_5, i_7, i_8, i_15, i_16, j_17, rfl⟩))))), by rw [ht]; exact hP9, hD9⟩, hS.F ht⟩) hS.2.2 dX5_rule_47
          · obtain rfl : p1 = 4 := Int32.toInt_inj.mp (show p1.toInt = (4 : Int32).toInt from j_17.trans rfl)
            refine va_iald (D := g.1) hx hb hK hP 1 0 rfl rfl (vp_in_iff.mpr (by decide +kernel)) dX5_rule_37 ?_
            refine lv_topi (nm_r (e' := 0) (by rfl) ?_)
            refine lv_istore_n (lv' := [(3, .int 0), (0, .ref h0), (1, .int 4), (2, .int p2)]) hx hb dX5_rule_38 rfl hl (by decide) rfl (fun ls hl => ?_)
            refine lv_aload_n hx hb dX5_rule_39 rfl (lv_at hl 1 rfl) ?_
            refine va_get (D := g.1) (ci := 5) (v := .ref h1) (C := RX5) (T := TX5) (N := 27) hx hb hts zl_X5 hown hK hP 0 rfl rfl 0 (by decide) (hts _ m_f_RX5_7) (fun _ h => h) rfl dX5_rule_40 ?_
            refine lv_iload_n hx hb dX5_rule_43 rfl (lv_at hl 2 rfl) ?_
            refine lv_iload_n hx hb dX5_rule_44 rfl (lv_at hl 3 rfl) ?_
            refine va_iast (D := g.1) hx hb hK hP hD hS 1 0 rfl rfl (vp_in_iff.mpr (by decide +kernel)) dX5_rule_45 (fun H locs hP hD hS => ?_)
            have hP : va_P g.1 vwCl [(h0, .inr (5, [.ref h1, .int 0, .ref h2, .int 0, .int 0, .ref h3, .ref h4, .ref h5, .ref h6, .int 0, .ref h7, .ref h8, .ref h9, .int 0, .ref h10, .ref h11, .ref h12, .ref h13, .ref h14, .ref h15, .ref h16, .ref h17, .ref h18, .ref h19, .ref h20, .ref h21, .ref h22])), (h1, .inl (zI g, 180, .inl (upd (upd (upd (upd (fun _ => 0) 0 60) 1 1) 2 1) 4 p2)))] H := hP
            have hD : va_D A [(h0, .inr (5, [.ref h1, .int 0, .ref h2, .int 0, .int 0, .ref h3, .ref h4, .ref h5, .ref h6, .int 0, .ref h7, .ref h8, .ref h9, .int 0, .ref h10, .ref h11, .ref h12, .ref h13, .ref h14, .ref h15, .ref h16, .ref h17, .ref h18, .ref h19, .ref h20, .ref h21, .ref h22])), (h1, .inl (zI g, 180, .inl (upd (upd (upd (upd (fun _ => 0) 0 60) 1 1) 2 1) 4 p2)))] := hD
            refine lv_iload_n hx hb dX5_rule_46 rfl (lv_at hl 0 rfl) ?_
            have hP9 := hP.sub (ws' := []) [] rfl
            have hD9 := hD.sub (ws' := []) [] (by decide) rfl
            exact W.iret (v := 0) hx hb hr (fun t ht hW => ⟨⟨0, 0, rfl, Or.inr (Or.inr (Or.inr (Or.inr (Or.inr (Or.inr (Or.inl ⟨i_3, i_4, i_5, i_7, i_8, i_15, i_16, j_17, rfl⟩)))))), by rw [ht]; exact hP9, hD9⟩, hS.F ht⟩) hS.2.2 dX5_rule_47
      · skip
        have i_9 : p1.toInt ≠ 1 := i_9
        have i_10 : p1.toInt = 3 := i_10
        have hP : va_P g.1 vwCl [(h0, .inr (5, [.ref h1, .int 0, .ref h2, .int 0, .int 0, .ref h3, .ref h4, .ref h5, .ref h6, .int 0, .ref h7, .ref h8, .ref h9, .int 0, .ref h10, .ref h11, .ref h12, .ref h13, .ref h14, .ref h15, .ref h16, .ref h17, .ref h18, .ref h19, .ref h20, .ref h21, .ref h22])), (h1, .inl (zI g, 180, .inl (upd (upd (upd (fun _ => 0) 0 60) 1 1) 2 1)))] H := hP
        have hD : va_D A [(h0, .inr (5, [.ref h1, .int 0, .ref h2, .int 0, .int 0, .ref h3, .ref h4, .ref h5, .ref h6, .int 0, .ref h7, .ref h8, .ref h9, .int 0, .ref h10, .ref h11, .ref h12, .ref h13, .ref h14, .ref h15, .ref h16, .ref h17, .ref h18, .ref h19, .ref h20, .ref h21, .ref h22])), (h1, .inl (zI g, 180, .inl (upd (upd (upd (fun _ => 0) 0 60) 1 1) 2 1)))] := hD
        refine lv_i2l (v := 1) hx hb dX5_rule_23 (by decide) ?_
        refine z_calli (wr := [(h0, .inr (5, [.ref h1, .int 0, .ref h2, .int 0, .int 0, .ref h3, .ref h4, .ref h5, .ref h6, .int 0, .ref h7, .ref h8, .ref h9, .int 0, .ref h10, .ref h11, .ref h12, .ref h13, .ref h14, .ref h15, .ref h16, .ref h17, .ref h18, .ref h19, .ref h20, .ref h21, .ref h22])), (h1, .inl (zI g, 180, .inl (upd (upd (upd (fun _ => 0) 0 60) 1 1) 2 1)))]) hP hD hS hA [] [0, 1] (by decide) rfl rfl (by decide) (va_runS (As := [.long p2.toInt64, .long 0, .long 1]) (rest := []) ⟨hx, hb, hml, hown, hts⟩ (kX5_in_8 l g  H.size p2.toInt64) ⟨callB_of 3 hts (zGood m_o_yX5_in) rfl rfl rfl (hts _ m_z_RX5) (hts _ m_m_RX5_77) ⟨by decide +kernel, by decide +kernel, by decide +kernel⟩ ⟨Nat.le_of_ble_eq_true rfl, Nat.le_of_ble_eq_true rfl⟩, hts _ m_s_yX5_in⟩ (zPreS hK hN hZ hP hD hS hA [] (by decide) rfl rfl) rfl rfl hl.1 rfl (lv_room (Nat.le_of_ble_eq_true rfl)) dX5_rule_24 ⟨Nat.le_of_ble_eq_true rfl, Nat.le_of_ble_eq_true rfl⟩) (fun r u H locs hw hP hD hS => ?_)
        rcases hw with ⟨i_18, rfl⟩ | ⟨i_19, i_20, rfl⟩ | ⟨i_21, i_22, rfl⟩
        · skip
          have i_18 : p2.toInt < 0 := by simpa only [Int32.toInt_toInt64] using i_18
          have hP : va_P g.1 vwCl [(h0, .inr (5, [.ref h1, .int 0, .ref h2, .int 0, .int 0, .ref h3, .ref h4, .ref h5, .ref h6, .int 0, .ref h7, .ref h8, .ref h9, .int 0, .ref h10, .ref h11, .ref h12, .ref h13, .ref h14, .ref h15, .ref h16, .ref h17, .ref h18, .ref h19, .ref h20, .ref h21, .ref h22])), (h1, .inl (zI g, 180, .inl (upd (upd (upd (fun _ => 0) 0 60) 1 1) 2 1)))] H := hP
          have hD : va_D A [(h0, .inr (5, [.ref h1, .int 0, .ref h2, .int 0, .int 0, .ref h3, .ref h4, .ref h5, .ref h6, .int 0, .ref h7, .ref h8, .ref h9, .int 0, .ref h10, .ref h11, .ref h12, .ref h13, .ref h14, .ref h15, .ref h16, .ref h17, .ref h18, .ref h19, .ref h20, .ref h21, .ref h22])), (h1, .inl (zI g, 180, .inl (upd (upd (upd (fun _ => 0) 0 60) 1 1) 2 1)))] := hD
          refine lv_if_ne (tgt := 32) hx hb dX5_rule_27 (by decide) (fun h => absurd h (by decide +kernel)) (fun _ => ?_)
          refine lv_iconst (v := (-1)) hx hb dX5_rule_30 (by decide) ?_
          have hP9 := hP.sub (ws' := []) [] rfl
          have hD9 := hD.sub (ws' := []) [] (by decide) rfl
          exact W.iret (v := (-1)) hx hb hr (fun t ht hW => ⟨⟨(-1), 0, rfl, Or.inr (Or.inr (Or.inr (Or.inr (Or.inr (Or.inr (Or.inr (Or.inl ⟨i_3, i_4, i_5, i_9, i_10, i_18, rfl⟩))))))), by rw [ht]; exact hP9, hD9⟩, hS.F ht⟩) hS.2.2 dX5_rule_31
        · skip
          have i_19 : 0 ≤ p2.toInt := by simpa only [Int32.toInt_toInt64] using i_19
          have i_20 : 1 < p2.toInt := by simpa only [Int32.toInt_toInt64] using i_20
          have hP : va_P g.1 vwCl [(h0, .inr (5, [.ref h1, .int 0, .ref h2, .int 0, .int 0, .ref h3, .ref h4, .ref h5, .ref h6, .int 0, .ref h7, .ref h8, .ref h9, .int 0, .ref h10, .ref h11, .ref h12, .ref h13, .ref h14, .ref h15, .ref h16, .ref h17, .ref h18, .ref h19, .ref h20, .ref h21, .ref h22])), (h1, .inl (zI g, 180, .inl (upd (upd (upd (fun _ => 0) 0 60) 1 1) 2 1)))] H := hP
          have hD : va_D A [(h0, .inr (5, [.ref h1, .int 0, .ref h2, .int 0, .int 0, .ref h3, .ref h4, .ref h5, .ref h6, .int 0, .ref h7, .ref h8, .ref h9, .int 0, .ref h10, .ref h11, .ref h12, .ref h13, .ref h14, .ref h15, .ref h16, .ref h17, .ref h18, .ref h19, .ref h20, .ref h21, .ref h22])), (h1, .inl (zI g, 180, .inl (upd (upd (upd (fun _ => 0) 0 60) 1 1) 2 1)))] := hD
          refine lv_if_ne (tgt := 32) hx hb dX5_rule_27 (by decide) (fun h => absurd h (by decide +kernel)) (fun _ => ?_)
          refine lv_iconst (v := (-1)) hx hb dX5_rule_30 (by decide) ?_
          have hP9 := hP.sub (ws' := []) [] rfl
          have hD9 := hD.sub (ws' := []) [] (by decide) rfl
          exact W.iret (v := (-1)) hx hb hr (fun t ht hW => ⟨⟨(-1), 0, rfl, Or.inr (Or.inr (Or.inr (Or.inr (Or.inr (Or.inr (Or.inr (Or.inr (Or.inl ⟨i_3, i_4, i_5, i_9, i_10, i_19, i_20, rfl⟩)))))))), by rw [ht]; exact hP9, hD9⟩, hS.F ht⟩) hS.2.2 dX5_rule_31
        · skip
          have i_21 : 0 ≤ p2.toInt := by simpa only [Int32.toInt_toInt64] using i_21
          have i_22 : p2.toInt ≤ 1 := by simpa only [Int32.toInt_toInt64] using i_22
          have hP : va_P g.1 vwCl [(h0, .inr (5, [.ref h1, .int 0, .ref h2, .int 0, .int 0, .ref h3, .ref h4, .ref h5, .ref h6, .int 0, .ref h7, .ref h8, .ref h9, .int 0, .ref h10, .ref h11, .ref h12, .ref h13, .ref h14, .ref h15, .ref h16, .ref h17, .ref h18, .ref h19, .ref h20, .ref h21, .ref h22])), (h1, .inl (zI g, 180, .inl (upd (upd (upd (fun _ => 0) 0 60) 1 1) 2 1)))] H := hP
          have hD : va_D A [(h0, .inr (5, [.ref h1, .int 0, .ref h2, .int 0, .int 0, .ref h3, .ref h4, .ref h5, .ref h6, .int 0, .ref h7, .ref h8, .ref h9, .int 0, .ref h10, .ref h11, .ref h12, .ref h13, .ref h14, .ref h15, .ref h16, .ref h17, .ref h18, .ref h19, .ref h20, .ref h21, .ref h22])), (h1, .inl (zI g, 180, .inl (upd (upd (upd (fun _ => 0) 0 60) 1 1) 2 1)))] := hD
          refine lv_if_ne (tgt := 32) hx hb dX5_rule_27 (by decide) (fun _ => ?_) (fun h => absurd h (by decide +kernel))
          refine lv_aload_n hx hb dX5_rule_32 rfl (lv_at hl 0 rfl) ?_
          refine va_get (D := g.1) (ci := 5) (v := .ref h1) (C := RX5) (T := TX5) (N := 27) hx hb hts zl_X5 hown hK hP 0 rfl rfl 0 (by decide) (hts _ m_f_RX5_7) (fun _ h => h) rfl dX5_rule_33 ?_
          refine lv_iload_n hx hb dX5_rule_36 rfl (lv_at hl 1 rfl) ?_
          obtain rfl : p1 = 3 := Int32.toInt_inj.mp (show p1.toInt = (3 : Int32).toInt from (show p1.toInt = 3 by omega).trans rfl)
          refine va_iald (D := g.1) hx hb hK hP 1 0 rfl rfl (vp_in_iff.mpr (by decide +kernel)) dX5_rule_37 ?_
          refine lv_topi (nm_r (e' := 0) (by rfl) ?_)
          refine lv_istore_n (lv' := [(3, .int 0), (0, .ref h0), (1, .int 3), (2, .int p2)]) hx hb dX5_rule_38 rfl hl (by decide) rfl (fun ls hl => ?_)
          refine lv_aload_n hx hb dX5_rule_39 rfl (lv_at hl 1 rfl) ?_
          refine va_get (D := g.1) (ci := 5) (v := .ref h1) (C := RX5) (T := TX5) (N := 27) hx hb hts zl_X5 hown hK hP 0 rfl rfl 0 (by decide) (hts _ m_f_RX5_7) (fun _ h => h) rfl dX5_rule_40 ?_
          refine lv_iload_n hx hb dX5_rule_43 rfl (lv_at hl 2 rfl) ?_
          refine lv_iload_n hx hb dX5_rule_44 rfl (lv_at hl 3 rfl) ?_
          refine va_iast (D := g.1) hx hb hK hP hD hS 1 0 rfl rfl (vp_in_iff.mpr (by decide +kernel)) dX5_rule_45 (fun H locs hP hD hS => ?_)
          have hP : va_P g.1 vwCl [(h0, .inr (5, [.ref h1, .int 0, .ref h2, .int 0, .int 0, .ref h3, .ref h4, .ref h5, .ref h6, .int 0, .ref h7, .ref h8, .ref h9, .int 0, .ref h10, .ref h11, .ref h12, .ref h13, .ref h14, .ref h15, .ref h16, .ref h17, .ref h18, .ref h19, .ref h20, .ref h21, .ref h22])), (h1, .inl (zI g, 180, .inl (upd (upd (upd (upd (fun _ => 0) 0 60) 1 1) 2 1) 3 p2)))] H := hP
          have hD : va_D A [(h0, .inr (5, [.ref h1, .int 0, .ref h2, .int 0, .int 0, .ref h3, .ref h4, .ref h5, .ref h6, .int 0, .ref h7, .ref h8, .ref h9, .int 0, .ref h10, .ref h11, .ref h12, .ref h13, .ref h14, .ref h15, .ref h16, .ref h17, .ref h18, .ref h19, .ref h20, .ref h21, .ref h22])), (h1, .inl (zI g, 180, .inl (upd (upd (upd (upd (fun _ => 0) 0 60) 1 1) 2 1) 3 p2)))] := hD
          refine lv_iload_n hx hb dX5_rule_46 rfl (lv_at hl 0 rfl) ?_
          have hP9 := hP.sub (ws' := []) [] rfl
          have hD9 := hD.sub (ws' := []) [] (by decide) rfl
          exact W.iret (v := 0) hx hb hr (fun t ht hW => ⟨⟨0, 0, rfl, Or.inr (Or.inr (Or.inr (Or.inr (Or.inr (Or.inr (Or.inr (Or.inr (Or.inr (Or.inl ⟨i_3, i_4, i_5, i_9, i_10, i_21, i_22, rfl⟩))))))))), by rw [ht]; exact hP9, hD9⟩, hS.F ht⟩) hS.2.2 dX5_rule_47
      · exfalso; omega
    · skip
      have i_6 : p1.toInt < 2 := i_6
      have hP : va_P g.1 vwCl [(h0, .inr (5, [.ref h1, .int 0, .ref h2, .int 0, .int 0, .ref h3, .ref h4, .ref h5, .ref h6, .int 0, .ref h7, .ref h8, .ref h9, .int 0, .ref h10, .ref h11, .ref h12, .ref h13, .ref h14, .ref h15, .ref h16, .ref h17, .ref h18, .ref h19, .ref h20, .ref h21, .ref h22])), (h1, .inl (zI g, 180, .inl (upd (upd (upd (fun _ => 0) 0 60) 1 1) 2 1)))] H := hP
      have hD : va_D A [(h0, .inr (5, [.ref h1, .int 0, .ref h2, .int 0, .int 0, .ref h3, .ref h4, .ref h5, .ref h6, .int 0, .ref h7, .ref h8, .ref h9, .int 0, .ref h10, .ref h11, .ref h12, .ref h13, .ref h14, .ref h15, .ref h16, .ref h17, .ref h18, .ref h19, .ref h20, .ref h21, .ref h22])), (h1, .inl (zI g, 180, .inl (upd (upd (upd (fun _ => 0) 0 60) 1 1) 2 1)))] := hD
      refine lv_i2l (v := 1) hx hb dX5_rule_18 (by decide) ?_
      refine lv_iload_n hx hb dX5_rule_19 rfl (lv_at hl 1 rfl) ?_
      refine z_calli (wr := [(h0, .inr (5, [.ref h1, .int 0, .ref h2, .int 0, .int 0, .ref h3, .ref h4, .ref h5, .ref h6, .int 0, .ref h7, .ref h8, .ref h9, .int 0, .ref h10, .ref h11, .ref h12, .ref h13, .ref h14, .ref h15, .ref h16, .ref h17, .ref h18, .ref h19, .ref h20, .ref h21, .ref h22])), (h1, .inl (zI g, 180, .inl (upd (upd (upd (fun _ => 0) 0 60) 1 1) 2 1)))]) hP hD hS hA [] [0, 1] (by decide) rfl rfl (by decide) (va_runS (As := [.int p1]) (rest := [.long 1, .long p2.toInt64]) ⟨hx, hb, hml, hown, hts⟩ (kX5_mostOf_2 l g  H.size p1) ⟨callB_of 1 hts (zGood m_o_yX5_mostOf) rfl rfl rfl (hts _ m_z_RX5) (hts _ m_m_RX5_87) ⟨by decide +kernel, by decide +kernel, by decide +kernel⟩ ⟨Nat.le_of_ble_eq_true rfl, Nat.le_of_ble_eq_true rfl⟩, hts _ m_s_yX5_mostOf⟩ (zPreS hK hN hZ hP hD hS hA [] (by decide) rfl rfl) rfl rfl hl.1 rfl (lv_room (Nat.le_of_ble_eq_true rfl)) dX5_rule_20 ⟨Nat.le_of_ble_eq_true rfl, Nat.le_of_ble_eq_true rfl⟩) (fun r u H locs hw hP hD hS => ?_)
      rcases hw with ⟨i_24, i_25, rfl⟩ | ⟨i_26, i_27, rfl⟩ | ⟨i_28, rfl⟩
      · skip
        have i_24 : p1.toInt ≠ 1 := i_24
        have i_25 : p1.toInt ≠ 3 := i_25
        have hP : va_P g.1 vwCl [(h0, .inr (5, [.ref h1, .int 0, .ref h2, .int 0, .int 0, .ref h3, .ref h4, .ref h5, .ref h6, .int 0, .ref h7, .ref h8, .ref h9, .int 0, .ref h10, .ref h11, .ref h12, .ref h13, .ref h14, .ref h15, .ref h16, .ref h17, .ref h18, .ref h19, .ref h20, .ref h21, .ref h22])), (h1, .inl (zI g, 180, .inl (upd (upd (upd (fun _ => 0) 0 60) 1 1) 2 1)))] H := hP
        have hD : va_D A [(h0, .inr (5, [.ref h1, .int 0, .ref h2, .int 0, .int 0, .ref h3, .ref h4, .ref h5, .ref h6, .int 0, .ref h7, .ref h8, .ref h9, .int 0, .ref h10, .ref h11, .ref h12, .ref h13, .ref h14, .ref h15, .ref h16, .ref h17, .ref h18, .ref h19, .ref h20, .ref h21, .ref h22])), (h1, .inl (zI g, 180, .inl (upd (upd (upd (fun _ => 0) 0 60) 1 1) 2 1)))] := hD
        refine lv_i2l (v := 99) hx hb dX5_rule_23 (by decide) ?_
        refine z_calli (wr := [(h0, .inr (5, [.ref h1, .int 0, .ref h2, .int 0, .int 0, .ref h3, .ref h4, .ref h5, .ref h6, .int 0, .ref h7, .ref h8, .ref h9, .int 0, .ref h10, .ref h11, .ref h12, .ref h13, .ref h14, .ref h15, .ref h16, .ref h17, .ref h18, .ref h19, .ref h20, .ref h21, .ref h22])), (h1, .inl (zI g, 180, .inl (upd (upd (upd (fun _ => 0) 0 60) 1 1) 2 1)))]) hP hD hS hA [] [0, 1] (by decide) rfl rfl (by decide) (va_runS (As := [.long p2.toInt64, .long 1, .long 99]) (rest := []) ⟨hx, hb, hml, hown, hts⟩ (kX5_in_9 l g  H.size p2.toInt64) ⟨callB_of 3 hts (zGood m_o_yX5_in) rfl rfl rfl (hts _ m_z_RX5) (hts _ m_m_RX5_77) ⟨by decide +kernel, by decide +kernel, by decide +kernel⟩ ⟨Nat.le_of_ble_eq_true rfl, Nat.le_of_ble_eq_true rfl⟩, hts _ m_s_yX5_in⟩ (zPreS hK hN hZ hP hD hS hA [] (by decide) rfl rfl) rfl rfl hl.1 rfl (lv_room (Nat.le_of_ble_eq_true rfl)) dX5_rule_24 ⟨Nat.le_of_ble_eq_true rfl, Nat.le_of_ble_eq_true rfl⟩) (fun r u H locs hw hP hD hS => ?_)
        rcases hw with ⟨i_29, rfl⟩ | ⟨i_30, i_31, rfl⟩ | ⟨i_32, i_33, rfl⟩
        · skip
          have i_29 : p2.toInt < 1 := by simpa only [Int32.toInt_toInt64] using i_29
          have hP : va_P g.1 vwCl [(h0, .inr (5, [.ref h1, .int 0, .ref h2, .int 0, .int 0, .ref h3, .ref h4, .ref h5, .ref h6, .int 0, .ref h7, .ref h8, .ref h9, .int 0, .ref h10, .ref h11, .ref h12, .ref h13, .ref h14, .ref h15, .ref h16, .ref h17, .ref h18, .ref h19, .ref h20, .ref h21, .ref h22])), (h1, .inl (zI g, 180, .inl (upd (upd (upd (fun _ => 0) 0 60) 1 1) 2 1)))] H := hP
          have hD : va_D A [(h0, .inr (5, [.ref h1, .int 0, .ref h2, .int 0, .int 0, .ref h3, .ref h4, .ref h5, .ref h6, .int 0, .ref h7, .ref h8, .ref h9, .int 0, .ref h10, .ref h11, .ref h12, .ref h13, .ref h14, .ref h15, .ref h16, .ref h17, .ref h18, .ref h19, .ref h20, .ref h21, .ref h22])), (h1, .inl (zI g, 180, .inl (upd (upd (upd (fun _ => 0) 0 60) 1 1) 2 1)))] := hD
          refine lv_if_ne (tgt := 32) hx hb dX5_rule_27 (by decide) (fun h => absurd h (by decide +kernel)) (fun _ => ?_)
          refine lv_iconst (v := (-1)) hx hb dX5_rule_30 (by decide) ?_
          have hP9 := hP.sub (ws' := []) [] rfl
          have hD9 := hD.sub (ws' := []) [] (by decide) rfl
          exact W.iret (v := (-1)) hx hb hr (fun t ht hW => ⟨⟨(-1), 0, rfl, Or.inr (Or.inr (Or.inr (Or.inr (Or.inr (Or.inr (Or.inr (Or.inr (Or.inr (Or.inr (Or.inl ⟨i_3, i_4, i_6, i_24, i_25, i_29, rfl⟩)))))))))), by rw [ht]; exact hP9, hD9⟩, hS.F ht⟩) hS.2.2 dX5_rule_31
        · skip
          have i_30 : 1 ≤ p2.toInt := by simpa only [Int32.toInt_toInt64] using i_30
          have i_31 : 99 < p2.toInt := by simpa only [Int32.toInt_toInt64] using i_31
          have hP : va_P g.1 vwCl [(h0, .inr (5, [.ref h1, .int 0, .ref h2, .int 0, .int 0, .ref h3, .ref h4, .ref h5, .ref h6, .int 0, .ref h7, .ref h8, .ref h9, .int 0, .ref h10, .ref h11, .ref h12, .ref h13, .ref h14, .ref h15, .ref h16, .ref h17, .ref h18, .ref h19, .ref h20, .ref h21, .ref h22])), (h1, .inl (zI g, 180, .inl (upd (upd (upd (fun _ => 0) 0 60) 1 1) 2 1)))] H := hP
          have hD : va_D A [(h0, .inr (5, [.ref h1, .int 0, .ref h2, .int 0, .int 0, .ref h3, .ref h4, .ref h5, .ref h6, .int 0, .ref h7, .ref h8, .ref h9, .int 0, .ref h10, .ref h11, .ref h12, .ref h13, .ref h14, .ref h15, .ref h16, .ref h17, .ref h18, .ref h19, .ref h20, .ref h21, .ref h22])), (h1, .inl (zI g, 180, .inl (upd (upd (upd (fun _ => 0) 0 60) 1 1) 2 1)))] := hD
          refine lv_if_ne (tgt := 32) hx hb dX5_rule_27 (by decide) (fun h => absurd h (by decide +kernel)) (fun _ => ?_)
          refine lv_iconst (v := (-1)) hx hb dX5_rule_30 (by decide) ?_
          have hP9 := hP.sub (ws' := []) [] rfl
          have hD9 := hD.sub (ws' := []) [] (by decide) rfl
          exact W.iret (v := (-1)) hx hb hr (fun t ht hW => ⟨⟨(-1), 0, rfl, Or.inr (Or.inr (Or.inr (Or.inr (Or.inr (Or.inr (Or.inr (Or.inr (Or.inr (Or.inr (Or.inr (Or.inl ⟨i_3, i_4, i_6, i_24, i_25, i_30, i_31, rfl⟩))))))))))), by rw [ht]; exact hP9, hD9⟩, hS.F ht⟩) hS.2.2 dX5_rule_31
        · skip
          have i_32 : 1 ≤ p2.toInt := by simpa only [Int32.toInt_toInt64] using i_32
          have i_33 : p2.toInt ≤ 99 := by simpa only [Int32.toInt_toInt64] using i_33
          have hP : va_P g.1 vwCl [(h0, .inr (5, [.ref h1, .int 0, .ref h2, .int 0, .int 0, .ref h3, .ref h4, .ref h5, .ref h6, .int 0, .ref h7, .ref h8, .ref h9, .int 0, .ref h10, .ref h11, .ref h12, .ref h13, .ref h14, .ref h15, .ref h16, .ref h17, .ref h18, .ref h19, .ref h20, .ref h21, .ref h22])), (h1, .inl (zI g, 180, .inl (upd (upd (upd (fun _ => 0) 0 60) 1 1) 2 1)))] H := hP
          have hD : va_D A [(h0, .inr (5, [.ref h1, .int 0, .ref h2, .int 0, .int 0, .ref h3, .ref h4, .ref h5, .ref h6, .int 0, .ref h7, .ref h8, .ref h9, .int 0, .ref h10, .ref h11, .ref h12, .ref h13, .ref h14, .ref h15, .ref h16, .ref h17, .ref h18, .ref h19, .ref h20, .ref h21, .ref h22])), (h1, .inl (zI g, 180, .inl (upd (upd (upd (fun _ => 0) 0 60) 1 1) 2 1)))] := hD
          refine lv_if_ne (tgt := 32) hx hb dX5_rule_27 (by decide) (fun _ => ?_) (fun h => absurd h (by decide +kernel))
          refine lv_aload_n hx hb dX5_rule_32 rfl (lv_at hl 0 rfl) ?_
          refine va_get (D := g.1) (ci := 5) (v := .ref h1) (C := RX5) (T := TX5) (N := 27) hx hb hts zl_X5 hown hK hP 0 rfl rfl 0 (by decide) (hts _ m_f_RX5_7) (fun _ h => h) rfl dX5_rule_33 ?_
          refine lv_iload_n hx hb dX5_rule_36 rfl (lv_at hl 1 rfl) ?_
          obtain rfl : p1 = 0 := Int32.toInt_inj.mp (show p1.toInt = (0 : Int32).toInt from (show p1.toInt = 0 by omega).trans rfl)
          refine va_iald (D := g.1) hx hb hK hP 1 0 rfl rfl (vp_in_iff.mpr (by decide +kernel)) dX5_rule_37 ?_
          refine lv_topi (nm_r (e' := 60) (by rfl) ?_)
          refine lv_istore_n (lv' := [(3, .int 60), (0, .ref h0), (1, .int 0), (2, .int p2)]) hx hb dX5_rule_38 rfl hl (by decide) rfl (fun ls hl => ?_)
          refine lv_aload_n hx hb dX5_rule_39 rfl (lv_at hl 1 rfl) ?_
          refine va_get (D := g.1) (ci := 5) (v := .ref h1) (C := RX5) (T := TX5) (N := 27) hx hb hts zl_X5 hown hK hP 0 rfl rfl 0 (by decide) (hts _ m_f_RX5_7) (fun _ h => h) rfl dX5_rule_40 ?_
          refine lv_iload_n hx hb dX5_rule_43 rfl (lv_at hl 2 rfl) ?_
          refine lv_iload_n hx hb dX5_rule_44 rfl (lv_at hl 3 rfl) ?_
          refine va_iast (D := g.1) hx hb hK hP hD hS 1 0 rfl rfl (vp_in_iff.mpr (by decide +kernel)) dX5_rule_45 (fun H locs hP hD hS => ?_)
          have hP : va_P g.1 vwCl [(h0, .inr (5, [.ref h1, .int 0, .ref h2, .int 0, .int 0, .ref h3, .ref h4, .ref h5, .ref h6, .int 0, .ref h7, .ref h8, .ref h9, .int 0, .ref h10, .ref h11, .ref h12, .ref h13, .ref h14, .ref h15, .ref h16, .ref h17, .ref h18, .ref h19, .ref h20, .ref h21, .ref h22])), (h1, .inl (zI g, 180, .inl (upd (upd (upd (upd (fun _ => 0) 0 60) 1 1) 2 1) 0 p2)))] H := hP
          have hD : va_D A [(h0, .inr (5, [.ref h1, .int 0, .ref h2, .int 0, .int 0, .ref h3, .ref h4, .ref h5, .ref h6, .int 0, .ref h7, .ref h8, .ref h9, .int 0, .ref h10, .ref h11, .ref h12, .ref h13, .ref h14, .ref h15, .ref h16, .ref h17, .ref h18, .ref h19, .ref h20, .ref h21, .ref h22])), (h1, .inl (zI g, 180, .inl (upd (upd (upd (upd (fun _ => 0) 0 60) 1 1) 2 1) 0 p2)))] := hD
          refine lv_iload_n hx hb dX5_rule_46 rfl (lv_at hl 0 rfl) ?_
          have hP9 := hP.sub (ws' := []) [] rfl
          have hD9 := hD.sub (ws' := []) [] (by decide) rfl
          exact W.iret (v := 60) hx hb hr (fun t ht hW => ⟨⟨60, 0, rfl, Or.inr (Or.inr (Or.inr (Or.inr (Or.inr (Or.inr (Or.inr (Or.inr (Or.inr (Or.inr (Or.inr (Or.inr (Or.inl ⟨i_3, i_4, i_6, i_24, i_25, i_32, i_33, rfl⟩)))))))))))), by rw [ht]; exact hP9, hD9⟩, hS.F ht⟩) hS.2.2 dX5_rule_47
      · exfalso; omega
      · skip
        have i_28 : p1.toInt = 1 := i_28
        have hP : va_P g.1 vwCl [(h0, .inr (5, [.ref h1, .int 0, .ref h2, .int 0, .int 0, .ref h3, .ref h4, .ref h5, .ref h6, .int 0, .ref h7, .ref h8, .ref h9, .int 0, .ref h10, .ref h11, .ref h12, .ref h13, .ref h14, .ref h15, .ref h16, .ref h17, .ref h18, .ref h19, .ref h20, .ref h21, .ref h22])), (h1, .inl (zI g, 180, .inl (upd (upd (upd (fun _ => 0) 0 60) 1 1) 2 1)))] H := hP
        have hD : va_D A [(h0, .inr (5, [.ref h1, .int 0, .ref h2, .int 0, .int 0, .ref h3, .ref h4, .ref h5, .ref h6, .int 0, .ref h7, .ref h8, .ref h9, .int 0, .ref h10, .ref h11, .ref h12, .ref h13, .ref h14, .ref h15, .ref h16, .ref h17, .ref h18, .ref h19, .ref h20, .ref h21, .ref h22])), (h1, .inl (zI g, 180, .inl (upd (upd (upd (fun _ => 0) 0 60) 1 1) 2 1)))] := hD
        refine lv_i2l (v := 9) hx hb dX5_rule_23 (by decide) ?_
        refine z_calli (wr := [(h0, .inr (5, [.ref h1, .int 0, .ref h2, .int 0, .int 0, .ref h3, .ref h4, .ref h5, .ref h6, .int 0, .ref h7, .ref h8, .ref h9, .int 0, .ref h10, .ref h11, .ref h12, .ref h13, .ref h14, .ref h15, .ref h16, .ref h17, .ref h18, .ref h19, .ref h20, .ref h21, .ref h22])), (h1, .inl (zI g, 180, .inl (upd (upd (upd (fun _ => 0) 0 60) 1 1) 2 1)))]) hP hD hS hA [] [0, 1] (by decide) rfl rfl (by decide) (va_runS (As := [.long p2.toInt64, .long 1, .long 9]) (rest := []) ⟨hx, hb, hml, hown, hts⟩ (kX5_in_10 l g  H.size p2.toInt64) ⟨callB_of 3 hts (zGood m_o_yX5_in) rfl rfl rfl (hts _ m_z_RX5) (hts _ m_m_RX5_77) ⟨by decide +kernel, by decide +kernel, by decide +kernel⟩ ⟨Nat.le_of_ble_eq_true rfl, Nat.le_of_ble_eq_true rfl⟩, hts _ m_s_yX5_in⟩ (zPreS hK hN hZ hP hD hS hA [] (by decide) rfl rfl) rfl rfl hl.1 rfl (lv_room (Nat.le_of_ble_eq_true rfl)) dX5_rule_24 ⟨Nat.le_of_ble_eq_true rfl, Nat.le_of_ble_eq_true rfl⟩) (fun r u H locs hw hP hD hS => ?_)
        rcases hw with ⟨i_35, rfl⟩ | ⟨i_36, i_37, rfl⟩ | ⟨i_38, i_39, rfl⟩
        · skip
          have i_35 : p2.toInt < 1 := by simpa only [Int32.toInt_toInt64] using i_35
          have hP : va_P g.1 vwCl [(h0, .inr (5, [.ref h1, .int 0, .ref h2, .int 0, .int 0, .ref h3, .ref h4, .ref h5, .ref h6, .int 0, .ref h7, .ref h8, .ref h9, .int 0, .ref h10, .ref h11, .ref h12, .ref h13, .ref h14, .ref h15, .ref h16, .ref h17, .ref h18, .ref h19, .ref h20, .ref h21, .ref h22])), (h1, .inl (zI g, 180, .inl (upd (upd (upd (fun _ => 0) 0 60) 1 1) 2 1)))] H := hP
          have hD : va_D A [(h0, .inr (5, [.ref h1, .int 0, .ref h2, .int 0, .int 0, .ref h3, .ref h4, .ref h5, .ref h6, .int 0, .ref h7, .ref h8, .ref h9, .int 0, .ref h10, .ref h11, .ref h12, .ref h13, .ref h14, .ref h15, .ref h16, .ref h17, .ref h18, .ref h19, .ref h20, .ref h21, .ref h22])), (h1, .inl (zI g, 180, .inl (upd (upd (upd (fun _ => 0) 0 60) 1 1) 2 1)))] := hD
          refine lv_if_ne (tgt := 32) hx hb dX5_rule_27 (by decide) (fun h => absurd h (by decide +kernel)) (fun _ => ?_)
          refine lv_iconst (v := (-1)) hx hb dX5_rule_30 (by decide) ?_
          have hP9 := hP.sub (ws' := []) [] rfl
          have hD9 := hD.sub (ws' := []) [] (by decide) rfl
          exact W.iret (v := (-1)) hx hb hr (fun t ht hW => ⟨⟨(-1), 0, rfl, Or.inr (Or.inr (Or.inr (Or.inr (Or.inr (Or.inr (Or.inr (Or.inr (Or.inr (Or.inr (Or.inr (Or.inr (Or.inr (Or.inl ⟨i_3, i_4, i_6, i_28, i_35, rfl⟩))))))))))))), by rw [ht]; exact hP9, hD9⟩, hS.F ht⟩) hS.2.2 dX5_rule_31
        · skip
          have i_36 : 1 ≤ p2.toInt := by simpa only [Int32.toInt_toInt64] using i_36
          have i_37 : 9 < p2.toInt := by simpa only [Int32.toInt_toInt64] using i_37
          have hP : va_P g.1 vwCl [(h0, .inr (5, [.ref h1, .int 0, .ref h2, .int 0, .int 0, .ref h3, .ref h4, .ref h5, .ref h6, .int 0, .ref h7, .ref h8, .ref h9, .int 0, .ref h10, .ref h11, .ref h12, .ref h13, .ref h14, .ref h15, .ref h16, .ref h17, .ref h18, .ref h19, .ref h20, .ref h21, .ref h22])), (h1, .inl (zI g, 180, .inl (upd (upd (upd (fun _ => 0) 0 60) 1 1) 2 1)))] H := hP
          have hD : va_D A [(h0, .inr (5, [.ref h1, .int 0, .ref h2, .int 0, .int 0, .ref h3, .ref h4, .ref h5, .ref h6, .int 0, .ref h7, .ref h8, .ref h9, .int 0, .ref h10, .ref h11, .ref h12, .ref h13, .ref h14, .ref h15, .ref h16, .ref h17, .ref h18, .ref h19, .ref h20, .ref h21, .ref h22])), (h1, .inl (zI g, 180, .inl (upd (upd (upd (fun _ => 0) 0 60) 1 1) 2 1)))] := hD
          refine lv_if_ne (tgt := 32) hx hb dX5_rule_27 (by decide) (fun h => absurd h (by decide +kernel)) (fun _ => ?_)
          refine lv_iconst (v := (-1)) hx hb dX5_rule_30 (by decide) ?_
          have hP9 := hP.sub (ws' := []) [] rfl
          have hD9 := hD.sub (ws' := []) [] (by decide) rfl
          exact W.iret (v := (-1)) hx hb hr (fun t ht hW => ⟨⟨(-1), 0, rfl, Or.inr (Or.inr (Or.inr (Or.inr (Or.inr (Or.inr (Or.inr (Or.inr (Or.inr (Or.inr (Or.inr (Or.inr (Or.inr (Or.inr (Or.inl ⟨i_3, i_4, i_6, i_28, i_36, i_37, rfl⟩)))))))))))))), by rw [ht]; exact hP9, hD9⟩, hS.F ht⟩) hS.2.2 dX5_rule_31
        · skip
          have i_38 : 1 ≤ p2.toInt := by simpa only [Int32.toInt_toInt64] using i_38
          have i_39 : p2.toInt ≤ 9 := by simpa only [Int32.toInt_toInt64] using i_39
          have hP : va_P g.1 vwCl [(h0, .inr (5, [.ref h1, .int 0, .ref h2, .int 0, .int 0, .ref h3, .ref h4, .ref h5, .ref h6, .int 0, .ref h7, .ref h8, .ref h9, .int 0, .ref h10, .ref h11, .ref h12, .ref h13, .ref h14, .ref h15, .ref h16, .ref h17, .ref h18, .ref h19, .ref h20, .ref h21, .ref h22])), (h1, .inl (zI g, 180, .inl (upd (upd (upd (fun _ => 0) 0 60) 1 1) 2 1)))] H := hP
          have hD : va_D A [(h0, .inr (5, [.ref h1, .int 0, .ref h2, .int 0, .int 0, .ref h3, .ref h4, .ref h5, .ref h6, .int 0, .ref h7, .ref h8, .ref h9, .int 0, .ref h10, .ref h11, .ref h12, .ref h13, .ref h14, .ref h15, .ref h16, .ref h17, .ref h18, .ref h19, .ref h20, .ref h21, .ref h22])), (h1, .inl (zI g, 180, .inl (upd (upd (upd (fun _ => 0) 0 60) 1 1) 2 1)))] := hD
          refine lv_if_ne (tgt := 32) hx hb dX5_rule_27 (by decide) (fun _ => ?_) (fun h => absurd h (by decide +kernel))
          refine lv_aload_n hx hb dX5_rule_32 rfl (lv_at hl 0 rfl) ?_
          refine va_get (D := g.1) (ci := 5) (v := .ref h1) (C := RX5) (T := TX5) (N := 27) hx hb hts zl_X5 hown hK hP 0 rfl rfl 0 (by decide) (hts _ m_f_RX5_7) (fun _ h => h) rfl dX5_rule_33 ?_
          refine lv_iload_n hx hb dX5_rule_36 rfl (lv_at hl 1 rfl) ?_
          obtain rfl : p1 = 1 := Int32.toInt_inj.mp (show p1.toInt = (1 : Int32).toInt from (show p1.toInt = 1 by omega).trans rfl)
          refine va_iald (D := g.1) hx hb hK hP 1 0 rfl rfl (vp_in_iff.mpr (by decide +kernel)) dX5_rule_37 ?_
          refine lv_topi (nm_r (e' := 1) (by rfl) ?_)
          refine lv_istore_n (lv' := [(3, .int 1), (0, .ref h0), (1, .int 1), (2, .int p2)]) hx hb dX5_rule_38 rfl hl (by decide) rfl (fun ls hl => ?_)
          refine lv_aload_n hx hb dX5_rule_39 rfl (lv_at hl 1 rfl) ?_
          refine va_get (D := g.1) (ci := 5) (v := .ref h1) (C := RX5) (T := TX5) (N := 27) hx hb hts zl_X5 hown hK hP 0 rfl rfl 0 (by decide) (hts _ m_f_RX5_7) (fun _ h => h) rfl dX5_rule_40 ?_
          refine lv_iload_n hx hb dX5_rule_43 rfl (lv_at hl 2 rfl) ?_
          refine lv_iload_n hx hb dX5_rule_44 rfl (lv_at hl 3 rfl) ?_
          refine va_iast (D := g.1) hx hb hK hP hD hS 1 0 rfl rfl (vp_in_iff.mpr (by decide +kernel)) dX5_rule_45 (fun H locs hP hD hS => ?_)
          have hP : va_P g.1 vwCl [(h0, .inr (5, [.ref h1, .int 0, .ref h2, .int 0, .int 0, .ref h3, .ref h4, .ref h5, .ref h6, .int 0, .ref h7, .ref h8, .ref h9, .int 0, .ref h10, .ref h11, .ref h12, .ref h13, .ref h14, .ref h15, .ref h16, .ref h17, .ref h18, .ref h19, .ref h20, .ref h21, .ref h22])), (h1, .inl (zI g, 180, .inl (upd (upd (upd (upd (fun _ => 0) 0 60) 1 1) 2 1) 1 p2)))] H := hP
          have hD : va_D A [(h0, .inr (5, [.ref h1, .int 0, .ref h2, .int 0, .int 0, .ref h3, .ref h4, .ref h5, .ref h6, .int 0, .ref h7, .ref h8, .ref h9, .int 0, .ref h10, .ref h11, .ref h12, .ref h13, .ref h14, .ref h15, .ref h16, .ref h17, .ref h18, .ref h19, .ref h20, .ref h21, .ref h22])), (h1, .inl (zI g, 180, .inl (upd (upd (upd (upd (fun _ => 0) 0 60) 1 1) 2 1) 1 p2)))] := hD
          refine lv_iload_n hx hb dX5_rule_46 rfl (lv_at hl 0 rfl) ?_
          have hP9 := hP.sub (ws' := []) [] rfl
          have hD9 := hD.sub (ws' := []) [] (by decide) rfl
          exact W.iret (v := 1) hx hb hr (fun t ht hW => ⟨⟨1, 0, rfl, Or.inr (Or.inr (Or.inr (Or.inr (Or.inr (Or.inr (Or.inr (Or.inr (Or.inr (Or.inr (Or.inr (Or.inr (Or.inr (Or.inr (Or.inr (⟨i_3, i_4, i_6, i_28, i_38, i_39, rfl⟩))))))))))))))), by rw [ht]; exact hP9, hD9⟩, hS.F ht⟩) hS.2.2 dX5_rule_47
set_option maxHeartbeats 4000000 in
set_option maxRecDepth 100000 in
theorem kX5_in_11 (l : Launch) (g : zG) (sz : Nat) (p0 : Int64) : Met l yX5_in (.code yX5_in cX5_in 6 (some .boolean) :: zBig) ({ frames := 0, cells := 0, slots := 0, locals := 0 }) (va_Pc [.long p0, .long 0, .long 999] (zPre g [] sz)) (va_Qi (fun (r : Int32) (_ : Nat) => ((p0 : Int64).toInt < 0 ∧ r = 0) ∨ (0 ≤ (p0 : Int64).toInt ∧ 999 < (p0 : Int64).toInt ∧ r = 0) ∨ (0 ≤ (p0 : Int64).toInt ∧ (p0 : Int64).toInt ≤ 999 ∧ r = 1)) (zPost g (fun _ : Nat => []) (va_A [] sz)) (va_A [] sz)) 0 0 (va_A [] sz) := by
  refine zMetI rfl (Nat.le_of_ble_eq_true rfl) ?_
  intro p e s m args below meth c A ls hx hb hml hr hlocks hin hown hts hK hN hZ hP hD hA hS hAe hl
  have hown : s.vm.findClass RX5 = some m.cls := hown
  have hl : lv_has ls 6 [(0, .long p0), (2, .long 0), (4, .long 999)] := hl
  refine lv_lload_n hx hb dX5_in_0 rfl (lv_at hl 0 rfl) ?_
  refine lv_lload_n hx hb dX5_in_1 rfl (lv_at hl 1 rfl) ?_
  refine W.lcmp hx hb dX5_in_2 ?_
  refine lv_if_lt (tgt := 17) hx hb dX5_in_3 (by decide) (fun c_0 => ?_) (fun c_0 => ?_)
  · have i_0 : (p0 : Int64).toInt < 0 := zl_lt (rfl) (rfl) ((lg_cmp_lt _ _).mp c_0)
    refine lv_iconst (v := 0) hx hb dX5_in_17 (by decide) ?_
    have hP9 := hP.sub (ws' := []) [] rfl
    have hD9 := hD.sub (ws' := []) [] (by decide) rfl
    exact W.zret (v := 0) hx hb hr (by decide) (fun t ht hW => ⟨⟨0, 0, rfl, Or.inl ⟨i_0, rfl⟩, by rw [ht]; exact hP9, hD9⟩, hS.F ht⟩) hS.2.2 dX5_in_18
  · have i_0 : 0 ≤ (p0 : Int64).toInt := zl_nlt (rfl) (rfl) (fun h => c_0 ((lg_cmp_lt _ _).mpr h))
    refine lv_lload_n hx hb dX5_in_6 rfl (lv_at hl 0 rfl) ?_
    refine lv_lload hx hb dX5_in_7 (lv_at hl 2 rfl) ?_
    refine W.lcmp hx hb dX5_in_9 ?_
    refine lv_if_gt (tgt := 17) hx hb dX5_in_10 (by decide) (fun c_1 => ?_) (fun c_1 => ?_)
    · have i_1 : 999 < (p0 : Int64).toInt := zl_lt (rfl) (rfl) ((lg_cmp_gt _ _).mp c_1)
      refine lv_iconst (v := 0) hx hb dX5_in_17 (by decide) ?_
      have hP9 := hP.sub (ws' := []) [] rfl
      have hD9 := hD.sub (ws' := []) [] (by decide) rfl
      exact W.zret (v := 0) hx hb hr (by decide) (fun t ht hW => ⟨⟨0, 0, rfl, Or.inr (Or.inl ⟨i_0, i_1, rfl⟩), by rw [ht]; exact hP9, hD9⟩, hS.F ht⟩) hS.2.2 dX5_in_18
    · have i_1 : (p0 : Int64).toInt ≤ 999 := zl_nlt (rfl) (rfl) (fun h => c_1 ((lg_cmp_gt _ _).mpr h))
      refine lv_iconst (v := 1) hx hb dX5_in_13 (by decide) ?_
      refine lv_goto (tgt := 18) hx hb dX5_in_14 (by decide) ?_
      have hP9 := hP.sub (ws' := []) [] rfl
      have hD9 := hD.sub (ws' := []) [] (by decide) rfl
      exact W.zret (v := 1) hx hb hr (by decide) (fun t ht hW => ⟨⟨1, 0, rfl, Or.inr (Or.inr (⟨i_0, i_1, rfl⟩)), by rw [ht]; exact hP9, hD9⟩, hS.F ht⟩) hS.2.2 dX5_in_18
set_option maxHeartbeats 4000000 in
set_option maxRecDepth 100000 in
theorem kX5_in_12 (l : Launch) (g : zG) (sz : Nat) (p0 : Int64) : Met l yX5_in (.code yX5_in cX5_in 6 (some .boolean) :: zBig) ({ frames := 0, cells := 0, slots := 0, locals := 0 }) (va_Pc [.long p0, .long 0, .long 999] (zPre g [] sz)) (va_Qi (fun (r : Int32) (_ : Nat) => ((p0 : Int64).toInt < 0 ∧ r = 0) ∨ (0 ≤ (p0 : Int64).toInt ∧ 999 < (p0 : Int64).toInt ∧ r = 0) ∨ (0 ≤ (p0 : Int64).toInt ∧ (p0 : Int64).toInt ≤ 999 ∧ r = 1)) (zPost g (fun _ : Nat => []) (va_A [] sz)) (va_A [] sz)) 0 0 (va_A [] sz) := by
  refine zMetI rfl (Nat.le_of_ble_eq_true rfl) ?_
  intro p e s m args below meth c A ls hx hb hml hr hlocks hin hown hts hK hN hZ hP hD hA hS hAe hl
  have hown : s.vm.findClass RX5 = some m.cls := hown
  have hl : lv_has ls 6 [(0, .long p0), (2, .long 0), (4, .long 999)] := hl
  refine lv_lload_n hx hb dX5_in_0 rfl (lv_at hl 0 rfl) ?_
  refine lv_lload_n hx hb dX5_in_1 rfl (lv_at hl 1 rfl) ?_
  refine W.lcmp hx hb dX5_in_2 ?_
  refine lv_if_lt (tgt := 17) hx hb dX5_in_3 (by decide) (fun c_0 => ?_) (fun c_0 => ?_)
  · have i_0 : (p0 : Int64).toInt < 0 := zl_lt (rfl) (rfl) ((lg_cmp_lt _ _).mp c_0)
    refine lv_iconst (v := 0) hx hb dX5_in_17 (by decide) ?_
    have hP9 := hP.sub (ws' := []) [] rfl
    have hD9 := hD.sub (ws' := []) [] (by decide) rfl
    exact W.zret (v := 0) hx hb hr (by decide) (fun t ht hW => ⟨⟨0, 0, rfl, Or.inl ⟨i_0, rfl⟩, by rw [ht]; exact hP9, hD9⟩, hS.F ht⟩) hS.2.2 dX5_in_18
  · have i_0 : 0 ≤ (p0 : Int64).toInt := zl_nlt (rfl) (rfl) (fun h => c_0 ((lg_cmp_lt _ _).mpr h))
    refine lv_lload_n hx hb dX5_in_6 rfl (lv_at hl 0 rfl) ?_
    refine lv_lload hx hb dX5_in_7 (lv_at hl 2 rfl) ?_
    refine W.lcmp hx hb dX5_in_9 ?_
    refine lv_if_gt (tgt := 17) hx hb dX5_in_10 (by decide) (fun c_1 => ?_) (fun c_1 => ?_)
    · have i_1 : 999 < (p0 : Int64).toInt := zl_lt (rfl) (rfl) ((lg_cmp_gt _ _).mp c_1)
      refine lv_iconst (v := 0) hx hb dX5_in_17 (by decide) ?_
      have hP9 := hP.sub (ws' := []) [] rfl
      have hD9 := hD.sub (ws' := []) [] (by decide) rfl
      exact W.zret (v := 0) hx hb hr (by decide) (fun t ht hW => ⟨⟨0, 0, rfl, Or.inr (Or.inl ⟨i_0, i_1, rfl⟩), by rw [ht]; exact hP9, hD9⟩, hS.F ht⟩) hS.2.2 dX5_in_18
    · have i_1 : (p0 : Int64).toInt ≤ 999 := zl_nlt (rfl) (rfl) (fun h => c_1 ((lg_cmp_gt _ _).mpr h))
      refine lv_iconst (v := 1) hx hb dX5_in_13 (by decide) ?_
      refine lv_goto (tgt := 18) hx hb dX5_in_14 (by decide) ?_
      have hP9 := hP.sub (ws' := []) [] rfl
      have hD9 := hD.sub (ws' := []) [] (by decide) rfl
      exact W.zret (v := 1) hx hb hr (by decide) (fun t ht hW => ⟨⟨1, 0, rfl, Or.inr (Or.inr (⟨i_0, i_1, rfl⟩)), by rw [ht]; exact hP9, hD9⟩, hS.F ht⟩) hS.2.2 dX5_in_18
set_option maxHeartbeats 4000000 in
set_option maxRecDepth 100000 in
theorem kX5_buyer (l : Launch) (g : zG) (h0 h1 h2 h3 h4 h5 h6 h7 h8 h9 h10 h11 h12 h13 h14 h15 h16 h17 h18 h19 h20 h21 h22 : Nat) (sz : Nat) (p1 : Int32) (p2 : Int32) : Met l yX5_buyer (.code yX5_buyer cX5_buyer 5 (some .int) :: zBig) ({ frames := 1, cells := 0, slots := 0, locals := 25 }) (va_Pc [.ref h0, .int p1, .int p2] (zPre g [(h0, .inr (5, [.ref h1, .int 0, .ref h2, .int 0, .int 0, .ref h3, .ref h4, .ref h5, .ref h6, .int 0, .ref h7, .ref h8, .ref h9, .int 0, .ref h10, .ref h11, .ref h12, .ref h13, .ref h14, .ref h15, .ref h16, .ref h17, .ref h18, .ref h19, .ref h20, .ref h21, .ref h22])), (h1, .inl (zI g, 180, .inl (upd (upd (upd (fun _ => 0) 0 60) 1 1) 2 1)))] sz)) (va_Qi (fun (r : Int32) (_ : Nat) => (p1.toInt < 0 ∧ r = (-1)) ∨ (0 ≤ p1.toInt ∧ 4 < p1.toInt ∧ r = (-1)) ∨ (0 ≤ p1.toInt ∧ p1.toInt ≤ 4 ∧ p2.toInt < 0 ∧ r = (-1)) ∨ (0 ≤ p1.toInt ∧ p1.toInt ≤ 4 ∧ 0 ≤ p2.toInt ∧ 999 < p2.toInt ∧ r = (-1)) ∨ (0 ≤ p1.toInt ∧ p1.toInt ≤ 4 ∧ 0 ≤ p2.toInt ∧ p2.toInt ≤ 999 ∧ r = 0)) (zPost g (fun _ : Nat => []) (va_A [(h0, .inr (5, [.ref h1, .int 0, .ref h2, .int 0, .int 0, .ref h3, .ref h4, .ref h5, .ref h6, .int 0, .ref h7, .ref h8, .ref h9, .int 0, .ref h10, .ref h11, .ref h12, .ref h13, .ref h14, .ref h15, .ref h16, .ref h17, .ref h18, .ref h19, .ref h20, .ref h21, .ref h22])), (h1, .inl (zI g, 180, .inl (upd (upd (upd (fun _ => 0) 0 60) 1 1) 2 1)))] sz)) (va_A [(h0, .inr (5, [.ref h1, .int 0, .ref h2, .int 0, .int 0, .ref h3, .ref h4, .ref h5, .ref h6, .int 0, .ref h7, .ref h8, .ref h9, .int 0, .ref h10, .ref h11, .ref h12, .ref h13, .ref h14, .ref h15, .ref h16, .ref h17, .ref h18, .ref h19, .ref h20, .ref h21, .ref h22])), (h1, .inl (zI g, 180, .inl (upd (upd (upd (fun _ => 0) 0 60) 1 1) 2 1)))] sz)) 0 0 (va_A [(h0, .inr (5, [.ref h1, .int 0, .ref h2, .int 0, .int 0, .ref h3, .ref h4, .ref h5, .ref h6, .int 0, .ref h7, .ref h8, .ref h9, .int 0, .ref h10, .ref h11, .ref h12, .ref h13, .ref h14, .ref h15, .ref h16, .ref h17, .ref h18, .ref h19, .ref h20, .ref h21, .ref h22])), (h1, .inl (zI g, 180, .inl (upd (upd (upd (fun _ => 0) 0 60) 1 1) 2 1)))] sz) := by
  refine zMetI rfl (Nat.le_of_ble_eq_true rfl) ?_
  intro p e s m args below meth c A ls hx hb hml hr hlocks hin hown hts hK hN hZ hP hD hA hS hAe hl
  have hown : s.vm.findClass RX5 = some m.cls := hown
  have hl : lv_has ls 5 [(0, .ref h0), (1, .int p1), (2, .int p2)] := hl
  refine lv_iload_n hx hb dX5_buyer_0 rfl (lv_at hl 1 rfl) ?_
  refine lv_i2l (v := p1.toInt64) hx hb dX5_buyer_1 rfl ?_
  refine lv_lconst (v := 0) hx hb dX5_buyer_2 (by decide) ?_
  refine lv_ldc2 (v := 4) hx hb hown (hts _ m_k_RX5_81) dX5_buyer_3 ?_
  refine z_calli (wr := [(h0, .inr (5, [.ref h1, .int 0, .ref h2, .int 0, .int 0, .ref h3, .ref h4, .ref h5, .ref h6, .int 0, .ref h7, .ref h8, .ref h9, .int 0, .ref h10, .ref h11, .ref h12, .ref h13, .ref h14, .ref h15, .ref h16, .ref h17, .ref h18, .ref h19, .ref h20, .ref h21, .ref h22])), (h1, .inl (zI g, 180, .inl (upd (upd (upd (fun _ => 0) 0 60) 1 1) 2 1)))]) hP hD hS hA [] [0, 1] (by decide) rfl rfl (by decide) (va_runS (As := [.long p1.toInt64, .long 0, .long 4]) (rest := []) ⟨hx, hb, hml, hown, hts⟩ (kX5_in_6 l g  s.heap.size p1.toInt64) ⟨callB_of 3 hts (zGood m_o_yX5_in) rfl rfl rfl (hts _ m_z_RX5) (hts _ m_m_RX5_77) ⟨by decide +kernel, by decide +kernel, by decide +kernel⟩ ⟨Nat.le_of_ble_eq_true rfl, Nat.le_of_ble_eq_true rfl⟩, hts _ m_s_yX5_in⟩ (zPreS hK hN hZ hP hD hS hA [] (by decide) rfl rfl) rfl rfl hl.1 rfl (lv_room (Nat.le_of_ble_eq_true rfl)) dX5_buyer_6 ⟨Nat.le_of_ble_eq_true rfl, Nat.le_of_ble_eq_true rfl⟩) (fun r u H locs hw hP hD hS => ?_)
  rcases hw with ⟨i_0, rfl⟩ | ⟨i_1, i_2, rfl⟩ | ⟨i_3, i_4, rfl⟩
  · skip
    have i_0 : p1.toInt < 0 := by simpa only [Int32.toInt_toInt64] using i_0
    have hP : va_P g.1 vwCl [(h0, .inr (5, [.ref h1, .int 0, .ref h2, .int 0, .int 0, .ref h3, .ref h4, .ref h5, .ref h6, .int 0, .ref h7, .ref h8, .ref h9, .int 0, .ref h10, .ref h11, .ref h12, .ref h13, .ref h14, .ref h15, .ref h16, .ref h17, .ref h18, .ref h19, .ref h20, .ref h21, .ref h22])), (h1, .inl (zI g, 180, .inl (upd (upd (upd (fun _ => 0) 0 60) 1 1) 2 1)))] H := hP
    have hD : va_D A [(h0, .inr (5, [.ref h1, .int 0, .ref h2, .int 0, .int 0, .ref h3, .ref h4, .ref h5, .ref h6, .int 0, .ref h7, .ref h8, .ref h9, .int 0, .ref h10, .ref h11, .ref h12, .ref h13, .ref h14, .ref h15, .ref h16, .ref h17, .ref h18, .ref h19, .ref h20, .ref h21, .ref h22])), (h1, .inl (zI g, 180, .inl (upd (upd (upd (fun _ => 0) 0 60) 1 1) 2 1)))] := hD
    refine lv_if_eq (tgt := 24) hx hb dX5_buyer_9 (by decide) (fun _ => ?_) (fun h => absurd h (by decide +kernel))
    refine lv_iconst (v := (-1)) hx hb dX5_buyer_24 (by decide) ?_
    have hP9 := hP.sub (ws' := []) [] rfl
    have hD9 := hD.sub (ws' := []) [] (by decide) rfl
    exact W.iret (v := (-1)) hx hb hr (fun t ht hW => ⟨⟨(-1), 0, rfl, Or.inl ⟨i_0, rfl⟩, by rw [ht]; exact hP9, hD9⟩, hS.F ht⟩) hS.2.2 dX5_buyer_25
  · skip
    have i_1 : 0 ≤ p1.toInt := by simpa only [Int32.toInt_toInt64] using i_1
    have i_2 : 4 < p1.toInt := by simpa only [Int32.toInt_toInt64] using i_2
    have hP : va_P g.1 vwCl [(h0, .inr (5, [.ref h1, .int 0, .ref h2, .int 0, .int 0, .ref h3, .ref h4, .ref h5, .ref h6, .int 0, .ref h7, .ref h8, .ref h9, .int 0, .ref h10, .ref h11, .ref h12, .ref h13, .ref h14, .ref h15, .ref h16, .ref h17, .ref h18, .ref h19, .ref h20, .ref h21, .ref h22])), (h1, .inl (zI g, 180, .inl (upd (upd (upd (fun _ => 0) 0 60) 1 1) 2 1)))] H := hP
    have hD : va_D A [(h0, .inr (5, [.ref h1, .int 0, .ref h2, .int 0, .int 0, .ref h3, .ref h4, .ref h5, .ref h6, .int 0, .ref h7, .ref h8, .ref h9, .int 0, .ref h10, .ref h11, .ref h12, .ref h13, .ref h14, .ref h15, .ref h16, .ref h17, .ref h18, .ref h19, .ref h20, .ref h21, .ref h22])), (h1, .inl (zI g, 180, .inl (upd (upd (upd (fun _ => 0) 0 60) 1 1) 2 1)))] := hD
    refine lv_if_eq (tgt := 24) hx hb dX5_buyer_9 (by decide) (fun _ => ?_) (fun h => absurd h (by decide +kernel))
    refine lv_iconst (v := (-1)) hx hb dX5_buyer_24 (by decide) ?_
    have hP9 := hP.sub (ws' := []) [] rfl
    have hD9 := hD.sub (ws' := []) [] (by decide) rfl
    exact W.iret (v := (-1)) hx hb hr (fun t ht hW => ⟨⟨(-1), 0, rfl, Or.inr (Or.inl ⟨i_1, i_2, rfl⟩), by rw [ht]; exact hP9, hD9⟩, hS.F ht⟩) hS.2.2 dX5_buyer_25
  · skip
    have i_3 : 0 ≤ p1.toInt := by simpa only [Int32.toInt_toInt64] using i_3
    have i_4 : p1.toInt ≤ 4 := by simpa only [Int32.toInt_toInt64] using i_4
    have hP : va_P g.1 vwCl [(h0, .inr (5, [.ref h1, .int 0, .ref h2, .int 0, .int 0, .ref h3, .ref h4, .ref h5, .ref h6, .int 0, .ref h7, .ref h8, .ref h9, .int 0, .ref h10, .ref h11, .ref h12, .ref h13, .ref h14, .ref h15, .ref h16, .ref h17, .ref h18, .ref h19, .ref h20, .ref h21, .ref h22])), (h1, .inl (zI g, 180, .inl (upd (upd (upd (fun _ => 0) 0 60) 1 1) 2 1)))] H := hP
    have hD : va_D A [(h0, .inr (5, [.ref h1, .int 0, .ref h2, .int 0, .int 0, .ref h3, .ref h4, .ref h5, .ref h6, .int 0, .ref h7, .ref h8, .ref h9, .int 0, .ref h10, .ref h11, .ref h12, .ref h13, .ref h14, .ref h15, .ref h16, .ref h17, .ref h18, .ref h19, .ref h20, .ref h21, .ref h22])), (h1, .inl (zI g, 180, .inl (upd (upd (upd (fun _ => 0) 0 60) 1 1) 2 1)))] := hD
    refine lv_if_eq (tgt := 24) hx hb dX5_buyer_9 (by decide) (fun h => absurd h (by decide +kernel)) (fun _ => ?_)
    refine lv_iload_n hx hb dX5_buyer_12 rfl (lv_at hl 2 rfl) ?_
    refine lv_i2l (v := p2.toInt64) hx hb dX5_buyer_13 rfl ?_
    refine lv_lconst (v := 0) hx hb dX5_buyer_14 (by decide) ?_
    refine lv_ldc2 (v := 999) hx hb hown (hts _ m_k_RX5_90) dX5_buyer_15 ?_
    refine z_calli (wr := [(h0, .inr (5, [.ref h1, .int 0, .ref h2, .int 0, .int 0, .ref h3, .ref h4, .ref h5, .ref h6, .int 0, .ref h7, .ref h8, .ref h9, .int 0, .ref h10, .ref h11, .ref h12, .ref h13, .ref h14, .ref h15, .ref h16, .ref h17, .ref h18, .ref h19, .ref h20, .ref h21, .ref h22])), (h1, .inl (zI g, 180, .inl (upd (upd (upd (fun _ => 0) 0 60) 1 1) 2 1)))]) hP hD hS hA [] [0, 1] (by decide) rfl rfl (by decide) (va_runS (As := [.long p2.toInt64, .long 0, .long 999]) (rest := []) ⟨hx, hb, hml, hown, hts⟩ (kX5_in_12 l g  H.size p2.toInt64) ⟨callB_of 3 hts (zGood m_o_yX5_in) rfl rfl rfl (hts _ m_z_RX5) (hts _ m_m_RX5_77) ⟨by decide +kernel, by decide +kernel, by decide +kernel⟩ ⟨Nat.le_of_ble_eq_true rfl, Nat.le_of_ble_eq_true rfl⟩, hts _ m_s_yX5_in⟩ (zPreS hK hN hZ hP hD hS hA [] (by decide) rfl rfl) rfl rfl hl.1 rfl (lv_room (Nat.le_of_ble_eq_true rfl)) dX5_buyer_18 ⟨Nat.le_of_ble_eq_true rfl, Nat.le_of_ble_eq_true rfl⟩) (fun r u H locs hw hP hD hS => ?_)
    rcases hw with ⟨i_5, rfl⟩ | ⟨i_6, i_7, rfl⟩ | ⟨i_8, i_9, rfl⟩
    · skip
      have i_5 : p2.toInt < 0 := by simpa only [Int32.toInt_toInt64] using i_5
      have hP : va_P g.1 vwCl [(h0, .inr (5, [.ref h1, .int 0, .ref h2, .int 0, .int 0, .ref h3, .ref h4, .ref h5, .ref h6, .int 0, .ref h7, .ref h8, .ref h9, .int 0, .ref h10, .ref h11, .ref h12, .ref h13, .ref h14, .ref h15, .ref h16, .ref h17, .ref h18, .ref h19, .ref h20, .ref h21, .ref h22])), (h1, .inl (zI g, 180, .inl (upd (upd (upd (fun _ => 0) 0 60) 1 1) 2 1)))] H := hP
      have hD : va_D A [(h0, .inr (5, [.ref h1, .int 0, .ref h2, .int 0, .int 0, .ref h3, .ref h4, .ref h5, .ref h6, .int 0, .ref h7, .ref h8, .ref h9, .int 0, .ref h10, .ref h11, .ref h12, .ref h13, .ref h14, .ref h15, .ref h16, .ref h17, .ref h18, .ref h19, .ref h20, .ref h21, .ref h22])), (h1, .inl (zI g, 180, .inl (upd (upd (upd (fun _ => 0) 0 60) 1 1) 2 1)))] := hD
      refine lv_if_ne (tgt := 26) hx hb dX5_buyer_21 (by decide) (fun h => absurd h (by decide +kernel)) (fun _ => ?_)
      refine lv_iconst (v := (-1)) hx hb dX5_buyer_24 (by decide) ?_
      have hP9 := hP.sub (ws' := []) [] rfl
      have hD9 := hD.sub (ws' := []) [] (by decide) rfl
      exact W.iret (v := (-1)) hx hb hr (fun t ht hW => ⟨⟨(-1), 0, rfl, Or.inr (Or.inr (Or.inl ⟨i_3, i_4, i_5, rfl⟩)), by rw [ht]; exact hP9, hD9⟩, hS.F ht⟩) hS.2.2 dX5_buyer_25
    · skip
      have i_6 : 0 ≤ p2.toInt := by simpa only [Int32.toInt_toInt64] using i_6
      have i_7 : 999 < p2.toInt := by simpa only [Int32.toInt_toInt64] using i_7
      have hP : va_P g.1 vwCl [(h0, .inr (5, [.ref h1, .int 0, .ref h2, .int 0, .int 0, .ref h3, .ref h4, .ref h5, .ref h6, .int 0, .ref h7, .ref h8, .ref h9, .int 0, .ref h10, .ref h11, .ref h12, .ref h13, .ref h14, .ref h15, .ref h16, .ref h17, .ref h18, .ref h19, .ref h20, .ref h21, .ref h22])), (h1, .inl (zI g, 180, .inl (upd (upd (upd (fun _ => 0) 0 60) 1 1) 2 1)))] H := hP
      have hD : va_D A [(h0, .inr (5, [.ref h1, .int 0, .ref h2, .int 0, .int 0, .ref h3, .ref h4, .ref h5, .ref h6, .int 0, .ref h7, .ref h8, .ref h9, .int 0, .ref h10, .ref h11, .ref h12, .ref h13, .ref h14, .ref h15, .ref h16, .ref h17, .ref h18, .ref h19, .ref h20, .ref h21, .ref h22])), (h1, .inl (zI g, 180, .inl (upd (upd (upd (fun _ => 0) 0 60) 1 1) 2 1)))] := hD
      refine lv_if_ne (tgt := 26) hx hb dX5_buyer_21 (by decide) (fun h => absurd h (by decide +kernel)) (fun _ => ?_)
      refine lv_iconst (v := (-1)) hx hb dX5_buyer_24 (by decide) ?_
      have hP9 := hP.sub (ws' := []) [] rfl
      have hD9 := hD.sub (ws' := []) [] (by decide) rfl
      exact W.iret (v := (-1)) hx hb hr (fun t ht hW => ⟨⟨(-1), 0, rfl, Or.inr (Or.inr (Or.inr (Or.inl ⟨i_3, i_4, i_6, i_7, rfl⟩))), by rw [ht]; exact hP9, hD9⟩, hS.F ht⟩) hS.2.2 dX5_buyer_25
    · skip
      have i_8 : 0 ≤ p2.toInt := by simpa only [Int32.toInt_toInt64] using i_8
      have i_9 : p2.toInt ≤ 999 := by simpa only [Int32.toInt_toInt64] using i_9
      have hP : va_P g.1 vwCl [(h0, .inr (5, [.ref h1, .int 0, .ref h2, .int 0, .int 0, .ref h3, .ref h4, .ref h5, .ref h6, .int 0, .ref h7, .ref h8, .ref h9, .int 0, .ref h10, .ref h11, .ref h12, .ref h13, .ref h14, .ref h15, .ref h16, .ref h17, .ref h18, .ref h19, .ref h20, .ref h21, .ref h22])), (h1, .inl (zI g, 180, .inl (upd (upd (upd (fun _ => 0) 0 60) 1 1) 2 1)))] H := hP
      have hD : va_D A [(h0, .inr (5, [.ref h1, .int 0, .ref h2, .int 0, .int 0, .ref h3, .ref h4, .ref h5, .ref h6, .int 0, .ref h7, .ref h8, .ref h9, .int 0, .ref h10, .ref h11, .ref h12, .ref h13, .ref h14, .ref h15, .ref h16, .ref h17, .ref h18, .ref h19, .ref h20, .ref h21, .ref h22])), (h1, .inl (zI g, 180, .inl (upd (upd (upd (fun _ => 0) 0 60) 1 1) 2 1)))] := hD
      refine lv_if_ne (tgt := 26) hx hb dX5_buyer_21 (by decide) (fun _ => ?_) (fun h => absurd h (by decide +kernel))
      refine lv_aload_n hx hb dX5_buyer_26 rfl (lv_at hl 0 rfl) ?_
      refine va_get (D := g.1) (ci := 5) (v := .ref h1) (C := RX5) (T := TX5) (N := 27) hx hb hts zl_X5 hown hK hP 0 rfl rfl 0 (by decide) (hts _ m_f_RX5_7) (fun _ h => h) rfl dX5_buyer_27 ?_
      refine lv_bipush (v := 12) hx hb dX5_buyer_30 (by decide) ?_
      refine va_iald (D := g.1) hx hb hK hP 1 0 rfl rfl (vp_in_iff.mpr (by decide +kernel)) dX5_buyer_32 ?_
      refine lv_topi (nm_r (e' := 0) (by rfl) ?_)
      refine lv_istore_n (lv' := [(3, .int 0), (0, .ref h0), (1, .int p1), (2, .int p2)]) hx hb dX5_buyer_33 rfl hl (by decide) rfl (fun ls hl => ?_)
      refine lv_iload_n hx hb dX5_buyer_34 rfl (lv_at hl 0 rfl) ?_
      refine lv_iconst (v := 5) hx hb dX5_buyer_35 (by decide) ?_
      refine lv_icmp_ne (tgt := 42) hx hb dX5_buyer_36 (by decide) (fun _ => ?_) (fun h => absurd h (by decide +kernel))
      refine lv_aload_n hx hb dX5_buyer_42 rfl (lv_at hl 1 rfl) ?_
      refine va_get (D := g.1) (ci := 5) (v := .ref h1) (C := RX5) (T := TX5) (N := 27) hx hb hts zl_X5 hown hK hP 0 rfl rfl 0 (by decide) (hts _ m_f_RX5_7) (fun _ h => h) rfl dX5_buyer_43 ?_
      refine lv_bipush (v := 13) hx hb dX5_buyer_46 (by decide) ?_
      refine lv_iload_n hx hb dX5_buyer_48 rfl (lv_at hl 0 rfl) ?_
      refine lv_iadd hx hb dX5_buyer_49 ?_
      refine lv_topi (nm_r (e' := 13) (by decide +kernel) ?_)
      refine lv_iload_n hx hb dX5_buyer_50 rfl (lv_at hl 2 rfl) ?_
      refine va_iast (D := g.1) hx hb hK hP hD hS 1 0 rfl rfl (vp_in_iff.mpr (by decide +kernel)) dX5_buyer_51 (fun H locs hP hD hS => ?_)
      have hP : va_P g.1 vwCl [(h0, .inr (5, [.ref h1, .int 0, .ref h2, .int 0, .int 0, .ref h3, .ref h4, .ref h5, .ref h6, .int 0, .ref h7, .ref h8, .ref h9, .int 0, .ref h10, .ref h11, .ref h12, .ref h13, .ref h14, .ref h15, .ref h16, .ref h17, .ref h18, .ref h19, .ref h20, .ref h21, .ref h22])), (h1, .inl (zI g, 180, .inl (upd (upd (upd (upd (fun _ => 0) 0 60) 1 1) 2 1) 13 p1)))] H := hP
      have hD : va_D A [(h0, .inr (5, [.ref h1, .int 0, .ref h2, .int 0, .int 0, .ref h3, .ref h4, .ref h5, .ref h6, .int 0, .ref h7, .ref h8, .ref h9, .int 0, .ref h10, .ref h11, .ref h12, .ref h13, .ref h14, .ref h15, .ref h16, .ref h17, .ref h18, .ref h19, .ref h20, .ref h21, .ref h22])), (h1, .inl (zI g, 180, .inl (upd (upd (upd (upd (fun _ => 0) 0 60) 1 1) 2 1) 13 p1)))] := hD
      refine lv_aload_n hx hb dX5_buyer_52 rfl (lv_at hl 1 rfl) ?_
      refine va_get (D := g.1) (ci := 5) (v := .ref h1) (C := RX5) (T := TX5) (N := 27) hx hb hts zl_X5 hown hK hP 0 rfl rfl 0 (by decide) (hts _ m_f_RX5_7) (fun _ h => h) rfl dX5_buyer_53 ?_
      refine lv_bipush (v := 18) hx hb dX5_buyer_56 (by decide) ?_
      refine lv_iload_n hx hb dX5_buyer_58 rfl (lv_at hl 0 rfl) ?_
      refine lv_iadd hx hb dX5_buyer_59 ?_
      refine lv_topi (nm_r (e' := 18) (by decide +kernel) ?_)
      refine lv_iload_n hx hb dX5_buyer_60 rfl (lv_at hl 3 rfl) ?_
      refine va_iast (D := g.1) hx hb hK hP hD hS 1 0 rfl rfl (vp_in_iff.mpr (by decide +kernel)) dX5_buyer_61 (fun H locs hP hD hS => ?_)
      have hP : va_P g.1 vwCl [(h0, .inr (5, [.ref h1, .int 0, .ref h2, .int 0, .int 0, .ref h3, .ref h4, .ref h5, .ref h6, .int 0, .ref h7, .ref h8, .ref h9, .int 0, .ref h10, .ref h11, .ref h12, .ref h13, .ref h14, .ref h15, .ref h16, .ref h17, .ref h18, .ref h19, .ref h20, .ref h21, .ref h22])), (h1, .inl (zI g, 180, .inl (upd (upd (upd (upd (upd (fun _ => 0) 0 60) 1 1) 2 1) 13 p1) 18 p2)))] H := hP
      have hD : va_D A [(h0, .inr (5, [.ref h1, .int 0, .ref h2, .int 0, .int 0, .ref h3, .ref h4, .ref h5, .ref h6, .int 0, .ref h7, .ref h8, .ref h9, .int 0, .ref h10, .ref h11, .ref h12, .ref h13, .ref h14, .ref h15, .ref h16, .ref h17, .ref h18, .ref h19, .ref h20, .ref h21, .ref h22])), (h1, .inl (zI g, 180, .inl (upd (upd (upd (upd (upd (fun _ => 0) 0 60) 1 1) 2 1) 13 p1) 18 p2)))] := hD
      refine lv_aload_n hx hb dX5_buyer_62 rfl (lv_at hl 1 rfl) ?_
      refine va_get (D := g.1) (ci := 5) (v := .ref h1) (C := RX5) (T := TX5) (N := 27) hx hb hts zl_X5 hown hK hP 0 rfl rfl 0 (by decide) (hts _ m_f_RX5_7) (fun _ h => h) rfl dX5_buyer_63 ?_
      refine lv_bipush (v := 23) hx hb dX5_buyer_66 (by decide) ?_
      refine lv_iload_n hx hb dX5_buyer_68 rfl (lv_at hl 0 rfl) ?_
      refine lv_iadd hx hb dX5_buyer_69 ?_
      refine lv_topi (nm_r (e' := 23) (by decide +kernel) ?_)
      refine lv_iconst (v := 0) hx hb dX5_buyer_70 (by decide) ?_
      refine va_iast (D := g.1) hx hb hK hP hD hS 1 0 rfl rfl (vp_in_iff.mpr (by decide +kernel)) dX5_buyer_71 (fun H locs hP hD hS => ?_)
      have hP : va_P g.1 vwCl [(h0, .inr (5, [.ref h1, .int 0, .ref h2, .int 0, .int 0, .ref h3, .ref h4, .ref h5, .ref h6, .int 0, .ref h7, .ref h8, .ref h9, .int 0, .ref h10, .ref h11, .ref h12, .ref h13, .ref h14, .ref h15, .ref h16, .ref h17, .ref h18, .ref h19, .ref h20, .ref h21, .ref h22])), (h1, .inl (zI g, 180, .inl (upd (upd (upd (upd (upd (upd (fun _ => 0) 0 60) 1 1) 2 1) 13 p1) 18 p2) 23 0)))] H := hP
      have hD : va_D A [(h0, .inr (5, [.ref h1, .int 0, .ref h2, .int 0, .int 0, .ref h3, .ref h4, .ref h5, .ref h6, .int 0, .ref h7, .ref h8, .ref h9, .int 0, .ref h10, .ref h11, .ref h12, .ref h13, .ref h14, .ref h15, .ref h16, .ref h17, .ref h18, .ref h19, .ref h20, .ref h21, .ref h22])), (h1, .inl (zI g, 180, .inl (upd (upd (upd (upd (upd (upd (fun _ => 0) 0 60) 1 1) 2 1) 13 p1) 18 p2) 23 0)))] := hD
      refine lv_iconst (v := 4) hx hb dX5_buyer_72 (by decide) ?_
      refine lv_iload_n hx hb dX5_buyer_73 rfl (lv_at hl 0 rfl) ?_
      refine lv_imul hx hb dX5_buyer_74 ?_
      refine lv_topi (nm_r (e' := 0) (by decide +kernel) ?_)
      refine lv_istore (lv' := [(4, .int 0), (3, .int 0), (0, .ref h0), (1, .int p1), (2, .int p2)]) hx hb dX5_buyer_75 hl (by decide) rfl (fun ls hl => ?_)
      refine lv_iload hx hb dX5_buyer_77 (lv_at hl 0 rfl) ?_
      refine lv_iconst (v := 4) hx hb dX5_buyer_79 (by decide) ?_
      refine lv_iload_n hx hb dX5_buyer_80 rfl (lv_at hl 1 rfl) ?_
      refine lv_imul hx hb dX5_buyer_81 ?_
      refine lv_topi (nm_r (e' := 0) (by decide +kernel) ?_)
      refine lv_iconst (v := 4) hx hb dX5_buyer_82 (by decide) ?_
      refine lv_iadd hx hb dX5_buyer_83 ?_
      refine lv_topi (nm_r (e' := 4) (by decide +kernel) ?_)
      refine lv_icmp_ge (tgt := 127) hx hb dX5_buyer_84 (by decide) (fun h => absurd h (by decide +kernel)) (fun _ => ?_)
      refine lv_aload_n hx hb dX5_buyer_87 rfl (lv_at hl 2 rfl) ?_
      refine va_get (D := g.1) (ci := 5) (v := .ref h1) (C := RX5) (T := TX5) (N := 27) hx hb hts zl_X5 hown hK hP 0 rfl rfl 0 (by decide) (hts _ m_f_RX5_7) (fun _ h => h) rfl dX5_buyer_88 ?_
      refine lv_bipush (v := 28) hx hb dX5_buyer_91 (by decide) ?_
      refine lv_iload hx hb dX5_buyer_93 (lv_at hl 0 rfl) ?_
      refine lv_iadd hx hb dX5_buyer_95 ?_
      refine lv_topi (nm_r (e' := 28) (by decide +kernel) ?_)
      refine lv_iconst (v := 0) hx hb dX5_buyer_96 (by decide) ?_
      refine va_iast (D := g.1) hx hb hK hP hD hS 1 0 rfl rfl (vp_in_iff.mpr (by decide +kernel)) dX5_buyer_97 (fun H locs hP hD hS => ?_)
      have hP : va_P g.1 vwCl [(h0, .inr (5, [.ref h1, .int 0, .ref h2, .int 0, .int 0, .ref h3, .ref h4, .ref h5, .ref h6, .int 0, .ref h7, .ref h8, .ref h9, .int 0, .ref h10, .ref h11, .ref h12, .ref h13, .ref h14, .ref h15, .ref h16, .ref h17, .ref h18, .ref h19, .ref h20, .ref h21, .ref h22])), (h1, .inl (zI g, 180, .inl (upd (upd (upd (upd (upd (upd (upd (fun _ => 0) 0 60) 1 1) 2 1) 13 p1) 18 p2) 23 0) 28 0)))] H := hP
      have hD : va_D A [(h0, .inr (5, [.ref h1, .int 0, .ref h2, .int 0, .int 0, .ref h3, .ref h4, .ref h5, .ref h6, .int 0, .ref h7, .ref h8, .ref h9, .int 0, .ref h10, .ref h11, .ref h12, .ref h13, .ref h14, .ref h15, .ref h16, .ref h17, .ref h18, .ref h19, .ref h20, .ref h21, .ref h22])), (h1, .inl (zI g, 180, .inl (upd (upd (upd (upd (upd (upd (upd (fun _ => 0) 0 60) 1 1) 2 1) 13 p1) 18 p2) 23 0) 28 0)))] := hD
      refine lv_aload_n hx hb dX5_buyer_98 rfl (lv_at hl 2 rfl) ?_
      refine va_get (D := g.1) (ci := 5) (v := .ref h1) (C := RX5) (T := TX5) (N := 27) hx hb hts zl_X5 hown hK hP 0 rfl rfl 0 (by decide) (hts _ m_f_RX5_7) (fun _ h => h) rfl dX5_buyer_99 ?_
      refine lv_bipush (v := 48) hx hb dX5_buyer_102 (by decide) ?_
      refine lv_iload hx hb dX5_buyer_104 (lv_at hl 0 rfl) ?_
      refine lv_iadd hx hb dX5_buyer_106 ?_
      refine lv_topi (nm_r (e' := 48) (by decide +kernel) ?_)
      refine lv_iconst (v := 0) hx hb dX5_buyer_107 (by decide) ?_
      refine va_iast (D := g.1) hx hb hK hP hD hS 1 0 rfl rfl (vp_in_iff.mpr (by decide +kernel)) dX5_buyer_108 (fun H locs hP hD hS => ?_)
      have hP : va_P g.1 vwCl [(h0, .inr (5, [.ref h1, .int 0, .ref h2, .int 0, .int 0, .ref h3, .ref h4, .ref h5, .ref h6, .int 0, .ref h7, .ref h8, .ref h9, .int 0, .ref h10, .ref h11, .ref h12, .ref h13, .ref h14, .ref h15, .ref h16, .ref h17, .ref h18, .ref h19, .ref h20, .ref h21, .ref h22])), (h1, .inl (zI g, 180, .inl (upd (upd (upd (upd (upd (upd (upd (upd (fun _ => 0) 0 60) 1 1) 2 1) 13 p1) 18 p2) 23 0) 28 0) 48 0)))] H := hP
      have hD : va_D A [(h0, .inr (5, [.ref h1, .int 0, .ref h2, .int 0, .int 0, .ref h3, .ref h4, .ref h5, .ref h6, .int 0, .ref h7, .ref h8, .ref h9, .int 0, .ref h10, .ref h11, .ref h12, .ref h13, .ref h14, .ref h15, .ref h16, .ref h17, .ref h18, .ref h19, .ref h20, .ref h21, .ref h22])), (h1, .inl (zI g, 180, .inl (upd (upd (upd (upd (upd (upd (upd (upd (fun _ => 0) 0 60) 1 1) 2 1) 13 p1) 18 p2) 23 0) 28 0) 48 0)))] := hD
      refine lv_aload_n hx hb dX5_buyer_109 rfl (lv_at hl 2 rfl) ?_
      refine va_get (D := g.1) (ci := 5) (v := .ref h1) (C := RX5) (T := TX5) (N := 27) hx hb hts zl_X5 hown hK hP 0 rfl rfl 0 (by decide) (hts _ m_f_RX5_7) (fun _ h => h) rfl dX5_buyer_110 ?_
      refine lv_bipush (v := 68) hx hb dX5_buyer_113 (by decide) ?_
      refine lv_iload hx hb dX5_buyer_115 (lv_at hl 0 rfl) ?_
      refine lv_iadd hx hb dX5_buyer_117 ?_
      refine lv_topi (nm_r (e' := 68) (by decide +kernel) ?_)
      refine lv_bipush (v := 99) hx hb dX5_buyer_118 (by decide) ?_
      refine va_iast (D := g.1) hx hb hK hP hD hS 1 0 rfl rfl (vp_in_iff.mpr (by decide +kernel)) dX5_buyer_120 (fun H locs hP hD hS => ?_)
      have hP : va_P g.1 vwCl [(h0, .inr (5, [.ref h1, .int 0, .ref h2, .int 0, .int 0, .ref h3, .ref h4, .ref h5, .ref h6, .int 0, .ref h7, .ref h8, .ref h9, .int 0, .ref h10, .ref h11, .ref h12, .ref h13, .ref h14, .ref h15, .ref h16, .ref h17, .ref h18, .ref h19, .ref h20, .ref h21, .ref h22])), (h1, .inl (zI g, 180, .inl (upd (upd (upd (upd (upd (upd (upd (upd (upd (fun _ => 0) 0 60) 1 1) 2 1) 13 p1) 18 p2) 23 0) 28 0) 48 0) 68 99)))] H := hP
      have hD : va_D A [(h0, .inr (5, [.ref h1, .int 0, .ref h2, .int 0, .int 0, .ref h3, .ref h4, .ref h5, .ref h6, .int 0, .ref h7, .ref h8, .ref h9, .int 0, .ref h10, .ref h11, .ref h12, .ref h13, .ref h14, .ref h15, .ref h16, .ref h17, .ref h18, .ref h19, .ref h20, .ref h21, .ref h22])), (h1, .inl (zI g, 180, .inl (upd (upd (upd (upd (upd (upd (upd (upd (upd (fun _ => 0) 0 60) 1 1) 2 1) 13 p1) 18 p2) 23 0) 28 0) 48 0) 68 99)))] := hD
      refine lv_iinc (v := 1) (lv' := [(4, .int 1), (3, .int 0), (0, .ref h0), (1, .int p1), (2, .int p2)]) hx hb dX5_buyer_121 hl (k := 0) rfl (by decide) (by decide) rfl (fun ls hl => ?_)
      refine lv_goto (tgt := 77) hx hb dX5_buyer_124 (by decide) ?_
      refine lv_iload hx hb dX5_buyer_77 (lv_at hl 0 rfl) ?_
      refine lv_iconst (v := 4) hx hb dX5_buyer_79 (by decide) ?_
      refine lv_iload_n hx hb dX5_buyer_80 rfl (lv_at hl 1 rfl) ?_
      refine lv_imul hx hb dX5_buyer_81 ?_
      refine lv_topi (nm_r (e' := 0) (by decide +kernel) ?_)
      refine lv_iconst (v := 4) hx hb dX5_buyer_82 (by decide) ?_
      refine lv_iadd hx hb dX5_buyer_83 ?_
      refine lv_topi (nm_r (e' := 4) (by decide +kernel) ?_)
      refine lv_icmp_ge (tgt := 127) hx hb dX5_buyer_84 (by decide) (fun h => absurd h (by decide +kernel)) (fun _ => ?_)
      refine lv_aload_n hx hb dX5_buyer_87 rfl (lv_at hl 2 rfl) ?_
      refine va_get (D := g.1) (ci := 5) (v := .ref h1) (C := RX5) (T := TX5) (N := 27) hx hb hts zl_X5 hown hK hP 0 rfl rfl 0 (by decide) (hts _ m_f_RX5_7) (fun _ h => h) rfl dX5_buyer_88 ?_
      refine lv_bipush (v := 28) hx hb dX5_buyer_91 (by decide) ?_
      refine lv_iload hx hb dX5_buyer_93 (lv_at hl 0 rfl) ?_
      refine lv_iadd hx hb dX5_buyer_95 ?_
      refine lv_topi (nm_r (e' := 29) (by decide +kernel) ?_)
      refine lv_iconst (v := 0) hx hb dX5_buyer_96 (by decide) ?_
      refine va_iast (D := g.1) hx hb hK hP hD hS 1 0 rfl rfl (vp_in_iff.mpr (by decide +kernel)) dX5_buyer_97 (fun H locs hP hD hS => ?_)
      have hP : va_P g.1 vwCl [(h0, .inr (5, [.ref h1, .int 0, .ref h2, .int 0, .int 0, .ref h3, .ref h4, .ref h5, .ref h6, .int 0, .ref h7, .ref h8, .ref h9, .int 0, .ref h10, .ref h11, .ref h12, .ref h13, .ref h14, .ref h15, .ref h16, .ref h17, .ref h18, .ref h19, .ref h20, .ref h21, .ref h22])), (h1, .inl (zI g, 180, .inl (upd (upd (upd (upd (upd (upd (upd (upd (upd (upd (fun _ => 0) 0 60) 1 1) 2 1) 13 p1) 18 p2) 23 0) 28 0) 48 0) 68 99) 29 0)))] H := hP
      have hD : va_D A [(h0, .inr (5, [.ref h1, .int 0, .ref h2, .int 0, .int 0, .ref h3, .ref h4, .ref h5, .ref h6, .int 0, .ref h7, .ref h8, .ref h9, .int 0, .ref h10, .ref h11, .ref h12, .ref h13, .ref h14, .ref h15, .ref h16, .ref h17, .ref h18, .ref h19, .ref h20, .ref h21, .ref h22])), (h1, .inl (zI g, 180, .inl (upd (upd (upd (upd (upd (upd (upd (upd (upd (upd (fun _ => 0) 0 60) 1 1) 2 1) 13 p1) 18 p2) 23 0) 28 0) 48 0) 68 99) 29 0)))] := hD
      refine lv_aload_n hx hb dX5_buyer_98 rfl (lv_at hl 2 rfl) ?_
      refine va_get (D := g.1) (ci := 5) (v := .ref h1) (C := RX5) (T := TX5) (N := 27) hx hb hts zl_X5 hown hK hP 0 rfl rfl 0 (by decide) (hts _ m_f_RX5_7) (fun _ h => h) rfl dX5_buyer_99 ?_
      refine lv_bipush (v := 48) hx hb dX5_buyer_102 (by decide) ?_
      refine lv_iload hx hb dX5_buyer_104 (lv_at hl 0 rfl) ?_
      refine lv_iadd hx hb dX5_buyer_106 ?_
      refine lv_topi (nm_r (e' := 49) (by decide +kernel) ?_)
      refine lv_iconst (v := 0) hx hb dX5_buyer_107 (by decide) ?_
      refine va_iast (D := g.1) hx hb hK hP hD hS 1 0 rfl rfl (vp_in_iff.mpr (by decide +kernel)) dX5_buyer_108 (fun H locs hP hD hS => ?_)
      have hP : va_P g.1 vwCl [(h0, .inr (5, [.ref h1, .int 0, .ref h2, .int 0, .int 0, .ref h3, .ref h4, .ref h5, .ref h6, .int 0, .ref h7, .ref h8, .ref h9, .int 0, .ref h10, .ref h11, .ref h12, .ref h13, .ref h14, .ref h15, .ref h16, .ref h17, .ref h18, .ref h19, .ref h20, .ref h21, .ref h22])), (h1, .inl (zI g, 180, .inl (upd (upd (upd (upd (upd (upd (upd (upd (upd (upd (upd (fun _ => 0) 0 60) 1 1) 2 1) 13 p1) 18 p2) 23 0) 28 0) 48 0) 68 99) 29 0) 49 0)))] H := hP
      have hD : va_D A [(h0, .inr (5, [.ref h1, .int 0, .ref h2, .int 0, .int 0, .ref h3, .ref h4, .ref h5, .ref h6, .int 0, .ref h7, .ref h8, .ref h9, .int 0, .ref h10, .ref h11, .ref h12, .ref h13, .ref h14, .ref h15, .ref h16, .ref h17, .ref h18, .ref h19, .ref h20, .ref h21, .ref h22])), (h1, .inl (zI g, 180, .inl (upd (upd (upd (upd (upd (upd (upd (upd (upd (upd (upd (fun _ => 0) 0 60) 1 1) 2 1) 13 p1) 18 p2) 23 0) 28 0) 48 0) 68 99) 29 0) 49 0)))] := hD
      refine lv_aload_n hx hb dX5_buyer_109 rfl (lv_at hl 2 rfl) ?_
      refine va_get (D := g.1) (ci := 5) (v := .ref h1) (C := RX5) (T := TX5) (N := 27) hx hb hts zl_X5 hown hK hP 0 rfl rfl 0 (by decide) (hts _ m_f_RX5_7) (fun _ h => h) rfl dX5_buyer_110 ?_
      refine lv_bipush (v := 68) hx hb dX5_buyer_113 (by decide) ?_
      refine lv_iload hx hb dX5_buyer_115 (lv_at hl 0 rfl) ?_
      refine lv_iadd hx hb dX5_buyer_117 ?_
      refine lv_topi (nm_r (e' := 69) (by decide +kernel) ?_)
      refine lv_bipush (v := 99) hx hb dX5_buyer_118 (by decide) ?_
      refine va_iast (D := g.1) hx hb hK hP hD hS 1 0 rfl rfl (vp_in_iff.mpr (by decide +kernel)) dX5_buyer_120 (fun H locs hP hD hS => ?_)
      have hP : va_P g.1 vwCl [(h0, .inr (5, [.ref h1, .int 0, .ref h2, .int 0, .int 0, .ref h3, .ref h4, .ref h5, .ref h6, .int 0, .ref h7, .ref h8, .ref h9, .int 0, .ref h10, .ref h11, .ref h12, .ref h13, .ref h14, .ref h15, .ref h16, .ref h17, .ref h18, .ref h19, .ref h20, .ref h21, .ref h22])), (h1, .inl (zI g, 180, .inl (upd (upd (upd (upd (upd (upd (upd (upd (upd (upd (upd (upd (fun _ => 0) 0 60) 1 1) 2 1) 13 p1) 18 p2) 23 0) 28 0) 48 0) 68 99) 29 0) 49 0) 69 99)))] H := hP
      have hD : va_D A [(h0, .inr (5, [.ref h1, .int 0, .ref h2, .int 0, .int 0, .ref h3, .ref h4, .ref h5, .ref h6, .int 0, .ref h7, .ref h8, .ref h9, .int 0, .ref h10, .ref h11, .ref h12, .ref h13, .ref h14, .ref h15, .ref h16, .ref h17, .ref h18, .ref h19, .ref h20, .ref h21, .ref h22])), (h1, .inl (zI g, 180, .inl (upd (upd (upd (upd (upd (upd (upd (upd (upd (upd (upd (upd (fun _ => 0) 0 60) 1 1) 2 1) 13 p1) 18 p2) 23 0) 28 0) 48 0) 68 99) 29 0) 49 0) 69 99)))] := hD
      refine lv_iinc (v := 2) (lv' := [(4, .int 2), (3, .int 0), (0, .ref h0), (1, .int p1), (2, .int p2)]) hx hb dX5_buyer_121 hl (k := 0) rfl (by decide) (by decide) rfl (fun ls hl => ?_)
      refine lv_goto (tgt := 77) hx hb dX5_buyer_124 (by decide) ?_
      refine lv_iload hx hb dX5_buyer_77 (lv_at hl 0 rfl) ?_
      refine lv_iconst (v := 4) hx hb dX5_buyer_79 (by decide) ?_
      refine lv_iload_n hx hb dX5_buyer_80 rfl (lv_at hl 1 rfl) ?_
      refine lv_imul hx hb dX5_buyer_81 ?_
      refine lv_topi (nm_r (e' := 0) (by decide +kernel) ?_)
      refine lv_iconst (v := 4) hx hb dX5_buyer_82 (by decide) ?_
      refine lv_iadd hx hb dX5_buyer_83 ?_
      refine lv_topi (nm_r (e' := 4) (by decide +kernel) ?_)
      refine lv_icmp_ge (tgt := 127) hx hb dX5_buyer_84 (by decide) (fun h => absurd h (by decide +kernel)) (fun _ => ?_)
      refine lv_aload_n hx hb dX5_buyer_87 rfl (lv_at hl 2 rfl) ?_
      refine va_get (D := g.1) (ci := 5) (v := .ref h1) (C := RX5) (T := TX5) (N := 27) hx hb hts zl_X5 hown hK hP 0 rfl rfl 0 (by decide) (hts _ m_f_RX5_7) (fun _ h => h) rfl dX5_buyer_88 ?_
      refine lv_bipush (v := 28) hx hb dX5_buyer_91 (by decide) ?_
      refine lv_iload hx hb dX5_buyer_93 (lv_at hl 0 rfl) ?_
      refine lv_iadd hx hb dX5_buyer_95 ?_
      refine lv_topi (nm_r (e' := 30) (by decide +kernel) ?_)
      refine lv_iconst (v := 0) hx hb dX5_buyer_96 (by decide) ?_
      refine va_iast (D := g.1) hx hb hK hP hD hS 1 0 rfl rfl (vp_in_iff.mpr (by decide +kernel)) dX5_buyer_97 (fun H locs hP hD hS => ?_)
      have hP : va_P g.1 vwCl [(h0, .inr (5, [.ref h1, .int 0, .ref h2, .int 0, .int 0, .ref h3, .ref h4, .ref h5, .ref h6, .int 0, .ref h7, .ref h8, .ref h9, .int 0, .ref h10, .ref h11, .ref h12, .ref h13, .ref h14, .ref h15, .ref h16, .ref h17, .ref h18, .ref h19, .ref h20, .ref h21, .ref h22])), (h1, .inl (zI g, 180, .inl (upd (upd (upd (upd (upd (upd (upd (upd (upd (upd (upd (upd (upd (fun _ => 0) 0 60) 1 1) 2 1) 13 p1) 18 p2) 23 0) 28 0) 48 0) 68 99) 29 0) 49 0) 69 99) 30 0)))] H := hP
      have hD : va_D A [(h0, .inr (5, [.ref h1, .int 0, .ref h2, .int 0, .int 0, .ref h3, .ref h4, .ref h5, .ref h6, .int 0, .ref h7, .ref h8, .ref h9, .int 0, .ref h10, .ref h11, .ref h12, .ref h13, .ref h14, .ref h15, .ref h16, .ref h17, .ref h18, .ref h19, .ref h20, .ref h21, .ref h22])), (h1, .inl (zI g, 180, .inl (upd (upd (upd (upd (upd (upd (upd (upd (upd (upd (upd (upd (upd (fun _ => 0) 0 60) 1 1) 2 1) 13 p1) 18 p2) 23 0) 28 0) 48 0) 68 99) 29 0) 49 0) 69 99) 30 0)))] := hD
      refine lv_aload_n hx hb dX5_buyer_98 rfl (lv_at hl 2 rfl) ?_
      refine va_get (D := g.1) (ci := 5) (v := .ref h1) (C := RX5) (T := TX5) (N := 27) hx hb hts zl_X5 hown hK hP 0 rfl rfl 0 (by decide) (hts _ m_f_RX5_7) (fun _ h => h) rfl dX5_buyer_99 ?_
      refine lv_bipush (v := 48) hx hb dX5_buyer_102 (by decide) ?_
      refine lv_iload hx hb dX5_buyer_104 (lv_at hl 0 rfl) ?_
      refine lv_iadd hx hb dX5_buyer_106 ?_
      refine lv_topi (nm_r (e' := 50) (by decide +kernel) ?_)
      refine lv_iconst (v := 0) hx hb dX5_buyer_107 (by decide) ?_
      refine va_iast (D := g.1) hx hb hK hP hD hS 1 0 rfl rfl (vp_in_iff.mpr (by decide +kernel)) dX5_buyer_108 (fun H locs hP hD hS => ?_)
      have hP : va_P g.1 vwCl [(h0, .inr (5, [.ref h1, .int 0, .ref h2, .int 0, .int 0, .ref h3, .ref h4, .ref h5, .ref h6, .int 0, .ref h7, .ref h8, .ref h9, .int 0, .ref h10, .ref h11, .ref h12, .ref h13, .ref h14, .ref h15, .ref h16, .ref h17, .ref h18, .ref h19, .ref h20, .ref h21, .ref h22])), (h1, .inl (zI g, 180, .inl (upd (upd (upd (upd (upd (upd (upd (upd (upd (upd (upd (upd (upd (upd (fun _ => 0) 0 60) 1 1) 2 1) 13 p1) 18 p2) 23 0) 28 0) 48 0) 68 99) 29 0) 49 0) 69 99) 30 0) 50 0)))] H := hP
      have hD : va_D A [(h0, .inr (5, [.ref h1, .int 0, .ref h2, .int 0, .int 0, .ref h3, .ref h4, .ref h5, .ref h6, .int 0, .ref h7, .ref h8, .ref h9, .int 0, .ref h10, .ref h11, .ref h12, .ref h13, .ref h14, .ref h15, .ref h16, .ref h17, .ref h18, .ref h19, .ref h20, .ref h21, .ref h22])), (h1, .inl (zI g, 180, .inl (upd (upd (upd (upd (upd (upd (upd (upd (upd (upd (upd (upd (upd (upd (fun _ => 0) 0 60) 1 1) 2 1) 13 p1) 18 p2) 23 0) 28 0) 48 0) 68 99) 29 0) 49 0) 69 99) 30 0) 50 0)))] := hD
      refine lv_aload_n hx hb dX5_buyer_109 rfl (lv_at hl 2 rfl) ?_
      refine va_get (D := g.1) (ci := 5) (v := .ref h1) (C := RX5) (T := TX5) (N := 27) hx hb hts zl_X5 hown hK hP 0 rfl rfl 0 (by decide) (hts _ m_f_RX5_7) (fun _ h => h) rfl dX5_buyer_110 ?_
      refine lv_bipush (v := 68) hx hb dX5_buyer_113 (by decide) ?_
      refine lv_iload hx hb dX5_buyer_115 (lv_at hl 0 rfl) ?_
      refine lv_iadd hx hb dX5_buyer_117 ?_
      refine lv_topi (nm_r (e' := 70) (by decide +kernel) ?_)
      refine lv_bipush (v := 99) hx hb dX5_buyer_118 (by decide) ?_
      refine va_iast (D := g.1) hx hb hK hP hD hS 1 0 rfl rfl (vp_in_iff.mpr (by decide +kernel)) dX5_buyer_120 (fun H locs hP hD hS => ?_)
      have hP : va_P g.1 vwCl [(h0, .inr (5, [.ref h1, .int 0, .ref h2, .int 0, .int 0, .ref h3, .ref h4, .ref h5, .ref h6, .int 0, .ref h7, .ref h8, .ref h9, .int 0, .ref h10, .ref h11, .ref h12, .ref h13, .ref h14, .ref h15, .ref h16, .ref h17, .ref h18, .ref h19, .ref h20, .ref h21, .ref h22])), (h1, .inl (zI g, 180, .inl (upd (upd (upd (upd (upd (upd (upd (upd (upd (upd (upd (upd (upd (upd (upd (fun _ => 0) 0 60) 1 1) 2 1) 13 p1) 18 p2) 23 0) 28 0) 48 0) 68 99) 29 0) 49 0) 69 99) 30 0) 50 0) 70 99)))] H := hP
      have hD : va_D A [(h0, .inr (5, [.ref h1, .int 0, .ref h2, .int 0, .int 0, .ref h3, .ref h4, .ref h5, .ref h6, .int 0, .ref h7, .ref h8, .ref h9, .int 0, .ref h10, .ref h11, .ref h12, .ref h13, .ref h14, .ref h15, .ref h16, .ref h17, .ref h18, .ref h19, .ref h20, .ref h21, .ref h22])), (h1, .inl (zI g, 180, .inl (upd (upd (upd (upd (upd (upd (upd (upd (upd (upd (upd (upd (upd (upd (upd (fun _ => 0) 0 60) 1 1) 2 1) 13 p1) 18 p2) 23 0) 28 0) 48 0) 68 99) 29 0) 49 0) 69 99) 30 0) 50 0) 70 99)))] := hD
      refine lv_iinc (v := 3) (lv' := [(4, .int 3), (3, .int 0), (0, .ref h0), (1, .int p1), (2, .int p2)]) hx hb dX5_buyer_121 hl (k := 0) rfl (by decide) (by decide) rfl (fun ls hl => ?_)
      refine lv_goto (tgt := 77) hx hb dX5_buyer_124 (by decide) ?_
      refine lv_iload hx hb dX5_buyer_77 (lv_at hl 0 rfl) ?_
      refine lv_iconst (v := 4) hx hb dX5_buyer_79 (by decide) ?_
      refine lv_iload_n hx hb dX5_buyer_80 rfl (lv_at hl 1 rfl) ?_
      refine lv_imul hx hb dX5_buyer_81 ?_
      refine lv_topi (nm_r (e' := 0) (by decide +kernel) ?_)
      refine lv_iconst (v := 4) hx hb dX5_buyer_82 (by decide) ?_
      refine lv_iadd hx hb dX5_buyer_83 ?_
      refine lv_topi (nm_r (e' := 4) (by decide +kernel) ?_)
      refine lv_icmp_ge (tgt := 127) hx hb dX5_buyer_84 (by decide) (fun h => absurd h (by decide +kernel)) (fun _ => ?_)
      refine lv_aload_n hx hb dX5_buyer_87 rfl (lv_at hl 2 rfl) ?_
      refine va_get (D := g.1) (ci := 5) (v := .ref h1) (C := RX5) (T := TX5) (N := 27) hx hb hts zl_X5 hown hK hP 0 rfl rfl 0 (by decide) (hts _ m_f_RX5_7) (fun _ h => h) rfl dX5_buyer_88 ?_
      refine lv_bipush (v := 28) hx hb dX5_buyer_91 (by decide) ?_
      refine lv_iload hx hb dX5_buyer_93 (lv_at hl 0 rfl) ?_
      refine lv_iadd hx hb dX5_buyer_95 ?_
      refine lv_topi (nm_r (e' := 31) (by decide +kernel) ?_)
      refine lv_iconst (v := 0) hx hb dX5_buyer_96 (by decide) ?_
      refine va_iast (D := g.1) hx hb hK hP hD hS 1 0 rfl rfl (vp_in_iff.mpr (by decide +kernel)) dX5_buyer_97 (fun H locs hP hD hS => ?_)
      have hP : va_P g.1 vwCl [(h0, .inr (5, [.ref h1, .int 0, .ref h2, .int 0, .int 0, .ref h3, .ref h4, .ref h5, .ref h6, .int 0, .ref h7, .ref h8, .ref h9, .int 0, .ref h10, .ref h11, .ref h12, .ref h13, .ref h14, .ref h15, .ref h16, .ref h17, .ref h18, .ref h19, .ref h20, .ref h21, .ref h22])), (h1, .inl (zI g, 180, .inl (upd (upd (upd (upd (upd (upd (upd (upd (upd (upd (upd (upd (upd (upd (upd (upd (fun _ => 0) 0 60) 1 1) 2 1) 13 p1) 18 p2) 23 0) 28 0) 48 0) 68 99) 29 0) 49 0) 69 99) 30 0) 50 0) 70 99) 31 0)))] H := hP
      have hD : va_D A [(h0, .inr (5, [.ref h1, .int 0, .ref h2, .int 0, .int 0, .ref h3, .ref h4, .ref h5, .ref h6, .int 0, .ref h7, .ref h8, .ref h9, .int 0, .ref h10, .ref h11, .ref h12, .ref h13, .ref h14, .ref h15, .ref h16, .ref h17, .ref h18, .ref h19, .ref h20, .ref h21, .ref h22])), (h1, .inl (zI g, 180, .inl (upd (upd (upd (upd (upd (upd (upd (upd (upd (upd (upd (upd (upd (upd (upd (upd (fun _ => 0) 0 60) 1 1) 2 1) 13 p1) 18 p2) 23 0) 28 0) 48 0) 68 99) 29 0) 49 0) 69 99) 30 0) 50 0) 70 99) 31 0)))] := hD
      refine lv_aload_n hx hb dX5_buyer_98 rfl (lv_at hl 2 rfl) ?_
      refine va_get (D := g.1) (ci := 5) (v := .ref h1) (C := RX5) (T := TX5) (N := 27) hx hb hts zl_X5 hown hK hP 0 rfl rfl 0 (by decide) (hts _ m_f_RX5_7) (fun _ h => h) rfl dX5_buyer_99 ?_
      refine lv_bipush (v := 48) hx hb dX5_buyer_102 (by decide) ?_
      refine lv_iload hx hb dX5_buyer_104 (lv_at hl 0 rfl) ?_
      refine lv_iadd hx hb dX5_buyer_106 ?_
      refine lv_topi (nm_r (e' := 51) (by decide +kernel) ?_)
      refine lv_iconst (v := 0) hx hb dX5_buyer_107 (by decide) ?_
      refine va_iast (D := g.1) hx hb hK hP hD hS 1 0 rfl rfl (vp_in_iff.mpr (by decide +kernel)) dX5_buyer_108 (fun H locs hP hD hS => ?_)
      have hP : va_P g.1 vwCl [(h0, .inr (5, [.ref h1, .int 0, .ref h2, .int 0, .int 0, .ref h3, .ref h4, .ref h5, .ref h6, .int 0, .ref h7, .ref h8, .ref h9, .int 0, .ref h10, .ref h11, .ref h12, .ref h13, .ref h14, .ref h15, .ref h16, .ref h17, .ref h18, .ref h19, .ref h20, .ref h21, .ref h22])), (h1, .inl (zI g, 180, .inl (upd (upd (upd (upd (upd (upd (upd (upd (upd (upd (upd (upd (upd (upd (upd (upd (upd (fun _ => 0) 0 60) 1 1) 2 1) 13 p1) 18 p2) 23 0) 28 0) 48 0) 68 99) 29 0) 49 0) 69 99) 30 0) 50 0) 70 99) 31 0) 51 0)))] H := hP
      have hD : va_D A [(h0, .inr (5, [.ref h1, .int 0, .ref h2, .int 0, .int 0, .ref h3, .ref h4, .ref h5, .ref h6, .int 0, .ref h7, .ref h8, .ref h9, .int 0, .ref h10, .ref h11, .ref h12, .ref h13, .ref h14, .ref h15, .ref h16, .ref h17, .ref h18, .ref h19, .ref h20, .ref h21, .ref h22])), (h1, .inl (zI g, 180, .inl (upd (upd (upd (upd (upd (upd (upd (upd (upd (upd (upd (upd (upd (upd (upd (upd (upd (fun _ => 0) 0 60) 1 1) 2 1) 13 p1) 18 p2) 23 0) 28 0) 48 0) 68 99) 29 0) 49 0) 69 99) 30 0) 50 0) 70 99) 31 0) 51 0)))] := hD
      refine lv_aload_n hx hb dX5_buyer_109 rfl (lv_at hl 2 rfl) ?_
      refine va_get (D := g.1) (ci := 5) (v := .ref h1) (C := RX5) (T := TX5) (N := 27) hx hb hts zl_X5 hown hK hP 0 rfl rfl 0 (by decide) (hts _ m_f_RX5_7) (fun _ h => h) rfl dX5_buyer_110 ?_
      refine lv_bipush (v := 68) hx hb dX5_buyer_113 (by decide) ?_
      refine lv_iload hx hb dX5_buyer_115 (lv_at hl 0 rfl) ?_
      refine lv_iadd hx hb dX5_buyer_117 ?_
      refine lv_topi (nm_r (e' := 71) (by decide +kernel) ?_)
      refine lv_bipush (v := 99) hx hb dX5_buyer_118 (by decide) ?_
      refine va_iast (D := g.1) hx hb hK hP hD hS 1 0 rfl rfl (vp_in_iff.mpr (by decide +kernel)) dX5_buyer_120 (fun H locs hP hD hS => ?_)
      have hP : va_P g.1 vwCl [(h0, .inr (5, [.ref h1, .int 0, .ref h2, .int 0, .int 0, .ref h3, .ref h4, .ref h5, .ref h6, .int 0, .ref h7, .ref h8, .ref h9, .int 0, .ref h10, .ref h11, .ref h12, .ref h13, .ref h14, .ref h15, .ref h16, .ref h17, .ref h18, .ref h19, .ref h20, .ref h21, .ref h22])), (h1, .inl (zI g, 180, .inl (upd (upd (upd (upd (upd (upd (upd (upd (upd (upd (upd (upd (upd (upd (upd (upd (upd (upd (fun _ => 0) 0 60) 1 1) 2 1) 13 p1) 18 p2) 23 0) 28 0) 48 0) 68 99) 29 0) 49 0) 69 99) 30 0) 50 0) 70 99) 31 0) 51 0) 71 99)))] H := hP
      have hD : va_D A [(h0, .inr (5, [.ref h1, .int 0, .ref h2, .int 0, .int 0, .ref h3, .ref h4, .ref h5, .ref h6, .int 0, .ref h7, .ref h8, .ref h9, .int 0, .ref h10, .ref h11, .ref h12, .ref h13, .ref h14, .ref h15, .ref h16, .ref h17, .ref h18, .ref h19, .ref h20, .ref h21, .ref h22])), (h1, .inl (zI g, 180, .inl (upd (upd (upd (upd (upd (upd (upd (upd (upd (upd (upd (upd (upd (upd (upd (upd (upd (upd (fun _ => 0) 0 60) 1 1) 2 1) 13 p1) 18 p2) 23 0) 28 0) 48 0) 68 99) 29 0) 49 0) 69 99) 30 0) 50 0) 70 99) 31 0) 51 0) 71 99)))] := hD
      refine lv_iinc (v := 4) (lv' := [(4, .int 4), (3, .int 0), (0, .ref h0), (1, .int p1), (2, .int p2)]) hx hb dX5_buyer_121 hl (k := 0) rfl (by decide) (by decide) rfl (fun ls hl => ?_)
      refine lv_goto (tgt := 77) hx hb dX5_buyer_124 (by decide) ?_
      refine lv_iload hx hb dX5_buyer_77 (lv_at hl 0 rfl) ?_
      refine lv_iconst (v := 4) hx hb dX5_buyer_79 (by decide) ?_
      refine lv_iload_n hx hb dX5_buyer_80 rfl (lv_at hl 1 rfl) ?_
      refine lv_imul hx hb dX5_buyer_81 ?_
      refine lv_topi (nm_r (e' := 0) (by decide +kernel) ?_)
      refine lv_iconst (v := 4) hx hb dX5_buyer_82 (by decide) ?_
      refine lv_iadd hx hb dX5_buyer_83 ?_
      refine lv_topi (nm_r (e' := 4) (by decide +kernel) ?_)
      refine lv_icmp_ge (tgt := 127) hx hb dX5_buyer_84 (by decide) (fun _ => ?_) (fun h => absurd h (by decide +kernel))
      refine lv_aload_n hx hb dX5_buyer_127 rfl (lv_at hl 2 rfl) ?_
      refine va_get (D := g.1) (ci := 5) (v := .ref h1) (C := RX5) (T := TX5) (N := 27) hx hb hts zl_X5 hown hK hP 0 rfl rfl 0 (by decide) (hts _ m_f_RX5_7) (fun _ h => h) rfl dX5_buyer_128 ?_
      refine lv_bipush (v := 12) hx hb dX5_buyer_131 (by decide) ?_
      refine lv_dup2_11 hx hb dX5_buyer_133 rfl rfl ?_
      refine va_iald (D := g.1) hx hb hK hP 1 0 rfl rfl (vp_in_iff.mpr (by decide +kernel)) dX5_buyer_134 ?_
      refine lv_topi (nm_r (e' := 0) (by rfl) ?_)
      refine lv_iconst (v := 1) hx hb dX5_buyer_135 (by decide) ?_
      refine lv_iadd hx hb dX5_buyer_136 ?_
      refine lv_topi (nm_r (e' := 1) (by decide +kernel) ?_)
      refine va_iast (D := g.1) hx hb hK hP hD hS 1 0 rfl rfl (vp_in_iff.mpr (by decide +kernel)) dX5_buyer_137 (fun H locs hP hD hS => ?_)
      have hP : va_P g.1 vwCl [(h0, .inr (5, [.ref h1, .int 0, .ref h2, .int 0, .int 0, .ref h3, .ref h4, .ref h5, .ref h6, .int 0, .ref h7, .ref h8, .ref h9, .int 0, .ref h10, .ref h11, .ref h12, .ref h13, .ref h14, .ref h15, .ref h16, .ref h17, .ref h18, .ref h19, .ref h20, .ref h21, .ref h22])), (h1, .inl (zI g, 180, .inl (upd (upd (upd (upd (upd (upd (upd (upd (upd (upd (upd (upd (upd (upd (upd (upd (upd (upd (upd (fun _ => 0) 0 60) 1 1) 2 1) 13 p1) 18 p2) 23 0) 28 0) 48 0) 68 99) 29 0) 49 0) 69 99) 30 0) 50 0) 70 99) 31 0) 51 0) 71 99) 12 1)))] H := hP
      have hD : va_D A [(h0, .inr (5, [.ref h1, .int 0, .ref h2, .int 0, .int 0, .ref h3, .ref h4, .ref h5, .ref h6, .int 0, .ref h7, .ref h8, .ref h9, .int 0, .ref h10, .ref h11, .ref h12, .ref h13, .ref h14, .ref h15, .ref h16, .ref h17, .ref h18, .ref h19, .ref h20, .ref h21, .ref h22])), (h1, .inl (zI g, 180, .inl (upd (upd (upd (upd (upd (upd (upd (upd (upd (upd (upd (upd (upd (upd (upd (upd (upd (upd (upd (fun _ => 0) 0 60) 1 1) 2 1) 13 p1) 18 p2) 23 0) 28 0) 48 0) 68 99) 29 0) 49 0) 69 99) 30 0) 50 0) 70 99) 31 0) 51 0) 71 99) 12 1)))] := hD
      refine lv_iload_n hx hb dX5_buyer_138 rfl (lv_at hl 1 rfl) ?_
      have hP9 := hP.sub (ws' := []) [] rfl
      have hD9 := hD.sub (ws' := []) [] (by decide) rfl
      exact W.iret (v := 0) hx hb hr (fun t ht hW => ⟨⟨0, 0, rfl, Or.inr (Or.inr (Or.inr (Or.inr (⟨i_3, i_4, i_8, i_9, rfl⟩)))), by rw [ht]; exact hP9, hD9⟩, hS.F ht⟩) hS.2.2 dX5_buyer_139
set_option maxHeartbeats 4000000 in
set_option maxRecDepth 100000 in
theorem kX5_in_13 (l : Launch) (g : zG) (sz : Nat) (p0 : Int64) : Met l yX5_in (.code yX5_in cX5_in 6 (some .boolean) :: zBig) ({ frames := 0, cells := 0, slots := 0, locals := 0 }) (va_Pc [.long p0, .long 0, .long (-1)] (zPre g [] sz)) (va_Qi (fun (r : Int32) (_ : Nat) => ((p0 : Int64).toInt < 0 ∧ r = 0) ∨ (0 ≤ (p0 : Int64).toInt ∧ r = 0)) (zPost g (fun _ : Nat => []) (va_A [] sz)) (va_A [] sz)) 0 0 (va_A [] sz) := by
  refine zMetI rfl (Nat.le_of_ble_eq_true rfl) ?_
  intro p e s m args below meth c A ls hx hb hml hr hlocks hin hown hts hK hN hZ hP hD hA hS hAe hl
  have hown : s.vm.findClass RX5 = some m.cls := hown
  have hl : lv_has ls 6 [(0, .long p0), (2, .long 0), (4, .long (-1))] := hl
  refine lv_lload_n hx hb dX5_in_0 rfl (lv_at hl 0 rfl) ?_
  refine lv_lload_n hx hb dX5_in_1 rfl (lv_at hl 1 rfl) ?_
  refine W.lcmp hx hb dX5_in_2 ?_
  refine lv_if_lt (tgt := 17) hx hb dX5_in_3 (by decide) (fun c_0 => ?_) (fun c_0 => ?_)
  · have i_0 : (p0 : Int64).toInt < 0 := zl_lt (rfl) (rfl) ((lg_cmp_lt _ _).mp c_0)
    refine lv_iconst (v := 0) hx hb dX5_in_17 (by decide) ?_
    have hP9 := hP.sub (ws' := []) [] rfl
    have hD9 := hD.sub (ws' := []) [] (by decide) rfl
    exact W.zret (v := 0) hx hb hr (by decide) (fun t ht hW => ⟨⟨0, 0, rfl, Or.inl ⟨i_0, rfl⟩, by rw [ht]; exact hP9, hD9⟩, hS.F ht⟩) hS.2.2 dX5_in_18
  · have i_0 : 0 ≤ (p0 : Int64).toInt := zl_nlt (rfl) (rfl) (fun h => c_0 ((lg_cmp_lt _ _).mpr h))
    refine lv_lload_n hx hb dX5_in_6 rfl (lv_at hl 0 rfl) ?_
    refine lv_lload hx hb dX5_in_7 (lv_at hl 2 rfl) ?_
    refine W.lcmp hx hb dX5_in_9 ?_
    refine lv_if_gt (tgt := 17) hx hb dX5_in_10 (by decide) (fun c_1 => ?_) (fun c_1 => absurd (show (p0 : Int64).toInt ≤ (-1) from zl_nlt (rfl) (rfl) (fun h => c_1 ((lg_cmp_gt _ _).mpr h))) (by omega))
    have i_1 : (-1) < (p0 : Int64).toInt := zl_lt (rfl) (rfl) ((lg_cmp_gt _ _).mp c_1)
    refine lv_iconst (v := 0) hx hb dX5_in_17 (by decide) ?_
    have hP9 := hP.sub (ws' := []) [] rfl
    have hD9 := hD.sub (ws' := []) [] (by decide) rfl
    exact W.zret (v := 0) hx hb hr (by decide) (fun t ht hW => ⟨⟨0, 0, rfl, Or.inr (⟨i_0, rfl⟩), by rw [ht]; exact hP9, hD9⟩, hS.F ht⟩) hS.2.2 dX5_in_18
