set_option maxHeartbeats 8000000 in
set_option maxRecDepth 100000 in
theorem gX4_item (l : Launch) (g : zG) (h0 h1 h2 h3 h4 h5 h6 h7 h8 h9 h10 h38 h39 h40 : Nat) (sz : Nat) (p1 : Int32) (p2 : Int32) (p3 : Int32) (p4 : Int64) (f0 : Int32) (f1 : Int32) (Z32 : Nat → Int32) (Z33 : Nat → Int32) (Z34 : Nat → Int64) (hF_Z33 : iSize Z33) : Met l yX4_item (.code yX4_item cX4_item 7 (some .int) :: zBig) ({ frames := 3, cells := 0, slots := 0, locals := 68 }) (va_Pc [.ref h0, .int p1, .int p2, .int p3, .long p4] (zPre g [(h0, .inr (4, [.ref h1, .ref h2, .int f0, .ref h3, .ref h4, .ref h5, .ref h6, .int f1, .ref h7, .ref h8, .ref h9, .ref h10])), (h5, .inr (1, [.ref h38, .ref h39, .ref h40])), (h38, .inl (zI g, 4, .inl Z32)), (h39, .inl (zI g, 4, .inl Z33)), (h40, .inl (zJ g, 64, .inr (.inl Z34)))] sz)) (va_Qi (fun (r : Int32) (u : (Nat → Int64)) => (p1.toInt < 0 ∨ 3 < p1.toInt ∨ p2.toInt < 0 ∨ 2 < p2.toInt → r.toInt = -1) ∧ (0 ≤ p1.toInt → p1.toInt ≤ 3 → 0 ≤ p2.toInt → p2.toInt ≤ 2 → (Z32 p1.toNatClampNeg).toInt < 0 → r.toInt = -11) ∧ (0 ≤ p1.toInt → p1.toInt ≤ 3 → 0 ≤ p2.toInt → p2.toInt ≤ 2 → 0 ≤ (Z32 p1.toNatClampNeg).toInt → (Z32 p1.toNatClampNeg).toInt ≠ p2.toInt → r.toInt = -12) ∧ (0 ≤ p1.toInt → p1.toInt ≤ 3 → 0 ≤ p2.toInt → p2.toInt ≤ 2 → (Z32 p1.toNatClampNeg).toInt = p2.toInt → (p3.toInt < 0 ∨ 1 < 0 ∨ (Z33 p1.toNatClampNeg).toInt < p3.toInt + 1) → r.toInt = -13) ∧ (0 ≤ p1.toInt → p1.toInt ≤ 3 → 0 ≤ p2.toInt → p2.toInt ≤ 2 → (Z32 p1.toNatClampNeg).toInt = p2.toInt → 0 ≤ p3.toInt → p3.toInt + 1 ≤ (Z33 p1.toNatClampNeg).toInt → r.toInt = 1)) (zPost g (fun u : (Nat → Int64) => [(h0, .inr (4, [.ref h1, .ref h2, .int f0, .ref h3, .ref h4, .ref h5, .ref h6, .int f1, .ref h7, .ref h8, .ref h9, .ref h10])), (h5, .inr (1, [.ref h38, .ref h39, .ref h40])), (h38, .inl (zI g, 4, .inl Z32)), (h39, .inl (zI g, 4, .inl Z33)), (h40, .inl (zJ g, 64, .inr (.inl u)))]) (va_A [(h0, .inr (4, [.ref h1, .ref h2, .int f0, .ref h3, .ref h4, .ref h5, .ref h6, .int f1, .ref h7, .ref h8, .ref h9, .ref h10])), (h5, .inr (1, [.ref h38, .ref h39, .ref h40])), (h38, .inl (zI g, 4, .inl Z32)), (h39, .inl (zI g, 4, .inl Z33)), (h40, .inl (zJ g, 64, .inr (.inl Z34)))] sz)) (va_A [(h0, .inr (4, [.ref h1, .ref h2, .int f0, .ref h3, .ref h4, .ref h5, .ref h6, .int f1, .ref h7, .ref h8, .ref h9, .ref h10])), (h5, .inr (1, [.ref h38, .ref h39, .ref h40])), (h38, .inl (zI g, 4, .inl Z32)), (h39, .inl (zI g, 4, .inl Z33)), (h40, .inl (zJ g, 64, .inr (.inl Z34)))] sz)) 0 0 (va_A [(h0, .inr (4, [.ref h1, .ref h2, .int f0, .ref h3, .ref h4, .ref h5, .ref h6, .int f1, .ref h7, .ref h8, .ref h9, .ref h10])), (h5, .inr (1, [.ref h38, .ref h39, .ref h40])), (h38, .inl (zI g, 4, .inl Z32)), (h39, .inl (zI g, 4, .inl Z33)), (h40, .inl (zJ g, 64, .inr (.inl Z34)))] sz) := by
  refine zMetI rfl (Nat.le_of_ble_eq_true rfl) ?_
  intro p e s m args below meth c A ls hx hb hml hr hlocks hin hown hts hK hN hZ hP hD hA hS hAe hl
  have hown : s.vm.findClass RX4 = some m.cls := hown
  have hl : lv_has ls 7 [(0, .ref h0), (1, .int p1), (2, .int p2), (3, .int p3), (4, .long p4)] := hl
  refine lv_aload_n hx hb dX4_item_0 rfl (lv_at hl 0 rfl) ?_
  refine va_get (D := g.1) (ci := 4) (v := .ref h5) (C := RX4) (T := TX4) (N := 12) hx hb hts zl_X4 hown hK hP 0 rfl rfl 5 (by decide) (hts _ m_f_RX4_40) (fun _ h => h) rfl dX4_item_1 ?_
  refine lv_iload_n hx hb dX4_item_4 rfl (lv_at hl 1 rfl) ?_
  refine lv_iload_n hx hb dX4_item_5 rfl (lv_at hl 2 rfl) ?_
  refine lv_iload_n hx hb dX4_item_6 rfl (lv_at hl 3 rfl) ?_
  refine lv_iconst (v := 1) hx hb dX4_item_7 (by decide) ?_
  refine z_calli (wr := [(h0, .inr (4, [.ref h1, .ref h2, .int f0, .ref h3, .ref h4, .ref h5, .ref h6, .int f1, .ref h7, .ref h8, .ref h9, .ref h10])), (h40, .inl (zJ g, 64, .inr (.inl Z34)))]) hP hD hS hA [1, 2, 3] [0, 4] (by decide) rfl rfl (by decide) (va_runVN (As := [.int p1, .int p2, .int p3, .int 1]) (rest := []) ⟨hx, hb, hml, hown, hts⟩ (gX1_refuse l g h5 h38 h39 h40 s.heap.size p1 p2 p3 (1 : Int32) Z32 Z33 hF_Z33) ⟨va_cnB 4 hts (zGood m_o_yX1_refuse) rfl rfl rfl (hN.m 28 (q := (RX4, 208, yX1_refuse)) rfl) (hts _ m_z_RX1) ⟨by decide +kernel, by decide +kernel, by decide +kernel⟩ ⟨Nat.le_of_ble_eq_true rfl, Nat.le_of_ble_eq_true rfl⟩, hts _ m_i_yX1_refuse, hts _ m_e_yX1_refuse⟩ (zPreV hK hN hZ hP hD hS hA [1, 2, 3] (by decide) rfl rfl 1 1 rfl rfl) rfl rfl hl.1 rfl (lv_room (Nat.le_of_ble_eq_true rfl)) dX4_item_8 ⟨Nat.le_of_ble_eq_true rfl, Nat.le_of_ble_eq_true rfl⟩) (fun r u H locs hw hP hD hS => ?_)
  obtain ⟨y0, rfl⟩ : ∃ z, z = r := ⟨_, rfl⟩
  rcases hw with ⟨i_0, i_1, i_2, i_3, i_4, i_5, i_6, i_7, i_8, i_9, i_10, rfl⟩ | ⟨i_11, i_12, i_13, i_14, i_15, i_16⟩
  · skip
    have i_0 : 0 ≤ p1.toInt := i_0
    have i_1 : p1.toInt ≤ 3 := i_1
    have i_4 : 0 ≤ p3.toInt := i_4
    have i_5 : p3.toInt ≤ 16 := i_5
    have i_6 : p3.toInt + 1 ≤ 16 := i_6
    have i_7 : 0 ≤ (Z32 p1.toNatClampNeg).toInt := i_7
    have i_8 : (Z32 p1.toNatClampNeg).toInt = p2.toInt := i_8
    have i_9 : p3.toInt + 1 ≤ (Z33 p1.toNatClampNeg).toInt := i_9
    have i_10 : p2.toInt ≤ 2 := i_10
    have hP : va_P g.1 vwCl [(h0, .inr (4, [.ref h1, .ref h2, .int f0, .ref h3, .ref h4, .ref h5, .ref h6, .int f1, .ref h7, .ref h8, .ref h9, .ref h10])), (h40, .inl (zJ g, 64, .inr (.inl Z34))), (h5, .inr (1, [.ref h38, .ref h39, .ref h40])), (h38, .inl (zI g, 4, .inl Z32)), (h39, .inl (zI g, 4, .inl Z33))] H := hP
    have hD : va_D A [(h0, .inr (4, [.ref h1, .ref h2, .int f0, .ref h3, .ref h4, .ref h5, .ref h6, .int f1, .ref h7, .ref h8, .ref h9, .ref h10])), (h40, .inl (zJ g, 64, .inr (.inl Z34))), (h5, .inr (1, [.ref h38, .ref h39, .ref h40])), (h38, .inl (zI g, 4, .inl Z32)), (h39, .inl (zI g, 4, .inl Z33))] := hD
    refine lv_istore (lv' := [(6, .int 0), (0, .ref h0), (1, .int p1), (2, .int p2), (3, .int p3), (4, .long p4)]) hx hb dX4_item_11 hl (by decide) rfl (fun ls hl => ?_)
    refine lv_iload hx hb dX4_item_13 (lv_at hl 0 rfl) ?_
    refine lv_if_ge (tgt := 21) hx hb dX4_item_15 (by decide) (fun _ => ?_) (fun h => absurd h (by decide +kernel))
    refine lv_aload_n hx hb dX4_item_21 rfl (lv_at hl 1 rfl) ?_
    refine va_get (D := g.1) (ci := 4) (v := .ref h5) (C := RX4) (T := TX4) (N := 12) hx hb hts zl_X4 hown hK hP 0 rfl rfl 5 (by decide) (hts _ m_f_RX4_40) (fun _ h => h) rfl dX4_item_22 ?_
    refine lv_iload_n hx hb dX4_item_25 rfl (lv_at hl 2 rfl) ?_
    refine lv_iload_n hx hb dX4_item_26 rfl (lv_at hl 4 rfl) ?_
    refine lv_lload hx hb dX4_item_27 (lv_at hl 5 rfl) ?_
    refine z_callv (wr := [(h0, .inr (4, [.ref h1, .ref h2, .int f0, .ref h3, .ref h4, .ref h5, .ref h6, .int f1, .ref h7, .ref h8, .ref h9, .ref h10]))]) hP hD hS hA [2, 3, 4, 1] [0] (by decide) rfl rfl (by decide) (va_runVN (As := [.int p1, .int p3, .long p4]) (rest := []) ⟨hx, hb, hml, hown, hts⟩ (gX1_put l g h5 h38 h39 h40 H.size p1 p3 p4 Z32 Z33 Z34 hF_Z33) ⟨va_cnB 3 hts (zGood m_o_yX1_put) rfl rfl rfl (hN.m 32 (q := (RX4, 217, yX1_put)) rfl) (hts _ m_z_RX1) ⟨by decide +kernel, by decide +kernel, by decide +kernel⟩ ⟨Nat.le_of_ble_eq_true rfl, Nat.le_of_ble_eq_true rfl⟩, hts _ m_i_yX1_put, hts _ m_e_yX1_put⟩ (zPreV hK hN hZ hP hD hS hA [2, 3, 4, 1] (by decide) rfl rfl 1 2 rfl rfl) rfl rfl hl.1 rfl (lv_room (Nat.le_of_ble_eq_true rfl)) dX4_item_29 ⟨Nat.le_of_ble_eq_true rfl, Nat.le_of_ble_eq_true rfl⟩) (fun u H locs hw hP hD hS => ?_)
    obtain ⟨R1, rfl⟩ : ∃ z, z = u := ⟨_, rfl⟩
    have hP : va_P g.1 vwCl [(h0, .inr (4, [.ref h1, .ref h2, .int f0, .ref h3, .ref h4, .ref h5, .ref h6, .int f1, .ref h7, .ref h8, .ref h9, .ref h10])), (h5, .inr (1, [.ref h38, .ref h39, .ref h40])), (h38, .inl (zI g, 4, .inl Z32)), (h39, .inl (zI g, 4, .inl Z33)), (h40, .inl (zJ g, 64, .inr (.inl R1)))] H := hP
    have hD : va_D A [(h0, .inr (4, [.ref h1, .ref h2, .int f0, .ref h3, .ref h4, .ref h5, .ref h6, .int f1, .ref h7, .ref h8, .ref h9, .ref h10])), (h5, .inr (1, [.ref h38, .ref h39, .ref h40])), (h38, .inl (zI g, 4, .inl Z32)), (h39, .inl (zI g, 4, .inl Z33)), (h40, .inl (zJ g, 64, .inr (.inl R1)))] := hD
    refine lv_iconst (v := 1) hx hb dX4_item_32 (by decide) ?_
    have : (1 : Int32).toInt = 1 := rfl
    have hP9 := hP.sub (ws' := [(h0, .inr (4, [.ref h1, .ref h2, .int f0, .ref h3, .ref h4, .ref h5, .ref h6, .int f1, .ref h7, .ref h8, .ref h9, .ref h10])), (h5, .inr (1, [.ref h38, .ref h39, .ref h40])), (h38, .inl (zI g, 4, .inl Z32)), (h39, .inl (zI g, 4, .inl Z33)), (h40, .inl (zJ g, 64, .inr (.inl R1)))]) [0, 1, 2, 3, 4] rfl
    have hD9 := hD.sub (ws' := [(h0, .inr (4, [.ref h1, .ref h2, .int f0, .ref h3, .ref h4, .ref h5, .ref h6, .int f1, .ref h7, .ref h8, .ref h9, .ref h10])), (h5, .inr (1, [.ref h38, .ref h39, .ref h40])), (h38, .inl (zI g, 4, .inl Z32)), (h39, .inl (zI g, 4, .inl Z33)), (h40, .inl (zJ g, 64, .inr (.inl R1)))]) [0, 1, 2, 3, 4] (by decide) rfl
    exact W.iret (v := 1) hx hb hr (fun t ht hW => ⟨⟨1, R1, rfl, ⟨(by first | omega | decide), (by first | omega | decide), (by first | omega | decide), (by first | omega | decide), (by first | omega | decide)⟩, by rw [ht]; exact hP9, hD9⟩, hS.F ht⟩) hS.2.2 dX4_item_33
  · skip
    have i_11 : y0.toInt < 0 := i_11
    have i_12 : (p1.toInt < 0 ∨ 3 < p1.toInt ∨ p2.toInt < 0 ∨ 2 < p2.toInt → y0.toInt = -1) := by (try simp only [show (1 : Int32).toInt = 1 from rfl] at i_12); exact i_12
    have i_13 : (0 ≤ p1.toInt → p1.toInt ≤ 3 → 0 ≤ p2.toInt → p2.toInt ≤ 2 → (Z32 p1.toNatClampNeg).toInt < 0 → y0.toInt = -11) := by (try simp only [show (1 : Int32).toInt = 1 from rfl] at i_13); exact i_13
    have i_14 : (0 ≤ p1.toInt → p1.toInt ≤ 3 → 0 ≤ p2.toInt → p2.toInt ≤ 2 → 0 ≤ (Z32 p1.toNatClampNeg).toInt → (Z32 p1.toNatClampNeg).toInt ≠ p2.toInt → y0.toInt = -12) := by (try simp only [show (1 : Int32).toInt = 1 from rfl] at i_14); exact i_14
    have i_15 : (0 ≤ p1.toInt → p1.toInt ≤ 3 → 0 ≤ p2.toInt → p2.toInt ≤ 2 → (Z32 p1.toNatClampNeg).toInt = p2.toInt → (p3.toInt < 0 ∨ (1 : Int) < 0 ∨ (Z33 p1.toNatClampNeg).toInt < p3.toInt + (1 : Int)) → y0.toInt = -13) := by (try simp only [show (1 : Int32).toInt = 1 from rfl] at i_15); exact i_15
    have i_16 : (0 ≤ p1.toInt → p1.toInt ≤ 3 → 0 ≤ p2.toInt → p2.toInt ≤ 2 → (Z32 p1.toNatClampNeg).toInt = p2.toInt → p3.toInt < 0 ∨ (1 : Int) < 0 ∨ (Z33 p1.toNatClampNeg).toInt < p3.toInt + (1 : Int)) := by (try simp only [show (1 : Int32).toInt = 1 from rfl] at i_16); exact i_16
    have hP : va_P g.1 vwCl [(h0, .inr (4, [.ref h1, .ref h2, .int f0, .ref h3, .ref h4, .ref h5, .ref h6, .int f1, .ref h7, .ref h8, .ref h9, .ref h10])), (h40, .inl (zJ g, 64, .inr (.inl Z34))), (h5, .inr (1, [.ref h38, .ref h39, .ref h40])), (h38, .inl (zI g, 4, .inl Z32)), (h39, .inl (zI g, 4, .inl Z33))] H := hP
    have hD : va_D A [(h0, .inr (4, [.ref h1, .ref h2, .int f0, .ref h3, .ref h4, .ref h5, .ref h6, .int f1, .ref h7, .ref h8, .ref h9, .ref h10])), (h40, .inl (zJ g, 64, .inr (.inl Z34))), (h5, .inr (1, [.ref h38, .ref h39, .ref h40])), (h38, .inl (zI g, 4, .inl Z32)), (h39, .inl (zI g, 4, .inl Z33))] := hD
    refine lv_istore (lv' := [(6, .int y0), (0, .ref h0), (1, .int p1), (2, .int p2), (3, .int p3), (4, .long p4)]) hx hb dX4_item_11 hl (by decide) rfl (fun ls hl => ?_)
    refine lv_iload hx hb dX4_item_13 (lv_at hl 0 rfl) ?_
    refine lv_if_ge (tgt := 21) hx hb dX4_item_15 (by decide) (fun c_17 => absurd (show 0 ≤ y0.toInt from z_le (rfl) (rfl) c_17) (by omega)) (fun c_17 => ?_)
    have i_17 : y0.toInt < 0 := z_nle (rfl) (rfl) c_17
    refine lv_iload hx hb dX4_item_18 (lv_at hl 0 rfl) ?_
    have hP9 := hP.sub (ws' := [(h0, .inr (4, [.ref h1, .ref h2, .int f0, .ref h3, .ref h4, .ref h5, .ref h6, .int f1, .ref h7, .ref h8, .ref h9, .ref h10])), (h5, .inr (1, [.ref h38, .ref h39, .ref h40])), (h38, .inl (zI g, 4, .inl Z32)), (h39, .inl (zI g, 4, .inl Z33)), (h40, .inl (zJ g, 64, .inr (.inl Z34)))]) [0, 2, 3, 4, 1] rfl
    have hD9 := hD.sub (ws' := [(h0, .inr (4, [.ref h1, .ref h2, .int f0, .ref h3, .ref h4, .ref h5, .ref h6, .int f1, .ref h7, .ref h8, .ref h9, .ref h10])), (h5, .inr (1, [.ref h38, .ref h39, .ref h40])), (h38, .inl (zI g, 4, .inl Z32)), (h39, .inl (zI g, 4, .inl Z33)), (h40, .inl (zJ g, 64, .inr (.inl Z34)))]) [0, 2, 3, 4, 1] (by decide) rfl
    exact W.iret (v := y0) hx hb hr (fun t ht hW => ⟨⟨y0, Z34, rfl, ⟨(by first | omega | decide), (by first | omega | decide), (by first | omega | decide), (by first | omega | decide), (by first | omega | decide)⟩, by rw [ht]; exact hP9, hD9⟩, hS.F ht⟩) hS.2.2 dX4_item_20
set_option maxHeartbeats 8000000 in
set_option maxRecDepth 100000 in
theorem gX4_copy (l : Launch) (g : zG) (h0 h1 h2 h3 h4 h5 h6 h7 h8 h9 h10 h38 h39 h40 : Nat) (sz : Nat) (p1 : Int32) (p2 : Int32) (p3 : Int32) (p4 : Int32) (p5 : Int32) (f0 : Int32) (f1 : Int32) (Z32 : Nat → Int32) (Z33 : Nat → Int32) (Z34 : Nat → Int64) (hF_Z33 : iSize Z33) : Met l yX4_copy (.code yX4_copy cX4_copy 6 (some .int) :: zBig) ({ frames := 2, cells := 0, slots := 0, locals := 60 }) (va_Pc [.ref h0, .int p1, .int p2, .int p3, .int p4, .int p5] (zPre g [(h0, .inr (4, [.ref h1, .ref h2, .int f0, .ref h3, .ref h4, .ref h5, .ref h6, .int f1, .ref h7, .ref h8, .ref h9, .ref h10])), (h5, .inr (1, [.ref h38, .ref h39, .ref h40])), (h38, .inl (zI g, 4, .inl Z32)), (h39, .inl (zI g, 4, .inl Z33)), (h40, .inl (zJ g, 64, .inr (.inl Z34)))] sz)) (va_Qi (fun (r : Int32) (u : (Nat → Int64)) => (p1.toInt < 0 ∨ 3 < p1.toInt ∨ p3.toInt < 0 ∨ 3 < p3.toInt → r.toInt = -1) ∧ (0 ≤ p1.toInt → p1.toInt ≤ 3 → 0 ≤ p3.toInt → p3.toInt ≤ 3 → ((Z32 p1.toNatClampNeg).toInt < 0 ∨ (Z32 p3.toNatClampNeg).toInt < 0) → r.toInt = -11) ∧ (0 ≤ p1.toInt → p1.toInt ≤ 3 → 0 ≤ p3.toInt → p3.toInt ≤ 3 → 0 ≤ (Z32 p1.toNatClampNeg).toInt → 0 ≤ (Z32 p3.toNatClampNeg).toInt → (Z32 p1.toNatClampNeg).toInt ≠ (Z32 p3.toNatClampNeg).toInt → r.toInt = -12) ∧ (0 ≤ p1.toInt → p1.toInt ≤ 3 → 0 ≤ p3.toInt → p3.toInt ≤ 3 → 0 ≤ (Z32 p1.toNatClampNeg).toInt → (Z32 p1.toNatClampNeg).toInt = (Z32 p3.toNatClampNeg).toInt → (p5.toInt < 0 ∨ p2.toInt < 0 ∨ (Z33 p1.toNatClampNeg).toInt < p2.toInt + p5.toInt ∨ p4.toInt < 0 ∨ (Z33 p3.toNatClampNeg).toInt < p4.toInt + p5.toInt) → r.toInt = -13) ∧ (0 ≤ p1.toInt → p1.toInt ≤ 3 → 0 ≤ p3.toInt → p3.toInt ≤ 3 → 0 ≤ (Z32 p1.toNatClampNeg).toInt → (Z32 p1.toNatClampNeg).toInt = (Z32 p3.toNatClampNeg).toInt → 0 ≤ p5.toInt → 0 ≤ p2.toInt → p2.toInt + p5.toInt ≤ (Z33 p1.toNatClampNeg).toInt → 0 ≤ p4.toInt → p4.toInt + p5.toInt ≤ (Z33 p3.toNatClampNeg).toInt → r.toInt = p5.toInt)) (zPost g (fun u : (Nat → Int64) => [(h0, .inr (4, [.ref h1, .ref h2, .int f0, .ref h3, .ref h4, .ref h5, .ref h6, .int f1, .ref h7, .ref h8, .ref h9, .ref h10])), (h5, .inr (1, [.ref h38, .ref h39, .ref h40])), (h38, .inl (zI g, 4, .inl Z32)), (h39, .inl (zI g, 4, .inl Z33)), (h40, .inl (zJ g, 64, .inr (.inl u)))]) (va_A [(h0, .inr (4, [.ref h1, .ref h2, .int f0, .ref h3, .ref h4, .ref h5, .ref h6, .int f1, .ref h7, .ref h8, .ref h9, .ref h10])), (h5, .inr (1, [.ref h38, .ref h39, .ref h40])), (h38, .inl (zI g, 4, .inl Z32)), (h39, .inl (zI g, 4, .inl Z33)), (h40, .inl (zJ g, 64, .inr (.inl Z34)))] sz)) (va_A [(h0, .inr (4, [.ref h1, .ref h2, .int f0, .ref h3, .ref h4, .ref h5, .ref h6, .int f1, .ref h7, .ref h8, .ref h9, .ref h10])), (h5, .inr (1, [.ref h38, .ref h39, .ref h40])), (h38, .inl (zI g, 4, .inl Z32)), (h39, .inl (zI g, 4, .inl Z33)), (h40, .inl (zJ g, 64, .inr (.inl Z34)))] sz)) 0 0 (va_A [(h0, .inr (4, [.ref h1, .ref h2, .int f0, .ref h3, .ref h4, .ref h5, .ref h6, .int f1, .ref h7, .ref h8, .ref h9, .ref h10])), (h5, .inr (1, [.ref h38, .ref h39, .ref h40])), (h38, .inl (zI g, 4, .inl Z32)), (h39, .inl (zI g, 4, .inl Z33)), (h40, .inl (zJ g, 64, .inr (.inl Z34)))] sz) := by
  refine zMetI rfl (Nat.le_of_ble_eq_true rfl) ?_
  intro p e s m args below meth c A ls hx hb hml hr hlocks hin hown hts hK hN hZ hP hD hA hS hAe hl
  have hown : s.vm.findClass RX4 = some m.cls := hown
  have hl : lv_has ls 6 [(0, .ref h0), (1, .int p1), (2, .int p2), (3, .int p3), (4, .int p4), (5, .int p5)] := hl
  refine lv_iload_n hx hb dX4_copy_0 rfl (lv_at hl 1 rfl) ?_
  refine z_calli (wr := [(h0, .inr (4, [.ref h1, .ref h2, .int f0, .ref h3, .ref h4, .ref h5, .ref h6, .int f1, .ref h7, .ref h8, .ref h9, .ref h10])), (h5, .inr (1, [.ref h38, .ref h39, .ref h40])), (h38, .inl (zI g, 4, .inl Z32)), (h39, .inl (zI g, 4, .inl Z33)), (h40, .inl (zJ g, 64, .inr (.inl Z34)))]) hP hD hS hA [] [0, 1, 2, 3, 4] (by decide) rfl rfl (by decide) (va_runS (As := [.int p1]) (rest := []) ⟨hx, hb, hml, hown, hts⟩ (gX4_isSheet l g  s.heap.size p1) ⟨callB_of 1 hts (zGood m_o_yX4_isSheet) rfl rfl rfl (hts _ m_z_RX4) (hts _ m_m_RX4_221) ⟨by decide +kernel, by decide +kernel, by decide +kernel⟩ ⟨Nat.le_of_ble_eq_true rfl, Nat.le_of_ble_eq_true rfl⟩, hts _ m_s_yX4_isSheet⟩ (zPreS hK hN hZ hP hD hS hA [] (by decide) rfl rfl) rfl rfl hl.1 rfl (lv_room (Nat.le_of_ble_eq_true rfl)) dX4_copy_1 ⟨Nat.le_of_ble_eq_true rfl, Nat.le_of_ble_eq_true rfl⟩) (fun r u H locs hw hP hD hS => ?_)
  rcases hw with ⟨i_0, rfl⟩ | ⟨i_1, i_2, rfl⟩ | ⟨i_3, i_4, rfl⟩
  · skip
    have i_0 : p1.toInt < 0 := i_0
    have hP : va_P g.1 vwCl [(h0, .inr (4, [.ref h1, .ref h2, .int f0, .ref h3, .ref h4, .ref h5, .ref h6, .int f1, .ref h7, .ref h8, .ref h9, .ref h10])), (h5, .inr (1, [.ref h38, .ref h39, .ref h40])), (h38, .inl (zI g, 4, .inl Z32)), (h39, .inl (zI g, 4, .inl Z33)), (h40, .inl (zJ g, 64, .inr (.inl Z34)))] H := hP
    have hD : va_D A [(h0, .inr (4, [.ref h1, .ref h2, .int f0, .ref h3, .ref h4, .ref h5, .ref h6, .int f1, .ref h7, .ref h8, .ref h9, .ref h10])), (h5, .inr (1, [.ref h38, .ref h39, .ref h40])), (h38, .inl (zI g, 4, .inl Z32)), (h39, .inl (zI g, 4, .inl Z33)), (h40, .inl (zJ g, 64, .inr (.inl Z34)))] := hD
    refine lv_if_eq (tgt := 14) hx hb dX4_copy_4 (by decide) (fun _ => ?_) (fun h => absurd h (by decide +kernel))
    refine lv_iconst (v := (-1)) hx hb dX4_copy_14 (by decide) ?_
    have : ((-1) : Int32).toInt = (-1) := rfl
    have hP9 := hP.sub (ws' := [(h0, .inr (4, [.ref h1, .ref h2, .int f0, .ref h3, .ref h4, .ref h5, .ref h6, .int f1, .ref h7, .ref h8, .ref h9, .ref h10])), (h5, .inr (1, [.ref h38, .ref h39, .ref h40])), (h38, .inl (zI g, 4, .inl Z32)), (h39, .inl (zI g, 4, .inl Z33)), (h40, .inl (zJ g, 64, .inr (.inl Z34)))]) [0, 1, 2, 3, 4] rfl
    have hD9 := hD.sub (ws' := [(h0, .inr (4, [.ref h1, .ref h2, .int f0, .ref h3, .ref h4, .ref h5, .ref h6, .int f1, .ref h7, .ref h8, .ref h9, .ref h10])), (h5, .inr (1, [.ref h38, .ref h39, .ref h40])), (h38, .inl (zI g, 4, .inl Z32)), (h39, .inl (zI g, 4, .inl Z33)), (h40, .inl (zJ g, 64, .inr (.inl Z34)))]) [0, 1, 2, 3, 4] (by decide) rfl
    exact W.iret (v := (-1)) hx hb hr (fun t ht hW => ⟨⟨(-1), Z34, rfl, ⟨(by first | omega | decide), (by first | omega | decide), (by first | omega | decide), (by first | omega | decide), (by first | omega | decide)⟩, by rw [ht]; exact hP9, hD9⟩, hS.F ht⟩) hS.2.2 dX4_copy_15
  · skip
    have i_1 : 0 ≤ p1.toInt := i_1
    have i_2 : 4 ≤ p1.toInt := i_2
    have hP : va_P g.1 vwCl [(h0, .inr (4, [.ref h1, .ref h2, .int f0, .ref h3, .ref h4, .ref h5, .ref h6, .int f1, .ref h7, .ref h8, .ref h9, .ref h10])), (h5, .inr (1, [.ref h38, .ref h39, .ref h40])), (h38, .inl (zI g, 4, .inl Z32)), (h39, .inl (zI g, 4, .inl Z33)), (h40, .inl (zJ g, 64, .inr (.inl Z34)))] H := hP
    have hD : va_D A [(h0, .inr (4, [.ref h1, .ref h2, .int f0, .ref h3, .ref h4, .ref h5, .ref h6, .int f1, .ref h7, .ref h8, .ref h9, .ref h10])), (h5, .inr (1, [.ref h38, .ref h39, .ref h40])), (h38, .inl (zI g, 4, .inl Z32)), (h39, .inl (zI g, 4, .inl Z33)), (h40, .inl (zJ g, 64, .inr (.inl Z34)))] := hD
    refine lv_if_eq (tgt := 14) hx hb dX4_copy_4 (by decide) (fun _ => ?_) (fun h => absurd h (by decide +kernel))
    refine lv_iconst (v := (-1)) hx hb dX4_copy_14 (by decide) ?_
    have : ((-1) : Int32).toInt = (-1) := rfl
    have hP9 := hP.sub (ws' := [(h0, .inr (4, [.ref h1, .ref h2, .int f0, .ref h3, .ref h4, .ref h5, .ref h6, .int f1, .ref h7, .ref h8, .ref h9, .ref h10])), (h5, .inr (1, [.ref h38, .ref h39, .ref h40])), (h38, .inl (zI g, 4, .inl Z32)), (h39, .inl (zI g, 4, .inl Z33)), (h40, .inl (zJ g, 64, .inr (.inl Z34)))]) [0, 1, 2, 3, 4] rfl
    have hD9 := hD.sub (ws' := [(h0, .inr (4, [.ref h1, .ref h2, .int f0, .ref h3, .ref h4, .ref h5, .ref h6, .int f1, .ref h7, .ref h8, .ref h9, .ref h10])), (h5, .inr (1, [.ref h38, .ref h39, .ref h40])), (h38, .inl (zI g, 4, .inl Z32)), (h39, .inl (zI g, 4, .inl Z33)), (h40, .inl (zJ g, 64, .inr (.inl Z34)))]) [0, 1, 2, 3, 4] (by decide) rfl
    exact W.iret (v := (-1)) hx hb hr (fun t ht hW => ⟨⟨(-1), Z34, rfl, ⟨(by first | omega | decide), (by first | omega | decide), (by first | omega | decide), (by first | omega | decide), (by first | omega | decide)⟩, by rw [ht]; exact hP9, hD9⟩, hS.F ht⟩) hS.2.2 dX4_copy_15
  · skip
    have i_3 : 0 ≤ p1.toInt := i_3
    have i_4 : p1.toInt < 4 := i_4
    have hP : va_P g.1 vwCl [(h0, .inr (4, [.ref h1, .ref h2, .int f0, .ref h3, .ref h4, .ref h5, .ref h6, .int f1, .ref h7, .ref h8, .ref h9, .ref h10])), (h5, .inr (1, [.ref h38, .ref h39, .ref h40])), (h38, .inl (zI g, 4, .inl Z32)), (h39, .inl (zI g, 4, .inl Z33)), (h40, .inl (zJ g, 64, .inr (.inl Z34)))] H := hP
    have hD : va_D A [(h0, .inr (4, [.ref h1, .ref h2, .int f0, .ref h3, .ref h4, .ref h5, .ref h6, .int f1, .ref h7, .ref h8, .ref h9, .ref h10])), (h5, .inr (1, [.ref h38, .ref h39, .ref h40])), (h38, .inl (zI g, 4, .inl Z32)), (h39, .inl (zI g, 4, .inl Z33)), (h40, .inl (zJ g, 64, .inr (.inl Z34)))] := hD
    refine lv_if_eq (tgt := 14) hx hb dX4_copy_4 (by decide) (fun h => absurd h (by decide +kernel)) (fun _ => ?_)
    refine lv_iload_n hx hb dX4_copy_7 rfl (lv_at hl 3 rfl) ?_
    refine z_calli (wr := [(h0, .inr (4, [.ref h1, .ref h2, .int f0, .ref h3, .ref h4, .ref h5, .ref h6, .int f1, .ref h7, .ref h8, .ref h9, .ref h10])), (h5, .inr (1, [.ref h38, .ref h39, .ref h40])), (h38, .inl (zI g, 4, .inl Z32)), (h39, .inl (zI g, 4, .inl Z33)), (h40, .inl (zJ g, 64, .inr (.inl Z34)))]) hP hD hS hA [] [0, 1, 2, 3, 4] (by decide) rfl rfl (by decide) (va_runS (As := [.int p3]) (rest := []) ⟨hx, hb, hml, hown, hts⟩ (gX4_isSheet l g  H.size p3) ⟨callB_of 1 hts (zGood m_o_yX4_isSheet) rfl rfl rfl (hts _ m_z_RX4) (hts _ m_m_RX4_221) ⟨by decide +kernel, by decide +kernel, by decide +kernel⟩ ⟨Nat.le_of_ble_eq_true rfl, Nat.le_of_ble_eq_true rfl⟩, hts _ m_s_yX4_isSheet⟩ (zPreS hK hN hZ hP hD hS hA [] (by decide) rfl rfl) rfl rfl hl.1 rfl (lv_room (Nat.le_of_ble_eq_true rfl)) dX4_copy_8 ⟨Nat.le_of_ble_eq_true rfl, Nat.le_of_ble_eq_true rfl⟩) (fun r u H locs hw hP hD hS => ?_)
    rcases hw with ⟨i_5, rfl⟩ | ⟨i_6, i_7, rfl⟩ | ⟨i_8, i_9, rfl⟩
    · skip
      have i_5 : p3.toInt < 0 := i_5
      have hP : va_P g.1 vwCl [(h0, .inr (4, [.ref h1, .ref h2, .int f0, .ref h3, .ref h4, .ref h5, .ref h6, .int f1, .ref h7, .ref h8, .ref h9, .ref h10])), (h5, .inr (1, [.ref h38, .ref h39, .ref h40])), (h38, .inl (zI g, 4, .inl Z32)), (h39, .inl (zI g, 4, .inl Z33)), (h40, .inl (zJ g, 64, .inr (.inl Z34)))] H := hP
      have hD : va_D A [(h0, .inr (4, [.ref h1, .ref h2, .int f0, .ref h3, .ref h4, .ref h5, .ref h6, .int f1, .ref h7, .ref h8, .ref h9, .ref h10])), (h5, .inr (1, [.ref h38, .ref h39, .ref h40])), (h38, .inl (zI g, 4, .inl Z32)), (h39, .inl (zI g, 4, .inl Z33)), (h40, .inl (zJ g, 64, .inr (.inl Z34)))] := hD
      refine lv_if_ne (tgt := 16) hx hb dX4_copy_11 (by decide) (fun h => absurd h (by decide +kernel)) (fun _ => ?_)
      refine lv_iconst (v := (-1)) hx hb dX4_copy_14 (by decide) ?_
      have : ((-1) : Int32).toInt = (-1) := rfl
      have hP9 := hP.sub (ws' := [(h0, .inr (4, [.ref h1, .ref h2, .int f0, .ref h3, .ref h4, .ref h5, .ref h6, .int f1, .ref h7, .ref h8, .ref h9, .ref h10])), (h5, .inr (1, [.ref h38, .ref h39, .ref h40])), (h38, .inl (zI g, 4, .inl Z32)), (h39, .inl (zI g, 4, .inl Z33)), (h40, .inl (zJ g, 64, .inr (.inl Z34)))]) [0, 1, 2, 3, 4] rfl
      have hD9 := hD.sub (ws' := [(h0, .inr (4, [.ref h1, .ref h2, .int f0, .ref h3, .ref h4, .ref h5, .ref h6, .int f1, .ref h7, .ref h8, .ref h9, .ref h10])), (h5, .inr (1, [.ref h38, .ref h39, .ref h40])), (h38, .inl (zI g, 4, .inl Z32)), (h39, .inl (zI g, 4, .inl Z33)), (h40, .inl (zJ g, 64, .inr (.inl Z34)))]) [0, 1, 2, 3, 4] (by decide) rfl
      exact W.iret (v := (-1)) hx hb hr (fun t ht hW => ⟨⟨(-1), Z34, rfl, ⟨(by first | omega | decide), (by first | omega | decide), (by first | omega | decide), (by first | omega | decide), (by first | omega | decide)⟩, by rw [ht]; exact hP9, hD9⟩, hS.F ht⟩) hS.2.2 dX4_copy_15
    · skip
      have i_6 : 0 ≤ p3.toInt := i_6
      have i_7 : 4 ≤ p3.toInt := i_7
      have hP : va_P g.1 vwCl [(h0, .inr (4, [.ref h1, .ref h2, .int f0, .ref h3, .ref h4, .ref h5, .ref h6, .int f1, .ref h7, .ref h8, .ref h9, .ref h10])), (h5, .inr (1, [.ref h38, .ref h39, .ref h40])), (h38, .inl (zI g, 4, .inl Z32)), (h39, .inl (zI g, 4, .inl Z33)), (h40, .inl (zJ g, 64, .inr (.inl Z34)))] H := hP
      have hD : va_D A [(h0, .inr (4, [.ref h1, .ref h2, .int f0, .ref h3, .ref h4, .ref h5, .ref h6, .int f1, .ref h7, .ref h8, .ref h9, .ref h10])), (h5, .inr (1, [.ref h38, .ref h39, .ref h40])), (h38, .inl (zI g, 4, .inl Z32)), (h39, .inl (zI g, 4, .inl Z33)), (h40, .inl (zJ g, 64, .inr (.inl Z34)))] := hD
      refine lv_if_ne (tgt := 16) hx hb dX4_copy_11 (by decide) (fun h => absurd h (by decide +kernel)) (fun _ => ?_)
      refine lv_iconst (v := (-1)) hx hb dX4_copy_14 (by decide) ?_
      have : ((-1) : Int32).toInt = (-1) := rfl
      have hP9 := hP.sub (ws' := [(h0, .inr (4, [.ref h1, .ref h2, .int f0, .ref h3, .ref h4, .ref h5, .ref h6, .int f1, .ref h7, .ref h8, .ref h9, .ref h10])), (h5, .inr (1, [.ref h38, .ref h39, .ref h40])), (h38, .inl (zI g, 4, .inl Z32)), (h39, .inl (zI g, 4, .inl Z33)), (h40, .inl (zJ g, 64, .inr (.inl Z34)))]) [0, 1, 2, 3, 4] rfl
      have hD9 := hD.sub (ws' := [(h0, .inr (4, [.ref h1, .ref h2, .int f0, .ref h3, .ref h4, .ref h5, .ref h6, .int f1, .ref h7, .ref h8, .ref h9, .ref h10])), (h5, .inr (1, [.ref h38, .ref h39, .ref h40])), (h38, .inl (zI g, 4, .inl Z32)), (h39, .inl (zI g, 4, .inl Z33)), (h40, .inl (zJ g, 64, .inr (.inl Z34)))]) [0, 1, 2, 3, 4] (by decide) rfl
      exact W.iret (v := (-1)) hx hb hr (fun t ht hW => ⟨⟨(-1), Z34, rfl, ⟨(by first | omega | decide), (by first | omega | decide), (by first | omega | decide), (by first | omega | decide), (by first | omega | decide)⟩, by rw [ht]; exact hP9, hD9⟩, hS.F ht⟩) hS.2.2 dX4_copy_15
    · skip
      have i_8 : 0 ≤ p3.toInt := i_8
      have i_9 : p3.toInt < 4 := i_9
      have hP : va_P g.1 vwCl [(h0, .inr (4, [.ref h1, .ref h2, .int f0, .ref h3, .ref h4, .ref h5, .ref h6, .int f1, .ref h7, .ref h8, .ref h9, .ref h10])), (h5, .inr (1, [.ref h38, .ref h39, .ref h40])), (h38, .inl (zI g, 4, .inl Z32)), (h39, .inl (zI g, 4, .inl Z33)), (h40, .inl (zJ g, 64, .inr (.inl Z34)))] H := hP
      have hD : va_D A [(h0, .inr (4, [.ref h1, .ref h2, .int f0, .ref h3, .ref h4, .ref h5, .ref h6, .int f1, .ref h7, .ref h8, .ref h9, .ref h10])), (h5, .inr (1, [.ref h38, .ref h39, .ref h40])), (h38, .inl (zI g, 4, .inl Z32)), (h39, .inl (zI g, 4, .inl Z33)), (h40, .inl (zJ g, 64, .inr (.inl Z34)))] := hD
      refine lv_if_ne (tgt := 16) hx hb dX4_copy_11 (by decide) (fun _ => ?_) (fun h => absurd h (by decide +kernel))
      refine lv_aload_n hx hb dX4_copy_16 rfl (lv_at hl 0 rfl) ?_
      refine va_get (D := g.1) (ci := 4) (v := .ref h5) (C := RX4) (T := TX4) (N := 12) hx hb hts zl_X4 hown hK hP 0 rfl rfl 5 (by decide) (hts _ m_f_RX4_40) (fun _ h => h) rfl dX4_copy_17 ?_
      refine va_getN (D := g.1) (ci := 1) (v := .ref h38) (C := RX1) (T := TX1) (N := 3) hx hb hts zl_X1 hown hK hP 1 rfl rfl 0 (by decide) (hN.f 27 (q := (RX4, 231, "FishSteps$Sheets", "lane", "[I")) rfl) (fun _ h => h) rfl dX4_copy_20 ?_
      refine lv_iload_n hx hb dX4_copy_23 rfl (lv_at hl 1 rfl) ?_
      refine va_iald (D := g.1) hx hb hK hP 2 0 rfl rfl (vp_in_iff.mpr ⟨by omega, by omega⟩) dX4_copy_24 ?_
      refine lv_topi (fun y0 ey0 => ?_)
      have qy0_0 : y0.toInt = (Z32 p1.toNatClampNeg).toInt := congrArg Int32.toInt ey0
      refine lv_if_lt (tgt := 40) hx hb dX4_copy_25 (by decide) (fun c_10 => ?_) (fun c_10 => ?_)
      · have i_10 : y0.toInt < 0 := z_lt (rfl) (rfl) c_10
        refine lv_bipush (v := (-11)) hx hb dX4_copy_40 (by decide) ?_
        have : ((-11) : Int32).toInt = (-11) := rfl
        have hP9 := hP.sub (ws' := [(h0, .inr (4, [.ref h1, .ref h2, .int f0, .ref h3, .ref h4, .ref h5, .ref h6, .int f1, .ref h7, .ref h8, .ref h9, .ref h10])), (h5, .inr (1, [.ref h38, .ref h39, .ref h40])), (h38, .inl (zI g, 4, .inl Z32)), (h39, .inl (zI g, 4, .inl Z33)), (h40, .inl (zJ g, 64, .inr (.inl Z34)))]) [0, 1, 2, 3, 4] rfl
        have hD9 := hD.sub (ws' := [(h0, .inr (4, [.ref h1, .ref h2, .int f0, .ref h3, .ref h4, .ref h5, .ref h6, .int f1, .ref h7, .ref h8, .ref h9, .ref h10])), (h5, .inr (1, [.ref h38, .ref h39, .ref h40])), (h38, .inl (zI g, 4, .inl Z32)), (h39, .inl (zI g, 4, .inl Z33)), (h40, .inl (zJ g, 64, .inr (.inl Z34)))]) [0, 1, 2, 3, 4] (by decide) rfl
        exact W.iret (v := (-11)) hx hb hr (fun t ht hW => ⟨⟨(-11), Z34, rfl, ⟨(by first | omega | decide), (by first | omega | decide), (by first | omega | decide), (by first | omega | decide), (by first | omega | decide)⟩, by rw [ht]; exact hP9, hD9⟩, hS.F ht⟩) hS.2.2 dX4_copy_42
      · have i_10 : 0 ≤ y0.toInt := z_nlt (rfl) (rfl) c_10
        refine lv_aload_n hx hb dX4_copy_28 rfl (lv_at hl 0 rfl) ?_
        refine va_get (D := g.1) (ci := 4) (v := .ref h5) (C := RX4) (T := TX4) (N := 12) hx hb hts zl_X4 hown hK hP 0 rfl rfl 5 (by decide) (hts _ m_f_RX4_40) (fun _ h => h) rfl dX4_copy_29 ?_
        refine va_getN (D := g.1) (ci := 1) (v := .ref h38) (C := RX1) (T := TX1) (N := 3) hx hb hts zl_X1 hown hK hP 1 rfl rfl 0 (by decide) (hN.f 27 (q := (RX4, 231, "FishSteps$Sheets", "lane", "[I")) rfl) (fun _ h => h) rfl dX4_copy_32 ?_
        refine lv_iload_n hx hb dX4_copy_35 rfl (lv_at hl 3 rfl) ?_
        refine va_iald (D := g.1) hx hb hK hP 2 0 rfl rfl (vp_in_iff.mpr ⟨by omega, by omega⟩) dX4_copy_36 ?_
        refine lv_topi (fun y1 ey1 => ?_)
        have qy1_0 : y1.toInt = (Z32 p3.toNatClampNeg).toInt := congrArg Int32.toInt ey1
        refine lv_if_ge (tgt := 43) hx hb dX4_copy_37 (by decide) (fun c_11 => ?_) (fun c_11 => ?_)
        · have i_11 : 0 ≤ y1.toInt := z_le (rfl) (rfl) c_11
          refine lv_aload_n hx hb dX4_copy_43 rfl (lv_at hl 0 rfl) ?_
          refine va_get (D := g.1) (ci := 4) (v := .ref h5) (C := RX4) (T := TX4) (N := 12) hx hb hts zl_X4 hown hK hP 0 rfl rfl 5 (by decide) (hts _ m_f_RX4_40) (fun _ h => h) rfl dX4_copy_44 ?_
          refine va_getN (D := g.1) (ci := 1) (v := .ref h38) (C := RX1) (T := TX1) (N := 3) hx hb hts zl_X1 hown hK hP 1 rfl rfl 0 (by decide) (hN.f 27 (q := (RX4, 231, "FishSteps$Sheets", "lane", "[I")) rfl) (fun _ h => h) rfl dX4_copy_47 ?_
          refine lv_iload_n hx hb dX4_copy_50 rfl (lv_at hl 1 rfl) ?_
          refine va_iald (D := g.1) hx hb hK hP 2 0 rfl rfl (vp_in_iff.mpr ⟨by omega, by omega⟩) dX4_copy_51 ?_
          refine lv_topi (fun y2 ey2 => ?_)
          have qy2_0 : y2.toInt = (Z32 p1.toNatClampNeg).toInt := congrArg Int32.toInt ey2
          refine lv_aload_n hx hb dX4_copy_52 rfl (lv_at hl 0 rfl) ?_
          refine va_get (D := g.1) (ci := 4) (v := .ref h5) (C := RX4) (T := TX4) (N := 12) hx hb hts zl_X4 hown hK hP 0 rfl rfl 5 (by decide) (hts _ m_f_RX4_40) (fun _ h => h) rfl dX4_copy_53 ?_
          refine va_getN (D := g.1) (ci := 1) (v := .ref h38) (C := RX1) (T := TX1) (N := 3) hx hb hts zl_X1 hown hK hP 1 rfl rfl 0 (by decide) (hN.f 27 (q := (RX4, 231, "FishSteps$Sheets", "lane", "[I")) rfl) (fun _ h => h) rfl dX4_copy_56 ?_
          refine lv_iload_n hx hb dX4_copy_59 rfl (lv_at hl 3 rfl) ?_
          refine va_iald (D := g.1) hx hb hK hP 2 0 rfl rfl (vp_in_iff.mpr ⟨by omega, by omega⟩) dX4_copy_60 ?_
          refine lv_topi (fun y3 ey3 => ?_)
          have qy3_0 : y3.toInt = (Z32 p3.toNatClampNeg).toInt := congrArg Int32.toInt ey3
          refine lv_icmp_eq (tgt := 67) hx hb dX4_copy_61 (by decide) (fun c_12 => ?_) (fun c_12 => ?_)
          · have i_12 : y2.toInt = y3.toInt := z_eq (rfl) (rfl) c_12
            refine lv_aload_n hx hb dX4_copy_67 rfl (lv_at hl 0 rfl) ?_
            refine va_get (D := g.1) (ci := 4) (v := .ref h5) (C := RX4) (T := TX4) (N := 12) hx hb hts zl_X4 hown hK hP 0 rfl rfl 5 (by decide) (hts _ m_f_RX4_40) (fun _ h => h) rfl dX4_copy_68 ?_
            refine lv_iload_n hx hb dX4_copy_71 rfl (lv_at hl 1 rfl) ?_
            refine lv_iload_n hx hb dX4_copy_72 rfl (lv_at hl 2 rfl) ?_
            refine lv_iload hx hb dX4_copy_73 (lv_at hl 5 rfl) ?_
            refine z_calli (wr := [(h0, .inr (4, [.ref h1, .ref h2, .int f0, .ref h3, .ref h4, .ref h5, .ref h6, .int f1, .ref h7, .ref h8, .ref h9, .ref h10])), (h38, .inl (zI g, 4, .inl Z32)), (h40, .inl (zJ g, 64, .inr (.inl Z34)))]) hP hD hS hA [1, 3] [0, 2, 4] (by decide) rfl rfl (by decide) (va_runVN (As := [.int p1, .int p2, .int p5]) (rest := []) ⟨hx, hb, hml, hown, hts⟩ (gX1_holds l g h5 h38 h39 h40 H.size p1 p2 p5 Z33 hF_Z33) ⟨va_cnB 3 hts (zGood m_o_yX1_holds) rfl rfl rfl (hN.m 34 (q := (RX4, 237, yX1_holds)) rfl) (hts _ m_z_RX1) ⟨by decide +kernel, by decide +kernel, by decide +kernel⟩ ⟨Nat.le_of_ble_eq_true rfl, Nat.le_of_ble_eq_true rfl⟩, hts _ m_i_yX1_holds, hts _ m_e_yX1_holds⟩ (zPreV hK hN hZ hP hD hS hA [1, 3] (by decide) rfl rfl 1 1 rfl rfl) rfl rfl hl.1 rfl (lv_room (Nat.le_of_ble_eq_true rfl)) dX4_copy_75 ⟨Nat.le_of_ble_eq_true rfl, Nat.le_of_ble_eq_true rfl⟩) (fun r u H locs hw hP hD hS => ?_)
            rcases hw with ⟨i_13, i_14, i_15, i_16, i_17, i_18, i_19, i_20, rfl⟩ | ⟨i_21, rfl⟩
            · skip
              have i_13 : 0 ≤ p1.toInt := i_13
              have i_14 : p1.toInt ≤ 3 := i_14
              have i_15 : 0 ≤ p5.toInt := i_15
              have i_16 : p5.toInt ≤ 16 := i_16
              have i_17 : 0 ≤ p2.toInt := i_17
              have i_18 : p2.toInt ≤ 16 := i_18
              have i_19 : p2.toInt + p5.toInt ≤ 16 := i_19
              have i_20 : p2.toInt + p5.toInt ≤ (Z33 p1.toNatClampNeg).toInt := i_20
              have hP : va_P g.1 vwCl [(h0, .inr (4, [.ref h1, .ref h2, .int f0, .ref h3, .ref h4, .ref h5, .ref h6, .int f1, .ref h7, .ref h8, .ref h9, .ref h10])), (h38, .inl (zI g, 4, .inl Z32)), (h40, .inl (zJ g, 64, .inr (.inl Z34))), (h5, .inr (1, [.ref h38, .ref h39, .ref h40])), (h39, .inl (zI g, 4, .inl Z33))] H := hP
              have hD : va_D A [(h0, .inr (4, [.ref h1, .ref h2, .int f0, .ref h3, .ref h4, .ref h5, .ref h6, .int f1, .ref h7, .ref h8, .ref h9, .ref h10])), (h38, .inl (zI g, 4, .inl Z32)), (h40, .inl (zJ g, 64, .inr (.inl Z34))), (h5, .inr (1, [.ref h38, .ref h39, .ref h40])), (h39, .inl (zI g, 4, .inl Z33))] := hD
              refine lv_if_eq (tgt := 96) hx hb dX4_copy_78 (by decide) (fun h => absurd h (by decide +kernel)) (fun _ => ?_)
              refine lv_aload_n hx hb dX4_copy_81 rfl (lv_at hl 0 rfl) ?_
              refine va_get (D := g.1) (ci := 4) (v := .ref h5) (C := RX4) (T := TX4) (N := 12) hx hb hts zl_X4 hown hK hP 0 rfl rfl 5 (by decide) (hts _ m_f_RX4_40) (fun _ h => h) rfl dX4_copy_82 ?_
              refine lv_iload_n hx hb dX4_copy_85 rfl (lv_at hl 3 rfl) ?_
              refine lv_iload hx hb dX4_copy_86 (lv_at hl 4 rfl) ?_
              refine lv_iload hx hb dX4_copy_88 (lv_at hl 5 rfl) ?_
              refine z_calli (wr := [(h0, .inr (4, [.ref h1, .ref h2, .int f0, .ref h3, .ref h4, .ref h5, .ref h6, .int f1, .ref h7, .ref h8, .ref h9, .ref h10])), (h38, .inl (zI g, 4, .inl Z32)), (h40, .inl (zJ g, 64, .inr (.inl Z34)))]) hP hD hS hA [3, 4] [0, 1, 2] (by decide) rfl rfl (by decide) (va_runVN (As := [.int p3, .int p4, .int p5]) (rest := []) ⟨hx, hb, hml, hown, hts⟩ (gX1_holds l g h5 h38 h39 h40 H.size p3 p4 p5 Z33 hF_Z33) ⟨va_cnB 3 hts (zGood m_o_yX1_holds) rfl rfl rfl (hN.m 34 (q := (RX4, 237, yX1_holds)) rfl) (hts _ m_z_RX1) ⟨by decide +kernel, by decide +kernel, by decide +kernel⟩ ⟨Nat.le_of_ble_eq_true rfl, Nat.le_of_ble_eq_true rfl⟩, hts _ m_i_yX1_holds, hts _ m_e_yX1_holds⟩ (zPreV hK hN hZ hP hD hS hA [3, 4] (by decide) rfl rfl 1 3 rfl rfl) rfl rfl hl.1 rfl (lv_room (Nat.le_of_ble_eq_true rfl)) dX4_copy_90 ⟨Nat.le_of_ble_eq_true rfl, Nat.le_of_ble_eq_true rfl⟩) (fun r u H locs hw hP hD hS => ?_)
              rcases hw with ⟨i_22, i_23, i_24, i_25, i_26, i_27, i_28, i_29, rfl⟩ | ⟨i_30, rfl⟩
              · skip
                have i_22 : 0 ≤ p3.toInt := i_22
                have i_23 : p3.toInt ≤ 3 := i_23
                have i_24 : 0 ≤ p5.toInt := i_24
                have i_25 : p5.toInt ≤ 16 := i_25
                have i_26 : 0 ≤ p4.toInt := i_26
                have i_27 : p4.toInt ≤ 16 := i_27
                have i_28 : p4.toInt + p5.toInt ≤ 16 := i_28
                have i_29 : p4.toInt + p5.toInt ≤ (Z33 p3.toNatClampNeg).toInt := i_29
                have hP : va_P g.1 vwCl [(h0, .inr (4, [.ref h1, .ref h2, .int f0, .ref h3, .ref h4, .ref h5, .ref h6, .int f1, .ref h7, .ref h8, .ref h9, .ref h10])), (h38, .inl (zI g, 4, .inl Z32)), (h40, .inl (zJ g, 64, .inr (.inl Z34))), (h5, .inr (1, [.ref h38, .ref h39, .ref h40])), (h39, .inl (zI g, 4, .inl Z33))] H := hP
                have hD : va_D A [(h0, .inr (4, [.ref h1, .ref h2, .int f0, .ref h3, .ref h4, .ref h5, .ref h6, .int f1, .ref h7, .ref h8, .ref h9, .ref h10])), (h38, .inl (zI g, 4, .inl Z32)), (h40, .inl (zJ g, 64, .inr (.inl Z34))), (h5, .inr (1, [.ref h38, .ref h39, .ref h40])), (h39, .inl (zI g, 4, .inl Z33))] := hD
                refine lv_if_ne (tgt := 99) hx hb dX4_copy_93 (by decide) (fun _ => ?_) (fun h => absurd h (by decide +kernel))
                refine lv_aload_n hx hb dX4_copy_99 rfl (lv_at hl 0 rfl) ?_
                refine va_get (D := g.1) (ci := 4) (v := .ref h5) (C := RX4) (T := TX4) (N := 12) hx hb hts zl_X4 hown hK hP 0 rfl rfl 5 (by decide) (hts _ m_f_RX4_40) (fun _ h => h) rfl dX4_copy_100 ?_
                refine va_getN (D := g.1) (ci := 1) (v := .ref h40) (C := RX1) (T := TX1) (N := 3) hx hb hts zl_X1 hown hK hP 3 rfl rfl 2 (by decide) (hN.f 29 (q := (RX4, 241, "FishSteps$Sheets", "items", "[J")) rfl) (fun _ h => h) rfl dX4_copy_103 ?_
                refine lv_iload_n hx hb dX4_copy_106 rfl (lv_at hl 1 rfl) ?_
                refine lv_bipush (v := 16) hx hb dX4_copy_107 (by decide) ?_
                refine lv_imul hx hb dX4_copy_109 ?_
                refine lv_topi (fun y4 ey4 => ?_)
                have qy4_0 : y4.toInt = p1.toInt * 16 := zi_mul ey4 (rfl) (rfl) (by omega) (by omega)
                refine lv_iload_n hx hb dX4_copy_110 rfl (lv_at hl 2 rfl) ?_
                refine lv_iadd hx hb dX4_copy_111 ?_
                refine lv_topi (fun y5 ey5 => ?_)
                have qy5_0 : y5.toInt = y4.toInt + p2.toInt := zi_add ey5 (rfl) (rfl) (by omega) (by omega)
                refine lv_aload_n hx hb dX4_copy_112 rfl (lv_at hl 0 rfl) ?_
                refine va_get (D := g.1) (ci := 4) (v := .ref h5) (C := RX4) (T := TX4) (N := 12) hx hb hts zl_X4 hown hK hP 0 rfl rfl 5 (by decide) (hts _ m_f_RX4_40) (fun _ h => h) rfl dX4_copy_113 ?_
                refine va_getN (D := g.1) (ci := 1) (v := .ref h40) (C := RX1) (T := TX1) (N := 3) hx hb hts zl_X1 hown hK hP 3 rfl rfl 2 (by decide) (hN.f 29 (q := (RX4, 241, "FishSteps$Sheets", "items", "[J")) rfl) (fun _ h => h) rfl dX4_copy_116 ?_
                refine lv_iload_n hx hb dX4_copy_119 rfl (lv_at hl 3 rfl) ?_
                refine lv_bipush (v := 16) hx hb dX4_copy_120 (by decide) ?_
                refine lv_imul hx hb dX4_copy_122 ?_
                refine lv_topi (fun y6 ey6 => ?_)
                have qy6_0 : y6.toInt = p3.toInt * 16 := zi_mul ey6 (rfl) (rfl) (by omega) (by omega)
                refine lv_iload hx hb dX4_copy_123 (lv_at hl 4 rfl) ?_
                refine lv_iadd hx hb dX4_copy_125 ?_
                refine lv_topi (fun y7 ey7 => ?_)
                have qy7_0 : y7.toInt = y6.toInt + p4.toInt := zi_add ey7 (rfl) (rfl) (by omega) (by omega)
                refine lv_iload hx hb dX4_copy_126 (lv_at hl 5 rfl) ?_
                refine va_copyl (D := g.1) (ty := .long) (sp := y5) (dp := y7) (n := p5) hx hb (hml.trans hl.1.symm) hown (hts _ m_m_RX4_116) (hts _ m_n_arraycopyName) (hts _ m_s_arraycopyName) (hts _ m_z_RJ10) hK hP hD hS 2 2 1 1 rfl rfl rfl rfl rfl (z_nn (rfl) (by omega)) (z_nn (rfl) (by omega)) (z_nn (rfl) (by omega)) (z_le2 (rfl) (rfl) (by omega) (by omega) (by omega)) (z_le2 (rfl) (rfl) (by omega) (by omega) (by omega)) (fun _ _ => rfl) (Nat.le_of_ble_eq_true rfl) (Nat.le_of_ble_eq_true rfl) dX4_copy_128 (fun H locs hP hD hS => ?_)
                have hP : va_P g.1 vwCl [(h0, .inr (4, [.ref h1, .ref h2, .int f0, .ref h3, .ref h4, .ref h5, .ref h6, .int f1, .ref h7, .ref h8, .ref h9, .ref h10])), (h38, .inl (zI g, 4, .inl Z32)), (h40, .inl (zJ g, 64, .inr (.inl (va_cpy Z34 Z34 y5.toNatClampNeg y7.toNatClampNeg p5.toNatClampNeg)))), (h5, .inr (1, [.ref h38, .ref h39, .ref h40])), (h39, .inl (zI g, 4, .inl Z33))] H := hP
                have hD : va_D A [(h0, .inr (4, [.ref h1, .ref h2, .int f0, .ref h3, .ref h4, .ref h5, .ref h6, .int f1, .ref h7, .ref h8, .ref h9, .ref h10])), (h38, .inl (zI g, 4, .inl Z32)), (h40, .inl (zJ g, 64, .inr (.inl (va_cpy Z34 Z34 y5.toNatClampNeg y7.toNatClampNeg p5.toNatClampNeg)))), (h5, .inr (1, [.ref h38, .ref h39, .ref h40])), (h39, .inl (zI g, 4, .inl Z33))] := hD
                obtain ⟨R8, eR8⟩ : ∃ z : Nat → Int64, z = (va_cpy Z34 Z34 y5.toNatClampNeg y7.toNatClampNeg p5.toNatClampNeg) := ⟨_, rfl⟩
                rw [← eR8] at hP hD
                refine lv_iload hx hb dX4_copy_131 (lv_at hl 5 rfl) ?_
                have hP9 := hP.sub (ws' := [(h0, .inr (4, [.ref h1, .ref h2, .int f0, .ref h3, .ref h4, .ref h5, .ref h6, .int f1, .ref h7, .ref h8, .ref h9, .ref h10])), (h5, .inr (1, [.ref h38, .ref h39, .ref h40])), (h38, .inl (zI g, 4, .inl Z32)), (h39, .inl (zI g, 4, .inl Z33)), (h40, .inl (zJ g, 64, .inr (.inl R8)))]) [0, 3, 1, 4, 2] rfl
                have hD9 := hD.sub (ws' := [(h0, .inr (4, [.ref h1, .ref h2, .int f0, .ref h3, .ref h4, .ref h5, .ref h6, .int f1, .ref h7, .ref h8, .ref h9, .ref h10])), (h5, .inr (1, [.ref h38, .ref h39, .ref h40])), (h38, .inl (zI g, 4, .inl Z32)), (h39, .inl (zI g, 4, .inl Z33)), (h40, .inl (zJ g, 64, .inr (.inl R8)))]) [0, 3, 1, 4, 2] (by decide) rfl
                exact W.iret (v := p5) hx hb hr (fun t ht hW => ⟨⟨p5, R8, rfl, ⟨(by first | omega | decide), (by first | omega | decide), (by first | omega | decide), (by first | omega | decide), (by first | omega | decide)⟩, by rw [ht]; exact hP9, hD9⟩, hS.F ht⟩) hS.2.2 dX4_copy_133
              · skip
                have i_30 : (p3.toInt < 0 ∨ 3 < p3.toInt ∨ p5.toInt < 0 ∨ p4.toInt < 0 ∨ (Z33 p3.toNatClampNeg).toInt < p4.toInt + p5.toInt) := i_30
                have hP : va_P g.1 vwCl [(h0, .inr (4, [.ref h1, .ref h2, .int f0, .ref h3, .ref h4, .ref h5, .ref h6, .int f1, .ref h7, .ref h8, .ref h9, .ref h10])), (h38, .inl (zI g, 4, .inl Z32)), (h40, .inl (zJ g, 64, .inr (.inl Z34))), (h5, .inr (1, [.ref h38, .ref h39, .ref h40])), (h39, .inl (zI g, 4, .inl Z33))] H := hP
                have hD : va_D A [(h0, .inr (4, [.ref h1, .ref h2, .int f0, .ref h3, .ref h4, .ref h5, .ref h6, .int f1, .ref h7, .ref h8, .ref h9, .ref h10])), (h38, .inl (zI g, 4, .inl Z32)), (h40, .inl (zJ g, 64, .inr (.inl Z34))), (h5, .inr (1, [.ref h38, .ref h39, .ref h40])), (h39, .inl (zI g, 4, .inl Z33))] := hD
                refine lv_if_ne (tgt := 99) hx hb dX4_copy_93 (by decide) (fun h => absurd h (by decide +kernel)) (fun _ => ?_)
                refine lv_bipush (v := (-13)) hx hb dX4_copy_96 (by decide) ?_
                have : ((-13) : Int32).toInt = (-13) := rfl
                have hP9 := hP.sub (ws' := [(h0, .inr (4, [.ref h1, .ref h2, .int f0, .ref h3, .ref h4, .ref h5, .ref h6, .int f1, .ref h7, .ref h8, .ref h9, .ref h10])), (h5, .inr (1, [.ref h38, .ref h39, .ref h40])), (h38, .inl (zI g, 4, .inl Z32)), (h39, .inl (zI g, 4, .inl Z33)), (h40, .inl (zJ g, 64, .inr (.inl Z34)))]) [0, 3, 1, 4, 2] rfl
                have hD9 := hD.sub (ws' := [(h0, .inr (4, [.ref h1, .ref h2, .int f0, .ref h3, .ref h4, .ref h5, .ref h6, .int f1, .ref h7, .ref h8, .ref h9, .ref h10])), (h5, .inr (1, [.ref h38, .ref h39, .ref h40])), (h38, .inl (zI g, 4, .inl Z32)), (h39, .inl (zI g, 4, .inl Z33)), (h40, .inl (zJ g, 64, .inr (.inl Z34)))]) [0, 3, 1, 4, 2] (by decide) rfl
                exact W.iret (v := (-13)) hx hb hr (fun t ht hW => ⟨⟨(-13), Z34, rfl, ⟨(by first | omega | decide), (by first | omega | decide), (by first | omega | decide), (by first | omega | decide), (by first | omega | decide)⟩, by rw [ht]; exact hP9, hD9⟩, hS.F ht⟩) hS.2.2 dX4_copy_98
            · skip
              have i_21 : (p1.toInt < 0 ∨ 3 < p1.toInt ∨ p5.toInt < 0 ∨ p2.toInt < 0 ∨ (Z33 p1.toNatClampNeg).toInt < p2.toInt + p5.toInt) := i_21
              have hP : va_P g.1 vwCl [(h0, .inr (4, [.ref h1, .ref h2, .int f0, .ref h3, .ref h4, .ref h5, .ref h6, .int f1, .ref h7, .ref h8, .ref h9, .ref h10])), (h38, .inl (zI g, 4, .inl Z32)), (h40, .inl (zJ g, 64, .inr (.inl Z34))), (h5, .inr (1, [.ref h38, .ref h39, .ref h40])), (h39, .inl (zI g, 4, .inl Z33))] H := hP
              have hD : va_D A [(h0, .inr (4, [.ref h1, .ref h2, .int f0, .ref h3, .ref h4, .ref h5, .ref h6, .int f1, .ref h7, .ref h8, .ref h9, .ref h10])), (h38, .inl (zI g, 4, .inl Z32)), (h40, .inl (zJ g, 64, .inr (.inl Z34))), (h5, .inr (1, [.ref h38, .ref h39, .ref h40])), (h39, .inl (zI g, 4, .inl Z33))] := hD
              refine lv_if_eq (tgt := 96) hx hb dX4_copy_78 (by decide) (fun _ => ?_) (fun h => absurd h (by decide +kernel))
              refine lv_bipush (v := (-13)) hx hb dX4_copy_96 (by decide) ?_
              have : ((-13) : Int32).toInt = (-13) := rfl
              have hP9 := hP.sub (ws' := [(h0, .inr (4, [.ref h1, .ref h2, .int f0, .ref h3, .ref h4, .ref h5, .ref h6, .int f1, .ref h7, .ref h8, .ref h9, .ref h10])), (h5, .inr (1, [.ref h38, .ref h39, .ref h40])), (h38, .inl (zI g, 4, .inl Z32)), (h39, .inl (zI g, 4, .inl Z33)), (h40, .inl (zJ g, 64, .inr (.inl Z34)))]) [0, 3, 1, 4, 2] rfl
              have hD9 := hD.sub (ws' := [(h0, .inr (4, [.ref h1, .ref h2, .int f0, .ref h3, .ref h4, .ref h5, .ref h6, .int f1, .ref h7, .ref h8, .ref h9, .ref h10])), (h5, .inr (1, [.ref h38, .ref h39, .ref h40])), (h38, .inl (zI g, 4, .inl Z32)), (h39, .inl (zI g, 4, .inl Z33)), (h40, .inl (zJ g, 64, .inr (.inl Z34)))]) [0, 3, 1, 4, 2] (by decide) rfl
              exact W.iret (v := (-13)) hx hb hr (fun t ht hW => ⟨⟨(-13), Z34, rfl, ⟨(by first | omega | decide), (by first | omega | decide), (by first | omega | decide), (by first | omega | decide), (by first | omega | decide)⟩, by rw [ht]; exact hP9, hD9⟩, hS.F ht⟩) hS.2.2 dX4_copy_98
          · have i_12 : y2.toInt ≠ y3.toInt := z_ne (rfl) (rfl) c_12
            refine lv_bipush (v := (-12)) hx hb dX4_copy_64 (by decide) ?_
            have : ((-12) : Int32).toInt = (-12) := rfl
            have hP9 := hP.sub (ws' := [(h0, .inr (4, [.ref h1, .ref h2, .int f0, .ref h3, .ref h4, .ref h5, .ref h6, .int f1, .ref h7, .ref h8, .ref h9, .ref h10])), (h5, .inr (1, [.ref h38, .ref h39, .ref h40])), (h38, .inl (zI g, 4, .inl Z32)), (h39, .inl (zI g, 4, .inl Z33)), (h40, .inl (zJ g, 64, .inr (.inl Z34)))]) [0, 1, 2, 3, 4] rfl
            have hD9 := hD.sub (ws' := [(h0, .inr (4, [.ref h1, .ref h2, .int f0, .ref h3, .ref h4, .ref h5, .ref h6, .int f1, .ref h7, .ref h8, .ref h9, .ref h10])), (h5, .inr (1, [.ref h38, .ref h39, .ref h40])), (h38, .inl (zI g, 4, .inl Z32)), (h39, .inl (zI g, 4, .inl Z33)), (h40, .inl (zJ g, 64, .inr (.inl Z34)))]) [0, 1, 2, 3, 4] (by decide) rfl
            exact W.iret (v := (-12)) hx hb hr (fun t ht hW => ⟨⟨(-12), Z34, rfl, ⟨(by first | omega | decide), (by first | omega | decide), (by first | omega | decide), (by first | omega | decide), (by first | omega | decide)⟩, by rw [ht]; exact hP9, hD9⟩, hS.F ht⟩) hS.2.2 dX4_copy_66
        · have i_11 : y1.toInt < 0 := z_nle (rfl) (rfl) c_11
          refine lv_bipush (v := (-11)) hx hb dX4_copy_40 (by decide) ?_
          have : ((-11) : Int32).toInt = (-11) := rfl
          have hP9 := hP.sub (ws' := [(h0, .inr (4, [.ref h1, .ref h2, .int f0, .ref h3, .ref h4, .ref h5, .ref h6, .int f1, .ref h7, .ref h8, .ref h9, .ref h10])), (h5, .inr (1, [.ref h38, .ref h39, .ref h40])), (h38, .inl (zI g, 4, .inl Z32)), (h39, .inl (zI g, 4, .inl Z33)), (h40, .inl (zJ g, 64, .inr (.inl Z34)))]) [0, 1, 2, 3, 4] rfl
          have hD9 := hD.sub (ws' := [(h0, .inr (4, [.ref h1, .ref h2, .int f0, .ref h3, .ref h4, .ref h5, .ref h6, .int f1, .ref h7, .ref h8, .ref h9, .ref h10])), (h5, .inr (1, [.ref h38, .ref h39, .ref h40])), (h38, .inl (zI g, 4, .inl Z32)), (h39, .inl (zI g, 4, .inl Z33)), (h40, .inl (zJ g, 64, .inr (.inl Z34)))]) [0, 1, 2, 3, 4] (by decide) rfl
          exact W.iret (v := (-11)) hx hb hr (fun t ht hW => ⟨⟨(-11), Z34, rfl, ⟨(by first | omega | decide), (by first | omega | decide), (by first | omega | decide), (by first | omega | decide), (by first | omega | decide)⟩, by rw [ht]; exact hP9, hD9⟩, hS.F ht⟩) hS.2.2 dX4_copy_42
