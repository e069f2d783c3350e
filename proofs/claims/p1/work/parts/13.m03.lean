set_option maxHeartbeats 4000000 in
set_option maxRecDepth 100000 in
theorem kX4_type (l : Launch) (g : zG) (h0 h1 h2 h3 h4 h5 h6 h7 h8 h9 h10 h37 : Nat) (sz : Nat) (p1 : Int64) (p2 : Int32) : Met l yX4_type (.code yX4_type cX4_type 4 (some .int) :: zBig) ({ frames := 2, cells := 0, slots := 0, locals := 47 }) (va_Pc [.ref h0, .long p1, .int p2] (zPre g [(h0, .inr (4, [.ref h1, .ref h2, .int 0, .ref h3, .ref h4, .ref h5, .ref h6, .int (-1), .ref h7, .ref h8, .ref h9, .ref h10])), (h4, .inr (3, [.ref h37, .int 0])), (h37, .inl (zB g, 60, .inl (fun _ => 0)))] sz)) (va_Qi (fun (r : Int32) (_ : Nat) => (p2.toInt < 1 ∧ r = (-1)) ∨ (1 ≤ p2.toInt ∧ p2.toInt ≤ 8 ∧ (((p1 >>> ((0 : Int32).toInt64 &&& 63)) &&& 255) : Int64).toInt < 32 ∧ r = (-1)) ∨ (1 ≤ p2.toInt ∧ p2.toInt ≤ 8 ∧ 32 ≤ (((p1 >>> ((0 : Int32).toInt64 &&& 63)) &&& 255) : Int64).toInt ∧ (((p1 >>> ((0 : Int32).toInt64 &&& 63)) &&& 255) : Int64).toInt ≤ 126 ∧ p2.toInt ≤ 1 ∧ r = 1) ∨ (1 ≤ p2.toInt ∧ p2.toInt ≤ 8 ∧ 32 ≤ (((p1 >>> ((0 : Int32).toInt64 &&& 63)) &&& 255) : Int64).toInt ∧ (((p1 >>> ((0 : Int32).toInt64 &&& 63)) &&& 255) : Int64).toInt ≤ 126 ∧ 1 < p2.toInt ∧ (((p1 >>> ((8 : Int32).toInt64 &&& 63)) &&& 255) : Int64).toInt < 32 ∧ r = (-1)) ∨ (1 ≤ p2.toInt ∧ p2.toInt ≤ 8 ∧ 32 ≤ (((p1 >>> ((0 : Int32).toInt64 &&& 63)) &&& 255) : Int64).toInt ∧ (((p1 >>> ((0 : Int32).toInt64 &&& 63)) &&& 255) : Int64).toInt ≤ 126 ∧ 1 < p2.toInt ∧ 32 ≤ (((p1 >>> ((8 : Int32).toInt64 &&& 63)) &&& 255) : Int64).toInt ∧ (((p1 >>> ((8 : Int32).toInt64 &&& 63)) &&& 255) : Int64).toInt ≤ 126 ∧ p2.toInt ≤ 2 ∧ r = 2) ∨ (1 ≤ p2.toInt ∧ p2.toInt ≤ 8 ∧ 32 ≤ (((p1 >>> ((0 : Int32).toInt64 &&& 63)) &&& 255) : Int64).toInt ∧ (((p1 >>> ((0 : Int32).toInt64 &&& 63)) &&& 255) : Int64).toInt ≤ 126 ∧ 1 < p2.toInt ∧ 32 ≤ (((p1 >>> ((8 : Int32).toInt64 &&& 63)) &&& 255) : Int64).toInt ∧ (((p1 >>> ((8 : Int32).toInt64 &&& 63)) &&& 255) : Int64).toInt ≤ 126 ∧ 2 < p2.toInt ∧ (((p1 >>> ((16 : Int32).toInt64 &&& 63)) &&& 255) : Int64).toInt < 32 ∧ r = (-1)) ∨ (1 ≤ p2.toInt ∧ p2.toInt ≤ 8 ∧ 32 ≤ (((p1 >>> ((0 : Int32).toInt64 &&& 63)) &&& 255) : Int64).toInt ∧ (((p1 >>> ((0 : Int32).toInt64 &&& 63)) &&& 255) : Int64).toInt ≤ 126 ∧ 1 < p2.toInt ∧ 32 ≤ (((p1 >>> ((8 : Int32).toInt64 &&& 63)) &&& 255) : Int64).toInt ∧ (((p1 >>> ((8 : Int32).toInt64 &&& 63)) &&& 255) : Int64).toInt ≤ 126 ∧ 2 < p2.toInt ∧ 32 ≤ (((p1 >>> ((16 : Int32).toInt64 &&& 63)) &&& 255) : Int64).toInt ∧ (((p1 >>> ((16 : Int32).toInt64 &&& 63)) &&& 255) : Int64).toInt ≤ 126 ∧ p2.toInt ≤ 3 ∧ r = 3) ∨ (1 ≤ p2.toInt ∧ p2.toInt ≤ 8 ∧ 32 ≤ (((p1 >>> ((0 : Int32).toInt64 &&& 63)) &&& 255) : Int64).toInt ∧ (((p1 >>> ((0 : Int32).toInt64 &&& 63)) &&& 255) : Int64).toInt ≤ 126 ∧ 1 < p2.toInt ∧ 32 ≤ (((p1 >>> ((8 : Int32).toInt64 &&& 63)) &&& 255) : Int64).toInt ∧ (((p1 >>> ((8 : Int32).toInt64 &&& 63)) &&& 255) : Int64).toInt ≤ 126 ∧ 2 < p2.toInt ∧ 32 ≤ (((p1 >>> ((16 : Int32).toInt64 &&& 63)) &&& 255) : Int64).toInt ∧ (((p1 >>> ((16 : Int32).toInt64 &&& 63)) &&& 255) : Int64).toInt ≤ 126 ∧ 3 < p2.toInt ∧ (((p1 >>> ((24 : Int32).toInt64 &&& 63)) &&& 255) : Int64).toInt < 32 ∧ r = (-1)) ∨ (1 ≤ p2.toInt ∧ p2.toInt ≤ 8 ∧ 32 ≤ (((p1 >>> ((0 : Int32).toInt64 &&& 63)) &&& 255) : Int64).toInt ∧ (((p1 >>> ((0 : Int32).toInt64 &&& 63)) &&& 255) : Int64).toInt ≤ 126 ∧ 1 < p2.toInt ∧ 32 ≤ (((p1 >>> ((8 : Int32).toInt64 &&& 63)) &&& 255) : Int64).toInt ∧ (((p1 >>> ((8 : Int32).toInt64 &&& 63)) &&& 255) : Int64).toInt ≤ 126 ∧ 2 < p2.toInt ∧ 32 ≤ (((p1 >>> ((16 : Int32).toInt64 &&& 63)) &&& 255) : Int64).toInt ∧ (((p1 >>> ((16 : Int32).toInt64 &&& 63)) &&& 255) : Int64).toInt ≤ 126 ∧ 3 < p2.toInt ∧ 32 ≤ (((p1 >>> ((24 : Int32).toInt64 &&& 63)) &&& 255) : Int64).toInt ∧ (((p1 >>> ((24 : Int32).toInt64 &&& 63)) &&& 255) : Int64).toInt ≤ 126 ∧ p2.toInt ≤ 4 ∧ r = 4) ∨ (1 ≤ p2.toInt ∧ p2.toInt ≤ 8 ∧ 32 ≤ (((p1 >>> ((0 : Int32).toInt64 &&& 63)) &&& 255) : Int64).toInt ∧ (((p1 >>> ((0 : Int32).toInt64 &&& 63)) &&& 255) : Int64).toInt ≤ 126 ∧ 1 < p2.toInt ∧ 32 ≤ (((p1 >>> ((8 : Int32).toInt64 &&& 63)) &&& 255) : Int64).toInt ∧ (((p1 >>> ((8 : Int32).toInt64 &&& 63)) &&& 255) : Int64).toInt ≤ 126 ∧ 2 < p2.toInt ∧ 32 ≤ (((p1 >>> ((16 : Int32).toInt64 &&& 63)) &&& 255) : Int64).toInt ∧ (((p1 >>> ((16 : Int32).toInt64 &&& 63)) &&& 255) : Int64).toInt ≤ 126 ∧ 3 < p2.toInt ∧ 32 ≤ (((p1 >>> ((24 : Int32).toInt64 &&& 63)) &&& 255) : Int64).toInt ∧ (((p1 >>> ((24 : Int32).toInt64 &&& 63)) &&& 255) : Int64).toInt ≤ 126 ∧ 4 < p2.toInt ∧ (((p1 >>> ((32 : Int32).toInt64 &&& 63)) &&& 255) : Int64).toInt < 32 ∧ r = (-1)) ∨ (1 ≤ p2.toInt ∧ p2.toInt ≤ 8 ∧ 32 ≤ (((p1 >>> ((0 : Int32).toInt64 &&& 63)) &&& 255) : Int64).toInt ∧ (((p1 >>> ((0 : Int32).toInt64 &&& 63)) &&& 255) : Int64).toInt ≤ 126 ∧ 1 < p2.toInt ∧ 32 ≤ (((p1 >>> ((8 : Int32).toInt64 &&& 63)) &&& 255) : Int64).toInt ∧ (((p1 >>> ((8 : Int32).toInt64 &&& 63)) &&& 255) : Int64).toInt ≤ 126 ∧ 2 < p2.toInt ∧ 32 ≤ (((p1 >>> ((16 : Int32).toInt64 &&& 63)) &&& 255) : Int64).toInt ∧ (((p1 >>> ((16 : Int32).toInt64 &&& 63)) &&& 255) : Int64).toInt ≤ 126 ∧ 3 < p2.toInt ∧ 32 ≤ (((p1 >>> ((24 : Int32).toInt64 &&& 63)) &&& 255) : Int64).toInt ∧ (((p1 >>> ((24 : Int32).toInt64 &&& 63)) &&& 255) : Int64).toInt ≤ 126 ∧ 4 < p2.toInt ∧ 32 ≤ (((p1 >>> ((32 : Int32).toInt64 &&& 63)) &&& 255) : Int64).toInt ∧ (((p1 >>> ((32 : Int32).toInt64 &&& 63)) &&& 255) : Int64).toInt ≤ 126 ∧ p2.toInt ≤ 5 ∧ r = 5) ∨ (1 ≤ p2.toInt ∧ p2.toInt ≤ 8 ∧ 32 ≤ (((p1 >>> ((0 : Int32).toInt64 &&& 63)) &&& 255) : Int64).toInt ∧ (((p1 >>> ((0 : Int32).toInt64 &&& 63)) &&& 255) : Int64).toInt ≤ 126 ∧ 1 < p2.toInt ∧ 32 ≤ (((p1 >>> ((8 : Int32).toInt64 &&& 63)) &&& 255) : Int64).toInt ∧ (((p1 >>> ((8 : Int32).toInt64 &&& 63)) &&& 255) : Int64).toInt ≤ 126 ∧ 2 < p2.toInt ∧ 32 ≤ (((p1 >>> ((16 : Int32).toInt64 &&& 63)) &&& 255) : Int64).toInt ∧ (((p1 >>> ((16 : Int32).toInt64 &&& 63)) &&& 255) : Int64).toInt ≤ 126 ∧ 3 < p2.toInt ∧ 32 ≤ (((p1 >>> ((24 : Int32).toInt64 &&& 63)) &&& 255) : Int64).toInt ∧ (((p1 >>> ((24 : Int32).toInt64 &&& 63)) &&& 255) : Int64).toInt ≤ 126 ∧ 4 < p2.toInt ∧ 32 ≤ (((p1 >>> ((32 : Int32).toInt64 &&& 63)) &&& 255) : Int64).toInt ∧ (((p1 >>> ((32 : Int32).toInt64 &&& 63)) &&& 255) : Int64).toInt ≤ 126 ∧ 5 < p2.toInt ∧ (((p1 >>> ((40 : Int32).toInt64 &&& 63)) &&& 255) : Int64).toInt < 32 ∧ r = (-1)) ∨ (1 ≤ p2.toInt ∧ p2.toInt ≤ 8 ∧ 32 ≤ (((p1 >>> ((0 : Int32).toInt64 &&& 63)) &&& 255) : Int64).toInt ∧ (((p1 >>> ((0 : Int32).toInt64 &&& 63)) &&& 255) : Int64).toInt ≤ 126 ∧ 1 < p2.toInt ∧ 32 ≤ (((p1 >>> ((8 : Int32).toInt64 &&& 63)) &&& 255) : Int64).toInt ∧ (((p1 >>> ((8 : Int32).toInt64 &&& 63)) &&& 255) : Int64).toInt ≤ 126 ∧ 2 < p2.toInt ∧ 32 ≤ (((p1 >>> ((16 : Int32).toInt64 &&& 63)) &&& 255) : Int64).toInt ∧ (((p1 >>> ((16 : Int32).toInt64 &&& 63)) &&& 255) : Int64).toInt ≤ 126 ∧ 3 < p2.toInt ∧ 32 ≤ (((p1 >>> ((24 : Int32).toInt64 &&& 63)) &&& 255) : Int64).toInt ∧ (((p1 >>> ((24 : Int32).toInt64 &&& 63)) &&& 255) : Int64).toInt ≤ 126 ∧ 4 < p2.toInt ∧ 32 ≤ (((p1 >>> ((32 : Int32).toInt64 &&& 63)) &&& 255) : Int64).toInt ∧ (((p1 >>> ((32 : Int32).toInt64 &&& 63)) &&& 255) : Int64).toInt ≤ 126 ∧ 5 < p2.toInt ∧ 32 ≤ (((p1 >>> ((40 : Int32).toInt64 &&& 63)) &&& 255) : Int64).toInt ∧ (((p1 >>> ((40 : Int32).toInt64 &&& 63)) &&& 255) : Int64).toInt ≤ 126 ∧ p2.toInt ≤ 6 ∧ r = 6) ∨ (1 ≤ p2.toInt ∧ p2.toInt ≤ 8 ∧ 32 ≤ (((p1 >>> ((0 : Int32).toInt64 &&& 63)) &&& 255) : Int64).toInt ∧ (((p1 >>> ((0 : Int32).toInt64 &&& 63)) &&& 255) : Int64).toInt ≤ 126 ∧ 1 < p2.toInt ∧ 32 ≤ (((p1 >>> ((8 : Int32).toInt64 &&& 63)) &&& 255) : Int64).toInt ∧ (((p1 >>> ((8 : Int32).toInt64 &&& 63)) &&& 255) : Int64).toInt ≤ 126 ∧ 2 < p2.toInt ∧ 32 ≤ (((p1 >>> ((16 : Int32).toInt64 &&& 63)) &&& 255) : Int64).toInt ∧ (((p1 >>> ((16 : Int32).toInt64 &&& 63)) &&& 255) : Int64).toInt ≤ 126 ∧ 3 < p2.toInt ∧ 32 ≤ (((p1 >>> ((24 : Int32).toInt64 &&& 63)) &&& 255) : Int64).toInt ∧ (((p1 >>> ((24 : Int32).toInt64 &&& 63)) &&& 255) : Int64).toInt ≤ 126 ∧ 4 < p2.toInt ∧ 32 ≤ (((p1 >>> ((32 : Int32).toInt64 &&& 63)) &&& 255) : Int64).toInt ∧ (((p1 >>> ((32 : Int32).toInt64 &&& 63)) &&& 255) : Int64).toInt ≤ 126 ∧ 5 < p2.toInt ∧ 32 ≤ (((p1 >>> ((40 : Int32).toInt64 &&& 63)) &&& 255) : Int64).toInt ∧ (((p1 >>> ((40 : Int32).toInt64 &&& 63)) &&& 255) : Int64).toInt ≤ 126 ∧ 6 < p2.toInt ∧ (((p1 >>> ((48 : Int32).toInt64 &&& 63)) &&& 255) : Int64).toInt < 32 ∧ r = (-1)) ∨ (1 ≤ p2.toInt ∧ p2.toInt ≤ 8 ∧ 32 ≤ (((p1 >>> ((0 : Int32).toInt64 &&& 63)) &&& 255) : Int64).toInt ∧ (((p1 >>> ((0 : Int32).toInt64 &&& 63)) &&& 255) : Int64).toInt ≤ 126 ∧ 1 < p2.toInt ∧ 32 ≤ (((p1 >>> ((8 : Int32).toInt64 &&& 63)) &&& 255) : Int64).toInt ∧ (((p1 >>> ((8 : Int32).toInt64 &&& 63)) &&& 255) : Int64).toInt ≤ 126 ∧ 2 < p2.toInt ∧ 32 ≤ (((p1 >>> ((16 : Int32).toInt64 &&& 63)) &&& 255) : Int64).toInt ∧ (((p1 >>> ((16 : Int32).toInt64 &&& 63)) &&& 255) : Int64).toInt ≤ 126 ∧ 3 < p2.toInt ∧ 32 ≤ (((p1 >>> ((24 : Int32).toInt64 &&& 63)) &&& 255) : Int64).toInt ∧ (((p1 >>> ((24 : Int32).toInt64 &&& 63)) &&& 255) : Int64).toInt ≤ 126 ∧ 4 < p2.toInt ∧ 32 ≤ (((p1 >>> ((32 : Int32).toInt64 &&& 63)) &&& 255) : Int64).toInt ∧ (((p1 >>> ((32 : Int32).toInt64 &&& 63)) &&& 255) : Int64).toInt ≤ 126 ∧ 5 < p2.toInt ∧ 32 ≤ (((p1 >>> ((40 : Int32).toInt64 &&& 63)) &&& 255) : Int64).toInt ∧ (((p1 >>> ((40 : Int32).toInt64 &&& 63)) &&& 255) : Int64).toInt ≤ 126 ∧ 6 < p2.toInt ∧ 32 ≤ (((p1 >>> ((48 : Int32).toInt64 &&& 63)) &&& 255) : Int64).toInt ∧ (((p1 >>> ((48 : Int32).toInt64 &&& 63)) &&& 255) : Int64).toInt ≤ 126 ∧ p2.toInt ≤ 7 ∧ r = 7) ∨ (1 ≤ p2.toInt ∧ p2.toInt ≤ 8 ∧ 32 ≤ (((p1 >>> ((0 : Int32).toInt64 &&& 63)) &&& 255) : Int64).toInt ∧ (((p1 >>> ((0 : Int32).toInt64 &&& 63)) &&& 255) : Int64).toInt ≤ 126 ∧ 1 < p2.toInt ∧ 32 ≤ (((p1 >>> ((8 : Int32).toInt64 &&& 63)) &&& 255) : Int64).toInt ∧ (((p1 >>> ((8 : Int32).toInt64 &&& 63)) &&& 255) : Int64).toInt ≤ 126 ∧ 2 < p2.toInt ∧ 32 ≤ (((p1 >>> ((16 : Int32).toInt64 &&& 63)) &&& 255) : Int64).toInt ∧ (((p1 >>> ((16 : Int32).toInt64 &&& 63)) &&& 255) : Int64).toInt ≤ 126 ∧ 3 < p2.toInt ∧ 32 ≤ (((p1 >>> ((24 : Int32).toInt64 &&& 63)) &&& 255) : Int64).toInt ∧ (((p1 >>> ((24 : Int32).toInt64 &&& 63)) &&& 255) : Int64).toInt ≤ 126 ∧ 4 < p2.toInt ∧ 32 ≤ (((p1 >>> ((32 : Int32).toInt64 &&& 63)) &&& 255) : Int64).toInt ∧ (((p1 >>> ((32 : Int32).toInt64 &&& 63)) &&& 255) : Int64).toInt ≤ 126 ∧ 5 < p2.toInt ∧ 32 ≤ (((p1 >>> ((40 : Int32).toInt64 &&& 63)) &&& 255) : Int64).toInt ∧ (((p1 >>> ((40 : Int32).toInt64 &&& 63)) &&& 255) : Int64).toInt ≤ 126 ∧ 6 < p2.toInt ∧ 32 ≤ (((p1 >>> ((48 : Int32).toInt64 &&& 63)) &&& 255) : Int64).toInt ∧ (((p1 >>> ((48 : Int32).toInt64 &&& 63)) &&& 255) : Int64).toInt ≤ 126 ∧ 7 < p2.toInt ∧ (((p1 >>> ((56 : Int32).toInt64 &&& 63)) &&& 255) : Int64).toInt < 32 ∧ r = (-1)) ∨ (1 ≤ p2.toInt ∧ p2.toInt ≤ 8 ∧ 32 ≤ (((p1 >>> ((0 : Int32).toInt64 &&& 63)) &&& 255) : Int64).toInt ∧ (((p1 >>> ((0 : Int32).toInt64 &&& 63)) &&& 255) : Int64).toInt ≤ 126 ∧ 1 < p2.toInt ∧ 32 ≤ (((p1 >>> ((8 : Int32).toInt64 &&& 63)) &&& 255) : Int64).toInt ∧ (((p1 >>> ((8 : Int32).toInt64 &&& 63)) &&& 255) : Int64).toInt ≤ 126 ∧ 2 < p2.toInt ∧ 32 ≤ (((p1 >>> ((16 : Int32).toInt64 &&& 63)) &&& 255) : Int64).toInt ∧ (((p1 >>> ((16 : Int32).toInt64 &&& 63)) &&& 255) : Int64).toInt ≤ 126 ∧ 3 < p2.toInt ∧ 32 ≤ (((p1 >>> ((24 : Int32).toInt64 &&& 63)) &&& 255) : Int64).toInt ∧ (((p1 >>> ((24 : Int32).toInt64 &&& 63)) &&& 255) : Int64).toInt ≤ 126 ∧ 4 < p2.toInt ∧ 32 ≤ (((p1 >>> ((32 : Int32).toInt64 &&& 63)) &&& 255) : Int64).toInt ∧ (((p1 >>> ((32 : Int32).toInt64 &&& 63)) &&& 255) : Int64).toInt ≤ 126 ∧ 5 < p2.toInt ∧ 32 ≤ (((p1 >>> ((40 : Int32).toInt64 &&& 63)) &&& 255) : Int64).toInt ∧ (((p1 >>> ((40 : Int32).toInt64 &&& 63)) &&& 255) : Int64).toInt ≤ 126 ∧ 6 < p2.toInt ∧ 32 ≤ (((p1 >>> ((48 : Int32).toInt64 &&& 63)) &&& 255) : Int64).toInt ∧ (((p1 >>> ((48 : Int32).toInt64 &&& 63)) &&& 255) : Int64).toInt ≤ 126 ∧ 7 < p2.toInt ∧ 32 ≤ (((p1 >>> ((56 : Int32).toInt64 &&& 63)) &&& 255) : Int64).toInt ∧ (((p1 >>> ((56 : Int32).toInt64 &&& 63)) &&& 255) : Int64).toInt ≤ 126 ∧ r = 8) ∨ (1 ≤ p2.toInt ∧ p2.toInt ≤ 8 ∧ 32 ≤ (((p1 >>> ((0 : Int32).toInt64 &&& 63)) &&& 255) : Int64).toInt ∧ (((p1 >>> ((0 : Int32).toInt64 &&& 63)) &&& 255) : Int64).toInt ≤ 126 ∧ 1 < p2.toInt ∧ 32 ≤ (((p1 >>> ((8 : Int32).toInt64 &&& 63)) &&& 255) : Int64).toInt ∧ (((p1 >>> ((8 : Int32).toInt64 &&& 63)) &&& 255) : Int64).toInt ≤ 126 ∧ 2 < p2.toInt ∧ 32 ≤ (((p1 >>> ((16 : Int32).toInt64 &&& 63)) &&& 255) : Int64).toInt ∧ (((p1 >>> ((16 : Int32).toInt64 &&& 63)) &&& 255) : Int64).toInt ≤ 126 ∧ 3 < p2.toInt ∧ 32 ≤ (((p1 >>> ((24 : Int32).toInt64 &&& 63)) &&& 255) : Int64).toInt ∧ (((p1 >>> ((24 : Int32).toInt64 &&& 63)) &&& 255) : Int64).toInt ≤ 126 ∧ 4 < p2.toInt ∧ 32 ≤ (((p1 >>> ((32 : Int32).toInt64 &&& 63)) &&& 255) : Int64).toInt ∧ (((p1 >>> ((32 : Int32).toInt64 &&& 63)) &&& 255) : Int64).toInt ≤ 126 ∧ 5 < p2.toInt ∧ 32 ≤ (((p1 >>> ((40 : Int32).toInt64 &&& 63)) &&& 255) : Int64).toInt ∧ (((p1 >>> ((40 : Int32).toInt64 &&& 63)) &&& 255) : Int64).toInt ≤ 126 ∧ 6 < p2.toInt ∧ 32 ≤ (((p1 >>> ((48 : Int32).toInt64 &&& 63)) &&& 255) : Int64).toInt ∧ (((p1 >>> ((48 : Int32).toInt64 &&& 63)) &&& 255) : Int64).toInt ≤ 126 ∧ 7 < p2.toInt ∧ 32 ≤ (((p1 >>> ((56 : Int32).toInt64 &&& 63)) &&& 255) : Int64).toInt ∧ 126 < (((p1 >>> ((56 : Int32).toInt64 &&& 63)) &&& 255) : Int64).toInt ∧ r = (-1)) ∨ (1 ≤ p2.toInt ∧ p2.toInt ≤ 8 ∧ 32 ≤ (((p1 >>> ((0 : Int32).toInt64 &&& 63)) &&& 255) : Int64).toInt ∧ (((p1 >>> ((0 : Int32).toInt64 &&& 63)) &&& 255) : Int64).toInt ≤ 126 ∧ 1 < p2.toInt ∧ 32 ≤ (((p1 >>> ((8 : Int32).toInt64 &&& 63)) &&& 255) : Int64).toInt ∧ (((p1 >>> ((8 : Int32).toInt64 &&& 63)) &&& 255) : Int64).toInt ≤ 126 ∧ 2 < p2.toInt ∧ 32 ≤ (((p1 >>> ((16 : Int32).toInt64 &&& 63)) &&& 255) : Int64).toInt ∧ (((p1 >>> ((16 : Int32).toInt64 &&& 63)) &&& 255) : Int64).toInt ≤ 126 ∧ 3 < p2.toInt ∧ 32 ≤ (((p1 >>> ((24 : Int32).toInt64 &&& 63)) &&& 255) : Int64).toInt ∧ (((p1 >>> ((24 : Int32).toInt64 &&& 63)) &&& 255) : Int64).toInt ≤ 126 ∧ 4 < p2.toInt ∧ 32 ≤ (((p1 >>> ((32 : Int32).toInt64 &&& 63)) &&& 255) : Int64).toInt ∧ (((p1 >>> ((32 : Int32).toInt64 &&& 63)) &&& 255) : Int64).toInt ≤ 126 ∧ 5 < p2.toInt ∧ 32 ≤ (((p1 >>> ((40 : Int32).toInt64 &&& 63)) &&& 255) : Int64).toInt ∧ (((p1 >>> ((40 : Int32).toInt64 &&& 63)) &&& 255) : Int64).toInt ≤ 126 ∧ 6 < p2.toInt ∧ 32 ≤ (((p1 >>> ((48 : Int32).toInt64 &&& 63)) &&& 255) : Int64).toInt ∧ 126 < (((p1 >>> ((48 : Int32).toInt64 &&& 63)) &&& 255) : Int64).toInt ∧ r = (-1)) ∨ (1 ≤ p2.toInt ∧ p2.toInt ≤ 8 ∧ 32 ≤ (((p1 >>> ((0 : Int32).toInt64 &&& 63)) &&& 255) : Int64).toInt ∧ (((p1 >>> ((0 : Int32).toInt64 &&& 63)) &&& 255) : Int64).toInt ≤ 126 ∧ 1 < p2.toInt ∧ 32 ≤ (((p1 >>> ((8 : Int32).toInt64 &&& 63)) &&& 255) : Int64).toInt ∧ (((p1 >>> ((8 : Int32).toInt64 &&& 63)) &&& 255) : Int64).toInt ≤ 126 ∧ 2 < p2.toInt ∧ 32 ≤ (((p1 >>> ((16 : Int32).toInt64 &&& 63)) &&& 255) : Int64).toInt ∧ (((p1 >>> ((16 : Int32).toInt64 &&& 63)) &&& 255) : Int64).toInt ≤ 126 ∧ 3 < p2.toInt ∧ 32 ≤ (((p1 >>> ((24 : Int32).toInt64 &&& 63)) &&& 255) : Int64).toInt ∧ (((p1 >>> ((24 : Int32).toInt64 &&& 63)) &&& 255) : Int64).toInt ≤ 126 ∧ 4 < p2.toInt ∧ 32 ≤ (((p1 >>> ((32 : Int32).toInt64 &&& 63)) &&& 255) : Int64).toInt ∧ (((p1 >>> ((32 : Int32).toInt64 &&& 63)) &&& 255) : Int64).toInt ≤ 126 ∧ 5 < p2.toInt ∧ 32 ≤ (((p1 >>> ((40 : Int32).toInt64 &&& 63)) &&& 255) : Int64).toInt ∧ 126 < (((p1 >>> ((40 : Int32).toInt64 &&& 63)) &&& 255) : Int64).toInt ∧ r = (-1)) ∨ (1 ≤ p2.toInt ∧ p2.toInt ≤ 8 ∧ 32 ≤ (((p1 >>> ((0 : Int32).toInt64 &&& 63)) &&& 255) : Int64).toInt ∧ (((p1 >>> ((0 : Int32).toInt64 &&& 63)) &&& 255) : Int64).toInt ≤ 126 ∧ 1 < p2.toInt ∧ 32 ≤ (((p1 >>> ((8 : Int32).toInt64 &&& 63)) &&& 255) : Int64).toInt ∧ (((p1 >>> ((8 : Int32).toInt64 &&& 63)) &&& 255) : Int64).toInt ≤ 126 ∧ 2 < p2.toInt ∧ 32 ≤ (((p1 >>> ((16 : Int32).toInt64 &&& 63)) &&& 255) : Int64).toInt ∧ (((p1 >>> ((16 : Int32).toInt64 &&& 63)) &&& 255) : Int64).toInt ≤ 126 ∧ 3 < p2.toInt ∧ 32 ≤ (((p1 >>> ((24 : Int32).toInt64 &&& 63)) &&& 255) : Int64).toInt ∧ (((p1 >>> ((24 : Int32).toInt64 &&& 63)) &&& 255) : Int64).toInt ≤ 126 ∧ 4 < p2.toInt ∧ 32 ≤ (((p1 >>> ((32 : Int32).toInt64 &&& 63)) &&& 255) : Int64).toInt ∧ 126 < (((p1 >>> ((32 : Int32).toInt64 &&& 63)) &&& 255) : Int64).toInt ∧ r = (-1)) ∨ (1 ≤ p2.toInt ∧ p2.toInt ≤ 8 ∧ 32 ≤ (((p1 >>> ((0 : Int32).toInt64 &&& 63)) &&& 255) : Int64).toInt ∧ (((p1 >>> ((0 : Int32).toInt64 &&& 63)) &&& 255) : Int64).toInt ≤ 126 ∧ 1 < p2.toInt ∧ 32 ≤ (((p1 >>> ((8 : Int32).toInt64 &&& 63)) &&& 255) : Int64).toInt ∧ (((p1 >>> ((8 : Int32).toInt64 &&& 63)) &&& 255) : Int64).toInt ≤ 126 ∧ 2 < p2.toInt ∧ 32 ≤ (((p1 >>> ((16 : Int32).toInt64 &&& 63)) &&& 255) : Int64).toInt ∧ (((p1 >>> ((16 : Int32).toInt64 &&& 63)) &&& 255) : Int64).toInt ≤ 126 ∧ 3 < p2.toInt ∧ 32 ≤ (((p1 >>> ((24 : Int32).toInt64 &&& 63)) &&& 255) : Int64).toInt ∧ 126 < (((p1 >>> ((24 : Int32).toInt64 &&& 63)) &&& 255) : Int64).toInt ∧ r = (-1)) ∨ (1 ≤ p2.toInt ∧ p2.toInt ≤ 8 ∧ 32 ≤ (((p1 >>> ((0 : Int32).toInt64 &&& 63)) &&& 255) : Int64).toInt ∧ (((p1 >>> ((0 : Int32).toInt64 &&& 63)) &&& 255) : Int64).toInt ≤ 126 ∧ 1 < p2.toInt ∧ 32 ≤ (((p1 >>> ((8 : Int32).toInt64 &&& 63)) &&& 255) : Int64).toInt ∧ (((p1 >>> ((8 : Int32).toInt64 &&& 63)) &&& 255) : Int64).toInt ≤ 126 ∧ 2 < p2.toInt ∧ 32 ≤ (((p1 >>> ((16 : Int32).toInt64 &&& 63)) &&& 255) : Int64).toInt ∧ 126 < (((p1 >>> ((16 : Int32).toInt64 &&& 63)) &&& 255) : Int64).toInt ∧ r = (-1)) ∨ (1 ≤ p2.toInt ∧ p2.toInt ≤ 8 ∧ 32 ≤ (((p1 >>> ((0 : Int32).toInt64 &&& 63)) &&& 255) : Int64).toInt ∧ (((p1 >>> ((0 : Int32).toInt64 &&& 63)) &&& 255) : Int64).toInt ≤ 126 ∧ 1 < p2.toInt ∧ 32 ≤ (((p1 >>> ((8 : Int32).toInt64 &&& 63)) &&& 255) : Int64).toInt ∧ 126 < (((p1 >>> ((8 : Int32).toInt64 &&& 63)) &&& 255) : Int64).toInt ∧ r = (-1)) ∨ (1 ≤ p2.toInt ∧ p2.toInt ≤ 8 ∧ 32 ≤ (((p1 >>> ((0 : Int32).toInt64 &&& 63)) &&& 255) : Int64).toInt ∧ 126 < (((p1 >>> ((0 : Int32).toInt64 &&& 63)) &&& 255) : Int64).toInt ∧ r = (-1)) ∨ (1 ≤ p2.toInt ∧ 8 < p2.toInt ∧ r = (-1))) (zPost g (fun _ : Nat => []) (va_A [(h0, .inr (4, [.ref h1, .ref h2, .int 0, .ref h3, .ref h4, .ref h5, .ref h6, .int (-1), .ref h7, .ref h8, .ref h9, .ref h10])), (h4, .inr (3, [.ref h37, .int 0])), (h37, .inl (zB g, 60, .inl (fun _ => 0)))] sz)) (va_A [(h0, .inr (4, [.ref h1, .ref h2, .int 0, .ref h3, .ref h4, .ref h5, .ref h6, .int (-1), .ref h7, .ref h8, .ref h9, .ref h10])), (h4, .inr (3, [.ref h37, .int 0])), (h37, .inl (zB g, 60, .inl (fun _ => 0)))] sz)) 0 0 (va_A [(h0, .inr (4, [.ref h1, .ref h2, .int 0, .ref h3, .ref h4, .ref h5, .ref h6, .int (-1), .ref h7, .ref h8, .ref h9, .ref h10])), (h4, .inr (3, [.ref h37, .int 0])), (h37, .inl (zB g, 60, .inl (fun _ => 0)))] sz) := by
  refine zMetI rfl (Nat.le_of_ble_eq_true rfl) ?_
  intro p e s m args below meth c A ls hx hb hml hr hlocks hin hown hts hK hN hZ hP hD hA hS hAe hl
  have hown : s.vm.findClass RX4 = some m.cls := hown
  have hl : lv_has ls 4 [(0, .ref h0), (1, .long p1), (3, .int p2)] := hl
  refine lv_aload_n hx hb dX4_type_0 rfl (lv_at hl 0 rfl) ?_
  refine va_get (D := g.1) (ci := 4) (v := .ref h4) (C := RX4) (T := TX4) (N := 12) hx hb hts zl_X4 hown hK hP 0 rfl rfl 4 (by decide) (hts _ m_f_RX4_33) (fun _ h => h) rfl dX4_type_1 ?_
  refine lv_lload_n hx hb dX4_type_4 rfl (lv_at hl 1 rfl) ?_
  refine lv_iload_n hx hb dX4_type_5 rfl (lv_at hl 2 rfl) ?_
  refine z_calli (wr := [(h0, .inr (4, [.ref h1, .ref h2, .int 0, .ref h3, .ref h4, .ref h5, .ref h6, .int (-1), .ref h7, .ref h8, .ref h9, .ref h10]))]) hP hD hS hA [1, 2] [0] (by decide) rfl rfl (by decide) (va_runVN (As := [.long p1, .int p2]) (rest := []) ⟨hx, hb, hml, hown, hts⟩ (kX3_append_2 l g h4 h37 s.heap.size p1 p2) ⟨va_cnB 2 hts (zGood m_o_yX3_append) rfl rfl rfl (hN.m 7 (q := (RX4, 99, yX3_append)) rfl) (hts _ m_z_RX3) ⟨by decide +kernel, by decide +kernel, by decide +kernel⟩ ⟨Nat.le_of_ble_eq_true rfl, Nat.le_of_ble_eq_true rfl⟩, hts _ m_i_yX3_append, hts _ m_e_yX3_append⟩ (zPreV hK hN hZ hP hD hS hA [1, 2] (by decide) rfl rfl 3 1 rfl rfl) rfl rfl hl.1 rfl (lv_room (Nat.le_of_ble_eq_true rfl)) dX4_type_6 ⟨Nat.le_of_ble_eq_true rfl, Nat.le_of_ble_eq_true rfl⟩) (fun r u H locs hw hP hD hS => ?_)
  rcases hw with ⟨i_0, rfl⟩ | ⟨i_1, i_2, i_3, rfl⟩ | ⟨i_4, i_5, i_6, i_7, i_8, rfl⟩ | ⟨i_9, i_10, i_11, i_12, i_13, i_14, rfl⟩ | ⟨i_15, i_16, i_17, i_18, i_19, i_20, i_21, i_22, rfl⟩ | ⟨i_23, i_24, i_25, i_26, i_27, i_28, i_29, i_30, i_31, rfl⟩ | ⟨i_32, i_33, i_34, i_35, i_36, i_37, i_38, i_39, i_40, i_41, i_42, rfl⟩ | ⟨i_43, i_44, i_45, i_46, i_47, i_48, i_49, i_50, i_51, i_52, i_53, i_54, rfl⟩ | ⟨i_55, i_56, i_57, i_58, i_59, i_60, i_61, i_62, i_63, i_64, i_65, i_66, i_67, i_68, rfl⟩ | ⟨i_69, i_70, i_71, i_72, i_73, i_74, i_75, i_76, i_77, i_78, i_79, i_80, i_81, i_82, i_83, rfl⟩ | ⟨i_84, i_85, i_86, i_87, i_88, i_89, i_90, i_91, i_92, i_93, i_94, i_95, i_96, i_97, i_98, i_99, i_100, rfl⟩ | ⟨i_101, i_102, i_103, i_104, i_105, i_106, i_107, i_108, i_109, i_110, i_111, i_112, i_113, i_114, i_115, i_116, i_117, i_118, rfl⟩ | ⟨i_119, i_120, i_121, i_122, i_123, i_124, i_125, i_126, i_127, i_128, i_129, i_130, i_131, i_132, i_133, i_134, i_135, i_136, i_137, i_138, rfl⟩ | ⟨i_139, i_140, i_141, i_142, i_143, i_144, i_145, i_146, i_147, i_148, i_149, i_150, i_151, i_152, i_153, i_154, i_155, i_156, i_157, i_158, i_159, rfl⟩ | ⟨i_160, i_161, i_162, i_163, i_164, i_165, i_166, i_167, i_168, i_169, i_170, i_171, i_172, i_173, i_174, i_175, i_176, i_177, i_178, i_179, i_180, i_181, i_182, rfl⟩ | ⟨i_183, i_184, i_185, i_186, i_187, i_188, i_189, i_190, i_191, i_192, i_193, i_194, i_195, i_196, i_197, i_198, i_199, i_200, i_201, i_202, i_203, i_204, i_205, i_206, rfl⟩ | ⟨i_207, i_208, i_209, i_210, i_211, i_212, i_213, i_214, i_215, i_216, i_217, i_218, i_219, i_220, i_221, i_222, i_223, i_224, i_225, i_226, i_227, i_228, i_229, i_230, i_231, rfl⟩ | ⟨i_232, i_233, i_234, i_235, i_236, i_237, i_238, i_239, i_240, i_241, i_242, i_243, i_244, i_245, i_246, i_247, i_248, i_249, i_250, i_251, i_252, i_253, i_254, i_255, i_256, rfl⟩ | ⟨i_257, i_258, i_259, i_260, i_261, i_262, i_263, i_264, i_265, i_266, i_267, i_268, i_269, i_270, i_271, i_272, i_273, i_274, i_275, i_276, i_277, i_278, rfl⟩ | ⟨i_279, i_280, i_281, i_282, i_283, i_284, i_285, i_286, i_287, i_288, i_289, i_290, i_291, i_292, i_293, i_294, i_295, i_296, i_297, rfl⟩ | ⟨i_298, i_299, i_300, i_301, i_302, i_303, i_304, i_305, i_306, i_307, i_308, i_309, i_310, i_311, i_312, i_313, rfl⟩ | ⟨i_314, i_315, i_316, i_317, i_318, i_319, i_320, i_321, i_322, i_323, i_324, i_325, i_326, rfl⟩ | ⟨i_327, i_328, i_329, i_330, i_331, i_332, i_333, i_334, i_335, i_336, rfl⟩ | ⟨i_337, i_338, i_339, i_340, i_341, i_342, i_343, rfl⟩ | ⟨i_344, i_345, i_346, i_347, rfl⟩ | ⟨i_348, i_349, rfl⟩
  · skip
    have i_0 : p2.toInt < 1 := i_0
    have hP : va_P g.1 vwCl [(h0, .inr (4, [.ref h1, .ref h2, .int 0, .ref h3, .ref h4, .ref h5, .ref h6, .int (-1), .ref h7, .ref h8, .ref h9, .ref h10]))] H := hP
    have hD : va_D A [(h0, .inr (4, [.ref h1, .ref h2, .int 0, .ref h3, .ref h4, .ref h5, .ref h6, .int (-1), .ref h7, .ref h8, .ref h9, .ref h10]))] := hD
    have hP9 := hP.sub (ws' := []) [] rfl
    have hD9 := hD.sub (ws' := []) [] (by decide) rfl
    exact W.iret (v := (-1)) hx hb hr (fun t ht hW => ⟨⟨(-1), 0, rfl, Or.inl ⟨i_0, rfl⟩, by rw [ht]; exact hP9, hD9⟩, hS.F ht⟩) hS.2.2 dX4_type_9
  · skip
    have i_1 : 1 ≤ p2.toInt := i_1
    have i_2 : p2.toInt ≤ 8 := i_2
    have i_3 : (((p1 >>> ((0 : Int32).toInt64 &&& 63)) &&& 255) : Int64).toInt < 32 := i_3
    have hP : va_P g.1 vwCl [(h0, .inr (4, [.ref h1, .ref h2, .int 0, .ref h3, .ref h4, .ref h5, .ref h6, .int (-1), .ref h7, .ref h8, .ref h9, .ref h10]))] H := hP
    have hD : va_D A [(h0, .inr (4, [.ref h1, .ref h2, .int 0, .ref h3, .ref h4, .ref h5, .ref h6, .int (-1), .ref h7, .ref h8, .ref h9, .ref h10]))] := hD
    have hP9 := hP.sub (ws' := []) [] rfl
    have hD9 := hD.sub (ws' := []) [] (by decide) rfl
    exact W.iret (v := (-1)) hx hb hr (fun t ht hW => ⟨⟨(-1), 0, rfl, Or.inr (Or.inl ⟨i_1, i_2, i_3, rfl⟩), by rw [ht]; exact hP9, hD9⟩, hS.F ht⟩) hS.2.2 dX4_type_9
  · skip
    have i_4 : 1 ≤ p2.toInt := i_4
    have i_5 : p2.toInt ≤ 8 := i_5
    have i_6 : 32 ≤ (((p1 >>> ((0 : Int32).toInt64 &&& 63)) &&& 255) : Int64).toInt := i_6
    have i_7 : (((p1 >>> ((0 : Int32).toInt64 &&& 63)) &&& 255) : Int64).toInt ≤ 126 := i_7
    have i_8 : p2.toInt ≤ 1 := i_8
    have hP : va_P g.1 vwCl [(h0, .inr (4, [.ref h1, .ref h2, .int 0, .ref h3, .ref h4, .ref h5, .ref h6, .int (-1), .ref h7, .ref h8, .ref h9, .ref h10]))] H := hP
    have hD : va_D A [(h0, .inr (4, [.ref h1, .ref h2, .int 0, .ref h3, .ref h4, .ref h5, .ref h6, .int (-1), .ref h7, .ref h8, .ref h9, .ref h10]))] := hD
    have hP9 := hP.sub (ws' := []) [] rfl
    have hD9 := hD.sub (ws' := []) [] (by decide) rfl
    exact W.iret (v := 1) hx hb hr (fun t ht hW => ⟨⟨1, 0, rfl, Or.inr (Or.inr (Or.inl ⟨i_4, i_5, i_6, i_7, i_8, rfl⟩)), by rw [ht]; exact hP9, hD9⟩, hS.F ht⟩) hS.2.2 dX4_type_9
  · skip
    have i_9 : 1 ≤ p2.toInt := i_9
    have i_10 : p2.toInt ≤ 8 := i_10
    have i_11 : 32 ≤ (((p1 >>> ((0 : Int32).toInt64 &&& 63)) &&& 255) : Int64).toInt := i_11
    have i_12 : (((p1 >>> ((0 : Int32).toInt64 &&& 63)) &&& 255) : Int64).toInt ≤ 126 := i_12
    have i_13 : 1 < p2.toInt := i_13
    have i_14 : (((p1 >>> ((8 : Int32).toInt64 &&& 63)) &&& 255) : Int64).toInt < 32 := i_14
    have hP : va_P g.1 vwCl [(h0, .inr (4, [.ref h1, .ref h2, .int 0, .ref h3, .ref h4, .ref h5, .ref h6, .int (-1), .ref h7, .ref h8, .ref h9, .ref h10]))] H := hP
    have hD : va_D A [(h0, .inr (4, [.ref h1, .ref h2, .int 0, .ref h3, .ref h4, .ref h5, .ref h6, .int (-1), .ref h7, .ref h8, .ref h9, .ref h10]))] := hD
    have hP9 := hP.sub (ws' := []) [] rfl
    have hD9 := hD.sub (ws' := []) [] (by decide) rfl
    exact W.iret (v := (-1)) hx hb hr (fun t ht hW => ⟨⟨(-1), 0, rfl, Or.inr (Or.inr (Or.inr (Or.inl ⟨i_9, i_10, i_11, i_12, i_13, i_14, rfl⟩))), by rw [ht]; exact hP9, hD9⟩, hS.F ht⟩) hS.2.2 dX4_type_9
  · skip
    have i_15 : 1 ≤ p2.toInt := i_15
    have i_16 : p2.toInt ≤ 8 := i_16
    have i_17 : 32 ≤ (((p1 >>> ((0 : Int32).toInt64 &&& 63)) &&& 255) : Int64).toInt := i_17
    have i_18 : (((p1 >>> ((0 : Int32).toInt64 &&& 63)) &&& 255) : Int64).toInt ≤ 126 := i_18
    have i_19 : 1 < p2.toInt := i_19
    have i_20 : 32 ≤ (((p1 >>> ((8 : Int32).toInt64 &&& 63)) &&& 255) : Int64).toInt := i_20
    have i_21 : (((p1 >>> ((8 : Int32).toInt64 &&& 63)) &&& 255) : Int64).toInt ≤ 126 := i_21
    have i_22 : p2.toInt ≤ 2 := i_22
    have hP : va_P g.1 vwCl [(h0, .inr (4, [.ref h1, .ref h2, .int 0, .ref h3, .ref h4, .ref h5, .ref h6, .int (-1), .ref h7, .ref h8, .ref h9, .ref h10]))] H := hP
    have hD : va_D A [(h0, .inr (4, [.ref h1, .ref h2, .int 0, .ref h3, .ref h4, .ref h5, .ref h6, .int (-1), .ref h7, .ref h8, .ref h9, .ref h10]))] := hD
    have hP9 := hP.sub (ws' := []) [] rfl
    have hD9 := hD.sub (ws' := []) [] (by decide) rfl
    exact W.iret (v := 2) hx hb hr (fun t ht hW => ⟨⟨2, 0, rfl, Or.inr (Or.inr (Or.inr (Or.inr (Or.inl ⟨i_15, i_16, i_17, i_18, i_19, i_20, i_21, i_22, rfl⟩)))), by rw [ht]; exact hP9, hD9⟩, hS.F ht⟩) hS.2.2 dX4_type_9
  · skip
    have i_23 : 1 ≤ p2.toInt := i_23
    have i_24 : p2.toInt ≤ 8 := i_24
    have i_25 : 32 ≤ (((p1 >>> ((0 : Int32).toInt64 &&& 63)) &&& 255) : Int64).toInt := i_25
    have i_26 : (((p1 >>> ((0 : Int32).toInt64 &&& 63)) &&& 255) : Int64).toInt ≤ 126 := i_26
    have i_27 : 1 < p2.toInt := i_27
    have i_28 : 32 ≤ (((p1 >>> ((8 : Int32).toInt64 &&& 63)) &&& 255) : Int64).toInt := i_28
    have i_29 : (((p1 >>> ((8 : Int32).toInt64 &&& 63)) &&& 255) : Int64).toInt ≤ 126 := i_29
    have i_30 : 2 < p2.toInt := i_30
    have i_31 : (((p1 >>> ((16 : Int32).toInt64 &&& 63)) &&& 255) : Int64).toInt < 32 := i_31
    have hP : va_P g.1 vwCl [(h0, .inr (4, [.ref h1, .ref h2, .int 0, .ref h3, .ref h4, .ref h5, .ref h6, .int (-1), .ref h7, .ref h8, .ref h9, .ref h10]))] H := hP
    have hD : va_D A [(h0, .inr (4, [.ref h1, .ref h2, .int 0, .ref h3, .ref h4, .ref h5, .ref h6, .int (-1), .ref h7, .ref h8, .ref h9, .ref h10]))] := hD
    have hP9 := hP.sub (ws' := []) [] rfl
    have hD9 := hD.sub (ws' := []) [] (by decide) rfl
    exact W.iret (v := (-1)) hx hb hr (fun t ht hW => ⟨⟨(-1), 0, rfl, Or.inr (Or.inr (Or.inr (Or.inr (Or.inr (Or.inl ⟨i_23, i_24, i_25, i_26, i_27, i_28, i_29, i_30, i_31, rfl⟩))))), by rw [ht]; exact hP9, hD9⟩, hS.F ht⟩) hS.2.2 dX4_type_9
  · skip
    have i_32 : 1 ≤ p2.toInt := i_32
    have i_33 : p2.toInt ≤ 8 := i_33
    have i_34 : 32 ≤ (((p1 >>> ((0 : Int32).toInt64 &&& 63)) &&& 255) : Int64).toInt := i_34
    have i_35 : (((p1 >>> ((0 : Int32).toInt64 &&& 63)) &&& 255) : Int64).toInt ≤ 126 := i_35
    have i_36 : 1 < p2.toInt := i_36
    have i_37 : 32 ≤ (((p1 >>> ((8 : Int32).toInt64 &&& 63)) &&& 255) : Int64).toInt := i_37
    have i_38 : (((p1 >>> ((8 : Int32).toInt64 &&& 63)) &&& 255) : Int64).toInt ≤ 126 := i_38
    have i_39 : 2 < p2.toInt := i_39
    have i_40 : 32 ≤ (((p1 >>> ((16 : Int32).toInt64 &&& 63)) &&& 255) : Int64).toInt := i_40
    have i_41 : (((p1 >>> ((16 : Int32).toInt64 &&& 63)) &&& 255) : Int64).toInt ≤ 126 := i_41
    have i_42 : p2.toInt ≤ 3 := i_42
    have hP : va_P g.1 vwCl [(h0, .inr (4, [.ref h1, .ref h2, .int 0, .ref h3, .ref h4, .ref h5, .ref h6, .int (-1), .ref h7, .ref h8, .ref h9, .ref h10]))] H := hP
    have hD : va_D A [(h0, .inr (4, [.ref h1, .ref h2, .int 0, .ref h3, .ref h4, .ref h5, .ref h6, .int (-1), .ref h7, .ref h8, .ref h9, .ref h10]))] := hD
    have hP9 := hP.sub (ws' := []) [] rfl
    have hD9 := hD.sub (ws' := []) [] (by decide) rfl
    exact W.iret (v := 3) hx hb hr (fun t ht hW => ⟨⟨3, 0, rfl, Or.inr (Or.inr (Or.inr (Or.inr (Or.inr (Or.inr (Or.inl ⟨i_32, i_33, i_34, i_35, i_36, i_37, i_38, i_39, i_40, i_41, i_42, rfl⟩)))))), by rw [ht]; exact hP9, hD9⟩, hS.F ht⟩) hS.2.2 dX4_type_9
  · skip
    have i_43 : 1 ≤ p2.toInt := i_43
    have i_44 : p2.toInt ≤ 8 := i_44
    have i_45 : 32 ≤ (((p1 >>> ((0 : Int32).toInt64 &&& 63)) &&& 255) : Int64).toInt := i_45
    have i_46 : (((p1 >>> ((0 : Int32).toInt64 &&& 63)) &&& 255) : Int64).toInt ≤ 126 := i_46
    have i_47 : 1 < p2.toInt := i_47
    have i_48 : 32 ≤ (((p1 >>> ((8 : Int32).toInt64 &&& 63)) &&& 255) : Int64).toInt := i_48
    have i_49 : (((p1 >>> ((8 : Int32).toInt64 &&& 63)) &&& 255) : Int64).toInt ≤ 126 := i_49
    have i_50 : 2 < p2.toInt := i_50
    have i_51 : 32 ≤ (((p1 >>> ((16 : Int32).toInt64 &&& 63)) &&& 255) : Int64).toInt := i_51
    have i_52 : (((p1 >>> ((16 : Int32).toInt64 &&& 63)) &&& 255) : Int64).toInt ≤ 126 := i_52
    have i_53 : 3 < p2.toInt := i_53
    have i_54 : (((p1 >>> ((24 : Int32).toInt64 &&& 63)) &&& 255) : Int64).toInt < 32 := i_54
    have hP : va_P g.1 vwCl [(h0, .inr (4, [.ref h1, .ref h2, .int 0, .ref h3, .ref h4, .ref h5, .ref h6, .int (-1), .ref h7, .ref h8, .ref h9, .ref h10]))] H := hP
    have hD : va_D A [(h0, .inr (4, [.ref h1, .ref h2, .int 0, .ref h3, .ref h4, .ref h5, .ref h6, .int (-1), .ref h7, .ref h8, .ref h9, .ref h10]))] := hD
    have hP9 := hP.sub (ws' := []) [] rfl
    have hD9 := hD.sub (ws' := []) [] (by decide) rfl
    exact W.iret (v := (-1)) hx hb hr (fun t ht hW => ⟨⟨(-1), 0, rfl, Or.inr (Or.inr (Or.inr (Or.inr (Or.inr (Or.inr (Or.inr (Or.inl ⟨i_43, i_44, i_45, i_46, i_47, i_48, i_49, i_50, i_51, i_52, i_53, i_54, rfl⟩))))))), by rw [ht]; exact hP9, hD9⟩, hS.F ht⟩) hS.2.2 dX4_type_9
  · skip
    have i_55 : 1 ≤ p2.toInt := i_55
    have i_56 : p2.toInt ≤ 8 := i_56
    have i_57 : 32 ≤ (((p1 >>> ((0 : Int32).toInt64 &&& 63)) &&& 255) : Int64).toInt := i_57
    have i_58 : (((p1 >>> ((0 : Int32).toInt64 &&& 63)) &&& 255) : Int64).toInt ≤ 126 := i_58
    have i_59 : 1 < p2.toInt := i_59
    have i_60 : 32 ≤ (((p1 >>> ((8 : Int32).toInt64 &&& 63)) &&& 255) : Int64).toInt := i_60
    have i_61 : (((p1 >>> ((8 : Int32).toInt64 &&& 63)) &&& 255) : Int64).toInt ≤ 126 := i_61
    have i_62 : 2 < p2.toInt := i_62
    have i_63 : 32 ≤ (((p1 >>> ((16 : Int32).toInt64 &&& 63)) &&& 255) : Int64).toInt := i_63
    have i_64 : (((p1 >>> ((16 : Int32).toInt64 &&& 63)) &&& 255) : Int64).toInt ≤ 126 := i_64
    have i_65 : 3 < p2.toInt := i_65
    have i_66 : 32 ≤ (((p1 >>> ((24 : Int32).toInt64 &&& 63)) &&& 255) : Int64).toInt := i_66
    have i_67 : (((p1 >>> ((24 : Int32).toInt64 &&& 63)) &&& 255) : Int64).toInt ≤ 126 := i_67
    have i_68 : p2.toInt ≤ 4 := i_68
    have hP : va_P g.1 vwCl [(h0, .inr (4, [.ref h1, .ref h2, .int 0, .ref h3, .ref h4, .ref h5, .ref h6, .int (-1), .ref h7, .ref h8, .ref h9, .ref h10]))] H := hP
    have hD : va_D A [(h0, .inr (4, [.ref h1, .ref h2, .int 0, .ref h3, .ref h4, .ref h5, .ref h6, .int (-1), .ref h7, .ref h8, .ref h9, .ref h10]))] := hD
    have hP9 := hP.sub (ws' := []) [] rfl
    have hD9 := hD.sub (ws' := []) [] (by decide) rfl
    exact W.iret (v := 4) hx hb hr (fun t ht hW => ⟨⟨4, 0, rfl, Or.inr (Or.inr (Or.inr (Or.inr (Or.inr (Or.inr (Or.inr (Or.inr (Or.inl ⟨i_55, i_56, i_57, i_58, i_59, i_60, i_61, i_62, i_63, i_64, i_65, i_66, i_67, i_68, rfl⟩)))))))), by rw [ht]; exact hP9, hD9⟩, hS.F ht⟩) hS.2.2 dX4_type_9
  · skip
    have i_69 : 1 ≤ p2.toInt := i_69
    have i_70 : p2.toInt ≤ 8 := i_70
    have i_71 : 32 ≤ (((p1 >>> ((0 : Int32).toInt64 &&& 63)) &&& 255) : Int64).toInt := i_71
    have i_72 : (((p1 >>> ((0 : Int32).toInt64 &&& 63)) &&& 255) : Int64).toInt ≤ 126 := i_72
    have i_73 : 1 < p2.toInt := i_73
    have i_74 : 32 ≤ (((p1 >>> ((8 : Int32).toInt64 &&& 63)) &&& 255) : Int64).toInt := i_74
    have i_75 : (((p1 >>> ((8 : Int32).toInt64 &&& 63)) &&& 255) : Int64).toInt ≤ 126 := i_75
    have i_76 : 2 < p2.toInt := i_76
    have i_77 : 32 ≤ (((p1 >>> ((16 : Int32).toInt64 &&& 63)) &&& 255) : Int64).toInt := i_77
    have i_78 : (((p1 >>> ((16 : Int32).toInt64 &&& 63)) &&& 255) : Int64).toInt ≤ 126 := i_78
    have i_79 : 3 < p2.toInt := i_79
    have i_80 : 32 ≤ (((p1 >>> ((24 : Int32).toInt64 &&& 63)) &&& 255) : Int64).toInt := i_80
    have i_81 : (((p1 >>> ((24 : Int32).toInt64 &&& 63)) &&& 255) : Int64).toInt ≤ 126 := i_81
    have i_82 : 4 < p2.toInt := i_82
    have i_83 : (((p1 >>> ((32 : Int32).toInt64 &&& 63)) &&& 255) : Int64).toInt < 32 := i_83
    have hP : va_P g.1 vwCl [(h0, .inr (4, [.ref h1, .ref h2, .int 0, .ref h3, .ref h4, .ref h5, .ref h6, .int (-1), .ref h7, .ref h8, .ref h9, .ref h10]))] H := hP
    have hD : va_D A [(h0, .inr (4, [.ref h1, .ref h2, .int 0, .ref h3, .ref h4, .ref h5, .ref h6, .int (-1), .ref h7, .ref h8, .ref h9, .ref h10]))] := hD
    have hP9 := hP.sub (ws' := []) [] rfl
    have hD9 := hD.sub (ws' := []) [] (by decide) rfl
    exact W.iret (v := (-1)) hx hb hr (fun t ht hW => ⟨⟨(-1), 0, rfl, Or.inr (Or.inr (Or.inr (Or.inr (Or.inr (Or.inr (Or.inr (Or.inr (Or.inr (Or.inl ⟨i_69, i_70, i_71, i_72, i_73, i_74, i_75, i_76, i_77, i_78, i_79, i_80, i_81, i_82, i_83, rfl⟩))))))))), by rw [ht]; exact hP9, hD9⟩, hS.F ht⟩) hS.2.2 dX4_type_9
  · skip
    have i_84 : 1 ≤ p2.toInt := i_84
    have i_85 : p2.toInt ≤ 8 := i_85
    have i_86 : 32 ≤ (((p1 >>> ((0 : Int32).toInt64 &&& 63)) &&& 255) : Int64).toInt := i_86
    have i_87 : (((p1 >>> ((0 : Int32).toInt64 &&& 63)) &&& 255) : Int64).toInt ≤ 126 := i_87
    have i_88 : 1 < p2.toInt := i_88
    have i_89 : 32 ≤ (((p1 >>> ((8 : Int32).toInt64 &&& 63)) &&& 255) : Int64).toInt := i_89
    have i_90 : (((p1 >>> ((8 : Int32).toInt64 &&& 63)) &&& 255) : Int64).toInt ≤ 126 := i_90
    have i_91 : 2 < p2.toInt := i_91
    have i_92 : 32 ≤ (((p1 >>> ((16 : Int32).toInt64 &&& 63)) &&& 255) : Int64).toInt := i_92
    have i_93 : (((p1 >>> ((16 : Int32).toInt64 &&& 63)) &&& 255) : Int64).toInt ≤ 126 := i_93
    have i_94 : 3 < p2.toInt := i_94
    have i_95 : 32 ≤ (((p1 >>> ((24 : Int32).toInt64 &&& 63)) &&& 255) : Int64).toInt := i_95
    have i_96 : (((p1 >>> ((24 : Int32).toInt64 &&& 63)) &&& 255) : Int64).toInt ≤ 126 := i_96
    have i_97 : 4 < p2.toInt := i_97
    have i_98 : 32 ≤ (((p1 >>> ((32 : Int32).toInt64 &&& 63)) &&& 255) : Int64).toInt := i_98
    have i_99 : (((p1 >>> ((32 : Int32).toInt64 &&& 63)) &&& 255) : Int64).toInt ≤ 126 := i_99
    have i_100 : p2.toInt ≤ 5 := i_100
    have hP : va_P g.1 vwCl [(h0, .inr (4, [.ref h1, .ref h2, .int 0, .ref h3, .ref h4, .ref h5, .ref h6, .int (-1), .ref h7, .ref h8, .ref h9, .ref h10]))] H := hP
    have hD : va_D A [(h0, .inr (4, [.ref h1, .ref h2, .int 0, .ref h3, .ref h4, .ref h5, .ref h6, .int (-1), .ref h7, .ref h8, .ref h9, .ref h10]))] := hD
    have hP9 := hP.sub (ws' := []) [] rfl
    have hD9 := hD.sub (ws' := []) [] (by decide) rfl
    exact W.iret (v := 5) hx hb hr (fun t ht hW => ⟨⟨5, 0, rfl, Or.inr (Or.inr (Or.inr (Or.inr (Or.inr (Or.inr (Or.inr (Or.inr (Or.inr (Or.inr (Or.inl ⟨i_84, i_85, i_86, i_87, i_88, i_89, i_90, i_91, i_92, i_93, i_94, i_95, i_96, i_97, i_98, i_99, i_100, rfl⟩)))))))))), by rw [ht]; exact hP9, hD9⟩, hS.F ht⟩) hS.2.2 dX4_type_9
  · skip
    have i_101 : 1 ≤ p2.toInt := i_101
    have i_102 : p2.toInt ≤ 8 := i_102
    have i_103 : 32 ≤ (((p1 >>> ((0 : Int32).toInt64 &&& 63)) &&& 255) : Int64).toInt := i_103
    have i_104 : (((p1 >>> ((0 : Int32).toInt64 &&& 63)) &&& 255) : Int64).toInt ≤ 126 := i_104
    have i_105 : 1 < p2.toInt := i_105
    have i_106 : 32 ≤ (((p1 >>> ((8 : Int32).toInt64 &&& 63)) &&& 255) : Int64).toInt := i_106
    have i_107 : (((p1 >>> ((8 : Int32).toInt64 &&& 63)) &&& 255) : Int64).toInt ≤ 126 := i_107
    have i_108 : 2 < p2.toInt := i_108
    have i_109 : 32 ≤ (((p1 >>> ((16 : Int32).toInt64 &&& 63)) &&& 255) : Int64).toInt := i_109
    have i_110 : (((p1 >>> ((16 : Int32).toInt64 &&& 63)) &&& 255) : Int64).toInt ≤ 126 := i_110
    have i_111 : 3 < p2.toInt := i_111
    have i_112 : 32 ≤ (((p1 >>> ((24 : Int32).toInt64 &&& 63)) &&& 255) : Int64).toInt := i_112
    have i_113 : (((p1 >>> ((24 : Int32).toInt64 &&& 63)) &&& 255) : Int64).toInt ≤ 126 := i_113
    have i_114 : 4 < p2.toInt := i_114
    have i_115 : 32 ≤ (((p1 >>> ((32 : Int32).toInt64 &&& 63)) &&& 255) : Int64).toInt := i_115
    have i_116 : (((p1 >>> ((32 : Int32).toInt64 &&& 63)) &&& 255) : Int64).toInt ≤ 126 := i_116
    have i_117 : 5 < p2.toInt := i_117
    have i_118 : (((p1 >>> ((40 : Int32).toInt64 &&& 63)) &&& 255) : Int64).toInt < 32 := i_118
    have hP : va_P g.1 vwCl [(h0, .inr (4, [.ref h1, .ref h2, .int 0, .ref h3, .ref h4, .ref h5, .ref h6, .int (-1), .ref h7, .ref h8, .ref h9, .ref h10]))] H := hP
    have hD : va_D A [(h0, .inr (4, [.ref h1, .ref h2, .int 0, .ref h3, .ref h4, .ref h5, .ref h6, .int (-1), .ref h7, .ref h8, .ref h9, .ref h10]))] := hD
    have hP9 := hP.sub (ws' := []) [] rfl
    have hD9 := hD.sub (ws' := []) [] (by decide) rfl
    exact W.iret (v := (-1)) hx hb hr (fun t ht hW => ⟨⟨(-1), 0, rfl, Or.inr (Or.inr (Or.inr (Or.inr (Or.inr (Or.inr (Or.inr (Or.inr (Or.inr (Or.inr (Or.inr (Or.inl ⟨i_101, i_102, i_103, i_104, i_105, i_106, i_107, i_108, i_109, i_110, i_111, i_112, i_113, i_114, i_115, i_116, i_117, i_118, rfl⟩))))))))))), by rw [ht]; exact hP9, hD9⟩, hS.F ht⟩) hS.2.2 dX4_type_9
  · skip
    have i_119 : 1 ≤ p2.toInt := i_119
    have i_120 : p2.toInt ≤ 8 := i_120
    have i_121 : 32 ≤ (((p1 >>> ((0 : Int32).toInt64 &&& 63)) &&& 255) : Int64).toInt := i_121
    have i_122 : (((p1 >>> ((0 : Int32).toInt64 &&& 63)) &&& 255) : Int64).toInt ≤ 126 := i_122
    have i_123 : 1 < p2.toInt := i_123
    have i_124 : 32 ≤ (((p1 >>> ((8 : Int32).toInt64 &&& 63)) &&& 255) : Int64).toInt := i_124
    have i_125 : (((p1 >>> ((8 : Int32).toInt64 &&& 63)) &&& 255) : Int64).toInt ≤ 126 := i_125
    have i_126 : 2 < p2.toInt := i_126
    have i_127 : 32 ≤ (((p1 >>> ((16 : Int32).toInt64 &&& 63)) &&& 255) : Int64).toInt := i_127
    have i_128 : (((p1 >>> ((16 : Int32).toInt64 &&& 63)) &&& 255) : Int64).toInt ≤ 126 := i_128
    have i_129 : 3 < p2.toInt := i_129
    have i_130 : 32 ≤ (((p1 >>> ((24 : Int32).toInt64 &&& 63)) &&& 255) : Int64).toInt := i_130
    have i_131 : (((p1 >>> ((24 : Int32).toInt64 &&& 63)) &&& 255) : Int64).toInt ≤ 126 := i_131
    have i_132 : 4 < p2.toInt := i_132
    have i_133 : 32 ≤ (((p1 >>> ((32 : Int32).toInt64 &&& 63)) &&& 255) : Int64).toInt := i_133
    have i_134 : (((p1 >>> ((32 : Int32).toInt64 &&& 63)) &&& 255) : Int64).toInt ≤ 126 := i_134
    have i_135 : 5 < p2.toInt := i_135
    have i_136 : 32 ≤ (((p1 >>> ((40 : Int32).toInt64 &&& 63)) &&& 255) : Int64).toInt := i_136
    have i_137 : (((p1 >>> ((40 : Int32).toInt64 &&& 63)) &&& 255) : Int64).toInt ≤ 126 := i_137
    have i_138 : p2.toInt ≤ 6 := i_138
    have hP : va_P g.1 vwCl [(h0, .inr (4, [.ref h1, .ref h2, .int 0, .ref h3, .ref h4, .ref h5, .ref h6, .int (-1), .ref h7, .ref h8, .ref h9, .ref h10]))] H := hP
    have hD : va_D A [(h0, .inr (4, [.ref h1, .ref h2, .int 0, .ref h3, .ref h4, .ref h5, .ref h6, .int (-1), .ref h7, .ref h8, .ref h9, .ref h10]))] := hD
    have hP9 := hP.sub (ws' := []) [] rfl
    have hD9 := hD.sub (ws' := []) [] (by decide) rfl
    exact W.iret (v := 6) hx hb hr (fun t ht hW => ⟨⟨6, 0, rfl, Or.inr (Or.inr (Or.inr (Or.inr (Or.inr (Or.inr (Or.inr (Or.inr (Or.inr (Or.inr (Or.inr (Or.inr (Or.inl ⟨i_119, i_120, i_121, i_122, i_123, i_124, i_125, i_126, i_127, i_128, i_129, i_130, i_131, i_132, i_133, i_134, i_135, i_136, i_137, i_138, rfl⟩)))))))))))), by rw [ht]; exact hP9, hD9⟩, hS.F ht⟩) hS.2.2 dX4_type_9
  · skip
    have i_139 : 1 ≤ p2.toInt := i_139
    have i_140 : p2.toInt ≤ 8 := i_140
    have i_141 : 32 ≤ (((p1 >>> ((0 : Int32).toInt64 &&& 63)) &&& 255) : Int64).toInt := i_141
    have i_142 : (((p1 >>> ((0 : Int32).toInt64 &&& 63)) &&& 255) : Int64).toInt ≤ 126 := i_142
    have i_143 : 1 < p2.toInt := i_143
    have i_144 : 32 ≤ (((p1 >>> ((8 : Int32).toInt64 &&& 63)) &&& 255) : Int64).toInt := i_144
    have i_145 : (((p1 >>> ((8 : Int32).toInt64 &&& 63)) &&& 255) : Int64).toInt ≤ 126 := i_145
    have i_146 : 2 < p2.toInt := i_146
    have i_147 : 32 ≤ (((p1 >>> ((16 : Int32).toInt64 &&& 63)) &&& 255) : Int64).toInt := i_147
    have i_148 : (((p1 >>> ((16 : Int32).toInt64 &&& 63)) &&& 255) : Int64).toInt ≤ 126 := i_148
    have i_149 : 3 < p2.toInt := i_149
    have i_150 : 32 ≤ (((p1 >>> ((24 : Int32).toInt64 &&& 63)) &&& 255) : Int64).toInt := i_150
    have i_151 : (((p1 >>> ((24 : Int32).toInt64 &&& 63)) &&& 255) : Int64).toInt ≤ 126 := i_151
    have i_152 : 4 < p2.toInt := i_152
    have i_153 : 32 ≤ (((p1 >>> ((32 : Int32).toInt64 &&& 63)) &&& 255) : Int64).toInt := i_153
    have i_154 : (((p1 >>> ((32 : Int32).toInt64 &&& 63)) &&& 255) : Int64).toInt ≤ 126 := i_154
    have i_155 : 5 < p2.toInt := i_155
    have i_156 : 32 ≤ (((p1 >>> ((40 : Int32).toInt64 &&& 63)) &&& 255) : Int64).toInt := i_156
    have i_157 : (((p1 >>> ((40 : Int32).toInt64 &&& 63)) &&& 255) : Int64).toInt ≤ 126 := i_157
    have i_158 : 6 < p2.toInt := i_158
    have i_159 : (((p1 >>> ((48 : Int32).toInt64 &&& 63)) &&& 255) : Int64).toInt < 32 := i_159
    have hP : va_P g.1 vwCl [(h0, .inr (4, [.ref h1, .ref h2, .int 0, .ref h3, .ref h4, .ref h5, .ref h6, .int (-1), .ref h7, .ref h8, .ref h9, .ref h10]))] H := hP
    have hD : va_D A [(h0, .inr (4, [.ref h1, .ref h2, .int 0, .ref h3, .ref h4, .ref h5, .ref h6, .int (-1), .ref h7, .ref h8, .ref h9, .ref h10]))] := hD
    have hP9 := hP.sub (ws' := []) [] rfl
    have hD9 := hD.sub (ws' := []) [] (by decide) rfl
    exact W.iret (v := (-1)) hx hb hr (fun t ht hW => ⟨⟨(-1), 0, rfl, Or.inr (Or.inr (Or.inr (Or.inr (Or.inr (Or.inr (Or.inr (Or.inr (Or.inr (Or.inr (Or.inr (Or.inr (Or.inr (Or.inl ⟨i_139, i_140, i_141, i_142, i_143, i_144, i_145, i_146, i_147, i_148, i_149, i_150, i_151, i_152, i_153, i_154, i_155, i_156, i_157, i_158, i_159, rfl⟩))))))))))))), by rw [ht]; exact hP9, hD9⟩, hS.F ht⟩) hS.2.2 dX4_type_9
  · skip
    have i_160 : 1 ≤ p2.toInt := i_160
    have i_161 : p2.toInt ≤ 8 := i_161
    have i_162 : 32 ≤ (((p1 >>> ((0 : Int32).toInt64 &&& 63)) &&& 255) : Int64).toInt := i_162
    have i_163 : (((p1 >>> ((0 : Int32).toInt64 &&& 63)) &&& 255) : Int64).toInt ≤ 126 := i_163
    have i_164 : 1 < p2.toInt := i_164
    have i_165 : 32 ≤ (((p1 >>> ((8 : Int32).toInt64 &&& 63)) &&& 255) : Int64).toInt := i_165
    have i_166 : (((p1 >>> ((8 : Int32).toInt64 &&& 63)) &&& 255) : Int64).toInt ≤ 126 := i_166
    have i_167 : 2 < p2.toInt := i_167
    have i_168 : 32 ≤ (((p1 >>> ((16 : Int32).toInt64 &&& 63)) &&& 255) : Int64).toInt := i_168
    have i_169 : (((p1 >>> ((16 : Int32).toInt64 &&& 63)) &&& 255) : Int64).toInt ≤ 126 := i_169
    have i_170 : 3 < p2.toInt := i_170
    have i_171 : 32 ≤ (((p1 >>> ((24 : Int32).toInt64 &&& 63)) &&& 255) : Int64).toInt := i_171
    have i_172 : (((p1 >>> ((24 : Int32).toInt64 &&& 63)) &&& 255) : Int64).toInt ≤ 126 := i_172
    have i_173 : 4 < p2.toInt := i_173
    have i_174 : 32 ≤ (((p1 >>> ((32 : Int32).toInt64 &&& 63)) &&& 255) : Int64).toInt := i_174
    have i_175 : (((p1 >>> ((32 : Int32).toInt64 &&& 63)) &&& 255) : Int64).toInt ≤ 126 := i_175
    have i_176 : 5 < p2.toInt := i_176
    have i_177 : 32 ≤ (((p1 >>> ((40 : Int32).toInt64 &&& 63)) &&& 255) : Int64).toInt := i_177
    have i_178 : (((p1 >>> ((40 : Int32).toInt64 &&& 63)) &&& 255) : Int64).toInt ≤ 126 := i_178
    have i_179 : 6 < p2.toInt := i_179
    have i_180 : 32 ≤ (((p1 >>> ((48 : Int32).toInt64 &&& 63)) &&& 255) : Int64).toInt := i_180
    have i_181 : (((p1 >>> ((48 : Int32).toInt64 &&& 63)) &&& 255) : Int64).toInt ≤ 126 := i_181
    have i_182 : p2.toInt ≤ 7 := i_182
    have hP : va_P g.1 vwCl [(h0, .inr (4, [.ref h1, .ref h2, .int 0, .ref h3, .ref h4, .ref h5, .ref h6, .int (-1), .ref h7, .ref h8, .ref h9, .ref h10]))] H := hP
    have hD : va_D A [(h0, .inr (4, [.ref h1, .ref h2, .int 0, .ref h3, .ref h4, .ref h5, .ref h6, .int (-1), .ref h7, .ref h8, .ref h9, .ref h10]))] := hD
    have hP9 := hP.sub (ws' := []) [] rfl
    have hD9 := hD.sub (ws' := []) [] (by decide) rfl
    exact W.iret (v := 7) hx hb hr (fun t ht hW => ⟨⟨7, 0, rfl, Or.inr (Or.inr (Or.inr (Or.inr (Or.inr (Or.inr (Or.inr (Or.inr (Or.inr (Or.inr (Or.inr (Or.inr (Or.inr (Or.inr (Or.inl ⟨i_160, i_161, i_162, i_163, i_164, i_165, i_166, i_167, i_168, i_169, i_170, i_171, i_172, i_173, i_174, i_175, i_176, i_177, i_178, i_179, i_180, i_181, i_182, rfl⟩)))))))))))))), by rw [ht]; exact hP9, hD9⟩, hS.F ht⟩) hS.2.2 dX4_type_9
  · skip
    have i_183 : 1 ≤ p2.toInt := i_183
    have i_184 : p2.toInt ≤ 8 := i_184
    have i_185 : 32 ≤ (((p1 >>> ((0 : Int32).toInt64 &&& 63)) &&& 255) : Int64).toInt := i_185
    have i_186 : (((p1 >>> ((0 : Int32).toInt64 &&& 63)) &&& 255) : Int64).toInt ≤ 126 := i_186
    have i_187 : 1 < p2.toInt := i_187
    have i_188 : 32 ≤ (((p1 >>> ((8 : Int32).toInt64 &&& 63)) &&& 255) : Int64).toInt := i_188
    have i_189 : (((p1 >>> ((8 : Int32).toInt64 &&& 63)) &&& 255) : Int64).toInt ≤ 126 := i_189
    have i_190 : 2 < p2.toInt := i_190
    have i_191 : 32 ≤ (((p1 >>> ((16 : Int32).toInt64 &&& 63)) &&& 255) : Int64).toInt := i_191
    have i_192 : (((p1 >>> ((16 : Int32).toInt64 &&& 63)) &&& 255) : Int64).toInt ≤ 126 := i_192
    have i_193 : 3 < p2.toInt := i_193
    have i_194 : 32 ≤ (((p1 >>> ((24 : Int32).toInt64 &&& 63)) &&& 255) : Int64).toInt := i_194
    have i_195 : (((p1 >>> ((24 : Int32).toInt64 &&& 63)) &&& 255) : Int64).toInt ≤ 126 := i_195
    have i_196 : 4 < p2.toInt := i_196
    have i_197 : 32 ≤ (((p1 >>> ((32 : Int32).toInt64 &&& 63)) &&& 255) : Int64).toInt := i_197
    have i_198 : (((p1 >>> ((32 : Int32).toInt64 &&& 63)) &&& 255) : Int64).toInt ≤ 126 := i_198
    have i_199 : 5 < p2.toInt := i_199
    have i_200 : 32 ≤ (((p1 >>> ((40 : Int32).toInt64 &&& 63)) &&& 255) : Int64).toInt := i_200
    have i_201 : (((p1 >>> ((40 : Int32).toInt64 &&& 63)) &&& 255) : Int64).toInt ≤ 126 := i_201
    have i_202 : 6 < p2.toInt := i_202
    have i_203 : 32 ≤ (((p1 >>> ((48 : Int32).toInt64 &&& 63)) &&& 255) : Int64).toInt := i_203
    have i_204 : (((p1 >>> ((48 : Int32).toInt64 &&& 63)) &&& 255) : Int64).toInt ≤ 126 := i_204
    have i_205 : 7 < p2.toInt := i_205
    have i_206 : (((p1 >>> ((56 : Int32).toInt64 &&& 63)) &&& 255) : Int64).toInt < 32 := i_206
    have hP : va_P g.1 vwCl [(h0, .inr (4, [.ref h1, .ref h2, .int 0, .ref h3, .ref h4, .ref h5, .ref h6, .int (-1), .ref h7, .ref h8, .ref h9, .ref h10]))] H := hP
    have hD : va_D A [(h0, .inr (4, [.ref h1, .ref h2, .int 0, .ref h3, .ref h4, .ref h5, .ref h6, .int (-1), .ref h7, .ref h8, .ref h9, .ref h10]))] := hD
    have hP9 := hP.sub (ws' := []) [] rfl
    have hD9 := hD.sub (ws' := []) [] (by decide) rfl
    exact W.iret (v := (-1)) hx hb hr (fun t ht hW => ⟨⟨(-1), 0, rfl, Or.inr (Or.inr (Or.inr (Or.inr (Or.inr (Or.inr (Or.inr (Or.inr (Or.inr (Or.inr (Or.inr (Or.inr (Or.inr (Or.inr (Or.inr (Or.inl ⟨i_183, i_184, i_185, i_186, i_187, i_188, i_189, i_190, i_191, i_192, i_193, i_194, i_195, i_196, i_197, i_198, i_199, i_200, i_201, i_202, i_203, i_204, i_205, i_206, rfl⟩))))))))))))))), by rw [ht]; exact hP9, hD9⟩, hS.F ht⟩) hS.2.2 dX4_type_9
  · skip
    have i_207 : 1 ≤ p2.toInt := i_207
    have i_208 : p2.toInt ≤ 8 := i_208
    have i_209 : 32 ≤ (((p1 >>> ((0 : Int32).toInt64 &&& 63)) &&& 255) : Int64).toInt := i_209
    have i_210 : (((p1 >>> ((0 : Int32).toInt64 &&& 63)) &&& 255) : Int64).toInt ≤ 126 := i_210
    have i_211 : 1 < p2.toInt := i_211
    have i_212 : 32 ≤ (((p1 >>> ((8 : Int32).toInt64 &&& 63)) &&& 255) : Int64).toInt := i_212
    have i_213 : (((p1 >>> ((8 : Int32).toInt64 &&& 63)) &&& 255) : Int64).toInt ≤ 126 := i_213
    have i_214 : 2 < p2.toInt := i_214
    have i_215 : 32 ≤ (((p1 >>> ((16 : Int32).toInt64 &&& 63)) &&& 255) : Int64).toInt := i_215
    have i_216 : (((p1 >>> ((16 : Int32).toInt64 &&& 63)) &&& 255) : Int64).toInt ≤ 126 := i_216
    have i_217 : 3 < p2.toInt := i_217
    have i_218 : 32 ≤ (((p1 >>> ((24 : Int32).toInt64 &&& 63)) &&& 255) : Int64).toInt := i_218
    have i_219 : (((p1 >>> ((24 : Int32).toInt64 &&& 63)) &&& 255) : Int64).toInt ≤ 126 := i_219
    have i_220 : 4 < p2.toInt := i_220
    have i_221 : 32 ≤ (((p1 >>> ((32 : Int32).toInt64 &&& 63)) &&& 255) : Int64).toInt := i_221
    have i_222 : (((p1 >>> ((32 : Int32).toInt64 &&& 63)) &&& 255) : Int64).toInt ≤ 126 := i_222
    have i_223 : 5 < p2.toInt := i_223
    have i_224 : 32 ≤ (((p1 >>> ((40 : Int32).toInt64 &&& 63)) &&& 255) : Int64).toInt := i_224
    have i_225 : (((p1 >>> ((40 : Int32).toInt64 &&& 63)) &&& 255) : Int64).toInt ≤ 126 := i_225
    have i_226 : 6 < p2.toInt := i_226
    have i_227 : 32 ≤ (((p1 >>> ((48 : Int32).toInt64 &&& 63)) &&& 255) : Int64).toInt := i_227
    have i_228 : (((p1 >>> ((48 : Int32).toInt64 &&& 63)) &&& 255) : Int64).toInt ≤ 126 := i_228
    have i_229 : 7 < p2.toInt := i_229
    have i_230 : 32 ≤ (((p1 >>> ((56 : Int32).toInt64 &&& 63)) &&& 255) : Int64).toInt := i_230
    have i_231 : (((p1 >>> ((56 : Int32).toInt64 &&& 63)) &&& 255) : Int64).toInt ≤ 126 := i_231
    have hP : va_P g.1 vwCl [(h0, .inr (4, [.ref h1, .ref h2, .int 0, .ref h3, .ref h4, .ref h5, .ref h6, .int (-1), .ref h7, .ref h8, .ref h9, .ref h10]))] H := hP
    have hD : va_D A [(h0, .inr (4, [.ref h1, .ref h2, .int 0, .ref h3, .ref h4, .ref h5, .ref h6, .int (-1), .ref h7, .ref h8, .ref h9, .ref h10]))] := hD
    have hP9 := hP.sub (ws' := []) [] rfl
    have hD9 := hD.sub (ws' := []) [] (by decide) rfl
    exact W.iret (v := 8) hx hb hr (fun t ht hW => ⟨⟨8, 0, rfl, Or.inr (Or.inr (Or.inr (Or.inr (Or.inr (Or.inr (Or.inr (Or.inr (Or.inr (Or.inr (Or.inr (Or.inr (Or.inr (Or.inr (Or.inr (Or.inr (Or.inl ⟨i_207, i_208, i_209, i_210, i_211, i_212, i_213, i_214, i_215, i_216, i_217, i_218, i_219, i_220, i_221, i_222, i_223, i_224, i_225, i_226, i_227, i_228, i_229, i_230, i_231, rfl⟩)))))))))))))))), by rw [ht]; exact hP9, hD9⟩, hS.F ht⟩) hS.2.2 dX4_type_9
  · skip
    have i_232 : 1 ≤ p2.toInt := i_232
    have i_233 : p2.toInt ≤ 8 := i_233
    have i_234 : 32 ≤ (((p1 >>> ((0 : Int32).toInt64 &&& 63)) &&& 255) : Int64).toInt := i_234
    have i_235 : (((p1 >>> ((0 : Int32).toInt64 &&& 63)) &&& 255) : Int64).toInt ≤ 126 := i_235
    have i_236 : 1 < p2.toInt := i_236
    have i_237 : 32 ≤ (((p1 >>> ((8 : Int32).toInt64 &&& 63)) &&& 255) : Int64).toInt := i_237
    have i_238 : (((p1 >>> ((8 : Int32).toInt64 &&& 63)) &&& 255) : Int64).toInt ≤ 126 := i_238
    have i_239 : 2 < p2.toInt := i_239
    have i_240 : 32 ≤ (((p1 >>> ((16 : Int32).toInt64 &&& 63)) &&& 255) : Int64).toInt := i_240
    have i_241 : (((p1 >>> ((16 : Int32).toInt64 &&& 63)) &&& 255) : Int64).toInt ≤ 126 := i_241
    have i_242 : 3 < p2.toInt := i_242
    have i_243 : 32 ≤ (((p1 >>> ((24 : Int32).toInt64 &&& 63)) &&& 255) : Int64).toInt := i_243
    have i_244 : (((p1 >>> ((24 : Int32).toInt64 &&& 63)) &&& 255) : Int64).toInt ≤ 126 := i_244
    have i_245 : 4 < p2.toInt := i_245
    have i_246 : 32 ≤ (((p1 >>> ((32 : Int32).toInt64 &&& 63)) &&& 255) : Int64).toInt := i_246
    have i_247 : (((p1 >>> ((32 : Int32).toInt64 &&& 63)) &&& 255) : Int64).toInt ≤ 126 := i_247
    have i_248 : 5 < p2.toInt := i_248
    have i_249 : 32 ≤ (((p1 >>> ((40 : Int32).toInt64 &&& 63)) &&& 255) : Int64).toInt := i_249
    have i_250 : (((p1 >>> ((40 : Int32).toInt64 &&& 63)) &&& 255) : Int64).toInt ≤ 126 := i_250
    have i_251 : 6 < p2.toInt := i_251
    have i_252 : 32 ≤ (((p1 >>> ((48 : Int32).toInt64 &&& 63)) &&& 255) : Int64).toInt := i_252
    have i_253 : (((p1 >>> ((48 : Int32).toInt64 &&& 63)) &&& 255) : Int64).toInt ≤ 126 := i_253
    have i_254 : 7 < p2.toInt := i_254
    have i_255 : 32 ≤ (((p1 >>> ((56 : Int32).toInt64 &&& 63)) &&& 255) : Int64).toInt := i_255
    have i_256 : 126 < (((p1 >>> ((56 : Int32).toInt64 &&& 63)) &&& 255) : Int64).toInt := i_256
    have hP : va_P g.1 vwCl [(h0, .inr (4, [.ref h1, .ref h2, .int 0, .ref h3, .ref h4, .ref h5, .ref h6, .int (-1), .ref h7, .ref h8, .ref h9, .ref h10]))] H := hP
    have hD : va_D A [(h0, .inr (4, [.ref h1, .ref h2, .int 0, .ref h3, .ref h4, .ref h5, .ref h6, .int (-1), .ref h7, .ref h8, .ref h9, .ref h10]))] := hD
    have hP9 := hP.sub (ws' := []) [] rfl
    have hD9 := hD.sub (ws' := []) [] (by decide) rfl
    exact W.iret (v := (-1)) hx hb hr (fun t ht hW => ⟨⟨(-1), 0, rfl, Or.inr (Or.inr (Or.inr (Or.inr (Or.inr (Or.inr (Or.inr (Or.inr (Or.inr (Or.inr (Or.inr (Or.inr (Or.inr (Or.inr (Or.inr (Or.inr (Or.inr (Or.inl ⟨i_232, i_233, i_234, i_235, i_236, i_237, i_238, i_239, i_240, i_241, i_242, i_243, i_244, i_245, i_246, i_247, i_248, i_249, i_250, i_251, i_252, i_253, i_254, i_255, i_256, rfl⟩))))))))))))))))), by rw [ht]; exact hP9, hD9⟩, hS.F ht⟩) hS.2.2 dX4_type_9
  · skip
    have i_257 : 1 ≤ p2.toInt := i_257
    have i_258 : p2.toInt ≤ 8 := i_258
    have i_259 : 32 ≤ (((p1 >>> ((0 : Int32).toInt64 &&& 63)) &&& 255) : Int64).toInt := i_259
    have i_260 : (((p1 >>> ((0 : Int32).toInt64 &&& 63)) &&& 255) : Int64).toInt ≤ 126 := i_260
    have i_261 : 1 < p2.toInt := i_261
    have i_262 : 32 ≤ (((p1 >>> ((8 : Int32).toInt64 &&& 63)) &&& 255) : Int64).toInt := i_262
    have i_263 : (((p1 >>> ((8 : Int32).toInt64 &&& 63)) &&& 255) : Int64).toInt ≤ 126 := i_263
    have i_264 : 2 < p2.toInt := i_264
    have i_265 : 32 ≤ (((p1 >>> ((16 : Int32).toInt64 &&& 63)) &&& 255) : Int64).toInt := i_265
    have i_266 : (((p1 >>> ((16 : Int32).toInt64 &&& 63)) &&& 255) : Int64).toInt ≤ 126 := i_266
    have i_267 : 3 < p2.toInt := i_267
    have i_268 : 32 ≤ (((p1 >>> ((24 : Int32).toInt64 &&& 63)) &&& 255) : Int64).toInt := i_268
    have i_269 : (((p1 >>> ((24 : Int32).toInt64 &&& 63)) &&& 255) : Int64).toInt ≤ 126 := i_269
    have i_270 : 4 < p2.toInt := i_270
    have i_271 : 32 ≤ (((p1 >>> ((32 : Int32).toInt64 &&& 63)) &&& 255) : Int64).toInt := i_271
    have i_272 : (((p1 >>> ((32 : Int32).toInt64 &&& 63)) &&& 255) : Int64).toInt ≤ 126 := i_272
    have i_273 : 5 < p2.toInt := i_273
    have i_274 : 32 ≤ (((p1 >>> ((40 : Int32).toInt64 &&& 63)) &&& 255) : Int64).toInt := i_274
    have i_275 : (((p1 >>> ((40 : Int32).toInt64 &&& 63)) &&& 255) : Int64).toInt ≤ 126 := i_275
    have i_276 : 6 < p2.toInt := i_276
    have i_277 : 32 ≤ (((p1 >>> ((48 : Int32).toInt64 &&& 63)) &&& 255) : Int64).toInt := i_277
    have i_278 : 126 < (((p1 >>> ((48 : Int32).toInt64 &&& 63)) &&& 255) : Int64).toInt := i_278
    have hP : va_P g.1 vwCl [(h0, .inr (4, [.ref h1, .ref h2, .int 0, .ref h3, .ref h4, .ref h5, .ref h6, .int (-1), .ref h7, .ref h8, .ref h9, .ref h10]))] H := hP
    have hD : va_D A [(h0, .inr (4, [.ref h1, .ref h2, .int 0, .ref h3, .ref h4, .ref h5, .ref h6, .int (-1), .ref h7, .ref h8, .ref h9, .ref h10]))] := hD
    have hP9 := hP.sub (ws' := []) [] rfl
    have hD9 := hD.sub (ws' := []) [] (by decide) rfl
    exact W.iret (v := (-1)) hx hb hr (fun t ht hW => ⟨⟨(-1), 0, rfl, Or.inr (Or.inr (Or.inr (Or.inr (Or.inr (Or.inr (Or.inr (Or.inr (Or.inr (Or.inr (Or.inr (Or.inr (Or.inr (Or.inr (Or.inr (Or.inr (Or.inr (Or.inr (Or.inl ⟨i_257, i_258, i_259, i_260, i_261, i_262, i_263, i_264, i_265, i_266, i_267, i_268, i_269, i_270, i_271, i_272, i_273, i_274, i_275, i_276, i_277, i_278, rfl⟩)))))))))))))))))), by rw [ht]; exact hP9, hD9⟩, hS.F ht⟩) hS.2.2 dX4_type_9
  · skip
    have i_279 : 1 ≤ p2.toInt := i_279
    have i_280 : p2.toInt ≤ 8 := i_280
    have i_281 : 32 ≤ (((p1 >>> ((0 : Int32).toInt64 &&& 63)) &&& 255) : Int64).toInt := i_281
    have i_282 : (((p1 >>> ((0 : Int32).toInt64 &&& 63)) &&& 255) : Int64).toInt ≤ 126 := i_282
    have i_283 : 1 < p2.toInt := i_283
    have i_284 : 32 ≤ (((p1 >>> ((8 : Int32).toInt64 &&& 63)) &&& 255) : Int64).toInt := i_284
    have i_285 : (((p1 >>> ((8 : Int32).toInt64 &&& 63)) &&& 255) : Int64).toInt ≤ 126 := i_285
    have i_286 : 2 < p2.toInt := i_286
    have i_287 : 32 ≤ (((p1 >>> ((16 : Int32).toInt64 &&& 63)) &&& 255) : Int64).toInt := i_287
    have i_288 : (((p1 >>> ((16 : Int32).toInt64 &&& 63)) &&& 255) : Int64).toInt ≤ 126 := i_288
    have i_289 : 3 < p2.toInt := i_289
    have i_290 : 32 ≤ (((p1 >>> ((24 : Int32).toInt64 &&& 63)) &&& 255) : Int64).toInt := i_290
    have i_291 : (((p1 >>> ((24 : Int32).toInt64 &&& 63)) &&& 255) : Int64).toInt ≤ 126 := i_291
    have i_292 : 4 < p2.toInt := i_292
    have i_293 : 32 ≤ (((p1 >>> ((32 : Int32).toInt64 &&& 63)) &&& 255) : Int64).toInt := i_293
    have i_294 : (((p1 >>> ((32 : Int32).toInt64 &&& 63)) &&& 255) : Int64).toInt ≤ 126 := i_294
    have i_295 : 5 < p2.toInt := i_295
    have i_296 : 32 ≤ (((p1 >>> ((40 : Int32).toInt64 &&& 63)) &&& 255) : Int64).toInt := i_296
    have i_297 : 126 < (((p1 >>> ((40 : Int32).toInt64 &&& 63)) &&& 255) : Int64).toInt := i_297
    have hP : va_P g.1 vwCl [(h0, .inr (4, [.ref h1, .ref h2, .int 0, .ref h3, .ref h4, .ref h5, .ref h6, .int (-1), .ref h7, .ref h8, .ref h9, .ref h10]))] H := hP
    have hD : va_D A [(h0, .inr (4, [.ref h1, .ref h2, .int 0, .ref h3, .ref h4, .ref h5, .ref h6, .int (-1), .ref h7, .ref h8, .ref h9, .ref h10]))] := hD
    have hP9 := hP.sub (ws' := []) [] rfl
    have hD9 := hD.sub (ws' := []) [] (by decide) rfl
    exact W.iret (v := (-1)) hx hb hr (fun t ht hW => ⟨⟨(-1), 0, rfl, Or.inr (Or.inr (Or.inr (Or.inr (Or.inr (Or.inr (Or.inr (Or.inr (Or.inr (Or.inr (Or.inr (Or.inr (Or.inr (Or.inr (Or.inr (Or.inr (Or.inr (Or.inr (Or.inr (Or.inl ⟨i_279, i_280, i_281, i_282, i_283, i_284, i_285, i_286, i_287, i_288, i_289, i_290, i_291, i_292, i_293, i_294, i_295, i_296, i_297, rfl⟩))))))))))))))))))), by rw [ht]; exact hP9, hD9⟩, hS.F ht⟩) hS.2.2 dX4_type_9
  · skip
    have i_298 : 1 ≤ p2.toInt := i_298
    have i_299 : p2.toInt ≤ 8 := i_299
    have i_300 : 32 ≤ (((p1 >>> ((0 : Int32).toInt64 &&& 63)) &&& 255) : Int64).toInt := i_300
    have i_301 : (((p1 >>> ((0 : Int32).toInt64 &&& 63)) &&& 255) : Int64).toInt ≤ 126 := i_301
    have i_302 : 1 < p2.toInt := i_302
    have i_303 : 32 ≤ (((p1 >>> ((8 : Int32).toInt64 &&& 63)) &&& 255) : Int64).toInt := i_303
    have i_304 : (((p1 >>> ((8 : Int32).toInt64 &&& 63)) &&& 255) : Int64).toInt ≤ 126 := i_304
    have i_305 : 2 < p2.toInt := i_305
    have i_306 : 32 ≤ (((p1 >>> ((16 : Int32).toInt64 &&& 63)) &&& 255) : Int64).toInt := i_306
    have i_307 : (((p1 >>> ((16 : Int32).toInt64 &&& 63)) &&& 255) : Int64).toInt ≤ 126 := i_307
    have i_308 : 3 < p2.toInt := i_308
    have i_309 : 32 ≤ (((p1 >>> ((24 : Int32).toInt64 &&& 63)) &&& 255) : Int64).toInt := i_309
    have i_310 : (((p1 >>> ((24 : Int32).toInt64 &&& 63)) &&& 255) : Int64).toInt ≤ 126 := i_310
    have i_311 : 4 < p2.toInt := i_311
    have i_312 : 32 ≤ (((p1 >>> ((32 : Int32).toInt64 &&& 63)) &&& 255) : Int64).toInt := i_312
    have i_313 : 126 < (((p1 >>> ((32 : Int32).toInt64 &&& 63)) &&& 255) : Int64).toInt := i_313
    have hP : va_P g.1 vwCl [(h0, .inr (4, [.ref h1, .ref h2, .int 0, .ref h3, .ref h4, .ref h5, .ref h6, .int (-1), .ref h7, .ref h8, .ref h9, .ref h10]))] H := hP
    have hD : va_D A [(h0, .inr (4, [.ref h1, .ref h2, .int 0, .ref h3, .ref h4, .ref h5, .ref h6, .int (-1), .ref h7, .ref h8, .ref h9, .ref h10]))] := hD
    have hP9 := hP.sub (ws' := []) [] rfl
    have hD9 := hD.sub (ws' := []) [] (by decide) rfl
    exact W.iret (v := (-1)) hx hb hr (fun t ht hW => ⟨⟨(-1), 0, rfl, Or.inr (Or.inr (Or.inr (Or.inr (Or.inr (Or.inr (Or.inr (Or.inr (Or.inr (Or.inr (Or.inr (Or.inr (Or.inr (Or.inr (Or.inr (Or.inr (Or.inr (Or.inr (Or.inr (Or.inr (Or.inl ⟨i_298, i_299, i_300, i_301, i_302, i_303, i_304, i_305, i_306, i_307, i_308, i_309, i_310, i_311, i_312, i_313, rfl⟩)))))))))))))))))))), by rw [ht]; exact hP9, hD9⟩, hS.F ht⟩) hS.2.2 dX4_type_9
  · skip
    have i_314 : 1 ≤ p2.toInt := i_314
    have i_315 : p2.toInt ≤ 8 := i_315
    have i_316 : 32 ≤ (((p1 >>> ((0 : Int32).toInt64 &&& 63)) &&& 255) : Int64).toInt := i_316
    have i_317 : (((p1 >>> ((0 : Int32).toInt64 &&& 63)) &&& 255) : Int64).toInt ≤ 126 := i_317
    have i_318 : 1 < p2.toInt := i_318
    have i_319 : 32 ≤ (((p1 >>> ((8 : Int32).toInt64 &&& 63)) &&& 255) : Int64).toInt := i_319
    have i_320 : (((p1 >>> ((8 : Int32).toInt64 &&& 63)) &&& 255) : Int64).toInt ≤ 126 := i_320
    have i_321 : 2 < p2.toInt := i_321
    have i_322 : 32 ≤ (((p1 >>> ((16 : Int32).toInt64 &&& 63)) &&& 255) : Int64).toInt := i_322
    have i_323 : (((p1 >>> ((16 : Int32).toInt64 &&& 63)) &&& 255) : Int64).toInt ≤ 126 := i_323
    have i_324 : 3 < p2.toInt := i_324
    have i_325 : 32 ≤ (((p1 >>> ((24 : Int32).toInt64 &&& 63)) &&& 255) : Int64).toInt := i_325
    have i_326 : 126 < (((p1 >>> ((24 : Int32).toInt64 &&& 63)) &&& 255) : Int64).toInt := i_326
    have hP : va_P g.1 vwCl [(h0, .inr (4, [.ref h1, .ref h2, .int 0, .ref h3, .ref h4, .ref h5, .ref h6, .int (-1), .ref h7, .ref h8, .ref h9, .ref h10]))] H := hP
    have hD : va_D A [(h0, .inr (4, [.ref h1, .ref h2, .int 0, .ref h3, .ref h4, .ref h5, .ref h6, .int (-1), .ref h7, .ref h8, .ref h9, .ref h10]))] := hD
    have hP9 := hP.sub (ws' := []) [] rfl
    have hD9 := hD.sub (ws' := []) [] (by decide) rfl
    exact W.iret (v := (-1)) hx hb hr (fun t ht hW => ⟨⟨(-1), 0, rfl, Or.inr (Or.inr (Or.inr (Or.inr (Or.inr (Or.inr (Or.inr (Or.inr (Or.inr (Or.inr (Or.inr (Or.inr (Or.inr (Or.inr (Or.inr (Or.inr (Or.inr (Or.inr (Or.inr (Or.inr (Or.inr (Or.inl ⟨i_314, i_315, i_316, i_317, i_318, i_319, i_320, i_321, i_322, i_323, i_324, i_325, i_326, rfl⟩))))))))))))))))))))), by rw [ht]; exact hP9, hD9⟩, hS.F ht⟩) hS.2.2 dX4_type_9
  · skip
    have i_327 : 1 ≤ p2.toInt := i_327
    have i_328 : p2.toInt ≤ 8 := i_328
    have i_329 : 32 ≤ (((p1 >>> ((0 : Int32).toInt64 &&& 63)) &&& 255) : Int64).toInt := i_329
    have i_330 : (((p1 >>> ((0 : Int32).toInt64 &&& 63)) &&& 255) : Int64).toInt ≤ 126 := i_330
    have i_331 : 1 < p2.toInt := i_331
    have i_332 : 32 ≤ (((p1 >>> ((8 : Int32).toInt64 &&& 63)) &&& 255) : Int64).toInt := i_332
    have i_333 : (((p1 >>> ((8 : Int32).toInt64 &&& 63)) &&& 255) : Int64).toInt ≤ 126 := i_333
    have i_334 : 2 < p2.toInt := i_334
    have i_335 : 32 ≤ (((p1 >>> ((16 : Int32).toInt64 &&& 63)) &&& 255) : Int64).toInt := i_335
    have i_336 : 126 < (((p1 >>> ((16 : Int32).toInt64 &&& 63)) &&& 255) : Int64).toInt := i_336
    have hP : va_P g.1 vwCl [(h0, .inr (4, [.ref h1, .ref h2, .int 0, .ref h3, .ref h4, .ref h5, .ref h6, .int (-1), .ref h7, .ref h8, .ref h9, .ref h10]))] H := hP
    have hD : va_D A [(h0, .inr (4, [.ref h1, .ref h2, .int 0, .ref h3, .ref h4, .ref h5, .ref h6, .int (-1), .ref h7, .ref h8, .ref h9, .ref h10]))] := hD
    have hP9 := hP.sub (ws' := []) [] rfl
    have hD9 := hD.sub (ws' := []) [] (by decide) rfl
    exact W.iret (v := (-1)) hx hb hr (fun t ht hW => ⟨⟨(-1), 0, rfl, Or.inr (Or.inr (Or.inr (Or.inr (Or.inr (Or.inr (Or.inr (Or.inr (Or.inr (Or.inr (Or.inr (Or.inr (Or.inr (Or.inr (Or.inr (Or.inr (Or.inr (Or.inr (Or.inr (Or.inr (Or.inr (Or.inr (Or.inl ⟨i_327, i_328, i_329, i_330, i_331, i_332, i_333, i_334, i_335, i_336, rfl⟩)))))))))))))))))))))), by rw [ht]; exact hP9, hD9⟩, hS.F ht⟩) hS.2.2 dX4_type_9
  · skip
    have i_337 : 1 ≤ p2.toInt := i_337
    have i_338 : p2.toInt ≤ 8 := i_338
    have i_339 : 32 ≤ (((p1 >>> ((0 : Int32).toInt64 &&& 63)) &&& 255) : Int64).toInt := i_339
    have i_340 : (((p1 >>> ((0 : Int32).toInt64 &&& 63)) &&& 255) : Int64).toInt ≤ 126 := i_340
    have i_341 : 1 < p2.toInt := i_341
    have i_342 : 32 ≤ (((p1 >>> ((8 : Int32).toInt64 &&& 63)) &&& 255) : Int64).toInt := i_342
    have i_343 : 126 < (((p1 >>> ((8 : Int32).toInt64 &&& 63)) &&& 255) : Int64).toInt := i_343
    have hP : va_P g.1 vwCl [(h0, .inr (4, [.ref h1, .ref h2, .int 0, .ref h3, .ref h4, .ref h5, .ref h6, .int (-1), .ref h7, .ref h8, .ref h9, .ref h10]))] H := hP
    have hD : va_D A [(h0, .inr (4, [.ref h1, .ref h2, .int 0, .ref h3, .ref h4, .ref h5, .ref h6, .int (-1), .ref h7, .ref h8, .ref h9, .ref h10]))] := hD
    have hP9 := hP.sub (ws' := []) [] rfl
    have hD9 := hD.sub (ws' := []) [] (by decide) rfl
    exact W.iret (v := (-1)) hx hb hr (fun t ht hW => ⟨⟨(-1), 0, rfl, Or.inr (Or.inr (Or.inr (Or.inr (Or.inr (Or.inr (Or.inr (Or.inr (Or.inr (Or.inr (Or.inr (Or.inr (Or.inr (Or.inr (Or.inr (Or.inr (Or.inr (Or.inr (Or.inr (Or.inr (Or.inr (Or.inr (Or.inr (Or.inl ⟨i_337, i_338, i_339, i_340, i_341, i_342, i_343, rfl⟩))))))))))))))))))))))), by rw [ht]; exact hP9, hD9⟩, hS.F ht⟩) hS.2.2 dX4_type_9
  · skip
    have i_344 : 1 ≤ p2.toInt := i_344
    have i_345 : p2.toInt ≤ 8 := i_345
    have i_346 : 32 ≤ (((p1 >>> ((0 : Int32).toInt64 &&& 63)) &&& 255) : Int64).toInt := i_346
    have i_347 : 126 < (((p1 >>> ((0 : Int32).toInt64 &&& 63)) &&& 255) : Int64).toInt := i_347
    have hP : va_P g.1 vwCl [(h0, .inr (4, [.ref h1, .ref h2, .int 0, .ref h3, .ref h4, .ref h5, .ref h6, .int (-1), .ref h7, .ref h8, .ref h9, .ref h10]))] H := hP
    have hD : va_D A [(h0, .inr (4, [.ref h1, .ref h2, .int 0, .ref h3, .ref h4, .ref h5, .ref h6, .int (-1), .ref h7, .ref h8, .ref h9, .ref h10]))] := hD
    have hP9 := hP.sub (ws' := []) [] rfl
    have hD9 := hD.sub (ws' := []) [] (by decide) rfl
    exact W.iret (v := (-1)) hx hb hr (fun t ht hW => ⟨⟨(-1), 0, rfl, Or.inr (Or.inr (Or.inr (Or.inr (Or.inr (Or.inr (Or.inr (Or.inr (Or.inr (Or.inr (Or.inr (Or.inr (Or.inr (Or.inr (Or.inr (Or.inr (Or.inr (Or.inr (Or.inr (Or.inr (Or.inr (Or.inr (Or.inr (Or.inr (Or.inl ⟨i_344, i_345, i_346, i_347, rfl⟩)))))))))))))))))))))))), by rw [ht]; exact hP9, hD9⟩, hS.F ht⟩) hS.2.2 dX4_type_9
  · skip
    have i_348 : 1 ≤ p2.toInt := i_348
    have i_349 : 8 < p2.toInt := i_349
    have hP : va_P g.1 vwCl [(h0, .inr (4, [.ref h1, .ref h2, .int 0, .ref h3, .ref h4, .ref h5, .ref h6, .int (-1), .ref h7, .ref h8, .ref h9, .ref h10]))] H := hP
    have hD : va_D A [(h0, .inr (4, [.ref h1, .ref h2, .int 0, .ref h3, .ref h4, .ref h5, .ref h6, .int (-1), .ref h7, .ref h8, .ref h9, .ref h10]))] := hD
    have hP9 := hP.sub (ws' := []) [] rfl
    have hD9 := hD.sub (ws' := []) [] (by decide) rfl
    exact W.iret (v := (-1)) hx hb hr (fun t ht hW => ⟨⟨(-1), 0, rfl, Or.inr (Or.inr (Or.inr (Or.inr (Or.inr (Or.inr (Or.inr (Or.inr (Or.inr (Or.inr (Or.inr (Or.inr (Or.inr (Or.inr (Or.inr (Or.inr (Or.inr (Or.inr (Or.inr (Or.inr (Or.inr (Or.inr (Or.inr (Or.inr (Or.inr (⟨i_348, i_349, rfl⟩))))))))))))))))))))))))), by rw [ht]; exact hP9, hD9⟩, hS.F ht⟩) hS.2.2 dX4_type_9
theorem kJ7_fill_n5 (l : Launch) (g : zG) (h0 : Nat) (sz : Nat) (p1 : Int32) (F0 : Nat → Int32) : Met l yJ7_fill_53178 (.code yJ7_fill_53178 cJ7_fill_53178 4 none :: zBig) ({ frames := 0, cells := 0, slots := 0, locals := 0 }) (va_Pc [.ref h0, .int p1] (zPre g [(h0, .inl (zI g, 5, .inl F0))] sz)) (va_Qv (fun _ : Nat => True) (zPost g (fun _ : Nat => [(h0, .inl (zI g, 5, .inl (fun _ => p1)))]) (va_A [(h0, .inl (zI g, 5, .inl F0))] sz)) (va_A [(h0, .inl (zI g, 5, .inl F0))] sz)) 0 0 (va_A [(h0, .inl (zI g, 5, .inl F0))] sz) := kJ7_fill l g h0 sz p1 F0 5 (by decide)
set_option maxHeartbeats 4000000 in
set_option maxRecDepth 100000 in
theorem kX3_behindBlanks (l : Launch) (g : zG) (h0 h37 : Nat) (sz : Nat) : Met l yX3_behindBlanks (.code yX3_behindBlanks cX3_behindBlanks 3 (some .int) :: zBig) ({ frames := 0, cells := 0, slots := 0, locals := 0 }) (va_Pc [.ref h0, .int 0] (zPre g [(h0, .inr (3, [.ref h37, .int 0]))] sz)) (va_Qi (fun (r : Int32) (_ : Nat) => r = 0) (zPost g (fun _ : Nat => [(h0, .inr (3, [.ref h37, .int 0]))]) (va_A [(h0, .inr (3, [.ref h37, .int 0]))] sz)) (va_A [(h0, .inr (3, [.ref h37, .int 0]))] sz)) 0 0 (va_A [(h0, .inr (3, [.ref h37, .int 0]))] sz) := by
  refine zMetI rfl (Nat.le_of_ble_eq_true rfl) ?_
  intro p e s m args below meth c A ls hx hb hml hr hlocks hin hown hts hK hN hZ hP hD hA hS hAe hl
  have hown : s.vm.findClass RX3 = some m.cls := hown
  have hl : lv_has ls 3 [(0, .ref h0), (1, .int 0)] := hl
  refine lv_iload_n hx hb dX3_behindBlanks_0 rfl (lv_at hl 1 rfl) ?_
  refine lv_istore_n (lv' := [(2, .int 0), (0, .ref h0), (1, .int 0)]) hx hb dX3_behindBlanks_1 rfl hl (by decide) rfl (fun ls hl => ?_)
  refine lv_iload_n hx hb dX3_behindBlanks_2 rfl (lv_at hl 0 rfl) ?_
  refine lv_aload_n hx hb dX3_behindBlanks_3 rfl (lv_at hl 1 rfl) ?_
  refine va_get (D := g.1) (ci := 3) (v := .int 0) (C := RX3) (T := TX3) (N := 2) hx hb hts zl_X3 hown hK hP 0 rfl rfl 1 (by decide) (hts _ m_f_RX3_15) (fun _ h => h) rfl dX3_behindBlanks_4 ?_
  refine lv_icmp_ge (tgt := 26) hx hb dX3_behindBlanks_7 (by decide) (fun _ => ?_) (fun h => absurd h (by decide +kernel))
  refine lv_iload_n hx hb dX3_behindBlanks_26 rfl (lv_at hl 0 rfl) ?_
  have hP9 := hP.sub (ws' := [(h0, .inr (3, [.ref h37, .int 0]))]) [0] rfl
  have hD9 := hD.sub (ws' := [(h0, .inr (3, [.ref h37, .int 0]))]) [0] (by decide) rfl
  exact W.iret (v := 0) hx hb hr (fun t ht hW => ⟨⟨0, 0, rfl, rfl, by rw [ht]; exact hP9, hD9⟩, hS.F ht⟩) hS.2.2 dX3_behindBlanks_27
set_option maxHeartbeats 4000000 in
set_option maxRecDepth 100000 in
theorem kX3_charAt (l : Launch) (g : zG) (h0 h37 : Nat) (sz : Nat) : Met l yX3_charAt (.code yX3_charAt cX3_charAt 2 (some .int) :: zBig) ({ frames := 0, cells := 0, slots := 0, locals := 0 }) (va_Pc [.ref h0, .int 0] (zPre g [(h0, .inr (3, [.ref h37, .int 0]))] sz)) (va_Qi (fun (r : Int32) (_ : Nat) => r = 0) (zPost g (fun _ : Nat => [(h0, .inr (3, [.ref h37, .int 0]))]) (va_A [(h0, .inr (3, [.ref h37, .int 0]))] sz)) (va_A [(h0, .inr (3, [.ref h37, .int 0]))] sz)) 0 0 (va_A [(h0, .inr (3, [.ref h37, .int 0]))] sz) := by
  refine zMetI rfl (Nat.le_of_ble_eq_true rfl) ?_
  intro p e s m args below meth c A ls hx hb hml hr hlocks hin hown hts hK hN hZ hP hD hA hS hAe hl
  have hown : s.vm.findClass RX3 = some m.cls := hown
  have hl : lv_has ls 2 [(0, .ref h0), (1, .int 0)] := hl
  refine lv_iload_n hx hb dX3_charAt_0 rfl (lv_at hl 1 rfl) ?_
  refine lv_if_lt (tgt := 27) hx hb dX3_charAt_1 (by decide) (fun h => absurd h (by decide +kernel)) (fun _ => ?_)
  refine lv_iload_n hx hb dX3_charAt_4 rfl (lv_at hl 1 rfl) ?_
  refine lv_aload_n hx hb dX3_charAt_5 rfl (lv_at hl 0 rfl) ?_
  refine va_get (D := g.1) (ci := 3) (v := .int 0) (C := RX3) (T := TX3) (N := 2) hx hb hts zl_X3 hown hK hP 0 rfl rfl 1 (by decide) (hts _ m_f_RX3_15) (fun _ h => h) rfl dX3_charAt_6 ?_
  refine lv_icmp_ge (tgt := 27) hx hb dX3_charAt_9 (by decide) (fun _ => ?_) (fun h => absurd h (by decide +kernel))
  refine lv_iconst (v := 0) hx hb dX3_charAt_27 (by decide) ?_
  have hP9 := hP.sub (ws' := [(h0, .inr (3, [.ref h37, .int 0]))]) [0] rfl
  have hD9 := hD.sub (ws' := [(h0, .inr (3, [.ref h37, .int 0]))]) [0] (by decide) rfl
  exact W.iret (v := 0) hx hb hr (fun t ht hW => ⟨⟨0, 0, rfl, rfl, by rw [ht]; exact hP9, hD9⟩, hS.F ht⟩) hS.2.2 dX3_charAt_28
set_option maxHeartbeats 4000000 in
set_option maxRecDepth 100000 in
theorem kX3_charAt_2 (l : Launch) (g : zG) (h0 h1 : Nat) (sz : Nat) : Met l yX3_charAt (.code yX3_charAt cX3_charAt 2 (some .int) :: zBig) ({ frames := 0, cells := 0, slots := 0, locals := 0 }) (va_Pc [.ref h0, .int 0] (zPre g [(h0, .inr (3, [.ref h1, .int 0]))] sz)) (va_Qi (fun (r : Int32) (_ : Nat) => r = 0) (zPost g (fun _ : Nat => [(h0, .inr (3, [.ref h1, .int 0]))]) (va_A [(h0, .inr (3, [.ref h1, .int 0]))] sz)) (va_A [(h0, .inr (3, [.ref h1, .int 0]))] sz)) 0 0 (va_A [(h0, .inr (3, [.ref h1, .int 0]))] sz) := by
  refine zMetI rfl (Nat.le_of_ble_eq_true rfl) ?_
  intro p e s m args below meth c A ls hx hb hml hr hlocks hin hown hts hK hN hZ hP hD hA hS hAe hl
  have hown : s.vm.findClass RX3 = some m.cls := hown
  have hl : lv_has ls 2 [(0, .ref h0), (1, .int 0)] := hl
  refine lv_iload_n hx hb dX3_charAt_0 rfl (lv_at hl 1 rfl) ?_
  refine lv_if_lt (tgt := 27) hx hb dX3_charAt_1 (by decide) (fun h => absurd h (by decide +kernel)) (fun _ => ?_)
  refine lv_iload_n hx hb dX3_charAt_4 rfl (lv_at hl 1 rfl) ?_
  refine lv_aload_n hx hb dX3_charAt_5 rfl (lv_at hl 0 rfl) ?_
  refine va_get (D := g.1) (ci := 3) (v := .int 0) (C := RX3) (T := TX3) (N := 2) hx hb hts zl_X3 hown hK hP 0 rfl rfl 1 (by decide) (hts _ m_f_RX3_15) (fun _ h => h) rfl dX3_charAt_6 ?_
  refine lv_icmp_ge (tgt := 27) hx hb dX3_charAt_9 (by decide) (fun _ => ?_) (fun h => absurd h (by decide +kernel))
  refine lv_iconst (v := 0) hx hb dX3_charAt_27 (by decide) ?_
  have hP9 := hP.sub (ws' := [(h0, .inr (3, [.ref h1, .int 0]))]) [0] rfl
  have hD9 := hD.sub (ws' := [(h0, .inr (3, [.ref h1, .int 0]))]) [0] (by decide) rfl
  exact W.iret (v := 0) hx hb hr (fun t ht hW => ⟨⟨0, 0, rfl, rfl, by rw [ht]; exact hP9, hD9⟩, hS.F ht⟩) hS.2.2 dX3_charAt_28
set_option maxHeartbeats 4000000 in
set_option maxRecDepth 100000 in
theorem kX3_ruleAt (l : Launch) (g : zG) (h0 h37 : Nat) (sz : Nat) : Met l yX3_ruleAt (.code yX3_ruleAt cX3_ruleAt 2 (some .int) :: zBig) ({ frames := 1, cells := 0, slots := 0, locals := 21 }) (va_Pc [.ref h0, .int 0] (zPre g [(h0, .inr (3, [.ref h37, .int 0]))] sz)) (va_Qi (fun (r : Int32) (_ : Nat) => r = (-1)) (zPost g (fun _ : Nat => [(h0, .inr (3, [.ref h37, .int 0]))]) (va_A [(h0, .inr (3, [.ref h37, .int 0]))] sz)) (va_A [(h0, .inr (3, [.ref h37, .int 0]))] sz)) 0 0 (va_A [(h0, .inr (3, [.ref h37, .int 0]))] sz) := by
  refine zMetI rfl (Nat.le_of_ble_eq_true rfl) ?_
  intro p e s m args below meth c A ls hx hb hml hr hlocks hin hown hts hK hN hZ hP hD hA hS hAe hl
  have hown : s.vm.findClass RX3 = some m.cls := hown
  have hl : lv_has ls 2 [(0, .ref h0), (1, .int 0)] := hl
  refine lv_aload_n hx hb dX3_ruleAt_0 rfl (lv_at hl 0 rfl) ?_
  refine lv_iload_n hx hb dX3_ruleAt_1 rfl (lv_at hl 1 rfl) ?_
  refine z_calli (wr := []) hP hD hS hA [0] [] (by decide) rfl rfl (by decide) (va_runV (As := [.int 0]) (rest := []) ⟨hx, hb, hml, hown, hts⟩ (kX3_charAt_2 l g h0 h37 s.heap.size) ⟨callB_of 1 hts (zGood m_o_yX3_charAt) rfl rfl rfl (hts _ m_z_RX3) (hts _ m_m_RX3_49) ⟨by decide +kernel, by decide +kernel, by decide +kernel⟩ ⟨Nat.le_of_ble_eq_true rfl, Nat.le_of_ble_eq_true rfl⟩, hts _ m_i_yX3_charAt, hts _ m_e_yX3_charAt⟩ (zPreV hK hN hZ hP hD hS hA [0] (by decide) rfl rfl 3 0 rfl rfl) rfl rfl hl.1 rfl (lv_room (Nat.le_of_ble_eq_true rfl)) dX3_ruleAt_2 ⟨Nat.le_of_ble_eq_true rfl, Nat.le_of_ble_eq_true rfl⟩) (fun r u H locs hw hP hD hS => ?_)
  obtain rfl := hw
  have hP : va_P g.1 vwCl [(h0, .inr (3, [.ref h37, .int 0]))] H := hP
  have hD : va_D A [(h0, .inr (3, [.ref h37, .int 0]))] := hD
  refine lv_lookup (x := 0) (off := 61) (tgt := 66) hx hb dX3_ruleAt_5 (by decide) (by decide) (by decide) ?_
  refine lv_iconst (v := (-1)) hx hb dX3_ruleAt_66 (by decide) ?_
  have hP9 := hP.sub (ws' := [(h0, .inr (3, [.ref h37, .int 0]))]) [0] rfl
  have hD9 := hD.sub (ws' := [(h0, .inr (3, [.ref h37, .int 0]))]) [0] (by decide) rfl
  exact W.iret (v := (-1)) hx hb hr (fun t ht hW => ⟨⟨(-1), 0, rfl, rfl, by rw [ht]; exact hP9, hD9⟩, hS.F ht⟩) hS.2.2 dX3_ruleAt_67
set_option maxHeartbeats 4000000 in
set_option maxRecDepth 100000 in
theorem kX3_behindBlanks_2 (l : Launch) (g : zG) (h0 h1 : Nat) (sz : Nat) : Met l yX3_behindBlanks (.code yX3_behindBlanks cX3_behindBlanks 3 (some .int) :: zBig) ({ frames := 0, cells := 0, slots := 0, locals := 0 }) (va_Pc [.ref h0, .int 0] (zPre g [(h0, .inr (3, [.ref h1, .int 0]))] sz)) (va_Qi (fun (r : Int32) (_ : Nat) => r = 0) (zPost g (fun _ : Nat => [(h0, .inr (3, [.ref h1, .int 0]))]) (va_A [(h0, .inr (3, [.ref h1, .int 0]))] sz)) (va_A [(h0, .inr (3, [.ref h1, .int 0]))] sz)) 0 0 (va_A [(h0, .inr (3, [.ref h1, .int 0]))] sz) := by
  refine zMetI rfl (Nat.le_of_ble_eq_true rfl) ?_
  intro p e s m args below meth c A ls hx hb hml hr hlocks hin hown hts hK hN hZ hP hD hA hS hAe hl
  have hown : s.vm.findClass RX3 = some m.cls := hown
  have hl : lv_has ls 3 [(0, .ref h0), (1, .int 0)] := hl
  refine lv_iload_n hx hb dX3_behindBlanks_0 rfl (lv_at hl 1 rfl) ?_
  refine lv_istore_n (lv' := [(2, .int 0), (0, .ref h0), (1, .int 0)]) hx hb dX3_behindBlanks_1 rfl hl (by decide) rfl (fun ls hl => ?_)
  refine lv_iload_n hx hb dX3_behindBlanks_2 rfl (lv_at hl 0 rfl) ?_
  refine lv_aload_n hx hb dX3_behindBlanks_3 rfl (lv_at hl 1 rfl) ?_
  refine va_get (D := g.1) (ci := 3) (v := .int 0) (C := RX3) (T := TX3) (N := 2) hx hb hts zl_X3 hown hK hP 0 rfl rfl 1 (by decide) (hts _ m_f_RX3_15) (fun _ h => h) rfl dX3_behindBlanks_4 ?_
  refine lv_icmp_ge (tgt := 26) hx hb dX3_behindBlanks_7 (by decide) (fun _ => ?_) (fun h => absurd h (by decide +kernel))
  refine lv_iload_n hx hb dX3_behindBlanks_26 rfl (lv_at hl 0 rfl) ?_
  have hP9 := hP.sub (ws' := [(h0, .inr (3, [.ref h1, .int 0]))]) [0] rfl
  have hD9 := hD.sub (ws' := [(h0, .inr (3, [.ref h1, .int 0]))]) [0] (by decide) rfl
  exact W.iret (v := 0) hx hb hr (fun t ht hW => ⟨⟨0, 0, rfl, rfl, by rw [ht]; exact hP9, hD9⟩, hS.F ht⟩) hS.2.2 dX3_behindBlanks_27
set_option maxHeartbeats 4000000 in
set_option maxRecDepth 100000 in
theorem kX3_charAt_3 (l : Launch) (g : zG) (h0 h2 : Nat) (sz : Nat) : Met l yX3_charAt (.code yX3_charAt cX3_charAt 2 (some .int) :: zBig) ({ frames := 0, cells := 0, slots := 0, locals := 0 }) (va_Pc [.ref h0, .int 0] (zPre g [(h0, .inr (3, [.ref h2, .int 0]))] sz)) (va_Qi (fun (r : Int32) (_ : Nat) => r = 0) (zPost g (fun _ : Nat => [(h0, .inr (3, [.ref h2, .int 0]))]) (va_A [(h0, .inr (3, [.ref h2, .int 0]))] sz)) (va_A [(h0, .inr (3, [.ref h2, .int 0]))] sz)) 0 0 (va_A [(h0, .inr (3, [.ref h2, .int 0]))] sz) := by
  refine zMetI rfl (Nat.le_of_ble_eq_true rfl) ?_
  intro p e s m args below meth c A ls hx hb hml hr hlocks hin hown hts hK hN hZ hP hD hA hS hAe hl
  have hown : s.vm.findClass RX3 = some m.cls := hown
  have hl : lv_has ls 2 [(0, .ref h0), (1, .int 0)] := hl
  refine lv_iload_n hx hb dX3_charAt_0 rfl (lv_at hl 1 rfl) ?_
  refine lv_if_lt (tgt := 27) hx hb dX3_charAt_1 (by decide) (fun h => absurd h (by decide +kernel)) (fun _ => ?_)
  refine lv_iload_n hx hb dX3_charAt_4 rfl (lv_at hl 1 rfl) ?_
  refine lv_aload_n hx hb dX3_charAt_5 rfl (lv_at hl 0 rfl) ?_
  refine va_get (D := g.1) (ci := 3) (v := .int 0) (C := RX3) (T := TX3) (N := 2) hx hb hts zl_X3 hown hK hP 0 rfl rfl 1 (by decide) (hts _ m_f_RX3_15) (fun _ h => h) rfl dX3_charAt_6 ?_
  refine lv_icmp_ge (tgt := 27) hx hb dX3_charAt_9 (by decide) (fun _ => ?_) (fun h => absurd h (by decide +kernel))
  refine lv_iconst (v := 0) hx hb dX3_charAt_27 (by decide) ?_
  have hP9 := hP.sub (ws' := [(h0, .inr (3, [.ref h2, .int 0]))]) [0] rfl
  have hD9 := hD.sub (ws' := [(h0, .inr (3, [.ref h2, .int 0]))]) [0] (by decide) rfl
  exact W.iret (v := 0) hx hb hr (fun t ht hW => ⟨⟨0, 0, rfl, rfl, by rw [ht]; exact hP9, hD9⟩, hS.F ht⟩) hS.2.2 dX3_charAt_28
set_option maxHeartbeats 4000000 in
set_option maxRecDepth 100000 in
theorem kX3_ruleAt_2 (l : Launch) (g : zG) (h0 h2 : Nat) (sz : Nat) : Met l yX3_ruleAt (.code yX3_ruleAt cX3_ruleAt 2 (some .int) :: zBig) ({ frames := 1, cells := 0, slots := 0, locals := 21 }) (va_Pc [.ref h0, .int 0] (zPre g [(h0, .inr (3, [.ref h2, .int 0]))] sz)) (va_Qi (fun (r : Int32) (_ : Nat) => r = (-1)) (zPost g (fun _ : Nat => [(h0, .inr (3, [.ref h2, .int 0]))]) (va_A [(h0, .inr (3, [.ref h2, .int 0]))] sz)) (va_A [(h0, .inr (3, [.ref h2, .int 0]))] sz)) 0 0 (va_A [(h0, .inr (3, [.ref h2, .int 0]))] sz) := by
  refine zMetI rfl (Nat.le_of_ble_eq_true rfl) ?_
  intro p e s m args below meth c A ls hx hb hml hr hlocks hin hown hts hK hN hZ hP hD hA hS hAe hl
  have hown : s.vm.findClass RX3 = some m.cls := hown
  have hl : lv_has ls 2 [(0, .ref h0), (1, .int 0)] := hl
  refine lv_aload_n hx hb dX3_ruleAt_0 rfl (lv_at hl 0 rfl) ?_
  refine lv_iload_n hx hb dX3_ruleAt_1 rfl (lv_at hl 1 rfl) ?_
  refine z_calli (wr := []) hP hD hS hA [0] [] (by decide) rfl rfl (by decide) (va_runV (As := [.int 0]) (rest := []) ⟨hx, hb, hml, hown, hts⟩ (kX3_charAt_2 l g h0 h2 s.heap.size) ⟨callB_of 1 hts (zGood m_o_yX3_charAt) rfl rfl rfl (hts _ m_z_RX3) (hts _ m_m_RX3_49) ⟨by decide +kernel, by decide +kernel, by decide +kernel⟩ ⟨Nat.le_of_ble_eq_true rfl, Nat.le_of_ble_eq_true rfl⟩, hts _ m_i_yX3_charAt, hts _ m_e_yX3_charAt⟩ (zPreV hK hN hZ hP hD hS hA [0] (by decide) rfl rfl 3 0 rfl rfl) rfl rfl hl.1 rfl (lv_room (Nat.le_of_ble_eq_true rfl)) dX3_ruleAt_2 ⟨Nat.le_of_ble_eq_true rfl, Nat.le_of_ble_eq_true rfl⟩) (fun r u H locs hw hP hD hS => ?_)
  obtain rfl := hw
  have hP : va_P g.1 vwCl [(h0, .inr (3, [.ref h2, .int 0]))] H := hP
  have hD : va_D A [(h0, .inr (3, [.ref h2, .int 0]))] := hD
  refine lv_lookup (x := 0) (off := 61) (tgt := 66) hx hb dX3_ruleAt_5 (by decide) (by decide) (by decide) ?_
  refine lv_iconst (v := (-1)) hx hb dX3_ruleAt_66 (by decide) ?_
  have hP9 := hP.sub (ws' := [(h0, .inr (3, [.ref h2, .int 0]))]) [0] rfl
  have hD9 := hD.sub (ws' := [(h0, .inr (3, [.ref h2, .int 0]))]) [0] (by decide) rfl
  exact W.iret (v := (-1)) hx hb hr (fun t ht hW => ⟨⟨(-1), 0, rfl, rfl, by rw [ht]; exact hP9, hD9⟩, hS.F ht⟩) hS.2.2 dX3_ruleAt_67
set_option maxHeartbeats 4000000 in
set_option maxRecDepth 100000 in
theorem kX3_readLaw (l : Launch) (g : zG) (h0 h1 h37 : Nat) (sz : Nat) : Met l yX3_readLaw (.code yX3_readLaw cX3_readLaw 8 (some .int) :: zBig) ({ frames := 2, cells := 0, slots := 0, locals := 42 }) (va_Pc [.ref h0, .ref h1] (zPre g [(h0, .inr (3, [.ref h37, .int 0])), (h1, .inl (zI g, 5, .inl (fun _ => 0)))] sz)) (va_Qi (fun (r : Int32) (_ : Nat) => r = (-20)) (zPost g (fun _ : Nat => [(h1, .inl (zI g, 5, .inl (fun _ => (-1)))), (h0, .inr (3, [.ref h37, .int 0]))]) (va_A [(h0, .inr (3, [.ref h37, .int 0])), (h1, .inl (zI g, 5, .inl (fun _ => 0)))] sz)) (va_A [(h0, .inr (3, [.ref h37, .int 0])), (h1, .inl (zI g, 5, .inl (fun _ => 0)))] sz)) 0 0 (va_A [(h0, .inr (3, [.ref h37, .int 0])), (h1, .inl (zI g, 5, .inl (fun _ => 0)))] sz) := by
  refine zMetI rfl (Nat.le_of_ble_eq_true rfl) ?_
  intro p e s m args below meth c A ls hx hb hml hr hlocks hin hown hts hK hN hZ hP hD hA hS hAe hl
  have hown : s.vm.findClass RX3 = some m.cls := hown
  have hl : lv_has ls 8 [(0, .ref h0), (1, .ref h1)] := hl
  refine lv_aload_n hx hb dX3_readLaw_0 rfl (lv_at hl 1 rfl) ?_
  refine lv_iconst (v := (-1)) hx hb dX3_readLaw_1 (by decide) ?_
  refine z_callv (wr := [(h0, .inr (3, [.ref h37, .int 0]))]) hP hD hS hA [1] [0] (by decide) rfl rfl (by decide) (va_runS (As := [.ref h1, .int (-1)]) (rest := []) ⟨hx, hb, hml, hown, hts⟩ (kJ7_fill_n5 l g h1 s.heap.size ((-1) : Int32) (fun _ => 0)) ⟨callB_of 2 hts (zGood m_o_yJ7_fill_53178) rfl rfl rfl (hts _ m_z_RJ7) (hts _ m_m_RX3_25) ⟨by decide +kernel, by decide +kernel, by decide +kernel⟩ ⟨Nat.le_of_ble_eq_true rfl, Nat.le_of_ble_eq_true rfl⟩, hts _ m_s_yJ7_fill_53178⟩ (zPreS hK hN hZ hP hD hS hA [1] (by decide) rfl rfl) rfl rfl hl.1 rfl (lv_room (Nat.le_of_ble_eq_true rfl)) dX3_readLaw_2 ⟨Nat.le_of_ble_eq_true rfl, Nat.le_of_ble_eq_true rfl⟩) (fun u H locs hw hP hD hS => ?_)
  have hP : va_P g.1 vwCl [(h0, .inr (3, [.ref h37, .int 0])), (h1, .inl (zI g, 5, .inl (fun _ => (-1))))] H := hP
  have hD : va_D A [(h0, .inr (3, [.ref h37, .int 0])), (h1, .inl (zI g, 5, .inl (fun _ => (-1))))] := hD
  refine lv_iconst (v := 0) hx hb dX3_readLaw_5 (by decide) ?_
  refine lv_istore_n (lv' := [(2, .int 0), (0, .ref h0), (1, .ref h1)]) hx hb dX3_readLaw_6 rfl hl (by decide) rfl (fun ls hl => ?_)
  refine lv_aload_n hx hb dX3_readLaw_7 rfl (lv_at hl 1 rfl) ?_
  refine lv_iconst (v := 0) hx hb dX3_readLaw_8 (by decide) ?_
  refine z_calli (wr := [(h1, .inl (zI g, 5, .inl (fun _ => (-1))))]) hP hD hS hA [0] [1] (by decide) rfl rfl (by decide) (va_runV (As := [.int 0]) (rest := []) ⟨hx, hb, hml, hown, hts⟩ (kX3_behindBlanks_2 l g h0 h37 H.size) ⟨callB_of 1 hts (zGood m_o_yX3_behindBlanks) rfl rfl rfl (hts _ m_z_RX3) (hts _ m_m_RX3_31) ⟨by decide +kernel, by decide +kernel, by decide +kernel⟩ ⟨Nat.le_of_ble_eq_true rfl, Nat.le_of_ble_eq_true rfl⟩, hts _ m_i_yX3_behindBlanks, hts _ m_e_yX3_behindBlanks⟩ (zPreV hK hN hZ hP hD hS hA [0] (by decide) rfl rfl 3 0 rfl rfl) rfl rfl hl.1 rfl (lv_room (Nat.le_of_ble_eq_true rfl)) dX3_readLaw_9 ⟨Nat.le_of_ble_eq_true rfl, Nat.le_of_ble_eq_true rfl⟩) (fun r u H locs hw hP hD hS => ?_)
  obtain rfl := hw
  have hP : va_P g.1 vwCl [(h1, .inl (zI g, 5, .inl (fun _ => (-1)))), (h0, .inr (3, [.ref h37, .int 0]))] H := hP
  have hD : va_D A [(h1, .inl (zI g, 5, .inl (fun _ => (-1)))), (h0, .inr (3, [.ref h37, .int 0]))] := hD
  refine lv_istore_n (lv' := [(3, .int 0), (2, .int 0), (0, .ref h0), (1, .ref h1)]) hx hb dX3_readLaw_12 rfl hl (by decide) rfl (fun ls hl => ?_)
  refine lv_aload_n hx hb dX3_readLaw_13 rfl (lv_at hl 2 rfl) ?_
  refine lv_iload_n hx hb dX3_readLaw_14 rfl (lv_at hl 0 rfl) ?_
  refine z_calli (wr := [(h1, .inl (zI g, 5, .inl (fun _ => (-1))))]) hP hD hS hA [1] [0] (by decide) rfl rfl (by decide) (va_runV (As := [.int 0]) (rest := []) ⟨hx, hb, hml, hown, hts⟩ (kX3_ruleAt_2 l g h0 h37 H.size) ⟨callB_of 1 hts (zGood m_o_yX3_ruleAt) rfl rfl rfl (hts _ m_z_RX3) (hts _ m_m_RX3_35) ⟨by decide +kernel, by decide +kernel, by decide +kernel⟩ ⟨Nat.le_of_ble_eq_true rfl, Nat.le_of_ble_eq_true rfl⟩, hts _ m_i_yX3_ruleAt, hts _ m_e_yX3_ruleAt⟩ (zPreV hK hN hZ hP hD hS hA [1] (by decide) rfl rfl 3 1 rfl rfl) rfl rfl hl.1 rfl (lv_room (Nat.le_of_ble_eq_true rfl)) dX3_readLaw_15 ⟨Nat.le_of_ble_eq_true rfl, Nat.le_of_ble_eq_true rfl⟩) (fun r u H locs hw hP hD hS => ?_)
  obtain rfl := hw
  have hP : va_P g.1 vwCl [(h1, .inl (zI g, 5, .inl (fun _ => (-1)))), (h0, .inr (3, [.ref h37, .int 0]))] H := hP
  have hD : va_D A [(h1, .inl (zI g, 5, .inl (fun _ => (-1)))), (h0, .inr (3, [.ref h37, .int 0]))] := hD
  refine lv_istore (lv' := [(4, .int (-1)), (3, .int 0), (2, .int 0), (0, .ref h0), (1, .ref h1)]) hx hb dX3_readLaw_18 hl (by decide) rfl (fun ls hl => ?_)
  refine lv_iload hx hb dX3_readLaw_20 (lv_at hl 0 rfl) ?_
  refine lv_if_lt (tgt := 39) hx hb dX3_readLaw_22 (by decide) (fun _ => ?_) (fun h => absurd h (by decide +kernel))
  refine lv_bipush (v := (-20)) hx hb dX3_readLaw_39 (by decide) ?_
  refine lv_iload_n hx hb dX3_readLaw_41 rfl (lv_at hl 1 rfl) ?_
  refine lv_isub hx hb dX3_readLaw_42 ?_
  refine lv_topi (nm_r (e' := (-20)) (by decide +kernel) ?_)
  have hP9 := hP.sub (ws' := [(h1, .inl (zI g, 5, .inl (fun _ => (-1)))), (h0, .inr (3, [.ref h37, .int 0]))]) [0, 1] rfl
  have hD9 := hD.sub (ws' := [(h1, .inl (zI g, 5, .inl (fun _ => (-1)))), (h0, .inr (3, [.ref h37, .int 0]))]) [0, 1] (by decide) rfl
  exact W.iret (v := (-20)) hx hb hr (fun t ht hW => ⟨⟨(-20), 0, rfl, rfl, by rw [ht]; exact hP9, hD9⟩, hS.F ht⟩) hS.2.2 dX3_readLaw_43
set_option maxHeartbeats 4000000 in
set_option maxRecDepth 100000 in
theorem kX3_behindBlanks_3 (l : Launch) (g : zG) (h0 h11 : Nat) (sz : Nat) : Met l yX3_behindBlanks (.code yX3_behindBlanks cX3_behindBlanks 3 (some .int) :: zBig) ({ frames := 0, cells := 0, slots := 0, locals := 0 }) (va_Pc [.ref h0, .int 0] (zPre g [(h0, .inr (3, [.ref h11, .int 0]))] sz)) (va_Qi (fun (r : Int32) (_ : Nat) => r = 0) (zPost g (fun _ : Nat => [(h0, .inr (3, [.ref h11, .int 0]))]) (va_A [(h0, .inr (3, [.ref h11, .int 0]))] sz)) (va_A [(h0, .inr (3, [.ref h11, .int 0]))] sz)) 0 0 (va_A [(h0, .inr (3, [.ref h11, .int 0]))] sz) := by
  refine zMetI rfl (Nat.le_of_ble_eq_true rfl) ?_
  intro p e s m args below meth c A ls hx hb hml hr hlocks hin hown hts hK hN hZ hP hD hA hS hAe hl
  have hown : s.vm.findClass RX3 = some m.cls := hown
  have hl : lv_has ls 3 [(0, .ref h0), (1, .int 0)] := hl
  refine lv_iload_n hx hb dX3_behindBlanks_0 rfl (lv_at hl 1 rfl) ?_
  refine lv_istore_n (lv' := [(2, .int 0), (0, .ref h0), (1, .int 0)]) hx hb dX3_behindBlanks_1 rfl hl (by decide) rfl (fun ls hl => ?_)
  refine lv_iload_n hx hb dX3_behindBlanks_2 rfl (lv_at hl 0 rfl) ?_
  refine lv_aload_n hx hb dX3_behindBlanks_3 rfl (lv_at hl 1 rfl) ?_
  refine va_get (D := g.1) (ci := 3) (v := .int 0) (C := RX3) (T := TX3) (N := 2) hx hb hts zl_X3 hown hK hP 0 rfl rfl 1 (by decide) (hts _ m_f_RX3_15) (fun _ h => h) rfl dX3_behindBlanks_4 ?_
  refine lv_icmp_ge (tgt := 26) hx hb dX3_behindBlanks_7 (by decide) (fun _ => ?_) (fun h => absurd h (by decide +kernel))
  refine lv_iload_n hx hb dX3_behindBlanks_26 rfl (lv_at hl 0 rfl) ?_
  have hP9 := hP.sub (ws' := [(h0, .inr (3, [.ref h11, .int 0]))]) [0] rfl
  have hD9 := hD.sub (ws' := [(h0, .inr (3, [.ref h11, .int 0]))]) [0] (by decide) rfl
  exact W.iret (v := 0) hx hb hr (fun t ht hW => ⟨⟨0, 0, rfl, rfl, by rw [ht]; exact hP9, hD9⟩, hS.F ht⟩) hS.2.2 dX3_behindBlanks_27
set_option maxHeartbeats 4000000 in
set_option maxRecDepth 100000 in
theorem kX3_charAt_4 (l : Launch) (g : zG) (h0 h11 : Nat) (sz : Nat) : Met l yX3_charAt (.code yX3_charAt cX3_charAt 2 (some .int) :: zBig) ({ frames := 0, cells := 0, slots := 0, locals := 0 }) (va_Pc [.ref h0, .int 0] (zPre g [(h0, .inr (3, [.ref h11, .int 0]))] sz)) (va_Qi (fun (r : Int32) (_ : Nat) => r = 0) (zPost g (fun _ : Nat => [(h0, .inr (3, [.ref h11, .int 0]))]) (va_A [(h0, .inr (3, [.ref h11, .int 0]))] sz)) (va_A [(h0, .inr (3, [.ref h11, .int 0]))] sz)) 0 0 (va_A [(h0, .inr (3, [.ref h11, .int 0]))] sz) := by
  refine zMetI rfl (Nat.le_of_ble_eq_true rfl) ?_
  intro p e s m args below meth c A ls hx hb hml hr hlocks hin hown hts hK hN hZ hP hD hA hS hAe hl
  have hown : s.vm.findClass RX3 = some m.cls := hown
  have hl : lv_has ls 2 [(0, .ref h0), (1, .int 0)] := hl
  refine lv_iload_n hx hb dX3_charAt_0 rfl (lv_at hl 1 rfl) ?_
  refine lv_if_lt (tgt := 27) hx hb dX3_charAt_1 (by decide) (fun h => absurd h (by decide +kernel)) (fun _ => ?_)
  refine lv_iload_n hx hb dX3_charAt_4 rfl (lv_at hl 1 rfl) ?_
  refine lv_aload_n hx hb dX3_charAt_5 rfl (lv_at hl 0 rfl) ?_
  refine va_get (D := g.1) (ci := 3) (v := .int 0) (C := RX3) (T := TX3) (N := 2) hx hb hts zl_X3 hown hK hP 0 rfl rfl 1 (by decide) (hts _ m_f_RX3_15) (fun _ h => h) rfl dX3_charAt_6 ?_
  refine lv_icmp_ge (tgt := 27) hx hb dX3_charAt_9 (by decide) (fun _ => ?_) (fun h => absurd h (by decide +kernel))
  refine lv_iconst (v := 0) hx hb dX3_charAt_27 (by decide) ?_
  have hP9 := hP.sub (ws' := [(h0, .inr (3, [.ref h11, .int 0]))]) [0] rfl
  have hD9 := hD.sub (ws' := [(h0, .inr (3, [.ref h11, .int 0]))]) [0] (by decide) rfl
  exact W.iret (v := 0) hx hb hr (fun t ht hW => ⟨⟨0, 0, rfl, rfl, by rw [ht]; exact hP9, hD9⟩, hS.F ht⟩) hS.2.2 dX3_charAt_28
set_option maxHeartbeats 4000000 in
set_option maxRecDepth 100000 in
theorem kX3_ruleAt_3 (l : Launch) (g : zG) (h0 h11 : Nat) (sz : Nat) : Met l yX3_ruleAt (.code yX3_ruleAt cX3_ruleAt 2 (some .int) :: zBig) ({ frames := 1, cells := 0, slots := 0, locals := 21 }) (va_Pc [.ref h0, .int 0] (zPre g [(h0, .inr (3, [.ref h11, .int 0]))] sz)) (va_Qi (fun (r : Int32) (_ : Nat) => r = (-1)) (zPost g (fun _ : Nat => [(h0, .inr (3, [.ref h11, .int 0]))]) (va_A [(h0, .inr (3, [.ref h11, .int 0]))] sz)) (va_A [(h0, .inr (3, [.ref h11, .int 0]))] sz)) 0 0 (va_A [(h0, .inr (3, [.ref h11, .int 0]))] sz) := by
  refine zMetI rfl (Nat.le_of_ble_eq_true rfl) ?_
  intro p e s m args below meth c A ls hx hb hml hr hlocks hin hown hts hK hN hZ hP hD hA hS hAe hl
  have hown : s.vm.findClass RX3 = some m.cls := hown
  have hl : lv_has ls 2 [(0, .ref h0), (1, .int 0)] := hl
  refine lv_aload_n hx hb dX3_ruleAt_0 rfl (lv_at hl 0 rfl) ?_
  refine lv_iload_n hx hb dX3_ruleAt_1 rfl (lv_at hl 1 rfl) ?_
  refine z_calli (wr := []) hP hD hS hA [0] [] (by decide) rfl rfl (by decide) (va_runV (As := [.int 0]) (rest := []) ⟨hx, hb, hml, hown, hts⟩ (kX3_charAt_2 l g h0 h11 s.heap.size) ⟨callB_of 1 hts (zGood m_o_yX3_charAt) rfl rfl rfl (hts _ m_z_RX3) (hts _ m_m_RX3_49) ⟨by decide +kernel, by decide +kernel, by decide +kernel⟩ ⟨Nat.le_of_ble_eq_true rfl, Nat.le_of_ble_eq_true rfl⟩, hts _ m_i_yX3_charAt, hts _ m_e_yX3_charAt⟩ (zPreV hK hN hZ hP hD hS hA [0] (by decide) rfl rfl 3 0 rfl rfl) rfl rfl hl.1 rfl (lv_room (Nat.le_of_ble_eq_true rfl)) dX3_ruleAt_2 ⟨Nat.le_of_ble_eq_true rfl, Nat.le_of_ble_eq_true rfl⟩) (fun r u H locs hw hP hD hS => ?_)
  obtain rfl := hw
  have hP : va_P g.1 vwCl [(h0, .inr (3, [.ref h11, .int 0]))] H := hP
  have hD : va_D A [(h0, .inr (3, [.ref h11, .int 0]))] := hD
  refine lv_lookup (x := 0) (off := 61) (tgt := 66) hx hb dX3_ruleAt_5 (by decide) (by decide) (by decide) ?_
  refine lv_iconst (v := (-1)) hx hb dX3_ruleAt_66 (by decide) ?_
  have hP9 := hP.sub (ws' := [(h0, .inr (3, [.ref h11, .int 0]))]) [0] rfl
  have hD9 := hD.sub (ws' := [(h0, .inr (3, [.ref h11, .int 0]))]) [0] (by decide) rfl
  exact W.iret (v := (-1)) hx hb hr (fun t ht hW => ⟨⟨(-1), 0, rfl, rfl, by rw [ht]; exact hP9, hD9⟩, hS.F ht⟩) hS.2.2 dX3_ruleAt_67
set_option maxHeartbeats 4000000 in
set_option maxRecDepth 100000 in
theorem kX3_readLaw_2 (l : Launch) (g : zG) (h0 h1 h11 : Nat) (sz : Nat) : Met l yX3_readLaw (.code yX3_readLaw cX3_readLaw 8 (some .int) :: zBig) ({ frames := 2, cells := 0, slots := 0, locals := 42 }) (va_Pc [.ref h0, .ref h1] (zPre g [(h0, .inr (3, [.ref h11, .int 0])), (h1, .inl (zI g, 5, .inl (fun _ => 0)))] sz)) (va_Qi (fun (r : Int32) (_ : Nat) => r = (-20)) (zPost g (fun _ : Nat => [(h1, .inl (zI g, 5, .inl (fun _ => (-1)))), (h0, .inr (3, [.ref h11, .int 0]))]) (va_A [(h0, .inr (3, [.ref h11, .int 0])), (h1, .inl (zI g, 5, .inl (fun _ => 0)))] sz)) (va_A [(h0, .inr (3, [.ref h11, .int 0])), (h1, .inl (zI g, 5, .inl (fun _ => 0)))] sz)) 0 0 (va_A [(h0, .inr (3, [.ref h11, .int 0])), (h1, .inl (zI g, 5, .inl (fun _ => 0)))] sz) := by
  refine zMetI rfl (Nat.le_of_ble_eq_true rfl) ?_
  intro p e s m args below meth c A ls hx hb hml hr hlocks hin hown hts hK hN hZ hP hD hA hS hAe hl
  have hown : s.vm.findClass RX3 = some m.cls := hown
  have hl : lv_has ls 8 [(0, .ref h0), (1, .ref h1)] := hl
  refine lv_aload_n hx hb dX3_readLaw_0 rfl (lv_at hl 1 rfl) ?_
  refine lv_iconst (v := (-1)) hx hb dX3_readLaw_1 (by decide) ?_
  refine z_callv (wr := [(h0, .inr (3, [.ref h11, .int 0]))]) hP hD hS hA [1] [0] (by decide) rfl rfl (by decide) (va_runS (As := [.ref h1, .int (-1)]) (rest := []) ⟨hx, hb, hml, hown, hts⟩ (kJ7_fill_n5 l g h1 s.heap.size ((-1) : Int32) (fun _ => 0)) ⟨callB_of 2 hts (zGood m_o_yJ7_fill_53178) rfl rfl rfl (hts _ m_z_RJ7) (hts _ m_m_RX3_25) ⟨by decide +kernel, by decide +kernel, by decide +kernel⟩ ⟨Nat.le_of_ble_eq_true rfl, Nat.le_of_ble_eq_true rfl⟩, hts _ m_s_yJ7_fill_53178⟩ (zPreS hK hN hZ hP hD hS hA [1] (by decide) rfl rfl) rfl rfl hl.1 rfl (lv_room (Nat.le_of_ble_eq_true rfl)) dX3_readLaw_2 ⟨Nat.le_of_ble_eq_true rfl, Nat.le_of_ble_eq_true rfl⟩) (fun u H locs hw hP hD hS => ?_)
  have hP : va_P g.1 vwCl [(h0, .inr (3, [.ref h11, .int 0])), (h1, .inl (zI g, 5, .inl (fun _ => (-1))))] H := hP
  have hD : va_D A [(h0, .inr (3, [.ref h11, .int 0])), (h1, .inl (zI g, 5, .inl (fun _ => (-1))))] := hD
  refine lv_iconst (v := 0) hx hb dX3_readLaw_5 (by decide) ?_
  refine lv_istore_n (lv' := [(2, .int 0), (0, .ref h0), (1, .ref h1)]) hx hb dX3_readLaw_6 rfl hl (by decide) rfl (fun ls hl => ?_)
  refine lv_aload_n hx hb dX3_readLaw_7 rfl (lv_at hl 1 rfl) ?_
  refine lv_iconst (v := 0) hx hb dX3_readLaw_8 (by decide) ?_
  refine z_calli (wr := [(h1, .inl (zI g, 5, .inl (fun _ => (-1))))]) hP hD hS hA [0] [1] (by decide) rfl rfl (by decide) (va_runV (As := [.int 0]) (rest := []) ⟨hx, hb, hml, hown, hts⟩ (kX3_behindBlanks_2 l g h0 h11 H.size) ⟨callB_of 1 hts (zGood m_o_yX3_behindBlanks) rfl rfl rfl (hts _ m_z_RX3) (hts _ m_m_RX3_31) ⟨by decide +kernel, by decide +kernel, by decide +kernel⟩ ⟨Nat.le_of_ble_eq_true rfl, Nat.le_of_ble_eq_true rfl⟩, hts _ m_i_yX3_behindBlanks, hts _ m_e_yX3_behindBlanks⟩ (zPreV hK hN hZ hP hD hS hA [0] (by decide) rfl rfl 3 0 rfl rfl) rfl rfl hl.1 rfl (lv_room (Nat.le_of_ble_eq_true rfl)) dX3_readLaw_9 ⟨Nat.le_of_ble_eq_true rfl, Nat.le_of_ble_eq_true rfl⟩) (fun r u H locs hw hP hD hS => ?_)
  obtain rfl := hw
  have hP : va_P g.1 vwCl [(h1, .inl (zI g, 5, .inl (fun _ => (-1)))), (h0, .inr (3, [.ref h11, .int 0]))] H := hP
  have hD : va_D A [(h1, .inl (zI g, 5, .inl (fun _ => (-1)))), (h0, .inr (3, [.ref h11, .int 0]))] := hD
  refine lv_istore_n (lv' := [(3, .int 0), (2, .int 0), (0, .ref h0), (1, .ref h1)]) hx hb dX3_readLaw_12 rfl hl (by decide) rfl (fun ls hl => ?_)
  refine lv_aload_n hx hb dX3_readLaw_13 rfl (lv_at hl 2 rfl) ?_
  refine lv_iload_n hx hb dX3_readLaw_14 rfl (lv_at hl 0 rfl) ?_
  refine z_calli (wr := [(h1, .inl (zI g, 5, .inl (fun _ => (-1))))]) hP hD hS hA [1] [0] (by decide) rfl rfl (by decide) (va_runV (As := [.int 0]) (rest := []) ⟨hx, hb, hml, hown, hts⟩ (kX3_ruleAt_2 l g h0 h11 H.size) ⟨callB_of 1 hts (zGood m_o_yX3_ruleAt) rfl rfl rfl (hts _ m_z_RX3) (hts _ m_m_RX3_35) ⟨by decide +kernel, by decide +kernel, by decide +kernel⟩ ⟨Nat.le_of_ble_eq_true rfl, Nat.le_of_ble_eq_true rfl⟩, hts _ m_i_yX3_ruleAt, hts _ m_e_yX3_ruleAt⟩ (zPreV hK hN hZ hP hD hS hA [1] (by decide) rfl rfl 3 1 rfl rfl) rfl rfl hl.1 rfl (lv_room (Nat.le_of_ble_eq_true rfl)) dX3_readLaw_15 ⟨Nat.le_of_ble_eq_true rfl, Nat.le_of_ble_eq_true rfl⟩) (fun r u H locs hw hP hD hS => ?_)
  obtain rfl := hw
  have hP : va_P g.1 vwCl [(h1, .inl (zI g, 5, .inl (fun _ => (-1)))), (h0, .inr (3, [.ref h11, .int 0]))] H := hP
  have hD : va_D A [(h1, .inl (zI g, 5, .inl (fun _ => (-1)))), (h0, .inr (3, [.ref h11, .int 0]))] := hD
  refine lv_istore (lv' := [(4, .int (-1)), (3, .int 0), (2, .int 0), (0, .ref h0), (1, .ref h1)]) hx hb dX3_readLaw_18 hl (by decide) rfl (fun ls hl => ?_)
  refine lv_iload hx hb dX3_readLaw_20 (lv_at hl 0 rfl) ?_
  refine lv_if_lt (tgt := 39) hx hb dX3_readLaw_22 (by decide) (fun _ => ?_) (fun h => absurd h (by decide +kernel))
  refine lv_bipush (v := (-20)) hx hb dX3_readLaw_39 (by decide) ?_
  refine lv_iload_n hx hb dX3_readLaw_41 rfl (lv_at hl 1 rfl) ?_
  refine lv_isub hx hb dX3_readLaw_42 ?_
  refine lv_topi (nm_r (e' := (-20)) (by decide +kernel) ?_)
  have hP9 := hP.sub (ws' := [(h1, .inl (zI g, 5, .inl (fun _ => (-1)))), (h0, .inr (3, [.ref h11, .int 0]))]) [0, 1] rfl
  have hD9 := hD.sub (ws' := [(h1, .inl (zI g, 5, .inl (fun _ => (-1)))), (h0, .inr (3, [.ref h11, .int 0]))]) [0, 1] (by decide) rfl
  exact W.iret (v := (-20)) hx hb hr (fun t ht hW => ⟨⟨(-20), 0, rfl, rfl, by rw [ht]; exact hP9, hD9⟩, hS.F ht⟩) hS.2.2 dX3_readLaw_43
set_option maxHeartbeats 4000000 in
set_option maxRecDepth 100000 in
theorem kX4_rules (l : Launch) (g : zG) (h0 h1 h2 h3 h4 h5 h6 h7 h8 h9 h10 h37 : Nat) (sz : Nat) : Met l yX4_rules (.code yX4_rules cX4_rules 3 (some .int) :: zBig) ({ frames := 3, cells := 0, slots := 0, locals := 69 }) (va_Pc [.ref h0] (zPre g [(h0, .inr (4, [.ref h1, .ref h2, .int 0, .ref h3, .ref h4, .ref h5, .ref h6, .int (-1), .ref h7, .ref h8, .ref h9, .ref h10])), (h4, .inr (3, [.ref h37, .int 0])), (h9, .inl (zI g, 5, .inl (fun _ => 0)))] sz)) (va_Qi (fun (r : Int32) (_ : Nat) => r = (-20)) (zPost g (fun _ : Nat => []) (va_A [(h0, .inr (4, [.ref h1, .ref h2, .int 0, .ref h3, .ref h4, .ref h5, .ref h6, .int (-1), .ref h7, .ref h8, .ref h9, .ref h10])), (h4, .inr (3, [.ref h37, .int 0])), (h9, .inl (zI g, 5, .inl (fun _ => 0)))] sz)) (va_A [(h0, .inr (4, [.ref h1, .ref h2, .int 0, .ref h3, .ref h4, .ref h5, .ref h6, .int (-1), .ref h7, .ref h8, .ref h9, .ref h10])), (h4, .inr (3, [.ref h37, .int 0])), (h9, .inl (zI g, 5, .inl (fun _ => 0)))] sz)) 0 0 (va_A [(h0, .inr (4, [.ref h1, .ref h2, .int 0, .ref h3, .ref h4, .ref h5, .ref h6, .int (-1), .ref h7, .ref h8, .ref h9, .ref h10])), (h4, .inr (3, [.ref h37, .int 0])), (h9, .inl (zI g, 5, .inl (fun _ => 0)))] sz) := by
  refine zMetI rfl (Nat.le_of_ble_eq_true rfl) ?_
  intro p e s m args below meth c A ls hx hb hml hr hlocks hin hown hts hK hN hZ hP hD hA hS hAe hl
  have hown : s.vm.findClass RX4 = some m.cls := hown
  have hl : lv_has ls 3 [(0, .ref h0)] := hl
  refine lv_aload_n hx hb dX4_rules_0 rfl (lv_at hl 0 rfl) ?_
  refine va_get (D := g.1) (ci := 4) (v := .ref h4) (C := RX4) (T := TX4) (N := 12) hx hb hts zl_X4 hown hK hP 0 rfl rfl 4 (by decide) (hts _ m_f_RX4_33) (fun _ h => h) rfl dX4_rules_1 ?_
  refine lv_aload_n hx hb dX4_rules_4 rfl (lv_at hl 0 rfl) ?_
  refine va_get (D := g.1) (ci := 4) (v := .ref h9) (C := RX4) (T := TX4) (N := 12) hx hb hts zl_X4 hown hK hP 0 rfl rfl 10 (by decide) (hts _ m_f_RX4_58) (fun _ h => h) rfl dX4_rules_5 ?_
  refine z_calli (wr := [(h0, .inr (4, [.ref h1, .ref h2, .int 0, .ref h3, .ref h4, .ref h5, .ref h6, .int (-1), .ref h7, .ref h8, .ref h9, .ref h10]))]) hP hD hS hA [1, 2] [0] (by decide) rfl rfl (by decide) (va_runVN (As := [.ref h9]) (rest := []) ⟨hx, hb, hml, hown, hts⟩ (kX3_readLaw_2 l g h4 h9 h37 s.heap.size) ⟨va_cnB 1 hts (zGood m_o_yX3_readLaw) rfl rfl rfl (hN.m 8 (q := (RX4, 103, yX3_readLaw)) rfl) (hts _ m_z_RX3) ⟨by decide +kernel, by decide +kernel, by decide +kernel⟩ ⟨Nat.le_of_ble_eq_true rfl, Nat.le_of_ble_eq_true rfl⟩, hts _ m_i_yX3_readLaw, hts _ m_e_yX3_readLaw⟩ (zPreV hK hN hZ hP hD hS hA [1, 2] (by decide) rfl rfl 3 1 rfl rfl) rfl rfl hl.1 rfl (lv_room (Nat.le_of_ble_eq_true rfl)) dX4_rules_8 ⟨Nat.le_of_ble_eq_true rfl, Nat.le_of_ble_eq_true rfl⟩) (fun r u H locs hw hP hD hS => ?_)
  obtain rfl := hw
  have hP : va_P g.1 vwCl [(h0, .inr (4, [.ref h1, .ref h2, .int 0, .ref h3, .ref h4, .ref h5, .ref h6, .int (-1), .ref h7, .ref h8, .ref h9, .ref h10])), (h9, .inl (zI g, 5, .inl (fun _ => (-1)))), (h4, .inr (3, [.ref h37, .int 0]))] H := hP
  have hD : va_D A [(h0, .inr (4, [.ref h1, .ref h2, .int 0, .ref h3, .ref h4, .ref h5, .ref h6, .int (-1), .ref h7, .ref h8, .ref h9, .ref h10])), (h9, .inl (zI g, 5, .inl (fun _ => (-1)))), (h4, .inr (3, [.ref h37, .int 0]))] := hD
  refine lv_istore_n (lv' := [(1, .int (-20)), (0, .ref h0)]) hx hb dX4_rules_11 rfl hl (by decide) rfl (fun ls hl => ?_)
  refine lv_aload_n hx hb dX4_rules_12 rfl (lv_at hl 1 rfl) ?_
  refine va_get (D := g.1) (ci := 4) (v := .ref h4) (C := RX4) (T := TX4) (N := 12) hx hb hts zl_X4 hown hK hP 0 rfl rfl 4 (by decide) (hts _ m_f_RX4_33) (fun _ h => h) rfl dX4_rules_13 ?_
  refine lv_iconst (v := 0) hx hb dX4_rules_16 (by decide) ?_
  refine va_putN (D := g.1) (ci := 3) (v := .int 0) (ty := .int) (C := RX3) (T := TX3) (N := 2) hx hb hts zl_X3 tyX3 tyX3_ok nmX3 hown hK hP hD hS 2 rfl rfl 1 (by decide) (hN.f 26 (q := (RX4, 107, "FishSteps$Tape", "length", "I")) rfl) (fun _ h => h) rfl (by decide +kernel) rfl rfl (Nat.le_of_ble_eq_true rfl) dX4_rules_17 (fun H locs hP hD hS => ?_)
  have hP : va_P g.1 vwCl [(h0, .inr (4, [.ref h1, .ref h2, .int 0, .ref h3, .ref h4, .ref h5, .ref h6, .int (-1), .ref h7, .ref h8, .ref h9, .ref h10])), (h9, .inl (zI g, 5, .inl (fun _ => (-1)))), (h4, .inr (3, [.ref h37, .int 0]))] H := hP
  have hD : va_D A [(h0, .inr (4, [.ref h1, .ref h2, .int 0, .ref h3, .ref h4, .ref h5, .ref h6, .int (-1), .ref h7, .ref h8, .ref h9, .ref h10])), (h9, .inl (zI g, 5, .inl (fun _ => (-1)))), (h4, .inr (3, [.ref h37, .int 0]))] := hD
  refine lv_iconst (v := 0) hx hb dX4_rules_20 (by decide) ?_
  refine lv_istore_n (lv' := [(2, .int 0), (1, .int (-20)), (0, .ref h0)]) hx hb dX4_rules_21 rfl hl (by decide) rfl (fun ls hl => ?_)
  refine lv_iload_n hx hb dX4_rules_22 rfl (lv_at hl 1 rfl) ?_
  refine lv_if_le (tgt := 65) hx hb dX4_rules_23 (by decide) (fun _ => ?_) (fun h => absurd h (by decide +kernel))
  refine lv_iload_n hx hb dX4_rules_65 rfl (lv_at hl 1 rfl) ?_
  have hP9 := hP.sub (ws' := []) [] rfl
  have hD9 := hD.sub (ws' := []) [] (by decide) rfl
  exact W.iret (v := (-20)) hx hb hr (fun t ht hW => ⟨⟨(-20), 0, rfl, rfl, by rw [ht]; exact hP9, hD9⟩, hS.F ht⟩) hS.2.2 dX4_rules_66
set_option maxHeartbeats 4000000 in
set_option maxRecDepth 100000 in
theorem kX3_behindBlanks_4 (l : Launch) (g : zG) (h0 h37 : Nat) (sz : Nat) : Met l yX3_behindBlanks (.code yX3_behindBlanks cX3_behindBlanks 3 (some .int) :: zBig) ({ frames := 0, cells := 0, slots := 0, locals := 0 }) (va_Pc [.ref h0, .int 0] (zPre g [(h0, .inr (3, [.ref h37, .int 0]))] sz)) (va_Qi (fun (r : Int32) (_ : Nat) => r = 0) (zPost g (fun _ : Nat => [(h0, .inr (3, [.ref h37, .int 0]))]) (va_A [(h0, .inr (3, [.ref h37, .int 0]))] sz)) (va_A [(h0, .inr (3, [.ref h37, .int 0]))] sz)) 0 0 (va_A [(h0, .inr (3, [.ref h37, .int 0]))] sz) := by
  refine zMetI rfl (Nat.le_of_ble_eq_true rfl) ?_
  intro p e s m args below meth c A ls hx hb hml hr hlocks hin hown hts hK hN hZ hP hD hA hS hAe hl
  have hown : s.vm.findClass RX3 = some m.cls := hown
  have hl : lv_has ls 3 [(0, .ref h0), (1, .int 0)] := hl
  refine lv_iload_n hx hb dX3_behindBlanks_0 rfl (lv_at hl 1 rfl) ?_
  refine lv_istore_n (lv' := [(2, .int 0), (0, .ref h0), (1, .int 0)]) hx hb dX3_behindBlanks_1 rfl hl (by decide) rfl (fun ls hl => ?_)
  refine lv_iload_n hx hb dX3_behindBlanks_2 rfl (lv_at hl 0 rfl) ?_
  refine lv_aload_n hx hb dX3_behindBlanks_3 rfl (lv_at hl 1 rfl) ?_
  refine va_get (D := g.1) (ci := 3) (v := .int 0) (C := RX3) (T := TX3) (N := 2) hx hb hts zl_X3 hown hK hP 0 rfl rfl 1 (by decide) (hts _ m_f_RX3_15) (fun _ h => h) rfl dX3_behindBlanks_4 ?_
  refine lv_icmp_ge (tgt := 26) hx hb dX3_behindBlanks_7 (by decide) (fun _ => ?_) (fun h => absurd h (by decide +kernel))
  refine lv_iload_n hx hb dX3_behindBlanks_26 rfl (lv_at hl 0 rfl) ?_
  have hP9 := hP.sub (ws' := [(h0, .inr (3, [.ref h37, .int 0]))]) [0] rfl
  have hD9 := hD.sub (ws' := [(h0, .inr (3, [.ref h37, .int 0]))]) [0] (by decide) rfl
  exact W.iret (v := 0) hx hb hr (fun t ht hW => ⟨⟨0, 0, rfl, rfl, by rw [ht]; exact hP9, hD9⟩, hS.F ht⟩) hS.2.2 dX3_behindBlanks_27
set_option maxHeartbeats 4000000 in
set_option maxRecDepth 100000 in
theorem kX3_charAt_5 (l : Launch) (g : zG) (h0 h37 : Nat) (sz : Nat) : Met l yX3_charAt (.code yX3_charAt cX3_charAt 2 (some .int) :: zBig) ({ frames := 0, cells := 0, slots := 0, locals := 0 }) (va_Pc [.ref h0, .int 0] (zPre g [(h0, .inr (3, [.ref h37, .int 0]))] sz)) (va_Qi (fun (r : Int32) (_ : Nat) => r = 0) (zPost g (fun _ : Nat => [(h0, .inr (3, [.ref h37, .int 0]))]) (va_A [(h0, .inr (3, [.ref h37, .int 0]))] sz)) (va_A [(h0, .inr (3, [.ref h37, .int 0]))] sz)) 0 0 (va_A [(h0, .inr (3, [.ref h37, .int 0]))] sz) := by
  refine zMetI rfl (Nat.le_of_ble_eq_true rfl) ?_
  intro p e s m args below meth c A ls hx hb hml hr hlocks hin hown hts hK hN hZ hP hD hA hS hAe hl
  have hown : s.vm.findClass RX3 = some m.cls := hown
  have hl : lv_has ls 2 [(0, .ref h0), (1, .int 0)] := hl
  refine lv_iload_n hx hb dX3_charAt_0 rfl (lv_at hl 1 rfl) ?_
  refine lv_if_lt (tgt := 27) hx hb dX3_charAt_1 (by decide) (fun h => absurd h (by decide +kernel)) (fun _ => ?_)
  refine lv_iload_n hx hb dX3_charAt_4 rfl (lv_at hl 1 rfl) ?_
  refine lv_aload_n hx hb dX3_charAt_5 rfl (lv_at hl 0 rfl) ?_
  refine va_get (D := g.1) (ci := 3) (v := .int 0) (C := RX3) (T := TX3) (N := 2) hx hb hts zl_X3 hown hK hP 0 rfl rfl 1 (by decide) (hts _ m_f_RX3_15) (fun _ h => h) rfl dX3_charAt_6 ?_
  refine lv_icmp_ge (tgt := 27) hx hb dX3_charAt_9 (by decide) (fun _ => ?_) (fun h => absurd h (by decide +kernel))
  refine lv_iconst (v := 0) hx hb dX3_charAt_27 (by decide) ?_
  have hP9 := hP.sub (ws' := [(h0, .inr (3, [.ref h37, .int 0]))]) [0] rfl
  have hD9 := hD.sub (ws' := [(h0, .inr (3, [.ref h37, .int 0]))]) [0] (by decide) rfl
  exact W.iret (v := 0) hx hb hr (fun t ht hW => ⟨⟨0, 0, rfl, rfl, by rw [ht]; exact hP9, hD9⟩, hS.F ht⟩) hS.2.2 dX3_charAt_28
set_option maxHeartbeats 4000000 in
set_option maxRecDepth 100000 in
theorem kX4_isKind (l : Launch) (g : zG) (sz : Nat) : Met l yX4_isKind (.code yX4_isKind cX4_isKind 1 (some .boolean) :: zBig) ({ frames := 0, cells := 0, slots := 0, locals := 0 }) (va_Pc [.int (-48)] (zPre g [] sz)) (va_Qi (fun (r : Int32) (_ : Nat) => r = 0) (zPost g (fun _ : Nat => []) (va_A [] sz)) (va_A [] sz)) 0 0 (va_A [] sz) := by
  refine zMetI rfl (Nat.le_of_ble_eq_true rfl) ?_
  intro p e s m args below meth c A ls hx hb hml hr hlocks hin hown hts hK hN hZ hP hD hA hS hAe hl
  have hown : s.vm.findClass RX4 = some m.cls := hown
  have hl : lv_has ls 1 [(0, .int (-48))] := hl
  refine lv_iload_n hx hb dX4_isKind_0 rfl (lv_at hl 0 rfl) ?_
  refine lv_if_lt (tgt := 13) hx hb dX4_isKind_1 (by decide) (fun _ => ?_) (fun h => absurd h (by decide +kernel))
  refine lv_iconst (v := 0) hx hb dX4_isKind_13 (by decide) ?_
  have hP9 := hP.sub (ws' := []) [] rfl
  have hD9 := hD.sub (ws' := []) [] (by decide) rfl
  exact W.zret (v := 0) hx hb hr (by decide) (fun t ht hW => ⟨⟨0, 0, rfl, rfl, by rw [ht]; exact hP9, hD9⟩, hS.F ht⟩) hS.2.2 dX4_isKind_14
set_option maxHeartbeats 4000000 in
set_option maxRecDepth 100000 in
theorem kX3_behindBlanks_5 (l : Launch) (g : zG) (h0 h1 : Nat) (sz : Nat) : Met l yX3_behindBlanks (.code yX3_behindBlanks cX3_behindBlanks 3 (some .int) :: zBig) ({ frames := 0, cells := 0, slots := 0, locals := 0 }) (va_Pc [.ref h0, .int 0] (zPre g [(h0, .inr (3, [.ref h1, .int 0]))] sz)) (va_Qi (fun (r : Int32) (_ : Nat) => r = 0) (zPost g (fun _ : Nat => [(h0, .inr (3, [.ref h1, .int 0]))]) (va_A [(h0, .inr (3, [.ref h1, .int 0]))] sz)) (va_A [(h0, .inr (3, [.ref h1, .int 0]))] sz)) 0 0 (va_A [(h0, .inr (3, [.ref h1, .int 0]))] sz) := by
  refine zMetI rfl (Nat.le_of_ble_eq_true rfl) ?_
  intro p e s m args below meth c A ls hx hb hml hr hlocks hin hown hts hK hN hZ hP hD hA hS hAe hl
  have hown : s.vm.findClass RX3 = some m.cls := hown
  have hl : lv_has ls 3 [(0, .ref h0), (1, .int 0)] := hl
  refine lv_iload_n hx hb dX3_behindBlanks_0 rfl (lv_at hl 1 rfl) ?_
  refine lv_istore_n (lv' := [(2, .int 0), (0, .ref h0), (1, .int 0)]) hx hb dX3_behindBlanks_1 rfl hl (by decide) rfl (fun ls hl => ?_)
  refine lv_iload_n hx hb dX3_behindBlanks_2 rfl (lv_at hl 0 rfl) ?_
  refine lv_aload_n hx hb dX3_behindBlanks_3 rfl (lv_at hl 1 rfl) ?_
  refine va_get (D := g.1) (ci := 3) (v := .int 0) (C := RX3) (T := TX3) (N := 2) hx hb hts zl_X3 hown hK hP 0 rfl rfl 1 (by decide) (hts _ m_f_RX3_15) (fun _ h => h) rfl dX3_behindBlanks_4 ?_
  refine lv_icmp_ge (tgt := 26) hx hb dX3_behindBlanks_7 (by decide) (fun _ => ?_) (fun h => absurd h (by decide +kernel))
  refine lv_iload_n hx hb dX3_behindBlanks_26 rfl (lv_at hl 0 rfl) ?_
  have hP9 := hP.sub (ws' := [(h0, .inr (3, [.ref h1, .int 0]))]) [0] rfl
  have hD9 := hD.sub (ws' := [(h0, .inr (3, [.ref h1, .int 0]))]) [0] (by decide) rfl
  exact W.iret (v := 0) hx hb hr (fun t ht hW => ⟨⟨0, 0, rfl, rfl, by rw [ht]; exact hP9, hD9⟩, hS.F ht⟩) hS.2.2 dX3_behindBlanks_27
set_option maxHeartbeats 4000000 in
set_option maxRecDepth 100000 in
theorem kX4_isKind_2 (l : Launch) (g : zG) (sz : Nat) : Met l yX4_isKind (.code yX4_isKind cX4_isKind 1 (some .boolean) :: zBig) ({ frames := 0, cells := 0, slots := 0, locals := 0 }) (va_Pc [.int (-48)] (zPre g [] sz)) (va_Qi (fun (r : Int32) (_ : Nat) => r = 0) (zPost g (fun _ : Nat => []) (va_A [] sz)) (va_A [] sz)) 0 0 (va_A [] sz) := by
  refine zMetI rfl (Nat.le_of_ble_eq_true rfl) ?_
  intro p e s m args below meth c A ls hx hb hml hr hlocks hin hown hts hK hN hZ hP hD hA hS hAe hl
  have hown : s.vm.findClass RX4 = some m.cls := hown
  have hl : lv_has ls 1 [(0, .int (-48))] := hl
  refine lv_iload_n hx hb dX4_isKind_0 rfl (lv_at hl 0 rfl) ?_
  refine lv_if_lt (tgt := 13) hx hb dX4_isKind_1 (by decide) (fun _ => ?_) (fun h => absurd h (by decide +kernel))
  refine lv_iconst (v := 0) hx hb dX4_isKind_13 (by decide) ?_
  have hP9 := hP.sub (ws' := []) [] rfl
  have hD9 := hD.sub (ws' := []) [] (by decide) rfl
  exact W.zret (v := 0) hx hb hr (by decide) (fun t ht hW => ⟨⟨0, 0, rfl, rfl, by rw [ht]; exact hP9, hD9⟩, hS.F ht⟩) hS.2.2 dX4_isKind_14
set_option maxHeartbeats 4000000 in
set_option maxRecDepth 100000 in
theorem kX3_readLots (l : Launch) (g : zG) (h0 h1 h37 : Nat) (sz : Nat) : Met l yX3_readLots (.code yX3_readLots cX3_readLots 5 (some .int) :: zBig) ({ frames := 1, cells := 0, slots := 0, locals := 22 }) (va_Pc [.ref h0, .ref h1] (zPre g [(h0, .inr (3, [.ref h37, .int 0]))] sz)) (va_Qi (fun (r : Int32) (_ : Nat) => r = (-20)) (zPost g (fun _ : Nat => [(h0, .inr (3, [.ref h37, .int 0]))]) (va_A [(h0, .inr (3, [.ref h37, .int 0]))] sz)) (va_A [(h0, .inr (3, [.ref h37, .int 0]))] sz)) 0 0 (va_A [(h0, .inr (3, [.ref h37, .int 0]))] sz) := by
  refine zMetI rfl (Nat.le_of_ble_eq_true rfl) ?_
  intro p e s m args below meth c A ls hx hb hml hr hlocks hin hown hts hK hN hZ hP hD hA hS hAe hl
  have hown : s.vm.findClass RX3 = some m.cls := hown
  have hl : lv_has ls 5 [(0, .ref h0), (1, .ref h1)] := hl
  refine lv_iconst (v := 0) hx hb dX3_readLots_0 (by decide) ?_
  refine lv_istore_n (lv' := [(2, .int 0), (0, .ref h0), (1, .ref h1)]) hx hb dX3_readLots_1 rfl hl (by decide) rfl (fun ls hl => ?_)
  refine lv_aload_n hx hb dX3_readLots_2 rfl (lv_at hl 1 rfl) ?_
  refine lv_iconst (v := 0) hx hb dX3_readLots_3 (by decide) ?_
  refine z_calli (wr := []) hP hD hS hA [0] [] (by decide) rfl rfl (by decide) (va_runV (As := [.int 0]) (rest := []) ⟨hx, hb, hml, hown, hts⟩ (kX3_behindBlanks_5 l g h0 h37 s.heap.size) ⟨callB_of 1 hts (zGood m_o_yX3_behindBlanks) rfl rfl rfl (hts _ m_z_RX3) (hts _ m_m_RX3_31) ⟨by decide +kernel, by decide +kernel, by decide +kernel⟩ ⟨Nat.le_of_ble_eq_true rfl, Nat.le_of_ble_eq_true rfl⟩, hts _ m_i_yX3_behindBlanks, hts _ m_e_yX3_behindBlanks⟩ (zPreV hK hN hZ hP hD hS hA [0] (by decide) rfl rfl 3 0 rfl rfl) rfl rfl hl.1 rfl (lv_room (Nat.le_of_ble_eq_true rfl)) dX3_readLots_4 ⟨Nat.le_of_ble_eq_true rfl, Nat.le_of_ble_eq_true rfl⟩) (fun r u H locs hw hP hD hS => ?_)
  obtain rfl := hw
  have hP : va_P g.1 vwCl [(h0, .inr (3, [.ref h37, .int 0]))] H := hP
  have hD : va_D A [(h0, .inr (3, [.ref h37, .int 0]))] := hD
  refine lv_istore_n (lv' := [(3, .int 0), (2, .int 0), (0, .ref h0), (1, .ref h1)]) hx hb dX3_readLots_7 rfl hl (by decide) rfl (fun ls hl => ?_)
  refine lv_aload_n hx hb dX3_readLots_8 rfl (lv_at hl 2 rfl) ?_
  refine lv_iload_n hx hb dX3_readLots_9 rfl (lv_at hl 0 rfl) ?_
  refine z_calli (wr := []) hP hD hS hA [0] [] (by decide) rfl rfl (by decide) (va_runV (As := [.int 0]) (rest := []) ⟨hx, hb, hml, hown, hts⟩ (kX3_charAt_2 l g h0 h37 H.size) ⟨callB_of 1 hts (zGood m_o_yX3_charAt) rfl rfl rfl (hts _ m_z_RX3) (hts _ m_m_RX3_49) ⟨by decide +kernel, by decide +kernel, by decide +kernel⟩ ⟨Nat.le_of_ble_eq_true rfl, Nat.le_of_ble_eq_true rfl⟩, hts _ m_i_yX3_charAt, hts _ m_e_yX3_charAt⟩ (zPreV hK hN hZ hP hD hS hA [0] (by decide) rfl rfl 3 0 rfl rfl) rfl rfl hl.1 rfl (lv_room (Nat.le_of_ble_eq_true rfl)) dX3_readLots_10 ⟨Nat.le_of_ble_eq_true rfl, Nat.le_of_ble_eq_true rfl⟩) (fun r u H locs hw hP hD hS => ?_)
  obtain rfl := hw
  have hP : va_P g.1 vwCl [(h0, .inr (3, [.ref h37, .int 0]))] H := hP
  have hD : va_D A [(h0, .inr (3, [.ref h37, .int 0]))] := hD
  refine lv_bipush (v := 48) hx hb dX3_readLots_13 (by decide) ?_
  refine lv_isub hx hb dX3_readLots_15 ?_
  refine lv_topi (nm_r (e' := (-48)) (by decide +kernel) ?_)
  refine lv_istore (lv' := [(4, .int (-48)), (3, .int 0), (2, .int 0), (0, .ref h0), (1, .ref h1)]) hx hb dX3_readLots_16 hl (by decide) rfl (fun ls hl => ?_)
  refine lv_iload hx hb dX3_readLots_18 (lv_at hl 0 rfl) ?_
  refine z_calli (wr := [(h0, .inr (3, [.ref h37, .int 0]))]) hP hD hS hA [] [0] (by decide) rfl rfl (by decide) (va_runSN (As := [.int (-48)]) (rest := []) ⟨hx, hb, hml, hown, hts⟩ (kX4_isKind_2 l g  H.size) ⟨va_cnB 1 hts (zGood m_o_yX4_isKind) rfl rfl rfl (hN.m 11 (q := (RX3, 52, yX4_isKind)) rfl) (hts _ m_z_RX4) ⟨by decide +kernel, by decide +kernel, by decide +kernel⟩ ⟨Nat.le_of_ble_eq_true rfl, Nat.le_of_ble_eq_true rfl⟩, hts _ m_s_yX4_isKind, trivial⟩ (zPreS hK hN hZ hP hD hS hA [] (by decide) rfl rfl) rfl rfl hl.1 rfl (lv_room (Nat.le_of_ble_eq_true rfl)) dX3_readLots_20 ⟨Nat.le_of_ble_eq_true rfl, Nat.le_of_ble_eq_true rfl⟩) (fun r u H locs hw hP hD hS => ?_)
  obtain rfl := hw
  have hP : va_P g.1 vwCl [(h0, .inr (3, [.ref h37, .int 0]))] H := hP
  have hD : va_D A [(h0, .inr (3, [.ref h37, .int 0]))] := hD
  refine lv_if_eq (tgt := 32) hx hb dX3_readLots_23 (by decide) (fun _ => ?_) (fun h => absurd h (by decide +kernel))
  refine lv_bipush (v := (-20)) hx hb dX3_readLots_32 (by decide) ?_
  refine lv_iload_n hx hb dX3_readLots_34 rfl (lv_at hl 1 rfl) ?_
  refine lv_isub hx hb dX3_readLots_35 ?_
  refine lv_topi (nm_r (e' := (-20)) (by decide +kernel) ?_)
  have hP9 := hP.sub (ws' := [(h0, .inr (3, [.ref h37, .int 0]))]) [0] rfl
  have hD9 := hD.sub (ws' := [(h0, .inr (3, [.ref h37, .int 0]))]) [0] (by decide) rfl
  exact W.iret (v := (-20)) hx hb hr (fun t ht hW => ⟨⟨(-20), 0, rfl, rfl, by rw [ht]; exact hP9, hD9⟩, hS.F ht⟩) hS.2.2 dX3_readLots_36
set_option maxHeartbeats 4000000 in
set_option maxRecDepth 100000 in
theorem kX3_behindBlanks_6 (l : Launch) (g : zG) (h0 h11 : Nat) (sz : Nat) : Met l yX3_behindBlanks (.code yX3_behindBlanks cX3_behindBlanks 3 (some .int) :: zBig) ({ frames := 0, cells := 0, slots := 0, locals := 0 }) (va_Pc [.ref h0, .int 0] (zPre g [(h0, .inr (3, [.ref h11, .int 0]))] sz)) (va_Qi (fun (r : Int32) (_ : Nat) => r = 0) (zPost g (fun _ : Nat => [(h0, .inr (3, [.ref h11, .int 0]))]) (va_A [(h0, .inr (3, [.ref h11, .int 0]))] sz)) (va_A [(h0, .inr (3, [.ref h11, .int 0]))] sz)) 0 0 (va_A [(h0, .inr (3, [.ref h11, .int 0]))] sz) := by
  refine zMetI rfl (Nat.le_of_ble_eq_true rfl) ?_
  intro p e s m args below meth c A ls hx hb hml hr hlocks hin hown hts hK hN hZ hP hD hA hS hAe hl
  have hown : s.vm.findClass RX3 = some m.cls := hown
  have hl : lv_has ls 3 [(0, .ref h0), (1, .int 0)] := hl
  refine lv_iload_n hx hb dX3_behindBlanks_0 rfl (lv_at hl 1 rfl) ?_
  refine lv_istore_n (lv' := [(2, .int 0), (0, .ref h0), (1, .int 0)]) hx hb dX3_behindBlanks_1 rfl hl (by decide) rfl (fun ls hl => ?_)
  refine lv_iload_n hx hb dX3_behindBlanks_2 rfl (lv_at hl 0 rfl) ?_
  refine lv_aload_n hx hb dX3_behindBlanks_3 rfl (lv_at hl 1 rfl) ?_
  refine va_get (D := g.1) (ci := 3) (v := .int 0) (C := RX3) (T := TX3) (N := 2) hx hb hts zl_X3 hown hK hP 0 rfl rfl 1 (by decide) (hts _ m_f_RX3_15) (fun _ h => h) rfl dX3_behindBlanks_4 ?_
  refine lv_icmp_ge (tgt := 26) hx hb dX3_behindBlanks_7 (by decide) (fun _ => ?_) (fun h => absurd h (by decide +kernel))
  refine lv_iload_n hx hb dX3_behindBlanks_26 rfl (lv_at hl 0 rfl) ?_
  have hP9 := hP.sub (ws' := [(h0, .inr (3, [.ref h11, .int 0]))]) [0] rfl
  have hD9 := hD.sub (ws' := [(h0, .inr (3, [.ref h11, .int 0]))]) [0] (by decide) rfl
  exact W.iret (v := 0) hx hb hr (fun t ht hW => ⟨⟨0, 0, rfl, rfl, by rw [ht]; exact hP9, hD9⟩, hS.F ht⟩) hS.2.2 dX3_behindBlanks_27
set_option maxHeartbeats 4000000 in
set_option maxRecDepth 100000 in
theorem kX3_charAt_6 (l : Launch) (g : zG) (h0 h11 : Nat) (sz : Nat) : Met l yX3_charAt (.code yX3_charAt cX3_charAt 2 (some .int) :: zBig) ({ frames := 0, cells := 0, slots := 0, locals := 0 }) (va_Pc [.ref h0, .int 0] (zPre g [(h0, .inr (3, [.ref h11, .int 0]))] sz)) (va_Qi (fun (r : Int32) (_ : Nat) => r = 0) (zPost g (fun _ : Nat => [(h0, .inr (3, [.ref h11, .int 0]))]) (va_A [(h0, .inr (3, [.ref h11, .int 0]))] sz)) (va_A [(h0, .inr (3, [.ref h11, .int 0]))] sz)) 0 0 (va_A [(h0, .inr (3, [.ref h11, .int 0]))] sz) := by
  refine zMetI rfl (Nat.le_of_ble_eq_true rfl) ?_
  intro p e s m args below meth c A ls hx hb hml hr hlocks hin hown hts hK hN hZ hP hD hA hS hAe hl
  have hown : s.vm.findClass RX3 = some m.cls := hown
  have hl : lv_has ls 2 [(0, .ref h0), (1, .int 0)] := hl
  refine lv_iload_n hx hb dX3_charAt_0 rfl (lv_at hl 1 rfl) ?_
  refine lv_if_lt (tgt := 27) hx hb dX3_charAt_1 (by decide) (fun h => absurd h (by decide +kernel)) (fun _ => ?_)
  refine lv_iload_n hx hb dX3_charAt_4 rfl (lv_at hl 1 rfl) ?_
  refine lv_aload_n hx hb dX3_charAt_5 rfl (lv_at hl 0 rfl) ?_
  refine va_get (D := g.1) (ci := 3) (v := .int 0) (C := RX3) (T := TX3) (N := 2) hx hb hts zl_X3 hown hK hP 0 rfl rfl 1 (by decide) (hts _ m_f_RX3_15) (fun _ h => h) rfl dX3_charAt_6 ?_
  refine lv_icmp_ge (tgt := 27) hx hb dX3_charAt_9 (by decide) (fun _ => ?_) (fun h => absurd h (by decide +kernel))
  refine lv_iconst (v := 0) hx hb dX3_charAt_27 (by decide) ?_
  have hP9 := hP.sub (ws' := [(h0, .inr (3, [.ref h11, .int 0]))]) [0] rfl
  have hD9 := hD.sub (ws' := [(h0, .inr (3, [.ref h11, .int 0]))]) [0] (by decide) rfl
  exact W.iret (v := 0) hx hb hr (fun t ht hW => ⟨⟨0, 0, rfl, rfl, by rw [ht]; exact hP9, hD9⟩, hS.F ht⟩) hS.2.2 dX3_charAt_28
set_option maxHeartbeats 4000000 in
set_option maxRecDepth 100000 in
theorem kX4_isKind_3 (l : Launch) (g : zG) (sz : Nat) : Met l yX4_isKind (.code yX4_isKind cX4_isKind 1 (some .boolean) :: zBig) ({ frames := 0, cells := 0, slots := 0, locals := 0 }) (va_Pc [.int (-48)] (zPre g [] sz)) (va_Qi (fun (r : Int32) (_ : Nat) => r = 0) (zPost g (fun _ : Nat => []) (va_A [] sz)) (va_A [] sz)) 0 0 (va_A [] sz) := by
  refine zMetI rfl (Nat.le_of_ble_eq_true rfl) ?_
  intro p e s m args below meth c A ls hx hb hml hr hlocks hin hown hts hK hN hZ hP hD hA hS hAe hl
  have hown : s.vm.findClass RX4 = some m.cls := hown
  have hl : lv_has ls 1 [(0, .int (-48))] := hl
  refine lv_iload_n hx hb dX4_isKind_0 rfl (lv_at hl 0 rfl) ?_
  refine lv_if_lt (tgt := 13) hx hb dX4_isKind_1 (by decide) (fun _ => ?_) (fun h => absurd h (by decide +kernel))
  refine lv_iconst (v := 0) hx hb dX4_isKind_13 (by decide) ?_
  have hP9 := hP.sub (ws' := []) [] rfl
  have hD9 := hD.sub (ws' := []) [] (by decide) rfl
  exact W.zret (v := 0) hx hb hr (by decide) (fun t ht hW => ⟨⟨0, 0, rfl, rfl, by rw [ht]; exact hP9, hD9⟩, hS.F ht⟩) hS.2.2 dX4_isKind_14
set_option maxHeartbeats 4000000 in
set_option maxRecDepth 100000 in
theorem kX3_readLots_2 (l : Launch) (g : zG) (h0 h1 h11 : Nat) (sz : Nat) : Met l yX3_readLots (.code yX3_readLots cX3_readLots 5 (some .int) :: zBig) ({ frames := 1, cells := 0, slots := 0, locals := 22 }) (va_Pc [.ref h0, .ref h1] (zPre g [(h0, .inr (3, [.ref h11, .int 0]))] sz)) (va_Qi (fun (r : Int32) (_ : Nat) => r = (-20)) (zPost g (fun _ : Nat => [(h0, .inr (3, [.ref h11, .int 0]))]) (va_A [(h0, .inr (3, [.ref h11, .int 0]))] sz)) (va_A [(h0, .inr (3, [.ref h11, .int 0]))] sz)) 0 0 (va_A [(h0, .inr (3, [.ref h11, .int 0]))] sz) := by
  refine zMetI rfl (Nat.le_of_ble_eq_true rfl) ?_
  intro p e s m args below meth c A ls hx hb hml hr hlocks hin hown hts hK hN hZ hP hD hA hS hAe hl
  have hown : s.vm.findClass RX3 = some m.cls := hown
  have hl : lv_has ls 5 [(0, .ref h0), (1, .ref h1)] := hl
  refine lv_iconst (v := 0) hx hb dX3_readLots_0 (by decide) ?_
  refine lv_istore_n (lv' := [(2, .int 0), (0, .ref h0), (1, .ref h1)]) hx hb dX3_readLots_1 rfl hl (by decide) rfl (fun ls hl => ?_)
  refine lv_aload_n hx hb dX3_readLots_2 rfl (lv_at hl 1 rfl) ?_
  refine lv_iconst (v := 0) hx hb dX3_readLots_3 (by decide) ?_
  refine z_calli (wr := []) hP hD hS hA [0] [] (by decide) rfl rfl (by decide) (va_runV (As := [.int 0]) (rest := []) ⟨hx, hb, hml, hown, hts⟩ (kX3_behindBlanks_5 l g h0 h11 s.heap.size) ⟨callB_of 1 hts (zGood m_o_yX3_behindBlanks) rfl rfl rfl (hts _ m_z_RX3) (hts _ m_m_RX3_31) ⟨by decide +kernel, by decide +kernel, by decide +kernel⟩ ⟨Nat.le_of_ble_eq_true rfl, Nat.le_of_ble_eq_true rfl⟩, hts _ m_i_yX3_behindBlanks, hts _ m_e_yX3_behindBlanks⟩ (zPreV hK hN hZ hP hD hS hA [0] (by decide) rfl rfl 3 0 rfl rfl) rfl rfl hl.1 rfl (lv_room (Nat.le_of_ble_eq_true rfl)) dX3_readLots_4 ⟨Nat.le_of_ble_eq_true rfl, Nat.le_of_ble_eq_true rfl⟩) (fun r u H locs hw hP hD hS => ?_)
  obtain rfl := hw
  have hP : va_P g.1 vwCl [(h0, .inr (3, [.ref h11, .int 0]))] H := hP
  have hD : va_D A [(h0, .inr (3, [.ref h11, .int 0]))] := hD
  refine lv_istore_n (lv' := [(3, .int 0), (2, .int 0), (0, .ref h0), (1, .ref h1)]) hx hb dX3_readLots_7 rfl hl (by decide) rfl (fun ls hl => ?_)
  refine lv_aload_n hx hb dX3_readLots_8 rfl (lv_at hl 2 rfl) ?_
  refine lv_iload_n hx hb dX3_readLots_9 rfl (lv_at hl 0 rfl) ?_
  refine z_calli (wr := []) hP hD hS hA [0] [] (by decide) rfl rfl (by decide) (va_runV (As := [.int 0]) (rest := []) ⟨hx, hb, hml, hown, hts⟩ (kX3_charAt_2 l g h0 h11 H.size) ⟨callB_of 1 hts (zGood m_o_yX3_charAt) rfl rfl rfl (hts _ m_z_RX3) (hts _ m_m_RX3_49) ⟨by decide +kernel, by decide +kernel, by decide +kernel⟩ ⟨Nat.le_of_ble_eq_true rfl, Nat.le_of_ble_eq_true rfl⟩, hts _ m_i_yX3_charAt, hts _ m_e_yX3_charAt⟩ (zPreV hK hN hZ hP hD hS hA [0] (by decide) rfl rfl 3 0 rfl rfl) rfl rfl hl.1 rfl (lv_room (Nat.le_of_ble_eq_true rfl)) dX3_readLots_10 ⟨Nat.le_of_ble_eq_true rfl, Nat.le_of_ble_eq_true rfl⟩) (fun r u H locs hw hP hD hS => ?_)
  obtain rfl := hw
  have hP : va_P g.1 vwCl [(h0, .inr (3, [.ref h11, .int 0]))] H := hP
  have hD : va_D A [(h0, .inr (3, [.ref h11, .int 0]))] := hD
  refine lv_bipush (v := 48) hx hb dX3_readLots_13 (by decide) ?_
  refine lv_isub hx hb dX3_readLots_15 ?_
  refine lv_topi (nm_r (e' := (-48)) (by decide +kernel) ?_)
  refine lv_istore (lv' := [(4, .int (-48)), (3, .int 0), (2, .int 0), (0, .ref h0), (1, .ref h1)]) hx hb dX3_readLots_16 hl (by decide) rfl (fun ls hl => ?_)
  refine lv_iload hx hb dX3_readLots_18 (lv_at hl 0 rfl) ?_
  refine z_calli (wr := [(h0, .inr (3, [.ref h11, .int 0]))]) hP hD hS hA [] [0] (by decide) rfl rfl (by decide) (va_runSN (As := [.int (-48)]) (rest := []) ⟨hx, hb, hml, hown, hts⟩ (kX4_isKind_2 l g  H.size) ⟨va_cnB 1 hts (zGood m_o_yX4_isKind) rfl rfl rfl (hN.m 11 (q := (RX3, 52, yX4_isKind)) rfl) (hts _ m_z_RX4) ⟨by decide +kernel, by decide +kernel, by decide +kernel⟩ ⟨Nat.le_of_ble_eq_true rfl, Nat.le_of_ble_eq_true rfl⟩, hts _ m_s_yX4_isKind, trivial⟩ (zPreS hK hN hZ hP hD hS hA [] (by decide) rfl rfl) rfl rfl hl.1 rfl (lv_room (Nat.le_of_ble_eq_true rfl)) dX3_readLots_20 ⟨Nat.le_of_ble_eq_true rfl, Nat.le_of_ble_eq_true rfl⟩) (fun r u H locs hw hP hD hS => ?_)
  obtain rfl := hw
  have hP : va_P g.1 vwCl [(h0, .inr (3, [.ref h11, .int 0]))] H := hP
  have hD : va_D A [(h0, .inr (3, [.ref h11, .int 0]))] := hD
  refine lv_if_eq (tgt := 32) hx hb dX3_readLots_23 (by decide) (fun _ => ?_) (fun h => absurd h (by decide +kernel))
  refine lv_bipush (v := (-20)) hx hb dX3_readLots_32 (by decide) ?_
  refine lv_iload_n hx hb dX3_readLots_34 rfl (lv_at hl 1 rfl) ?_
  refine lv_isub hx hb dX3_readLots_35 ?_
  refine lv_topi (nm_r (e' := (-20)) (by decide +kernel) ?_)
  have hP9 := hP.sub (ws' := [(h0, .inr (3, [.ref h11, .int 0]))]) [0] rfl
  have hD9 := hD.sub (ws' := [(h0, .inr (3, [.ref h11, .int 0]))]) [0] (by decide) rfl
  exact W.iret (v := (-20)) hx hb hr (fun t ht hW => ⟨⟨(-20), 0, rfl, rfl, by rw [ht]; exact hP9, hD9⟩, hS.F ht⟩) hS.2.2 dX3_readLots_36
set_option maxHeartbeats 4000000 in
set_option maxRecDepth 100000 in
theorem kX4_lots (l : Launch) (g : zG) (h0 h1 h2 h3 h4 h5 h6 h7 h8 h9 h10 h37 : Nat) (sz : Nat) : Met l yX4_lots (.code yX4_lots cX4_lots 2 (some .int) :: zBig) ({ frames := 2, cells := 0, slots := 0, locals := 46 }) (va_Pc [.ref h0] (zPre g [(h0, .inr (4, [.ref h1, .ref h2, .int 0, .ref h3, .ref h4, .ref h5, .ref h6, .int (-1), .ref h7, .ref h8, .ref h9, .ref h10])), (h4, .inr (3, [.ref h37, .int 0]))] sz)) (va_Qi (fun (r : Int32) (_ : Nat) => r = (-20)) (zPost g (fun _ : Nat => []) (va_A [(h0, .inr (4, [.ref h1, .ref h2, .int 0, .ref h3, .ref h4, .ref h5, .ref h6, .int (-1), .ref h7, .ref h8, .ref h9, .ref h10])), (h4, .inr (3, [.ref h37, .int 0]))] sz)) (va_A [(h0, .inr (4, [.ref h1, .ref h2, .int 0, .ref h3, .ref h4, .ref h5, .ref h6, .int (-1), .ref h7, .ref h8, .ref h9, .ref h10])), (h4, .inr (3, [.ref h37, .int 0]))] sz)) 0 0 (va_A [(h0, .inr (4, [.ref h1, .ref h2, .int 0, .ref h3, .ref h4, .ref h5, .ref h6, .int (-1), .ref h7, .ref h8, .ref h9, .ref h10])), (h4, .inr (3, [.ref h37, .int 0]))] sz) := by
  refine zMetI rfl (Nat.le_of_ble_eq_true rfl) ?_
  intro p e s m args below meth c A ls hx hb hml hr hlocks hin hown hts hK hN hZ hP hD hA hS hAe hl
  have hown : s.vm.findClass RX4 = some m.cls := hown
  have hl : lv_has ls 2 [(0, .ref h0)] := hl
  refine lv_aload_n hx hb dX4_lots_0 rfl (lv_at hl 0 rfl) ?_
  refine va_get (D := g.1) (ci := 4) (v := .ref h4) (C := RX4) (T := TX4) (N := 12) hx hb hts zl_X4 hown hK hP 0 rfl rfl 4 (by decide) (hts _ m_f_RX4_33) (fun _ h => h) rfl dX4_lots_1 ?_
  refine lv_aload_n hx hb dX4_lots_4 rfl (lv_at hl 0 rfl) ?_
  refine va_get (D := g.1) (ci := 4) (v := .ref h10) (C := RX4) (T := TX4) (N := 12) hx hb hts zl_X4 hown hK hP 0 rfl rfl 11 (by decide) (hts _ m_f_RX4_61) (fun _ h => h) rfl dX4_lots_5 ?_
  refine z_calli (wr := [(h0, .inr (4, [.ref h1, .ref h2, .int 0, .ref h3, .ref h4, .ref h5, .ref h6, .int (-1), .ref h7, .ref h8, .ref h9, .ref h10]))]) hP hD hS hA [1] [0] (by decide) rfl rfl (by decide) (va_runVN (As := [.ref h10]) (rest := []) ⟨hx, hb, hml, hown, hts⟩ (kX3_readLots_2 l g h4 h10 h37 s.heap.size) ⟨va_cnB 1 hts (zGood m_o_yX3_readLots) rfl rfl rfl (hN.m 10 (q := (RX4, 110, yX3_readLots)) rfl) (hts _ m_z_RX3) ⟨by decide +kernel, by decide +kernel, by decide +kernel⟩ ⟨Nat.le_of_ble_eq_true rfl, Nat.le_of_ble_eq_true rfl⟩, hts _ m_i_yX3_readLots, hts _ m_e_yX3_readLots⟩ (zPreV hK hN hZ hP hD hS hA [1] (by decide) rfl rfl 3 1 rfl rfl) rfl rfl hl.1 rfl (lv_room (Nat.le_of_ble_eq_true rfl)) dX4_lots_8 ⟨Nat.le_of_ble_eq_true rfl, Nat.le_of_ble_eq_true rfl⟩) (fun r u H locs hw hP hD hS => ?_)
  obtain rfl := hw
  have hP : va_P g.1 vwCl [(h0, .inr (4, [.ref h1, .ref h2, .int 0, .ref h3, .ref h4, .ref h5, .ref h6, .int (-1), .ref h7, .ref h8, .ref h9, .ref h10])), (h4, .inr (3, [.ref h37, .int 0]))] H := hP
  have hD : va_D A [(h0, .inr (4, [.ref h1, .ref h2, .int 0, .ref h3, .ref h4, .ref h5, .ref h6, .int (-1), .ref h7, .ref h8, .ref h9, .ref h10])), (h4, .inr (3, [.ref h37, .int 0]))] := hD
  refine lv_istore_n (lv' := [(1, .int (-20)), (0, .ref h0)]) hx hb dX4_lots_11 rfl hl (by decide) rfl (fun ls hl => ?_)
  refine lv_aload_n hx hb dX4_lots_12 rfl (lv_at hl 1 rfl) ?_
  refine va_get (D := g.1) (ci := 4) (v := .ref h4) (C := RX4) (T := TX4) (N := 12) hx hb hts zl_X4 hown hK hP 0 rfl rfl 4 (by decide) (hts _ m_f_RX4_33) (fun _ h => h) rfl dX4_lots_13 ?_
  refine lv_iconst (v := 0) hx hb dX4_lots_16 (by decide) ?_
  refine va_putN (D := g.1) (ci := 3) (v := .int 0) (ty := .int) (C := RX3) (T := TX3) (N := 2) hx hb hts zl_X3 tyX3 tyX3_ok nmX3 hown hK hP hD hS 1 rfl rfl 1 (by decide) (hN.f 26 (q := (RX4, 107, "FishSteps$Tape", "length", "I")) rfl) (fun _ h => h) rfl (by decide +kernel) rfl rfl (Nat.le_of_ble_eq_true rfl) dX4_lots_17 (fun H locs hP hD hS => ?_)
  have hP : va_P g.1 vwCl [(h0, .inr (4, [.ref h1, .ref h2, .int 0, .ref h3, .ref h4, .ref h5, .ref h6, .int (-1), .ref h7, .ref h8, .ref h9, .ref h10])), (h4, .inr (3, [.ref h37, .int 0]))] H := hP
  have hD : va_D A [(h0, .inr (4, [.ref h1, .ref h2, .int 0, .ref h3, .ref h4, .ref h5, .ref h6, .int (-1), .ref h7, .ref h8, .ref h9, .ref h10])), (h4, .inr (3, [.ref h37, .int 0]))] := hD
  refine lv_iload_n hx hb dX4_lots_20 rfl (lv_at hl 0 rfl) ?_
  refine lv_iconst (v := 1) hx hb dX4_lots_21 (by decide) ?_
  refine lv_icmp_lt (tgt := 57) hx hb dX4_lots_22 (by decide) (fun _ => ?_) (fun h => absurd h (by decide +kernel))
  refine lv_iload_n hx hb dX4_lots_57 rfl (lv_at hl 0 rfl) ?_
  have hP9 := hP.sub (ws' := []) [] rfl
  have hD9 := hD.sub (ws' := []) [] (by decide) rfl
  exact W.iret (v := (-20)) hx hb hr (fun t ht hW => ⟨⟨(-20), 0, rfl, rfl, by rw [ht]; exact hP9, hD9⟩, hS.F ht⟩) hS.2.2 dX4_lots_58
set_option maxHeartbeats 4000000 in
set_option maxRecDepth 100000 in
theorem kX0_countOwing (l : Launch) (g : zG) (h0 h11 h12 h13 h14 h15 h16 h17 h18 : Nat) (sz : Nat) : Met l yX0_countOwing (.code yX0_countOwing cX0_countOwing 3 (some .int) :: zBig) ({ frames := 0, cells := 0, slots := 0, locals := 0 }) (va_Pc [.ref h0] (zPre g [(h0, .inr (0, [.ref h11, .int 0, .ref h12, .int 0, .ref h13, .ref h14, .ref h15, .ref h16, .ref h17, .ref h18, .int 0]))] sz)) (va_Qi (fun (r : Int32) (_ : Nat) => r = 0) (zPost g (fun _ : Nat => [(h0, .inr (0, [.ref h11, .int 0, .ref h12, .int 0, .ref h13, .ref h14, .ref h15, .ref h16, .ref h17, .ref h18, .int 0]))]) (va_A [(h0, .inr (0, [.ref h11, .int 0, .ref h12, .int 0, .ref h13, .ref h14, .ref h15, .ref h16, .ref h17, .ref h18, .int 0]))] sz)) (va_A [(h0, .inr (0, [.ref h11, .int 0, .ref h12, .int 0, .ref h13, .ref h14, .ref h15, .ref h16, .ref h17, .ref h18, .int 0]))] sz)) 0 0 (va_A [(h0, .inr (0, [.ref h11, .int 0, .ref h12, .int 0, .ref h13, .ref h14, .ref h15, .ref h16, .ref h17, .ref h18, .int 0]))] sz) := by
  refine zMetI rfl (Nat.le_of_ble_eq_true rfl) ?_
  intro p e s m args below meth c A ls hx hb hml hr hlocks hin hown hts hK hN hZ hP hD hA hS hAe hl
  have hown : s.vm.findClass RX0 = some m.cls := hown
  have hl : lv_has ls 3 [(0, .ref h0)] := hl
  refine lv_iconst (v := 0) hx hb dX0_countOwing_0 (by decide) ?_
  refine lv_istore_n (lv' := [(1, .int 0), (0, .ref h0)]) hx hb dX0_countOwing_1 rfl hl (by decide) rfl (fun ls hl => ?_)
  refine lv_iconst (v := 0) hx hb dX0_countOwing_2 (by decide) ?_
  refine lv_istore_n (lv' := [(2, .int 0), (1, .int 0), (0, .ref h0)]) hx hb dX0_countOwing_3 rfl hl (by decide) rfl (fun ls hl => ?_)
  refine lv_iload_n hx hb dX0_countOwing_4 rfl (lv_at hl 0 rfl) ?_
  refine lv_iconst (v := 5) hx hb dX0_countOwing_5 (by decide) ?_
  refine lv_icmp_ge (tgt := 40) hx hb dX0_countOwing_6 (by decide) (fun h => absurd h (by decide +kernel)) (fun _ => ?_)
  refine lv_iload_n hx hb dX0_countOwing_9 rfl (lv_at hl 0 rfl) ?_
  refine lv_aload_n hx hb dX0_countOwing_10 rfl (lv_at hl 2 rfl) ?_
  refine va_get (D := g.1) (ci := 0) (v := .int 0) (C := RX0) (T := TX0) (N := 11) hx hb hts zl_X0 hown hK hP 0 rfl rfl 3 (by decide) (hts _ m_f_RX0_30) (fun _ h => h) rfl dX0_countOwing_11 ?_
  refine lv_icmp_ge (tgt := 40) hx hb dX0_countOwing_14 (by decide) (fun _ => ?_) (fun h => absurd h (by decide +kernel))
  refine lv_iload_n hx hb dX0_countOwing_40 rfl (lv_at hl 1 rfl) ?_
  have hP9 := hP.sub (ws' := [(h0, .inr (0, [.ref h11, .int 0, .ref h12, .int 0, .ref h13, .ref h14, .ref h15, .ref h16, .ref h17, .ref h18, .int 0]))]) [0] rfl
  have hD9 := hD.sub (ws' := [(h0, .inr (0, [.ref h11, .int 0, .ref h12, .int 0, .ref h13, .ref h14, .ref h15, .ref h16, .ref h17, .ref h18, .int 0]))]) [0] (by decide) rfl
  exact W.iret (v := 0) hx hb hr (fun t ht hW => ⟨⟨0, 0, rfl, rfl, by rw [ht]; exact hP9, hD9⟩, hS.F ht⟩) hS.2.2 dX0_countOwing_41
set_option maxHeartbeats 4000000 in
set_option maxRecDepth 100000 in
theorem kJ6_bitCount_0f7a4 (l : Launch) (g : zG) (sz : Nat) : Met l yJ6_bitCount_0f7a4 (.code yJ6_bitCount_0f7a4 cJ6_bitCount_0f7a4 1 (some .int) :: zBig) ({ frames := 0, cells := 0, slots := 0, locals := 0 }) (va_Pc [.int 0] (zPre g [] sz)) (va_Qi (fun (r : Int32) (_ : Nat) => r = 0) (zPost g (fun _ : Nat => []) (va_A [] sz)) (va_A [] sz)) 0 0 (va_A [] sz) := by
  refine zMetI rfl (Nat.le_of_ble_eq_true rfl) ?_
  intro p e s m args below meth c A ls hx hb hml hr hlocks hin hown hts hK hN hZ hP hD hA hS hAe hl
  have hown : s.vm.findClass RJ6 = some m.cls := hown
  have hl : lv_has ls 1 [(0, .int 0)] := hl
  refine lv_iload_n hx hb dJ6_bitCount_0f7a4_0 rfl (lv_at hl 0 rfl) ?_
  refine lv_iload_n hx hb dJ6_bitCount_0f7a4_1 rfl (lv_at hl 0 rfl) ?_
  refine lv_iconst (v := 1) hx hb dJ6_bitCount_0f7a4_2 (by decide) ?_
  refine lv_iushr (v := 0) hx hb dJ6_bitCount_0f7a4_3 (by decide +kernel) ?_
  refine lv_ldcw (v := 1431655765) hx hb hown (hts _ m_k_RJ6_265) dJ6_bitCount_0f7a4_4 ?_
  refine lv_iand hx hb dJ6_bitCount_0f7a4_7 ?_
  refine lv_topi (nm_r (e' := 0) (by decide +kernel) ?_)
  refine lv_isub hx hb dJ6_bitCount_0f7a4_8 ?_
  refine lv_topi (nm_r (e' := 0) (by decide +kernel) ?_)
  refine lv_istore_n (lv' := [(0, .int 0)]) hx hb dJ6_bitCount_0f7a4_9 rfl hl (by decide) rfl (fun ls hl => ?_)
  refine lv_iload_n hx hb dJ6_bitCount_0f7a4_10 rfl (lv_at hl 0 rfl) ?_
  refine lv_ldcw (v := 858993459) hx hb hown (hts _ m_k_RJ6_266) dJ6_bitCount_0f7a4_11 ?_
  refine lv_iand hx hb dJ6_bitCount_0f7a4_14 ?_
  refine lv_topi (nm_r (e' := 0) (by decide +kernel) ?_)
  refine lv_iload_n hx hb dJ6_bitCount_0f7a4_15 rfl (lv_at hl 0 rfl) ?_
  refine lv_iconst (v := 2) hx hb dJ6_bitCount_0f7a4_16 (by decide) ?_
  refine lv_iushr (v := 0) hx hb dJ6_bitCount_0f7a4_17 (by decide +kernel) ?_
  refine lv_ldcw (v := 858993459) hx hb hown (hts _ m_k_RJ6_266) dJ6_bitCount_0f7a4_18 ?_
  refine lv_iand hx hb dJ6_bitCount_0f7a4_21 ?_
  refine lv_topi (nm_r (e' := 0) (by decide +kernel) ?_)
  refine lv_iadd hx hb dJ6_bitCount_0f7a4_22 ?_
  refine lv_topi (nm_r (e' := 0) (by decide +kernel) ?_)
  refine lv_istore_n (lv' := [(0, .int 0)]) hx hb dJ6_bitCount_0f7a4_23 rfl hl (by decide) rfl (fun ls hl => ?_)
  refine lv_iload_n hx hb dJ6_bitCount_0f7a4_24 rfl (lv_at hl 0 rfl) ?_
  refine lv_iload_n hx hb dJ6_bitCount_0f7a4_25 rfl (lv_at hl 0 rfl) ?_
  refine lv_iconst (v := 4) hx hb dJ6_bitCount_0f7a4_26 (by decide) ?_
  refine lv_iushr (v := 0) hx hb dJ6_bitCount_0f7a4_27 (by decide +kernel) ?_
  refine lv_iadd hx hb dJ6_bitCount_0f7a4_28 ?_
  refine lv_topi (nm_r (e' := 0) (by decide +kernel) ?_)
  refine lv_ldcw (v := 252645135) hx hb hown (hts _ m_k_RJ6_267) dJ6_bitCount_0f7a4_29 ?_
  refine lv_iand hx hb dJ6_bitCount_0f7a4_32 ?_
  refine lv_topi (nm_r (e' := 0) (by decide +kernel) ?_)
  refine lv_istore_n (lv' := [(0, .int 0)]) hx hb dJ6_bitCount_0f7a4_33 rfl hl (by decide) rfl (fun ls hl => ?_)
  refine lv_iload_n hx hb dJ6_bitCount_0f7a4_34 rfl (lv_at hl 0 rfl) ?_
  refine lv_iload_n hx hb dJ6_bitCount_0f7a4_35 rfl (lv_at hl 0 rfl) ?_
  refine lv_bipush (v := 8) hx hb dJ6_bitCount_0f7a4_36 (by decide) ?_
  refine lv_iushr (v := 0) hx hb dJ6_bitCount_0f7a4_38 (by decide +kernel) ?_
  refine lv_iadd hx hb dJ6_bitCount_0f7a4_39 ?_
  refine lv_topi (nm_r (e' := 0) (by decide +kernel) ?_)
  refine lv_istore_n (lv' := [(0, .int 0)]) hx hb dJ6_bitCount_0f7a4_40 rfl hl (by decide) rfl (fun ls hl => ?_)
  refine lv_iload_n hx hb dJ6_bitCount_0f7a4_41 rfl (lv_at hl 0 rfl) ?_
  refine lv_iload_n hx hb dJ6_bitCount_0f7a4_42 rfl (lv_at hl 0 rfl) ?_
  refine lv_bipush (v := 16) hx hb dJ6_bitCount_0f7a4_43 (by decide) ?_
  refine lv_iushr (v := 0) hx hb dJ6_bitCount_0f7a4_45 (by decide +kernel) ?_
  refine lv_iadd hx hb dJ6_bitCount_0f7a4_46 ?_
  refine lv_topi (nm_r (e' := 0) (by decide +kernel) ?_)
  refine lv_istore_n (lv' := [(0, .int 0)]) hx hb dJ6_bitCount_0f7a4_47 rfl hl (by decide) rfl (fun ls hl => ?_)
  refine lv_iload_n hx hb dJ6_bitCount_0f7a4_48 rfl (lv_at hl 0 rfl) ?_
  refine lv_bipush (v := 63) hx hb dJ6_bitCount_0f7a4_49 (by decide) ?_
  refine lv_iand hx hb dJ6_bitCount_0f7a4_51 ?_
  refine lv_topi (nm_r (e' := 0) (by decide +kernel) ?_)
  have hP9 := hP.sub (ws' := []) [] rfl
  have hD9 := hD.sub (ws' := []) [] (by decide) rfl
  exact W.iret (v := 0) hx hb hr (fun t ht hW => ⟨⟨0, 0, rfl, rfl, by rw [ht]; exact hP9, hD9⟩, hS.F ht⟩) hS.2.2 dJ6_bitCount_0f7a4_52
set_option maxHeartbeats 4000000 in
set_option maxRecDepth 100000 in
theorem kJ6_bitCount_0f7a4_2 (l : Launch) (g : zG) (sz : Nat) : Met l yJ6_bitCount_0f7a4 (.code yJ6_bitCount_0f7a4 cJ6_bitCount_0f7a4 1 (some .int) :: zBig) ({ frames := 0, cells := 0, slots := 0, locals := 0 }) (va_Pc [.int 0] (zPre g [] sz)) (va_Qi (fun (r : Int32) (_ : Nat) => r = 0) (zPost g (fun _ : Nat => []) (va_A [] sz)) (va_A [] sz)) 0 0 (va_A [] sz) := by
  refine zMetI rfl (Nat.le_of_ble_eq_true rfl) ?_
  intro p e s m args below meth c A ls hx hb hml hr hlocks hin hown hts hK hN hZ hP hD hA hS hAe hl
  have hown : s.vm.findClass RJ6 = some m.cls := hown
  have hl : lv_has ls 1 [(0, .int 0)] := hl
  refine lv_iload_n hx hb dJ6_bitCount_0f7a4_0 rfl (lv_at hl 0 rfl) ?_
  refine lv_iload_n hx hb dJ6_bitCount_0f7a4_1 rfl (lv_at hl 0 rfl) ?_
  refine lv_iconst (v := 1) hx hb dJ6_bitCount_0f7a4_2 (by decide) ?_
  refine lv_iushr (v := 0) hx hb dJ6_bitCount_0f7a4_3 (by decide +kernel) ?_
  refine lv_ldcw (v := 1431655765) hx hb hown (hts _ m_k_RJ6_265) dJ6_bitCount_0f7a4_4 ?_
  refine lv_iand hx hb dJ6_bitCount_0f7a4_7 ?_
  refine lv_topi (nm_r (e' := 0) (by decide +kernel) ?_)
  refine lv_isub hx hb dJ6_bitCount_0f7a4_8 ?_
  refine lv_topi (nm_r (e' := 0) (by decide +kernel) ?_)
  refine lv_istore_n (lv' := [(0, .int 0)]) hx hb dJ6_bitCount_0f7a4_9 rfl hl (by decide) rfl (fun ls hl => ?_)
  refine lv_iload_n hx hb dJ6_bitCount_0f7a4_10 rfl (lv_at hl 0 rfl) ?_
  refine lv_ldcw (v := 858993459) hx hb hown (hts _ m_k_RJ6_266) dJ6_bitCount_0f7a4_11 ?_
  refine lv_iand hx hb dJ6_bitCount_0f7a4_14 ?_
  refine lv_topi (nm_r (e' := 0) (by decide +kernel) ?_)
  refine lv_iload_n hx hb dJ6_bitCount_0f7a4_15 rfl (lv_at hl 0 rfl) ?_
  refine lv_iconst (v := 2) hx hb dJ6_bitCount_0f7a4_16 (by decide) ?_
  refine lv_iushr (v := 0) hx hb dJ6_bitCount_0f7a4_17 (by decide +kernel) ?_
  refine lv_ldcw (v := 858993459) hx hb hown (hts _ m_k_RJ6_266) dJ6_bitCount_0f7a4_18 ?_
  refine lv_iand hx hb dJ6_bitCount_0f7a4_21 ?_
  refine lv_topi (nm_r (e' := 0) (by decide +kernel) ?_)
  refine lv_iadd hx hb dJ6_bitCount_0f7a4_22 ?_
  refine lv_topi (nm_r (e' := 0) (by decide +kernel) ?_)
  refine lv_istore_n (lv' := [(0, .int 0)]) hx hb dJ6_bitCount_0f7a4_23 rfl hl (by decide) rfl (fun ls hl => ?_)
  refine lv_iload_n hx hb dJ6_bitCount_0f7a4_24 rfl (lv_at hl 0 rfl) ?_
  refine lv_iload_n hx hb dJ6_bitCount_0f7a4_25 rfl (lv_at hl 0 rfl) ?_
  refine lv_iconst (v := 4) hx hb dJ6_bitCount_0f7a4_26 (by decide) ?_
  refine lv_iushr (v := 0) hx hb dJ6_bitCount_0f7a4_27 (by decide +kernel) ?_
  refine lv_iadd hx hb dJ6_bitCount_0f7a4_28 ?_
  refine lv_topi (nm_r (e' := 0) (by decide +kernel) ?_)
  refine lv_ldcw (v := 252645135) hx hb hown (hts _ m_k_RJ6_267) dJ6_bitCount_0f7a4_29 ?_
  refine lv_iand hx hb dJ6_bitCount_0f7a4_32 ?_
  refine lv_topi (nm_r (e' := 0) (by decide +kernel) ?_)
  refine lv_istore_n (lv' := [(0, .int 0)]) hx hb dJ6_bitCount_0f7a4_33 rfl hl (by decide) rfl (fun ls hl => ?_)
  refine lv_iload_n hx hb dJ6_bitCount_0f7a4_34 rfl (lv_at hl 0 rfl) ?_
  refine lv_iload_n hx hb dJ6_bitCount_0f7a4_35 rfl (lv_at hl 0 rfl) ?_
  refine lv_bipush (v := 8) hx hb dJ6_bitCount_0f7a4_36 (by decide) ?_
  refine lv_iushr (v := 0) hx hb dJ6_bitCount_0f7a4_38 (by decide +kernel) ?_
  refine lv_iadd hx hb dJ6_bitCount_0f7a4_39 ?_
  refine lv_topi (nm_r (e' := 0) (by decide +kernel) ?_)
  refine lv_istore_n (lv' := [(0, .int 0)]) hx hb dJ6_bitCount_0f7a4_40 rfl hl (by decide) rfl (fun ls hl => ?_)
  refine lv_iload_n hx hb dJ6_bitCount_0f7a4_41 rfl (lv_at hl 0 rfl) ?_
  refine lv_iload_n hx hb dJ6_bitCount_0f7a4_42 rfl (lv_at hl 0 rfl) ?_
  refine lv_bipush (v := 16) hx hb dJ6_bitCount_0f7a4_43 (by decide) ?_
  refine lv_iushr (v := 0) hx hb dJ6_bitCount_0f7a4_45 (by decide +kernel) ?_
  refine lv_iadd hx hb dJ6_bitCount_0f7a4_46 ?_
  refine lv_topi (nm_r (e' := 0) (by decide +kernel) ?_)
  refine lv_istore_n (lv' := [(0, .int 0)]) hx hb dJ6_bitCount_0f7a4_47 rfl hl (by decide) rfl (fun ls hl => ?_)
  refine lv_iload_n hx hb dJ6_bitCount_0f7a4_48 rfl (lv_at hl 0 rfl) ?_
  refine lv_bipush (v := 63) hx hb dJ6_bitCount_0f7a4_49 (by decide) ?_
  refine lv_iand hx hb dJ6_bitCount_0f7a4_51 ?_
  refine lv_topi (nm_r (e' := 0) (by decide +kernel) ?_)
  have hP9 := hP.sub (ws' := []) [] rfl
  have hD9 := hD.sub (ws' := []) [] (by decide) rfl
  exact W.iret (v := 0) hx hb hr (fun t ht hW => ⟨⟨0, 0, rfl, rfl, by rw [ht]; exact hP9, hD9⟩, hS.F ht⟩) hS.2.2 dJ6_bitCount_0f7a4_52
set_option maxHeartbeats 4000000 in
set_option maxRecDepth 100000 in
theorem kX0_countKinds (l : Launch) (g : zG) (h0 h11 h12 h13 h14 h15 h16 h17 h18 : Nat) (sz : Nat) : Met l yX0_countKinds (.code yX0_countKinds cX0_countKinds 3 (some .int) :: zBig) ({ frames := 1, cells := 0, slots := 0, locals := 20 }) (va_Pc [.ref h0] (zPre g [(h0, .inr (0, [.ref h11, .int 0, .ref h12, .int 0, .ref h13, .ref h14, .ref h15, .ref h16, .ref h17, .ref h18, .int 0]))] sz)) (va_Qi (fun (r : Int32) (_ : Nat) => r = 0) (zPost g (fun _ : Nat => [(h0, .inr (0, [.ref h11, .int 0, .ref h12, .int 0, .ref h13, .ref h14, .ref h15, .ref h16, .ref h17, .ref h18, .int 0]))]) (va_A [(h0, .inr (0, [.ref h11, .int 0, .ref h12, .int 0, .ref h13, .ref h14, .ref h15, .ref h16, .ref h17, .ref h18, .int 0]))] sz)) (va_A [(h0, .inr (0, [.ref h11, .int 0, .ref h12, .int 0, .ref h13, .ref h14, .ref h15, .ref h16, .ref h17, .ref h18, .int 0]))] sz)) 0 0 (va_A [(h0, .inr (0, [.ref h11, .int 0, .ref h12, .int 0, .ref h13, .ref h14, .ref h15, .ref h16, .ref h17, .ref h18, .int 0]))] sz) := by
  refine zMetI rfl (Nat.le_of_ble_eq_true rfl) ?_
  intro p e s m args below meth c A ls hx hb hml hr hlocks hin hown hts hK hN hZ hP hD hA hS hAe hl
  have hown : s.vm.findClass RX0 = some m.cls := hown
  have hl : lv_has ls 3 [(0, .ref h0)] := hl
  refine lv_iconst (v := 0) hx hb dX0_countKinds_0 (by decide) ?_
  refine lv_istore_n (lv' := [(1, .int 0), (0, .ref h0)]) hx hb dX0_countKinds_1 rfl hl (by decide) rfl (fun ls hl => ?_)
  refine lv_iconst (v := 0) hx hb dX0_countKinds_2 (by decide) ?_
  refine lv_istore_n (lv' := [(2, .int 0), (1, .int 0), (0, .ref h0)]) hx hb dX0_countKinds_3 rfl hl (by decide) rfl (fun ls hl => ?_)
  refine lv_iload_n hx hb dX0_countKinds_4 rfl (lv_at hl 0 rfl) ?_
  refine lv_bipush (v := 6) hx hb dX0_countKinds_5 (by decide) ?_
  refine lv_icmp_ge (tgt := 35) hx hb dX0_countKinds_7 (by decide) (fun h => absurd h (by decide +kernel)) (fun _ => ?_)
  refine lv_iload_n hx hb dX0_countKinds_10 rfl (lv_at hl 0 rfl) ?_
  refine lv_aload_n hx hb dX0_countKinds_11 rfl (lv_at hl 2 rfl) ?_
  refine va_get (D := g.1) (ci := 0) (v := .int 0) (C := RX0) (T := TX0) (N := 11) hx hb hts zl_X0 hown hK hP 0 rfl rfl 1 (by decide) (hts _ m_f_RX0_23) (fun _ h => h) rfl dX0_countKinds_12 ?_
  refine lv_icmp_ge (tgt := 35) hx hb dX0_countKinds_15 (by decide) (fun _ => ?_) (fun h => absurd h (by decide +kernel))
  refine lv_iload_n hx hb dX0_countKinds_35 rfl (lv_at hl 1 rfl) ?_
  refine z_calli (wr := [(h0, .inr (0, [.ref h11, .int 0, .ref h12, .int 0, .ref h13, .ref h14, .ref h15, .ref h16, .ref h17, .ref h18, .int 0]))]) hP hD hS hA [] [0] (by decide) rfl rfl (by decide) (va_runS (As := [.int 0]) (rest := []) ⟨hx, hb, hml, hown, hts⟩ (kJ6_bitCount_0f7a4_2 l g  s.heap.size) ⟨callB_of 1 hts (zGood m_o_yJ6_bitCount_0f7a4) rfl rfl rfl (hts _ m_z_RJ6) (hts _ m_m_RX0_73) ⟨by decide +kernel, by decide +kernel, by decide +kernel⟩ ⟨Nat.le_of_ble_eq_true rfl, Nat.le_of_ble_eq_true rfl⟩, hts _ m_s_yJ6_bitCount_0f7a4⟩ (zPreS hK hN hZ hP hD hS hA [] (by decide) rfl rfl) rfl rfl hl.1 rfl (lv_room (Nat.le_of_ble_eq_true rfl)) dX0_countKinds_36 ⟨Nat.le_of_ble_eq_true rfl, Nat.le_of_ble_eq_true rfl⟩) (fun r u H locs hw hP hD hS => ?_)
  obtain rfl := hw
  have hP : va_P g.1 vwCl [(h0, .inr (0, [.ref h11, .int 0, .ref h12, .int 0, .ref h13, .ref h14, .ref h15, .ref h16, .ref h17, .ref h18, .int 0]))] H := hP
  have hD : va_D A [(h0, .inr (0, [.ref h11, .int 0, .ref h12, .int 0, .ref h13, .ref h14, .ref h15, .ref h16, .ref h17, .ref h18, .int 0]))] := hD
  have hP9 := hP.sub (ws' := [(h0, .inr (0, [.ref h11, .int 0, .ref h12, .int 0, .ref h13, .ref h14, .ref h15, .ref h16, .ref h17, .ref h18, .int 0]))]) [0] rfl
  have hD9 := hD.sub (ws' := [(h0, .inr (0, [.ref h11, .int 0, .ref h12, .int 0, .ref h13, .ref h14, .ref h15, .ref h16, .ref h17, .ref h18, .int 0]))]) [0] (by decide) rfl
  exact W.iret (v := 0) hx hb hr (fun t ht hW => ⟨⟨0, 0, rfl, rfl, by rw [ht]; exact hP9, hD9⟩, hS.F ht⟩) hS.2.2 dX0_countKinds_39
set_option maxHeartbeats 4000000 in
set_option maxRecDepth 100000 in
theorem kX0_countOwing_2 (l : Launch) (g : zG) (h0 h11 h12 h13 h14 h15 h16 h17 h18 : Nat) (sz : Nat) : Met l yX0_countOwing (.code yX0_countOwing cX0_countOwing 3 (some .int) :: zBig) ({ frames := 0, cells := 0, slots := 0, locals := 0 }) (va_Pc [.ref h0] (zPre g [(h0, .inr (0, [.ref h11, .int 0, .ref h12, .int 0, .ref h13, .ref h14, .ref h15, .ref h16, .ref h17, .ref h18, .int 0]))] sz)) (va_Qi (fun (r : Int32) (_ : Nat) => r = 0) (zPost g (fun _ : Nat => [(h0, .inr (0, [.ref h11, .int 0, .ref h12, .int 0, .ref h13, .ref h14, .ref h15, .ref h16, .ref h17, .ref h18, .int 0]))]) (va_A [(h0, .inr (0, [.ref h11, .int 0, .ref h12, .int 0, .ref h13, .ref h14, .ref h15, .ref h16, .ref h17, .ref h18, .int 0]))] sz)) (va_A [(h0, .inr (0, [.ref h11, .int 0, .ref h12, .int 0, .ref h13, .ref h14, .ref h15, .ref h16, .ref h17, .ref h18, .int 0]))] sz)) 0 0 (va_A [(h0, .inr (0, [.ref h11, .int 0, .ref h12, .int 0, .ref h13, .ref h14, .ref h15, .ref h16, .ref h17, .ref h18, .int 0]))] sz) := by
  refine zMetI rfl (Nat.le_of_ble_eq_true rfl) ?_
  intro p e s m args below meth c A ls hx hb hml hr hlocks hin hown hts hK hN hZ hP hD hA hS hAe hl
  have hown : s.vm.findClass RX0 = some m.cls := hown
  have hl : lv_has ls 3 [(0, .ref h0)] := hl
  refine lv_iconst (v := 0) hx hb dX0_countOwing_0 (by decide) ?_
  refine lv_istore_n (lv' := [(1, .int 0), (0, .ref h0)]) hx hb dX0_countOwing_1 rfl hl (by decide) rfl (fun ls hl => ?_)
  refine lv_iconst (v := 0) hx hb dX0_countOwing_2 (by decide) ?_
  refine lv_istore_n (lv' := [(2, .int 0), (1, .int 0), (0, .ref h0)]) hx hb dX0_countOwing_3 rfl hl (by decide) rfl (fun ls hl => ?_)
  refine lv_iload_n hx hb dX0_countOwing_4 rfl (lv_at hl 0 rfl) ?_
  refine lv_iconst (v := 5) hx hb dX0_countOwing_5 (by decide) ?_
  refine lv_icmp_ge (tgt := 40) hx hb dX0_countOwing_6 (by decide) (fun h => absurd h (by decide +kernel)) (fun _ => ?_)
  refine lv_iload_n hx hb dX0_countOwing_9 rfl (lv_at hl 0 rfl) ?_
  refine lv_aload_n hx hb dX0_countOwing_10 rfl (lv_at hl 2 rfl) ?_
  refine va_get (D := g.1) (ci := 0) (v := .int 0) (C := RX0) (T := TX0) (N := 11) hx hb hts zl_X0 hown hK hP 0 rfl rfl 3 (by decide) (hts _ m_f_RX0_30) (fun _ h => h) rfl dX0_countOwing_11 ?_
  refine lv_icmp_ge (tgt := 40) hx hb dX0_countOwing_14 (by decide) (fun _ => ?_) (fun h => absurd h (by decide +kernel))
  refine lv_iload_n hx hb dX0_countOwing_40 rfl (lv_at hl 1 rfl) ?_
  have hP9 := hP.sub (ws' := [(h0, .inr (0, [.ref h11, .int 0, .ref h12, .int 0, .ref h13, .ref h14, .ref h15, .ref h16, .ref h17, .ref h18, .int 0]))]) [0] rfl
  have hD9 := hD.sub (ws' := [(h0, .inr (0, [.ref h11, .int 0, .ref h12, .int 0, .ref h13, .ref h14, .ref h15, .ref h16, .ref h17, .ref h18, .int 0]))]) [0] (by decide) rfl
  exact W.iret (v := 0) hx hb hr (fun t ht hW => ⟨⟨0, 0, rfl, rfl, by rw [ht]; exact hP9, hD9⟩, hS.F ht⟩) hS.2.2 dX0_countOwing_41
set_option maxHeartbeats 4000000 in
set_option maxRecDepth 100000 in
theorem kJ6_bitCount_0f7a4_3 (l : Launch) (g : zG) (sz : Nat) : Met l yJ6_bitCount_0f7a4 (.code yJ6_bitCount_0f7a4 cJ6_bitCount_0f7a4 1 (some .int) :: zBig) ({ frames := 0, cells := 0, slots := 0, locals := 0 }) (va_Pc [.int 0] (zPre g [] sz)) (va_Qi (fun (r : Int32) (_ : Nat) => r = 0) (zPost g (fun _ : Nat => []) (va_A [] sz)) (va_A [] sz)) 0 0 (va_A [] sz) := by
  refine zMetI rfl (Nat.le_of_ble_eq_true rfl) ?_
  intro p e s m args below meth c A ls hx hb hml hr hlocks hin hown hts hK hN hZ hP hD hA hS hAe hl
  have hown : s.vm.findClass RJ6 = some m.cls := hown
  have hl : lv_has ls 1 [(0, .int 0)] := hl
  refine lv_iload_n hx hb dJ6_bitCount_0f7a4_0 rfl (lv_at hl 0 rfl) ?_
  refine lv_iload_n hx hb dJ6_bitCount_0f7a4_1 rfl (lv_at hl 0 rfl) ?_
  refine lv_iconst (v := 1) hx hb dJ6_bitCount_0f7a4_2 (by decide) ?_
  refine lv_iushr (v := 0) hx hb dJ6_bitCount_0f7a4_3 (by decide +kernel) ?_
  refine lv_ldcw (v := 1431655765) hx hb hown (hts _ m_k_RJ6_265) dJ6_bitCount_0f7a4_4 ?_
  refine lv_iand hx hb dJ6_bitCount_0f7a4_7 ?_
  refine lv_topi (nm_r (e' := 0) (by decide +kernel) ?_)
  refine lv_isub hx hb dJ6_bitCount_0f7a4_8 ?_
  refine lv_topi (nm_r (e' := 0) (by decide +kernel) ?_)
  refine lv_istore_n (lv' := [(0, .int 0)]) hx hb dJ6_bitCount_0f7a4_9 rfl hl (by decide) rfl (fun ls hl => ?_)
  refine lv_iload_n hx hb dJ6_bitCount_0f7a4_10 rfl (lv_at hl 0 rfl) ?_
  refine lv_ldcw (v := 858993459) hx hb hown (hts _ m_k_RJ6_266) dJ6_bitCount_0f7a4_11 ?_
  refine lv_iand hx hb dJ6_bitCount_0f7a4_14 ?_
  refine lv_topi (nm_r (e' := 0) (by decide +kernel) ?_)
  refine lv_iload_n hx hb dJ6_bitCount_0f7a4_15 rfl (lv_at hl 0 rfl) ?_
  refine lv_iconst (v := 2) hx hb dJ6_bitCount_0f7a4_16 (by decide) ?_
  refine lv_iushr (v := 0) hx hb dJ6_bitCount_0f7a4_17 (by decide +kernel) ?_
  refine lv_ldcw (v := 858993459) hx hb hown (hts _ m_k_RJ6_266) dJ6_bitCount_0f7a4_18 ?_
  refine lv_iand hx hb dJ6_bitCount_0f7a4_21 ?_
  refine lv_topi (nm_r (e' := 0) (by decide +kernel) ?_)
  refine lv_iadd hx hb dJ6_bitCount_0f7a4_22 ?_
  refine lv_topi (nm_r (e' := 0) (by decide +kernel) ?_)
  refine lv_istore_n (lv' := [(0, .int 0)]) hx hb dJ6_bitCount_0f7a4_23 rfl hl (by decide) rfl (fun ls hl => ?_)
  refine lv_iload_n hx hb dJ6_bitCount_0f7a4_24 rfl (lv_at hl 0 rfl) ?_
  refine lv_iload_n hx hb dJ6_bitCount_0f7a4_25 rfl (lv_at hl 0 rfl) ?_
  refine lv_iconst (v := 4) hx hb dJ6_bitCount_0f7a4_26 (by decide) ?_
  refine lv_iushr (v := 0) hx hb dJ6_bitCount_0f7a4_27 (by decide +kernel) ?_
  refine lv_iadd hx hb dJ6_bitCount_0f7a4_28 ?_
  refine lv_topi (nm_r (e' := 0) (by decide +kernel) ?_)
  refine lv_ldcw (v := 252645135) hx hb hown (hts _ m_k_RJ6_267) dJ6_bitCount_0f7a4_29 ?_
  refine lv_iand hx hb dJ6_bitCount_0f7a4_32 ?_
  refine lv_topi (nm_r (e' := 0) (by decide +kernel) ?_)
  refine lv_istore_n (lv' := [(0, .int 0)]) hx hb dJ6_bitCount_0f7a4_33 rfl hl (by decide) rfl (fun ls hl => ?_)
  refine lv_iload_n hx hb dJ6_bitCount_0f7a4_34 rfl (lv_at hl 0 rfl) ?_
  refine lv_iload_n hx hb dJ6_bitCount_0f7a4_35 rfl (lv_at hl 0 rfl) ?_
  refine lv_bipush (v := 8) hx hb dJ6_bitCount_0f7a4_36 (by decide) ?_
  refine lv_iushr (v := 0) hx hb dJ6_bitCount_0f7a4_38 (by decide +kernel) ?_
  refine lv_iadd hx hb dJ6_bitCount_0f7a4_39 ?_
  refine lv_topi (nm_r (e' := 0) (by decide +kernel) ?_)
  refine lv_istore_n (lv' := [(0, .int 0)]) hx hb dJ6_bitCount_0f7a4_40 rfl hl (by decide) rfl (fun ls hl => ?_)
  refine lv_iload_n hx hb dJ6_bitCount_0f7a4_41 rfl (lv_at hl 0 rfl) ?_
  refine lv_iload_n hx hb dJ6_bitCount_0f7a4_42 rfl (lv_at hl 0 rfl) ?_
  refine lv_bipush (v := 16) hx hb dJ6_bitCount_0f7a4_43 (by decide) ?_
  refine lv_iushr (v := 0) hx hb dJ6_bitCount_0f7a4_45 (by decide +kernel) ?_
  refine lv_iadd hx hb dJ6_bitCount_0f7a4_46 ?_
  refine lv_topi (nm_r (e' := 0) (by decide +kernel) ?_)
  refine lv_istore_n (lv' := [(0, .int 0)]) hx hb dJ6_bitCount_0f7a4_47 rfl hl (by decide) rfl (fun ls hl => ?_)
  refine lv_iload_n hx hb dJ6_bitCount_0f7a4_48 rfl (lv_at hl 0 rfl) ?_
  refine lv_bipush (v := 63) hx hb dJ6_bitCount_0f7a4_49 (by decide) ?_
  refine lv_iand hx hb dJ6_bitCount_0f7a4_51 ?_
  refine lv_topi (nm_r (e' := 0) (by decide +kernel) ?_)
  have hP9 := hP.sub (ws' := []) [] rfl
  have hD9 := hD.sub (ws' := []) [] (by decide) rfl
  exact W.iret (v := 0) hx hb hr (fun t ht hW => ⟨⟨0, 0, rfl, rfl, by rw [ht]; exact hP9, hD9⟩, hS.F ht⟩) hS.2.2 dJ6_bitCount_0f7a4_52
set_option maxHeartbeats 4000000 in
set_option maxRecDepth 100000 in
theorem kX0_countKinds_2 (l : Launch) (g : zG) (h0 h11 h12 h13 h14 h15 h16 h17 h18 : Nat) (sz : Nat) : Met l yX0_countKinds (.code yX0_countKinds cX0_countKinds 3 (some .int) :: zBig) ({ frames := 1, cells := 0, slots := 0, locals := 20 }) (va_Pc [.ref h0] (zPre g [(h0, .inr (0, [.ref h11, .int 0, .ref h12, .int 0, .ref h13, .ref h14, .ref h15, .ref h16, .ref h17, .ref h18, .int 0]))] sz)) (va_Qi (fun (r : Int32) (_ : Nat) => r = 0) (zPost g (fun _ : Nat => [(h0, .inr (0, [.ref h11, .int 0, .ref h12, .int 0, .ref h13, .ref h14, .ref h15, .ref h16, .ref h17, .ref h18, .int 0]))]) (va_A [(h0, .inr (0, [.ref h11, .int 0, .ref h12, .int 0, .ref h13, .ref h14, .ref h15, .ref h16, .ref h17, .ref h18, .int 0]))] sz)) (va_A [(h0, .inr (0, [.ref h11, .int 0, .ref h12, .int 0, .ref h13, .ref h14, .ref h15, .ref h16, .ref h17, .ref h18, .int 0]))] sz)) 0 0 (va_A [(h0, .inr (0, [.ref h11, .int 0, .ref h12, .int 0, .ref h13, .ref h14, .ref h15, .ref h16, .ref h17, .ref h18, .int 0]))] sz) := by
  refine zMetI rfl (Nat.le_of_ble_eq_true rfl) ?_
  intro p e s m args below meth c A ls hx hb hml hr hlocks hin hown hts hK hN hZ hP hD hA hS hAe hl
  have hown : s.vm.findClass RX0 = some m.cls := hown
  have hl : lv_has ls 3 [(0, .ref h0)] := hl
  refine lv_iconst (v := 0) hx hb dX0_countKinds_0 (by decide) ?_
  refine lv_istore_n (lv' := [(1, .int 0), (0, .ref h0)]) hx hb dX0_countKinds_1 rfl hl (by decide) rfl (fun ls hl => ?_)
  refine lv_iconst (v := 0) hx hb dX0_countKinds_2 (by decide) ?_
  refine lv_istore_n (lv' := [(2, .int 0), (1, .int 0), (0, .ref h0)]) hx hb dX0_countKinds_3 rfl hl (by decide) rfl (fun ls hl => ?_)
  refine lv_iload_n hx hb dX0_countKinds_4 rfl (lv_at hl 0 rfl) ?_
  refine lv_bipush (v := 6) hx hb dX0_countKinds_5 (by decide) ?_
  refine lv_icmp_ge (tgt := 35) hx hb dX0_countKinds_7 (by decide) (fun h => absurd h (by decide +kernel)) (fun _ => ?_)
  refine lv_iload_n hx hb dX0_countKinds_10 rfl (lv_at hl 0 rfl) ?_
  refine lv_aload_n hx hb dX0_countKinds_11 rfl (lv_at hl 2 rfl) ?_
  refine va_get (D := g.1) (ci := 0) (v := .int 0) (C := RX0) (T := TX0) (N := 11) hx hb hts zl_X0 hown hK hP 0 rfl rfl 1 (by decide) (hts _ m_f_RX0_23) (fun _ h => h) rfl dX0_countKinds_12 ?_
  refine lv_icmp_ge (tgt := 35) hx hb dX0_countKinds_15 (by decide) (fun _ => ?_) (fun h => absurd h (by decide +kernel))
  refine lv_iload_n hx hb dX0_countKinds_35 rfl (lv_at hl 1 rfl) ?_
  refine z_calli (wr := [(h0, .inr (0, [.ref h11, .int 0, .ref h12, .int 0, .ref h13, .ref h14, .ref h15, .ref h16, .ref h17, .ref h18, .int 0]))]) hP hD hS hA [] [0] (by decide) rfl rfl (by decide) (va_runS (As := [.int 0]) (rest := []) ⟨hx, hb, hml, hown, hts⟩ (kJ6_bitCount_0f7a4_2 l g  s.heap.size) ⟨callB_of 1 hts (zGood m_o_yJ6_bitCount_0f7a4) rfl rfl rfl (hts _ m_z_RJ6) (hts _ m_m_RX0_73) ⟨by decide +kernel, by decide +kernel, by decide +kernel⟩ ⟨Nat.le_of_ble_eq_true rfl, Nat.le_of_ble_eq_true rfl⟩, hts _ m_s_yJ6_bitCount_0f7a4⟩ (zPreS hK hN hZ hP hD hS hA [] (by decide) rfl rfl) rfl rfl hl.1 rfl (lv_room (Nat.le_of_ble_eq_true rfl)) dX0_countKinds_36 ⟨Nat.le_of_ble_eq_true rfl, Nat.le_of_ble_eq_true rfl⟩) (fun r u H locs hw hP hD hS => ?_)
  obtain rfl := hw
  have hP : va_P g.1 vwCl [(h0, .inr (0, [.ref h11, .int 0, .ref h12, .int 0, .ref h13, .ref h14, .ref h15, .ref h16, .ref h17, .ref h18, .int 0]))] H := hP
  have hD : va_D A [(h0, .inr (0, [.ref h11, .int 0, .ref h12, .int 0, .ref h13, .ref h14, .ref h15, .ref h16, .ref h17, .ref h18, .int 0]))] := hD
  have hP9 := hP.sub (ws' := [(h0, .inr (0, [.ref h11, .int 0, .ref h12, .int 0, .ref h13, .ref h14, .ref h15, .ref h16, .ref h17, .ref h18, .int 0]))]) [0] rfl
  have hD9 := hD.sub (ws' := [(h0, .inr (0, [.ref h11, .int 0, .ref h12, .int 0, .ref h13, .ref h14, .ref h15, .ref h16, .ref h17, .ref h18, .int 0]))]) [0] (by decide) rfl
  exact W.iret (v := 0) hx hb hr (fun t ht hW => ⟨⟨0, 0, rfl, rfl, by rw [ht]; exact hP9, hD9⟩, hS.F ht⟩) hS.2.2 dX0_countKinds_39
set_option maxHeartbeats 4000000 in
set_option maxRecDepth 100000 in
theorem kX4_count (l : Launch) (g : zG) (h0 h1 h2 h3 h4 h5 h6 h7 h8 h9 h10 h11 h12 h13 h14 h15 h16 h17 h18 : Nat) (sz : Nat) (p1 : Int32) : Met l yX4_count (.code yX4_count cX4_count 2 (some .int) :: zBig) ({ frames := 2, cells := 0, slots := 0, locals := 42 }) (va_Pc [.ref h0, .int p1] (zPre g [(h0, .inr (4, [.ref h1, .ref h2, .int 0, .ref h3, .ref h4, .ref h5, .ref h6, .int (-1), .ref h7, .ref h8, .ref h9, .ref h10])), (h1, .inr (0, [.ref h11, .int 0, .ref h12, .int 0, .ref h13, .ref h14, .ref h15, .ref h16, .ref h17, .ref h18, .int 0]))] sz)) (va_Qi (fun (r : Int32) (_ : Nat) => (p1.toInt = 0 ∧ r = 0) ∨ (p1.toInt ≠ 0 ∧ p1.toInt = 1 ∧ r = 0) ∨ (p1.toInt ≠ 0 ∧ p1.toInt ≠ 1 ∧ p1.toInt = 2 ∧ r = 0) ∨ (p1.toInt ≠ 0 ∧ p1.toInt ≠ 1 ∧ p1.toInt ≠ 2 ∧ p1.toInt = 3 ∧ r = 0) ∨ (p1.toInt ≠ 0 ∧ p1.toInt ≠ 1 ∧ p1.toInt ≠ 2 ∧ p1.toInt ≠ 3 ∧ p1.toInt = 4 ∧ r = 0) ∨ (p1.toInt ≠ 0 ∧ p1.toInt ≠ 1 ∧ p1.toInt ≠ 2 ∧ p1.toInt ≠ 3 ∧ p1.toInt ≠ 4 ∧ r = (-1))) (zPost g (fun _ : Nat => []) (va_A [(h0, .inr (4, [.ref h1, .ref h2, .int 0, .ref h3, .ref h4, .ref h5, .ref h6, .int (-1), .ref h7, .ref h8, .ref h9, .ref h10])), (h1, .inr (0, [.ref h11, .int 0, .ref h12, .int 0, .ref h13, .ref h14, .ref h15, .ref h16, .ref h17, .ref h18, .int 0]))] sz)) (va_A [(h0, .inr (4, [.ref h1, .ref h2, .int 0, .ref h3, .ref h4, .ref h5, .ref h6, .int (-1), .ref h7, .ref h8, .ref h9, .ref h10])), (h1, .inr (0, [.ref h11, .int 0, .ref h12, .int 0, .ref h13, .ref h14, .ref h15, .ref h16, .ref h17, .ref h18, .int 0]))] sz)) 0 0 (va_A [(h0, .inr (4, [.ref h1, .ref h2, .int 0, .ref h3, .ref h4, .ref h5, .ref h6, .int (-1), .ref h7, .ref h8, .ref h9, .ref h10])), (h1, .inr (0, [.ref h11, .int 0, .ref h12, .int 0, .ref h13, .ref h14, .ref h15, .ref h16, .ref h17, .ref h18, .int 0]))] sz) := by
  refine zMetI rfl (Nat.le_of_ble_eq_true rfl) ?_
  intro p e s m args below meth c A ls hx hb hml hr hlocks hin hown hts hK hN hZ hP hD hA hS hAe hl
  have hown : s.vm.findClass RX4 = some m.cls := hown
  have hl : lv_has ls 2 [(0, .ref h0), (1, .int p1)] := hl
  refine lv_iload_n hx hb dX4_count_0 rfl (lv_at hl 1 rfl) ?_
  by_cases j_0 : p1 = 0
  · have i_0 : p1.toInt = 0 := by rw [j_0]; rfl
    subst j_0
    refine lv_tableIn (x := 0) (off := 35) (tgt := 36) hx hb dX4_count_1 (by decide) (by decide) rfl (by decide) ?_
    refine lv_aload_n hx hb dX4_count_36 rfl (lv_at hl 0 rfl) ?_
    refine va_get (D := g.1) (ci := 4) (v := .ref h1) (C := RX4) (T := TX4) (N := 12) hx hb hts zl_X4 hown hK hP 0 rfl rfl 0 (by decide) (hts _ m_f_RX4_10) (fun _ h => h) rfl dX4_count_37 ?_
    refine va_getN (D := g.1) (ci := 0) (v := .int 0) (C := RX0) (T := TX0) (N := 11) hx hb hts zl_X0 hown hK hP 1 rfl rfl 1 (by decide) (hN.f 4 (q := (RX4, 122, "FishSteps$Books", "lots", "I")) rfl) (fun _ h => h) rfl dX4_count_40 ?_
    have hP9 := hP.sub (ws' := []) [] rfl
    have hD9 := hD.sub (ws' := []) [] (by decide) rfl
    exact W.iret (v := 0) hx hb hr (fun t ht hW => ⟨⟨0, 0, rfl, Or.inl ⟨i_0, rfl⟩, by rw [ht]; exact hP9, hD9⟩, hS.F ht⟩) hS.2.2 dX4_count_43
  have i_0 : p1.toInt ≠ 0 := fun h => j_0 (Int32.toInt_inj.mp (h.trans rfl))
  by_cases j_1 : p1 = 1
  · have i_1 : p1.toInt = 1 := by rw [j_1]; rfl
    subst j_1
    refine lv_tableIn (x := 1) (off := 43) (tgt := 44) hx hb dX4_count_1 (by decide) (by decide) rfl (by decide) ?_
    refine lv_aload_n hx hb dX4_count_44 rfl (lv_at hl 0 rfl) ?_
    refine va_get (D := g.1) (ci := 4) (v := .ref h1) (C := RX4) (T := TX4) (N := 12) hx hb hts zl_X4 hown hK hP 0 rfl rfl 0 (by decide) (hts _ m_f_RX4_10) (fun _ h => h) rfl dX4_count_45 ?_
    refine va_getN (D := g.1) (ci := 0) (v := .int 0) (C := RX0) (T := TX0) (N := 11) hx hb hts zl_X0 hown hK hP 1 rfl rfl 3 (by decide) (hN.f 7 (q := (RX4, 71, "FishSteps$Books", "buyers", "I")) rfl) (fun _ h => h) rfl dX4_count_48 ?_
    have hP9 := hP.sub (ws' := []) [] rfl
    have hD9 := hD.sub (ws' := []) [] (by decide) rfl
    exact W.iret (v := 0) hx hb hr (fun t ht hW => ⟨⟨0, 0, rfl, Or.inr (Or.inl ⟨i_0, i_1, rfl⟩), by rw [ht]; exact hP9, hD9⟩, hS.F ht⟩) hS.2.2 dX4_count_51
  have i_1 : p1.toInt ≠ 1 := fun h => j_1 (Int32.toInt_inj.mp (h.trans rfl))
  by_cases j_2 : p1 = 2
  · have i_2 : p1.toInt = 2 := by rw [j_2]; rfl
    subst j_2
    refine lv_tableIn (x := 2) (off := 51) (tgt := 52) hx hb dX4_count_1 (by decide) (by decide) rfl (by decide) ?_
    refine lv_aload_n hx hb dX4_count_52 rfl (lv_at hl 0 rfl) ?_
    refine va_get (D := g.1) (ci := 4) (v := .ref h1) (C := RX4) (T := TX4) (N := 12) hx hb hts zl_X4 hown hK hP 0 rfl rfl 0 (by decide) (hts _ m_f_RX4_10) (fun _ h => h) rfl dX4_count_53 ?_
    refine va_getN (D := g.1) (ci := 0) (v := .int 0) (C := RX0) (T := TX0) (N := 11) hx hb hts zl_X0 hown hK hP 1 rfl rfl 10 (by decide) (hN.f 18 (q := (RX4, 125, "FishSteps$Books", "held", "I")) rfl) (fun _ h => h) rfl dX4_count_56 ?_
    have hP9 := hP.sub (ws' := []) [] rfl
    have hD9 := hD.sub (ws' := []) [] (by decide) rfl
    exact W.iret (v := 0) hx hb hr (fun t ht hW => ⟨⟨0, 0, rfl, Or.inr (Or.inr (Or.inl ⟨i_0, i_1, i_2, rfl⟩)), by rw [ht]; exact hP9, hD9⟩, hS.F ht⟩) hS.2.2 dX4_count_59
  have i_2 : p1.toInt ≠ 2 := fun h => j_2 (Int32.toInt_inj.mp (h.trans rfl))
  by_cases j_3 : p1 = 3
  · have i_3 : p1.toInt = 3 := by rw [j_3]; rfl
    subst j_3
    refine lv_tableIn (x := 3) (off := 59) (tgt := 60) hx hb dX4_count_1 (by decide) (by decide) rfl (by decide) ?_
    refine lv_aload_n hx hb dX4_count_60 rfl (lv_at hl 0 rfl) ?_
    refine va_get (D := g.1) (ci := 4) (v := .ref h1) (C := RX4) (T := TX4) (N := 12) hx hb hts zl_X4 hown hK hP 0 rfl rfl 0 (by decide) (hts _ m_f_RX4_10) (fun _ h => h) rfl dX4_count_61 ?_
    refine z_calli (wr := [(h0, .inr (4, [.ref h1, .ref h2, .int 0, .ref h3, .ref h4, .ref h5, .ref h6, .int (-1), .ref h7, .ref h8, .ref h9, .ref h10]))]) hP hD hS hA [1] [0] (by decide) rfl rfl (by decide) (va_runVN (As := []) (rest := []) ⟨hx, hb, hml, hown, hts⟩ (kX0_countOwing_2 l g h1 h11 h12 h13 h14 h15 h16 h17 h18 s.heap.size) ⟨va_cnB 0 hts (zGood m_o_yX0_countOwing) rfl rfl rfl (hN.m 12 (q := (RX4, 128, yX0_countOwing)) rfl) (hts _ m_z_RX0) ⟨by decide +kernel, by decide +kernel, by decide +kernel⟩ ⟨Nat.le_of_ble_eq_true rfl, Nat.le_of_ble_eq_true rfl⟩, hts _ m_i_yX0_countOwing, hts _ m_e_yX0_countOwing⟩ (zPreV hK hN hZ hP hD hS hA [1] (by decide) rfl rfl 0 1 rfl rfl) rfl rfl hl.1 rfl (lv_room (Nat.le_of_ble_eq_true rfl)) dX4_count_64 ⟨Nat.le_of_ble_eq_true rfl, Nat.le_of_ble_eq_true rfl⟩) (fun r u H locs hw hP hD hS => ?_)
    obtain rfl := hw
    have hP : va_P g.1 vwCl [(h0, .inr (4, [.ref h1, .ref h2, .int 0, .ref h3, .ref h4, .ref h5, .ref h6, .int (-1), .ref h7, .ref h8, .ref h9, .ref h10])), (h1, .inr (0, [.ref h11, .int 0, .ref h12, .int 0, .ref h13, .ref h14, .ref h15, .ref h16, .ref h17, .ref h18, .int 0]))] H := hP
    have hD : va_D A [(h0, .inr (4, [.ref h1, .ref h2, .int 0, .ref h3, .ref h4, .ref h5, .ref h6, .int (-1), .ref h7, .ref h8, .ref h9, .ref h10])), (h1, .inr (0, [.ref h11, .int 0, .ref h12, .int 0, .ref h13, .ref h14, .ref h15, .ref h16, .ref h17, .ref h18, .int 0]))] := hD
    have hP9 := hP.sub (ws' := []) [] rfl
    have hD9 := hD.sub (ws' := []) [] (by decide) rfl
    exact W.iret (v := 0) hx hb hr (fun t ht hW => ⟨⟨0, 0, rfl, Or.inr (Or.inr (Or.inr (Or.inl ⟨i_0, i_1, i_2, i_3, rfl⟩))), by rw [ht]; exact hP9, hD9⟩, hS.F ht⟩) hS.2.2 dX4_count_67
  have i_3 : p1.toInt ≠ 3 := fun h => j_3 (Int32.toInt_inj.mp (h.trans rfl))
  by_cases j_4 : p1 = 4
  · have i_4 : p1.toInt = 4 := by rw [j_4]; rfl
    subst j_4
    refine lv_tableIn (x := 4) (off := 67) (tgt := 68) hx hb dX4_count_1 (by decide) (by decide) rfl (by decide) ?_
    refine lv_aload_n hx hb dX4_count_68 rfl (lv_at hl 0 rfl) ?_
    refine va_get (D := g.1) (ci := 4) (v := .ref h1) (C := RX4) (T := TX4) (N := 12) hx hb hts zl_X4 hown hK hP 0 rfl rfl 0 (by decide) (hts _ m_f_RX4_10) (fun _ h => h) rfl dX4_count_69 ?_
    refine z_calli (wr := [(h0, .inr (4, [.ref h1, .ref h2, .int 0, .ref h3, .ref h4, .ref h5, .ref h6, .int (-1), .ref h7, .ref h8, .ref h9, .ref h10]))]) hP hD hS hA [1] [0] (by decide) rfl rfl (by decide) (va_runVN (As := []) (rest := []) ⟨hx, hb, hml, hown, hts⟩ (kX0_countKinds_2 l g h1 h11 h12 h13 h14 h15 h16 h17 h18 s.heap.size) ⟨va_cnB 0 hts (zGood m_o_yX0_countKinds) rfl rfl rfl (hN.m 13 (q := (RX4, 132, yX0_countKinds)) rfl) (hts _ m_z_RX0) ⟨by decide +kernel, by decide +kernel, by decide +kernel⟩ ⟨Nat.le_of_ble_eq_true rfl, Nat.le_of_ble_eq_true rfl⟩, hts _ m_i_yX0_countKinds, hts _ m_e_yX0_countKinds⟩ (zPreV hK hN hZ hP hD hS hA [1] (by decide) rfl rfl 0 1 rfl rfl) rfl rfl hl.1 rfl (lv_room (Nat.le_of_ble_eq_true rfl)) dX4_count_72 ⟨Nat.le_of_ble_eq_true rfl, Nat.le_of_ble_eq_true rfl⟩) (fun r u H locs hw hP hD hS => ?_)
    obtain rfl := hw
    have hP : va_P g.1 vwCl [(h0, .inr (4, [.ref h1, .ref h2, .int 0, .ref h3, .ref h4, .ref h5, .ref h6, .int (-1), .ref h7, .ref h8, .ref h9, .ref h10])), (h1, .inr (0, [.ref h11, .int 0, .ref h12, .int 0, .ref h13, .ref h14, .ref h15, .ref h16, .ref h17, .ref h18, .int 0]))] H := hP
    have hD : va_D A [(h0, .inr (4, [.ref h1, .ref h2, .int 0, .ref h3, .ref h4, .ref h5, .ref h6, .int (-1), .ref h7, .ref h8, .ref h9, .ref h10])), (h1, .inr (0, [.ref h11, .int 0, .ref h12, .int 0, .ref h13, .ref h14, .ref h15, .ref h16, .ref h17, .ref h18, .int 0]))] := hD
    have hP9 := hP.sub (ws' := []) [] rfl
    have hD9 := hD.sub (ws' := []) [] (by decide) rfl
    exact W.iret (v := 0) hx hb hr (fun t ht hW => ⟨⟨0, 0, rfl, Or.inr (Or.inr (Or.inr (Or.inr (Or.inl ⟨i_0, i_1, i_2, i_3, i_4, rfl⟩)))), by rw [ht]; exact hP9, hD9⟩, hS.F ht⟩) hS.2.2 dX4_count_75
  have i_4 : p1.toInt ≠ 4 := fun h => j_4 (Int32.toInt_inj.mp (h.trans rfl))
  refine lv_tableOut (x := p1) (tgt := 76) hx hb dX4_count_1 (by omega) (by decide) ?_
  refine lv_iconst (v := (-1)) hx hb dX4_count_76 (by decide) ?_
  have hP9 := hP.sub (ws' := []) [] rfl
  have hD9 := hD.sub (ws' := []) [] (by decide) rfl
  exact W.iret (v := (-1)) hx hb hr (fun t ht hW => ⟨⟨(-1), 0, rfl, Or.inr (Or.inr (Or.inr (Or.inr (Or.inr (⟨i_0, i_1, i_2, i_3, i_4, rfl⟩))))), by rw [ht]; exact hP9, hD9⟩, hS.F ht⟩) hS.2.2 dX4_count_77
set_option maxHeartbeats 4000000 in
set_option maxRecDepth 100000 in
theorem kX4_lot (l : Launch) (g : zG) (h0 h1 h2 h3 h4 h5 h6 h7 h8 h9 h10 h11 h12 h13 h14 h15 h16 h17 h18 : Nat) (sz : Nat) (p1 : Int32) (p2 : Int32) : Met l yX4_lot (.code yX4_lot cX4_lot 3 (some .int) :: zBig) ({ frames := 0, cells := 0, slots := 0, locals := 0 }) (va_Pc [.ref h0, .int p1, .int p2] (zPre g [(h0, .inr (4, [.ref h1, .ref h2, .int 0, .ref h3, .ref h4, .ref h5, .ref h6, .int (-1), .ref h7, .ref h8, .ref h9, .ref h10])), (h1, .inr (0, [.ref h11, .int 0, .ref h12, .int 0, .ref h13, .ref h14, .ref h15, .ref h16, .ref h17, .ref h18, .int 0]))] sz)) (va_Qi (fun (r : Int32) (_ : Nat) => (p1.toInt < 0 ∧ r = (-1)) ∨ (0 ≤ p1.toInt ∧ 6 ≤ p1.toInt ∧ r = (-1)) ∨ (0 ≤ p1.toInt ∧ p1.toInt < 6 ∧ r = (-1))) (zPost g (fun _ : Nat => []) (va_A [(h0, .inr (4, [.ref h1, .ref h2, .int 0, .ref h3, .ref h4, .ref h5, .ref h6, .int (-1), .ref h7, .ref h8, .ref h9, .ref h10])), (h1, .inr (0, [.ref h11, .int 0, .ref h12, .int 0, .ref h13, .ref h14, .ref h15, .ref h16, .ref h17, .ref h18, .int 0]))] sz)) (va_A [(h0, .inr (4, [.ref h1, .ref h2, .int 0, .ref h3, .ref h4, .ref h5, .ref h6, .int (-1), .ref h7, .ref h8, .ref h9, .ref h10])), (h1, .inr (0, [.ref h11, .int 0, .ref h12, .int 0, .ref h13, .ref h14, .ref h15, .ref h16, .ref h17, .ref h18, .int 0]))] sz)) 0 0 (va_A [(h0, .inr (4, [.ref h1, .ref h2, .int 0, .ref h3, .ref h4, .ref h5, .ref h6, .int (-1), .ref h7, .ref h8, .ref h9, .ref h10])), (h1, .inr (0, [.ref h11, .int 0, .ref h12, .int 0, .ref h13, .ref h14, .ref h15, .ref h16, .ref h17, .ref h18, .int 0]))] sz) := by
  refine zMetI rfl (Nat.le_of_ble_eq_true rfl) ?_
  intro p e s m args below meth c A ls hx hb hml hr hlocks hin hown hts hK hN hZ hP hD hA hS hAe hl
  have hown : s.vm.findClass RX4 = some m.cls := hown
  have hl : lv_has ls 3 [(0, .ref h0), (1, .int p1), (2, .int p2)] := hl
  refine lv_iload_n hx hb dX4_lot_0 rfl (lv_at hl 1 rfl) ?_
  refine lv_if_lt (tgt := 30) hx hb dX4_lot_1 (by decide) (fun c_0 => ?_) (fun c_0 => ?_)
  · have i_0 : p1.toInt < 0 := z_lt (rfl) (rfl) c_0
    refine lv_iconst (v := (-1)) hx hb dX4_lot_30 (by decide) ?_
    have hP9 := hP.sub (ws' := []) [] rfl
    have hD9 := hD.sub (ws' := []) [] (by decide) rfl
    exact W.iret (v := (-1)) hx hb hr (fun t ht hW => ⟨⟨(-1), 0, rfl, Or.inl ⟨i_0, rfl⟩, by rw [ht]; exact hP9, hD9⟩, hS.F ht⟩) hS.2.2 dX4_lot_31
  · have i_0 : 0 ≤ p1.toInt := z_nlt (rfl) (rfl) c_0
    refine lv_iload_n hx hb dX4_lot_4 rfl (lv_at hl 1 rfl) ?_
    refine lv_bipush (v := 6) hx hb dX4_lot_5 (by decide) ?_
    refine lv_icmp_ge (tgt := 30) hx hb dX4_lot_7 (by decide) (fun c_1 => ?_) (fun c_1 => ?_)
    · have i_1 : 6 ≤ p1.toInt := z_le (rfl) (rfl) c_1
      refine lv_iconst (v := (-1)) hx hb dX4_lot_30 (by decide) ?_
      have hP9 := hP.sub (ws' := []) [] rfl
      have hD9 := hD.sub (ws' := []) [] (by decide) rfl
      exact W.iret (v := (-1)) hx hb hr (fun t ht hW => ⟨⟨(-1), 0, rfl, Or.inr (Or.inl ⟨i_0, i_1, rfl⟩), by rw [ht]; exact hP9, hD9⟩, hS.F ht⟩) hS.2.2 dX4_lot_31
    · have i_1 : p1.toInt < 6 := z_nle (rfl) (rfl) c_1
      refine lv_iload_n hx hb dX4_lot_10 rfl (lv_at hl 1 rfl) ?_
      refine lv_aload_n hx hb dX4_lot_11 rfl (lv_at hl 0 rfl) ?_
      refine va_get (D := g.1) (ci := 4) (v := .ref h1) (C := RX4) (T := TX4) (N := 12) hx hb hts zl_X4 hown hK hP 0 rfl rfl 0 (by decide) (hts _ m_f_RX4_10) (fun _ h => h) rfl dX4_lot_12 ?_
      refine va_getN (D := g.1) (ci := 0) (v := .int 0) (C := RX0) (T := TX0) (N := 11) hx hb hts zl_X0 hown hK hP 1 rfl rfl 1 (by decide) (hN.f 4 (q := (RX4, 122, "FishSteps$Books", "lots", "I")) rfl) (fun _ h => h) rfl dX4_lot_15 ?_
      refine lv_icmp_ge (tgt := 30) hx hb dX4_lot_18 (by decide) (fun c_2 => ?_) (fun c_2 => absurd (show p1.toInt < 0 from z_nle (rfl) (rfl) c_2) (by omega))
      have i_2 : 0 ≤ p1.toInt := z_le (rfl) (rfl) c_2
      refine lv_iconst (v := (-1)) hx hb dX4_lot_30 (by decide) ?_
      have hP9 := hP.sub (ws' := []) [] rfl
      have hD9 := hD.sub (ws' := []) [] (by decide) rfl
      exact W.iret (v := (-1)) hx hb hr (fun t ht hW => ⟨⟨(-1), 0, rfl, Or.inr (Or.inr (⟨i_0, i_1, rfl⟩)), by rw [ht]; exact hP9, hD9⟩, hS.F ht⟩) hS.2.2 dX4_lot_31
set_option maxHeartbeats 4000000 in
set_option maxRecDepth 100000 in
theorem kX4_gain (l : Launch) (g : zG) (h0 h1 h2 h3 h4 h5 h6 h7 h8 h9 h10 h11 h12 h13 h14 h15 h16 h17 h18 : Nat) (sz : Nat) (p1 : Int32) : Met l yX4_gain (.code yX4_gain cX4_gain 2 (some .int) :: zBig) ({ frames := 1, cells := 0, slots := 0, locals := 21 }) (va_Pc [.ref h0, .int p1] (zPre g [(h0, .inr (4, [.ref h1, .ref h2, .int 0, .ref h3, .ref h4, .ref h5, .ref h6, .int (-1), .ref h7, .ref h8, .ref h9, .ref h10])), (h1, .inr (0, [.ref h11, .int 0, .ref h12, .int 0, .ref h13, .ref h14, .ref h15, .ref h16, .ref h17, .ref h18, .int 0]))] sz)) (va_Qi (fun (r : Int32) (_ : Nat) => (p1.toInt < 0 ∧ r = (-100001)) ∨ (0 ≤ p1.toInt ∧ 5 ≤ p1.toInt ∧ r = (-100001)) ∨ (0 ≤ p1.toInt ∧ p1.toInt < 5 ∧ r = (-100001))) (zPost g (fun _ : Nat => []) (va_A [(h0, .inr (4, [.ref h1, .ref h2, .int 0, .ref h3, .ref h4, .ref h5, .ref h6, .int (-1), .ref h7, .ref h8, .ref h9, .ref h10])), (h1, .inr (0, [.ref h11, .int 0, .ref h12, .int 0, .ref h13, .ref h14, .ref h15, .ref h16, .ref h17, .ref h18, .int 0]))] sz)) (va_A [(h0, .inr (4, [.ref h1, .ref h2, .int 0, .ref h3, .ref h4, .ref h5, .ref h6, .int (-1), .ref h7, .ref h8, .ref h9, .ref h10])), (h1, .inr (0, [.ref h11, .int 0, .ref h12, .int 0, .ref h13, .ref h14, .ref h15, .ref h16, .ref h17, .ref h18, .int 0]))] sz)) 0 0 (va_A [(h0, .inr (4, [.ref h1, .ref h2, .int 0, .ref h3, .ref h4, .ref h5, .ref h6, .int (-1), .ref h7, .ref h8, .ref h9, .ref h10])), (h1, .inr (0, [.ref h11, .int 0, .ref h12, .int 0, .ref h13, .ref h14, .ref h15, .ref h16, .ref h17, .ref h18, .int 0]))] sz) := by
  refine zMetI rfl (Nat.le_of_ble_eq_true rfl) ?_
  intro p e s m args below meth c A ls hx hb hml hr hlocks hin hown hts hK hN hZ hP hD hA hS hAe hl
  have hown : s.vm.findClass RX4 = some m.cls := hown
  have hl : lv_has ls 2 [(0, .ref h0), (1, .int p1)] := hl
  refine lv_aload_n hx hb dX4_gain_0 rfl (lv_at hl 0 rfl) ?_
  refine va_get (D := g.1) (ci := 4) (v := .ref h1) (C := RX4) (T := TX4) (N := 12) hx hb hts zl_X4 hown hK hP 0 rfl rfl 0 (by decide) (hts _ m_f_RX4_10) (fun _ h => h) rfl dX4_gain_1 ?_
  refine lv_iload_n hx hb dX4_gain_4 rfl (lv_at hl 1 rfl) ?_
  refine z_calli (wr := [(h0, .inr (4, [.ref h1, .ref h2, .int 0, .ref h3, .ref h4, .ref h5, .ref h6, .int (-1), .ref h7, .ref h8, .ref h9, .ref h10]))]) hP hD hS hA [1] [0] (by decide) rfl rfl (by decide) (va_runVN (As := [.int p1]) (rest := []) ⟨hx, hb, hml, hown, hts⟩ (kX0_isThere_2 l g h1 h11 h12 h13 h14 h15 h16 h17 h18 s.heap.size p1) ⟨va_cnB 1 hts (zGood m_o_yX0_isThere) rfl rfl rfl (hN.m 4 (q := (RX4, 80, yX0_isThere)) rfl) (hts _ m_z_RX0) ⟨by decide +kernel, by decide +kernel, by decide +kernel⟩ ⟨Nat.le_of_ble_eq_true rfl, Nat.le_of_ble_eq_true rfl⟩, hts _ m_i_yX0_isThere, hts _ m_e_yX0_isThere⟩ (zPreV hK hN hZ hP hD hS hA [1] (by decide) rfl rfl 0 1 rfl rfl) rfl rfl hl.1 rfl (lv_room (Nat.le_of_ble_eq_true rfl)) dX4_gain_5 ⟨Nat.le_of_ble_eq_true rfl, Nat.le_of_ble_eq_true rfl⟩) (fun r u H locs hw hP hD hS => ?_)
  rcases hw with ⟨i_0, rfl⟩ | ⟨i_1, i_2, rfl⟩ | ⟨i_3, i_4, rfl⟩
  · skip
    have i_0 : p1.toInt < 0 := i_0
    have hP : va_P g.1 vwCl [(h0, .inr (4, [.ref h1, .ref h2, .int 0, .ref h3, .ref h4, .ref h5, .ref h6, .int (-1), .ref h7, .ref h8, .ref h9, .ref h10])), (h1, .inr (0, [.ref h11, .int 0, .ref h12, .int 0, .ref h13, .ref h14, .ref h15, .ref h16, .ref h17, .ref h18, .int 0]))] H := hP
    have hD : va_D A [(h0, .inr (4, [.ref h1, .ref h2, .int 0, .ref h3, .ref h4, .ref h5, .ref h6, .int (-1), .ref h7, .ref h8, .ref h9, .ref h10])), (h1, .inr (0, [.ref h11, .int 0, .ref h12, .int 0, .ref h13, .ref h14, .ref h15, .ref h16, .ref h17, .ref h18, .int 0]))] := hD
    refine lv_if_ne (tgt := 14) hx hb dX4_gain_8 (by decide) (fun h => absurd h (by decide +kernel)) (fun _ => ?_)
    refine lv_ldc (v := (-100001)) hx hb hown (hts _ m_k_RX4_93) dX4_gain_11 ?_
    have hP9 := hP.sub (ws' := []) [] rfl
    have hD9 := hD.sub (ws' := []) [] (by decide) rfl
    exact W.iret (v := (-100001)) hx hb hr (fun t ht hW => ⟨⟨(-100001), 0, rfl, Or.inl ⟨i_0, rfl⟩, by rw [ht]; exact hP9, hD9⟩, hS.F ht⟩) hS.2.2 dX4_gain_13
  · skip
    have i_1 : 0 ≤ p1.toInt := i_1
    have i_2 : 5 ≤ p1.toInt := i_2
    have hP : va_P g.1 vwCl [(h0, .inr (4, [.ref h1, .ref h2, .int 0, .ref h3, .ref h4, .ref h5, .ref h6, .int (-1), .ref h7, .ref h8, .ref h9, .ref h10])), (h1, .inr (0, [.ref h11, .int 0, .ref h12, .int 0, .ref h13, .ref h14, .ref h15, .ref h16, .ref h17, .ref h18, .int 0]))] H := hP
    have hD : va_D A [(h0, .inr (4, [.ref h1, .ref h2, .int 0, .ref h3, .ref h4, .ref h5, .ref h6, .int (-1), .ref h7, .ref h8, .ref h9, .ref h10])), (h1, .inr (0, [.ref h11, .int 0, .ref h12, .int 0, .ref h13, .ref h14, .ref h15, .ref h16, .ref h17, .ref h18, .int 0]))] := hD
    refine lv_if_ne (tgt := 14) hx hb dX4_gain_8 (by decide) (fun h => absurd h (by decide +kernel)) (fun _ => ?_)
    refine lv_ldc (v := (-100001)) hx hb hown (hts _ m_k_RX4_93) dX4_gain_11 ?_
    have hP9 := hP.sub (ws' := []) [] rfl
    have hD9 := hD.sub (ws' := []) [] (by decide) rfl
    exact W.iret (v := (-100001)) hx hb hr (fun t ht hW => ⟨⟨(-100001), 0, rfl, Or.inr (Or.inl ⟨i_1, i_2, rfl⟩), by rw [ht]; exact hP9, hD9⟩, hS.F ht⟩) hS.2.2 dX4_gain_13
  · skip
    have i_3 : 0 ≤ p1.toInt := i_3
    have i_4 : p1.toInt < 5 := i_4
    have hP : va_P g.1 vwCl [(h0, .inr (4, [.ref h1, .ref h2, .int 0, .ref h3, .ref h4, .ref h5, .ref h6, .int (-1), .ref h7, .ref h8, .ref h9, .ref h10])), (h1, .inr (0, [.ref h11, .int 0, .ref h12, .int 0, .ref h13, .ref h14, .ref h15, .ref h16, .ref h17, .ref h18, .int 0]))] H := hP
    have hD : va_D A [(h0, .inr (4, [.ref h1, .ref h2, .int 0, .ref h3, .ref h4, .ref h5, .ref h6, .int (-1), .ref h7, .ref h8, .ref h9, .ref h10])), (h1, .inr (0, [.ref h11, .int 0, .ref h12, .int 0, .ref h13, .ref h14, .ref h15, .ref h16, .ref h17, .ref h18, .int 0]))] := hD
    refine lv_if_ne (tgt := 14) hx hb dX4_gain_8 (by decide) (fun h => absurd h (by decide +kernel)) (fun _ => ?_)
    refine lv_ldc (v := (-100001)) hx hb hown (hts _ m_k_RX4_93) dX4_gain_11 ?_
    have hP9 := hP.sub (ws' := []) [] rfl
    have hD9 := hD.sub (ws' := []) [] (by decide) rfl
    exact W.iret (v := (-100001)) hx hb hr (fun t ht hW => ⟨⟨(-100001), 0, rfl, Or.inr (Or.inr (⟨i_3, i_4, rfl⟩)), by rw [ht]; exact hP9, hD9⟩, hS.F ht⟩) hS.2.2 dX4_gain_13
set_option maxHeartbeats 4000000 in
set_option maxRecDepth 100000 in
theorem kX2_takeMargins (l : Launch) (g : zG) (h0 h1 h11 h12 h13 h14 h15 h16 h17 h18 h27 h28 h29 h30 h31 h32 h33 h34 h35 h36 : Nat) (sz : Nat) : Met l yX2_takeMargins (.code yX2_takeMargins cX2_takeMargins 2 none :: zBig) ({ frames := 1, cells := 0, slots := 0, locals := 60 }) (va_Pc [.ref h0, .ref h1] (zPre g [(h1, .inr (0, [.ref h11, .int 0, .ref h12, .int 0, .ref h13, .ref h14, .ref h15, .ref h16, .ref h17, .ref h18, .int 0])), (h15, .inl (zI g, 5, .inl (fun _ => 0))), (h0, .inr (2, [.ref h27, .ref h28, .ref h29, .ref h30, .ref h31, .ref h32, .int 0, .int 0, .ref h33, .ref h34, .ref h35, .ref h36])), (h27, .inl (zI g, 5, .inl (fun _ => 0)))] sz)) (va_Qv (fun _ : Nat => True) (zPost g (fun _ : Nat => [(h1, .inr (0, [.ref h11, .int 0, .ref h12, .int 0, .ref h13, .ref h14, .ref h15, .ref h16, .ref h17, .ref h18, .int 0])), (h15, .inl (zI g, 5, .inl (fun _ => 0))), (h0, .inr (2, [.ref h27, .ref h28, .ref h29, .ref h30, .ref h31, .ref h32, .int 0, .int 0, .ref h33, .ref h34, .ref h35, .ref h36])), (h27, .inl (zI g, 5, .inl (fun _ => 0)))]) (va_A [(h1, .inr (0, [.ref h11, .int 0, .ref h12, .int 0, .ref h13, .ref h14, .ref h15, .ref h16, .ref h17, .ref h18, .int 0])), (h15, .inl (zI g, 5, .inl (fun _ => 0))), (h0, .inr (2, [.ref h27, .ref h28, .ref h29, .ref h30, .ref h31, .ref h32, .int 0, .int 0, .ref h33, .ref h34, .ref h35, .ref h36])), (h27, .inl (zI g, 5, .inl (fun _ => 0)))] sz)) (va_A [(h1, .inr (0, [.ref h11, .int 0, .ref h12, .int 0, .ref h13, .ref h14, .ref h15, .ref h16, .ref h17, .ref h18, .int 0])), (h15, .inl (zI g, 5, .inl (fun _ => 0))), (h0, .inr (2, [.ref h27, .ref h28, .ref h29, .ref h30, .ref h31, .ref h32, .int 0, .int 0, .ref h33, .ref h34, .ref h35, .ref h36])), (h27, .inl (zI g, 5, .inl (fun _ => 0)))] sz)) 0 0 (va_A [(h1, .inr (0, [.ref h11, .int 0, .ref h12, .int 0, .ref h13, .ref h14, .ref h15, .ref h16, .ref h17, .ref h18, .int 0])), (h15, .inl (zI g, 5, .inl (fun _ => 0))), (h0, .inr (2, [.ref h27, .ref h28, .ref h29, .ref h30, .ref h31, .ref h32, .int 0, .int 0, .ref h33, .ref h34, .ref h35, .ref h36])), (h27, .inl (zI g, 5, .inl (fun _ => 0)))] sz) := by
  refine zMetV rfl (Nat.le_of_ble_eq_true rfl) ?_
  intro p e s m args below meth c A ls hx hb hml hr hlocks hin hown hts hK hN hZ hP hD hA hS hAe hl
  have hown : s.vm.findClass RX2 = some m.cls := hown
  have hl : lv_has ls 2 [(0, .ref h0), (1, .ref h1)] := hl
  refine lv_aload_n hx hb dX2_takeMargins_0 rfl (lv_at hl 1 rfl) ?_
  refine va_getN (D := g.1) (ci := 0) (v := .ref h15) (C := RX0) (T := TX0) (N := 11) hx hb hts zl_X0 hown hK hP 0 rfl rfl 6 (by decide) (hN.f 13 (q := (RX2, 49, "FishSteps$Books", "margin", "[I")) rfl) (fun _ h => h) rfl dX2_takeMargins_1 ?_
  refine lv_iconst (v := 0) hx hb dX2_takeMargins_4 (by decide) ?_
  refine lv_aload_n hx hb dX2_takeMargins_5 rfl (lv_at hl 0 rfl) ?_
  refine va_get (D := g.1) (ci := 2) (v := .ref h27) (C := RX2) (T := TX2) (N := 12) hx hb hts zl_X2 hown hK hP 2 rfl rfl 0 (by decide) (hts _ m_f_RX2_9) (fun _ h => h) rfl dX2_takeMargins_6 ?_
  refine lv_iconst (v := 0) hx hb dX2_takeMargins_9 (by decide) ?_
  refine lv_iconst (v := 5) hx hb dX2_takeMargins_10 (by decide) ?_
  refine va_copyi (D := g.1) (ty := .int) (sp := 0) (dp := 0) (n := 5) hx hb (hml.trans hl.1.symm) hown (hts _ m_m_RX2_52) (hts _ m_n_arraycopyName) (hts _ m_s_arraycopyName) (hts _ m_z_RJ10) hK hP hD hS 1 3 0 0 rfl rfl rfl rfl rfl (by decide) (by decide) (by decide) (by decide) (by decide) (fun _ _ => rfl) (Nat.le_of_ble_eq_true rfl) (Nat.le_of_ble_eq_true rfl) dX2_takeMargins_11 (fun H locs hP hD hS => ?_)
  have hP : va_P g.1 vwCl [(h1, .inr (0, [.ref h11, .int 0, .ref h12, .int 0, .ref h13, .ref h14, .ref h15, .ref h16, .ref h17, .ref h18, .int 0])), (h15, .inl (zI g, 5, .inl (fun _ => 0))), (h0, .inr (2, [.ref h27, .ref h28, .ref h29, .ref h30, .ref h31, .ref h32, .int 0, .int 0, .ref h33, .ref h34, .ref h35, .ref h36])), (h27, .inl (zI g, 5, .inl (va_cpy (fun _ => 0) (fun _ => 0) 0 0 5)))] H := hP
  have hD : va_D A [(h1, .inr (0, [.ref h11, .int 0, .ref h12, .int 0, .ref h13, .ref h14, .ref h15, .ref h16, .ref h17, .ref h18, .int 0])), (h15, .inl (zI g, 5, .inl (fun _ => 0))), (h0, .inr (2, [.ref h27, .ref h28, .ref h29, .ref h30, .ref h31, .ref h32, .int 0, .int 0, .ref h33, .ref h34, .ref h35, .ref h36])), (h27, .inl (zI g, 5, .inl (va_cpy (fun _ => 0) (fun _ => 0) 0 0 5)))] := hD
  rw [zc_cpy] at hP hD
  have hP9 := hP.sub (ws' := [(h1, .inr (0, [.ref h11, .int 0, .ref h12, .int 0, .ref h13, .ref h14, .ref h15, .ref h16, .ref h17, .ref h18, .int 0])), (h15, .inl (zI g, 5, .inl (fun _ => 0))), (h0, .inr (2, [.ref h27, .ref h28, .ref h29, .ref h30, .ref h31, .ref h32, .int 0, .int 0, .ref h33, .ref h34, .ref h35, .ref h36])), (h27, .inl (zI g, 5, .inl (fun _ => 0)))]) [0, 1, 2, 3] rfl
  have hD9 := hD.sub (ws' := [(h1, .inr (0, [.ref h11, .int 0, .ref h12, .int 0, .ref h13, .ref h14, .ref h15, .ref h16, .ref h17, .ref h18, .int 0])), (h15, .inl (zI g, 5, .inl (fun _ => 0))), (h0, .inr (2, [.ref h27, .ref h28, .ref h29, .ref h30, .ref h31, .ref h32, .int 0, .int 0, .ref h33, .ref h34, .ref h35, .ref h36])), (h27, .inl (zI g, 5, .inl (fun _ => 0)))]) [0, 1, 2, 3] (by decide) rfl
  exact W.vret hx hb hr (fun t ht hW => ⟨⟨0, rfl, trivial, by rw [ht]; exact hP9, hD9⟩, hS.F ht⟩) hS.2.2 dX2_takeMargins_14
set_option maxHeartbeats 4000000 in
set_option maxRecDepth 100000 in
theorem kX2_begin (l : Launch) (g : zG) (h0 h1 h11 h12 h13 h14 h15 h16 h17 h26 h27 h28 h29 h30 h31 h32 h33 h34 h39 h40 : Nat) (sz : Nat) : Met l yX2_begin (.code yX2_begin cX2_begin 2 none :: zBig) ({ frames := 1, cells := 0, slots := 0, locals := 60 }) (va_Pc [.ref h0, .ref h1] (zPre g [(h14, .inl (zI g, 5, .inl (fun _ => 0))), (h26, .inl (zI g, 5, .inl (fun _ => 0))), (h27, .inl (zI g, 5, .inl (fun _ => 0))), (h28, .inl (zI g, 5, .inl (fun _ => 0))), (h1, .inr (0, [.ref h11, .int 0, .ref h12, .int 0, .ref h13, .ref h14, .ref h39, .ref h15, .ref h16, .ref h17, .int 0])), (h0, .inr (2, [.ref h40, .ref h26, .ref h27, .ref h28, .ref h29, .ref h30, .int 0, .int 0, .ref h31, .ref h32, .ref h33, .ref h34]))] sz)) (va_Qv (fun _ : Nat => True) (zPost g (fun _ : Nat => [(h14, .inl (zI g, 5, .inl (fun _ => 0))), (h26, .inl (zI g, 5, .inl (fun _ => 0))), (h1, .inr (0, [.ref h11, .int 0, .ref h12, .int 0, .ref h13, .ref h14, .ref h39, .ref h15, .ref h16, .ref h17, .int 0])), (h0, .inr (2, [.ref h40, .ref h26, .ref h27, .ref h28, .ref h29, .ref h30, .int 0, .int 0, .ref h31, .ref h32, .ref h33, .ref h34])), (h27, .inl (zI g, 5, .inl (fun _ => 0))), (h28, .inl (zI g, 5, .inl (fun _ => 0)))]) (va_A [(h14, .inl (zI g, 5, .inl (fun _ => 0))), (h26, .inl (zI g, 5, .inl (fun _ => 0))), (h27, .inl (zI g, 5, .inl (fun _ => 0))), (h28, .inl (zI g, 5, .inl (fun _ => 0))), (h1, .inr (0, [.ref h11, .int 0, .ref h12, .int 0, .ref h13, .ref h14, .ref h39, .ref h15, .ref h16, .ref h17, .int 0])), (h0, .inr (2, [.ref h40, .ref h26, .ref h27, .ref h28, .ref h29, .ref h30, .int 0, .int 0, .ref h31, .ref h32, .ref h33, .ref h34]))] sz)) (va_A [(h14, .inl (zI g, 5, .inl (fun _ => 0))), (h26, .inl (zI g, 5, .inl (fun _ => 0))), (h27, .inl (zI g, 5, .inl (fun _ => 0))), (h28, .inl (zI g, 5, .inl (fun _ => 0))), (h1, .inr (0, [.ref h11, .int 0, .ref h12, .int 0, .ref h13, .ref h14, .ref h39, .ref h15, .ref h16, .ref h17, .int 0])), (h0, .inr (2, [.ref h40, .ref h26, .ref h27, .ref h28, .ref h29, .ref h30, .int 0, .int 0, .ref h31, .ref h32, .ref h33, .ref h34]))] sz)) 0 0 (va_A [(h14, .inl (zI g, 5, .inl (fun _ => 0))), (h26, .inl (zI g, 5, .inl (fun _ => 0))), (h27, .inl (zI g, 5, .inl (fun _ => 0))), (h28, .inl (zI g, 5, .inl (fun _ => 0))), (h1, .inr (0, [.ref h11, .int 0, .ref h12, .int 0, .ref h13, .ref h14, .ref h39, .ref h15, .ref h16, .ref h17, .int 0])), (h0, .inr (2, [.ref h40, .ref h26, .ref h27, .ref h28, .ref h29, .ref h30, .int 0, .int 0, .ref h31, .ref h32, .ref h33, .ref h34]))] sz) := by
  refine zMetV rfl (Nat.le_of_ble_eq_true rfl) ?_
  intro p e s m args below meth c A ls hx hb hml hr hlocks hin hown hts hK hN hZ hP hD hA hS hAe hl
  have hown : s.vm.findClass RX2 = some m.cls := hown
  have hl : lv_has ls 2 [(0, .ref h0), (1, .ref h1)] := hl
  refine lv_aload_n hx hb dX2_begin_0 rfl (lv_at hl 1 rfl) ?_
  refine va_getN (D := g.1) (ci := 0) (v := .ref h14) (C := RX0) (T := TX0) (N := 11) hx hb hts zl_X0 hown hK hP 4 rfl rfl 5 (by decide) (hN.f 11 (q := (RX2, 58, "FishSteps$Books", "purse", "[I")) rfl) (fun _ h => h) rfl dX2_begin_1 ?_
  refine lv_iconst (v := 0) hx hb dX2_begin_4 (by decide) ?_
  refine lv_aload_n hx hb dX2_begin_5 rfl (lv_at hl 0 rfl) ?_
  refine va_get (D := g.1) (ci := 2) (v := .ref h26) (C := RX2) (T := TX2) (N := 12) hx hb hts zl_X2 hown hK hP 5 rfl rfl 1 (by decide) (hts _ m_f_RX2_15) (fun _ h => h) rfl dX2_begin_6 ?_
  refine lv_iconst (v := 0) hx hb dX2_begin_9 (by decide) ?_
  refine lv_iconst (v := 5) hx hb dX2_begin_10 (by decide) ?_
  refine va_copyi (D := g.1) (ty := .int) (sp := 0) (dp := 0) (n := 5) hx hb (hml.trans hl.1.symm) hown (hts _ m_m_RX2_52) (hts _ m_n_arraycopyName) (hts _ m_s_arraycopyName) (hts _ m_z_RJ10) hK hP hD hS 0 1 0 0 rfl rfl rfl rfl rfl (by decide) (by decide) (by decide) (by decide) (by decide) (fun _ _ => rfl) (Nat.le_of_ble_eq_true rfl) (Nat.le_of_ble_eq_true rfl) dX2_begin_11 (fun H locs hP hD hS => ?_)
  have hP : va_P g.1 vwCl [(h14, .inl (zI g, 5, .inl (fun _ => 0))), (h26, .inl (zI g, 5, .inl (va_cpy (fun _ => 0) (fun _ => 0) 0 0 5))), (h27, .inl (zI g, 5, .inl (fun _ => 0))), (h28, .inl (zI g, 5, .inl (fun _ => 0))), (h1, .inr (0, [.ref h11, .int 0, .ref h12, .int 0, .ref h13, .ref h14, .ref h39, .ref h15, .ref h16, .ref h17, .int 0])), (h0, .inr (2, [.ref h40, .ref h26, .ref h27, .ref h28, .ref h29, .ref h30, .int 0, .int 0, .ref h31, .ref h32, .ref h33, .ref h34]))] H := hP
  have hD : va_D A [(h14, .inl (zI g, 5, .inl (fun _ => 0))), (h26, .inl (zI g, 5, .inl (va_cpy (fun _ => 0) (fun _ => 0) 0 0 5))), (h27, .inl (zI g, 5, .inl (fun _ => 0))), (h28, .inl (zI g, 5, .inl (fun _ => 0))), (h1, .inr (0, [.ref h11, .int 0, .ref h12, .int 0, .ref h13, .ref h14, .ref h39, .ref h15, .ref h16, .ref h17, .int 0])), (h0, .inr (2, [.ref h40, .ref h26, .ref h27, .ref h28, .ref h29, .ref h30, .int 0, .int 0, .ref h31, .ref h32, .ref h33, .ref h34]))] := hD
  rw [zc_cpy] at hP hD
  refine lv_aload_n hx hb dX2_begin_14 rfl (lv_at hl 0 rfl) ?_
  refine va_get (D := g.1) (ci := 2) (v := .ref h27) (C := RX2) (T := TX2) (N := 12) hx hb hts zl_X2 hown hK hP 5 rfl rfl 2 (by decide) (hts _ m_f_RX2_18) (fun _ h => h) rfl dX2_begin_15 ?_
  refine lv_iconst (v := 0) hx hb dX2_begin_18 (by decide) ?_
  refine z_callv (wr := [(h14, .inl (zI g, 5, .inl (fun _ => 0))), (h26, .inl (zI g, 5, .inl (fun _ => 0))), (h28, .inl (zI g, 5, .inl (fun _ => 0))), (h1, .inr (0, [.ref h11, .int 0, .ref h12, .int 0, .ref h13, .ref h14, .ref h39, .ref h15, .ref h16, .ref h17, .int 0])), (h0, .inr (2, [.ref h40, .ref h26, .ref h27, .ref h28, .ref h29, .ref h30, .int 0, .int 0, .ref h31, .ref h32, .ref h33, .ref h34]))]) hP hD hS hA [2] [0, 1, 3, 4, 5] (by decide) rfl rfl (by decide) (va_runS (As := [.ref h27, .int 0]) (rest := []) ⟨hx, hb, hml, hown, hts⟩ (kJ7_fill_n5 l g h27 H.size (0 : Int32) (fun _ => 0)) ⟨callB_of 2 hts (zGood m_o_yJ7_fill_53178) rfl rfl rfl (hts _ m_z_RJ7) (hts _ m_m_RX2_59) ⟨by decide +kernel, by decide +kernel, by decide +kernel⟩ ⟨Nat.le_of_ble_eq_true rfl, Nat.le_of_ble_eq_true rfl⟩, hts _ m_s_yJ7_fill_53178⟩ (zPreS hK hN hZ hP hD hS hA [2] (by decide) rfl rfl) rfl rfl hl.1 rfl (lv_room (Nat.le_of_ble_eq_true rfl)) dX2_begin_19 ⟨Nat.le_of_ble_eq_true rfl, Nat.le_of_ble_eq_true rfl⟩) (fun u H locs hw hP hD hS => ?_)
  have hP : va_P g.1 vwCl [(h14, .inl (zI g, 5, .inl (fun _ => 0))), (h26, .inl (zI g, 5, .inl (fun _ => 0))), (h28, .inl (zI g, 5, .inl (fun _ => 0))), (h1, .inr (0, [.ref h11, .int 0, .ref h12, .int 0, .ref h13, .ref h14, .ref h39, .ref h15, .ref h16, .ref h17, .int 0])), (h0, .inr (2, [.ref h40, .ref h26, .ref h27, .ref h28, .ref h29, .ref h30, .int 0, .int 0, .ref h31, .ref h32, .ref h33, .ref h34])), (h27, .inl (zI g, 5, .inl (fun _ => 0)))] H := hP
  have hD : va_D A [(h14, .inl (zI g, 5, .inl (fun _ => 0))), (h26, .inl (zI g, 5, .inl (fun _ => 0))), (h28, .inl (zI g, 5, .inl (fun _ => 0))), (h1, .inr (0, [.ref h11, .int 0, .ref h12, .int 0, .ref h13, .ref h14, .ref h39, .ref h15, .ref h16, .ref h17, .int 0])), (h0, .inr (2, [.ref h40, .ref h26, .ref h27, .ref h28, .ref h29, .ref h30, .int 0, .int 0, .ref h31, .ref h32, .ref h33, .ref h34])), (h27, .inl (zI g, 5, .inl (fun _ => 0)))] := hD
  refine lv_aload_n hx hb dX2_begin_22 rfl (lv_at hl 0 rfl) ?_
  refine va_get (D := g.1) (ci := 2) (v := .ref h28) (C := RX2) (T := TX2) (N := 12) hx hb hts zl_X2 hown hK hP 4 rfl rfl 3 (by decide) (hts _ m_f_RX2_21) (fun _ h => h) rfl dX2_begin_23 ?_
  refine lv_iconst (v := 0) hx hb dX2_begin_26 (by decide) ?_
  refine z_callv (wr := [(h14, .inl (zI g, 5, .inl (fun _ => 0))), (h26, .inl (zI g, 5, .inl (fun _ => 0))), (h1, .inr (0, [.ref h11, .int 0, .ref h12, .int 0, .ref h13, .ref h14, .ref h39, .ref h15, .ref h16, .ref h17, .int 0])), (h0, .inr (2, [.ref h40, .ref h26, .ref h27, .ref h28, .ref h29, .ref h30, .int 0, .int 0, .ref h31, .ref h32, .ref h33, .ref h34])), (h27, .inl (zI g, 5, .inl (fun _ => 0)))]) hP hD hS hA [2] [0, 1, 3, 4, 5] (by decide) rfl rfl (by decide) (va_runS (As := [.ref h28, .int 0]) (rest := []) ⟨hx, hb, hml, hown, hts⟩ (kJ7_fill_n5 l g h28 H.size (0 : Int32) (fun _ => 0)) ⟨callB_of 2 hts (zGood m_o_yJ7_fill_53178) rfl rfl rfl (hts _ m_z_RJ7) (hts _ m_m_RX2_59) ⟨by decide +kernel, by decide +kernel, by decide +kernel⟩ ⟨Nat.le_of_ble_eq_true rfl, Nat.le_of_ble_eq_true rfl⟩, hts _ m_s_yJ7_fill_53178⟩ (zPreS hK hN hZ hP hD hS hA [2] (by decide) rfl rfl) rfl rfl hl.1 rfl (lv_room (Nat.le_of_ble_eq_true rfl)) dX2_begin_27 ⟨Nat.le_of_ble_eq_true rfl, Nat.le_of_ble_eq_true rfl⟩) (fun u H locs hw hP hD hS => ?_)
  have hP : va_P g.1 vwCl [(h14, .inl (zI g, 5, .inl (fun _ => 0))), (h26, .inl (zI g, 5, .inl (fun _ => 0))), (h1, .inr (0, [.ref h11, .int 0, .ref h12, .int 0, .ref h13, .ref h14, .ref h39, .ref h15, .ref h16, .ref h17, .int 0])), (h0, .inr (2, [.ref h40, .ref h26, .ref h27, .ref h28, .ref h29, .ref h30, .int 0, .int 0, .ref h31, .ref h32, .ref h33, .ref h34])), (h27, .inl (zI g, 5, .inl (fun _ => 0))), (h28, .inl (zI g, 5, .inl (fun _ => 0)))] H := hP
  have hD : va_D A [(h14, .inl (zI g, 5, .inl (fun _ => 0))), (h26, .inl (zI g, 5, .inl (fun _ => 0))), (h1, .inr (0, [.ref h11, .int 0, .ref h12, .int 0, .ref h13, .ref h14, .ref h39, .ref h15, .ref h16, .ref h17, .int 0])), (h0, .inr (2, [.ref h40, .ref h26, .ref h27, .ref h28, .ref h29, .ref h30, .int 0, .int 0, .ref h31, .ref h32, .ref h33, .ref h34])), (h27, .inl (zI g, 5, .inl (fun _ => 0))), (h28, .inl (zI g, 5, .inl (fun _ => 0)))] := hD
  have hP9 := hP.sub (ws' := [(h14, .inl (zI g, 5, .inl (fun _ => 0))), (h26, .inl (zI g, 5, .inl (fun _ => 0))), (h1, .inr (0, [.ref h11, .int 0, .ref h12, .int 0, .ref h13, .ref h14, .ref h39, .ref h15, .ref h16, .ref h17, .int 0])), (h0, .inr (2, [.ref h40, .ref h26, .ref h27, .ref h28, .ref h29, .ref h30, .int 0, .int 0, .ref h31, .ref h32, .ref h33, .ref h34])), (h27, .inl (zI g, 5, .inl (fun _ => 0))), (h28, .inl (zI g, 5, .inl (fun _ => 0)))]) [0, 1, 2, 3, 4, 5] rfl
  have hD9 := hD.sub (ws' := [(h14, .inl (zI g, 5, .inl (fun _ => 0))), (h26, .inl (zI g, 5, .inl (fun _ => 0))), (h1, .inr (0, [.ref h11, .int 0, .ref h12, .int 0, .ref h13, .ref h14, .ref h39, .ref h15, .ref h16, .ref h17, .int 0])), (h0, .inr (2, [.ref h40, .ref h26, .ref h27, .ref h28, .ref h29, .ref h30, .int 0, .int 0, .ref h31, .ref h32, .ref h33, .ref h34])), (h27, .inl (zI g, 5, .inl (fun _ => 0))), (h28, .inl (zI g, 5, .inl (fun _ => 0)))]) [0, 1, 2, 3, 4, 5] (by decide) rfl
  exact W.vret hx hb hr (fun t ht hW => ⟨⟨0, rfl, trivial, by rw [ht]; exact hP9, hD9⟩, hS.F ht⟩) hS.2.2 dX2_begin_30
set_option maxHeartbeats 4000000 in
set_option maxRecDepth 100000 in
theorem kX2_begin_2 (l : Launch) (g : zG) (h0 h1 h2 h3 h4 h5 h6 h7 h8 h9 h10 h11 h12 h13 h14 h15 h16 h17 h18 h19 : Nat) (sz : Nat) : Met l yX2_begin (.code yX2_begin cX2_begin 2 none :: zBig) ({ frames := 1, cells := 0, slots := 0, locals := 60 }) (va_Pc [.ref h0, .ref h1] (zPre g [(h2, .inl (zI g, 5, .inl (fun _ => 0))), (h3, .inl (zI g, 5, .inl (fun _ => 0))), (h4, .inl (zI g, 5, .inl (fun _ => 0))), (h5, .inl (zI g, 5, .inl (fun _ => 0))), (h1, .inr (0, [.ref h6, .int 0, .ref h7, .int 0, .ref h8, .ref h2, .ref h9, .ref h10, .ref h11, .ref h12, .int 0])), (h0, .inr (2, [.ref h13, .ref h3, .ref h4, .ref h5, .ref h14, .ref h15, .int 0, .int 0, .ref h16, .ref h17, .ref h18, .ref h19]))] sz)) (va_Qv (fun _ : Nat => True) (zPost g (fun _ : Nat => [(h2, .inl (zI g, 5, .inl (fun _ => 0))), (h3, .inl (zI g, 5, .inl (fun _ => 0))), (h1, .inr (0, [.ref h6, .int 0, .ref h7, .int 0, .ref h8, .ref h2, .ref h9, .ref h10, .ref h11, .ref h12, .int 0])), (h0, .inr (2, [.ref h13, .ref h3, .ref h4, .ref h5, .ref h14, .ref h15, .int 0, .int 0, .ref h16, .ref h17, .ref h18, .ref h19])), (h4, .inl (zI g, 5, .inl (fun _ => 0))), (h5, .inl (zI g, 5, .inl (fun _ => 0)))]) (va_A [(h2, .inl (zI g, 5, .inl (fun _ => 0))), (h3, .inl (zI g, 5, .inl (fun _ => 0))), (h4, .inl (zI g, 5, .inl (fun _ => 0))), (h5, .inl (zI g, 5, .inl (fun _ => 0))), (h1, .inr (0, [.ref h6, .int 0, .ref h7, .int 0, .ref h8, .ref h2, .ref h9, .ref h10, .ref h11, .ref h12, .int 0])), (h0, .inr (2, [.ref h13, .ref h3, .ref h4, .ref h5, .ref h14, .ref h15, .int 0, .int 0, .ref h16, .ref h17, .ref h18, .ref h19]))] sz)) (va_A [(h2, .inl (zI g, 5, .inl (fun _ => 0))), (h3, .inl (zI g, 5, .inl (fun _ => 0))), (h4, .inl (zI g, 5, .inl (fun _ => 0))), (h5, .inl (zI g, 5, .inl (fun _ => 0))), (h1, .inr (0, [.ref h6, .int 0, .ref h7, .int 0, .ref h8, .ref h2, .ref h9, .ref h10, .ref h11, .ref h12, .int 0])), (h0, .inr (2, [.ref h13, .ref h3, .ref h4, .ref h5, .ref h14, .ref h15, .int 0, .int 0, .ref h16, .ref h17, .ref h18, .ref h19]))] sz)) 0 0 (va_A [(h2, .inl (zI g, 5, .inl (fun _ => 0))), (h3, .inl (zI g, 5, .inl (fun _ => 0))), (h4, .inl (zI g, 5, .inl (fun _ => 0))), (h5, .inl (zI g, 5, .inl (fun _ => 0))), (h1, .inr (0, [.ref h6, .int 0, .ref h7, .int 0, .ref h8, .ref h2, .ref h9, .ref h10, .ref h11, .ref h12, .int 0])), (h0, .inr (2, [.ref h13, .ref h3, .ref h4, .ref h5, .ref h14, .ref h15, .int 0, .int 0, .ref h16, .ref h17, .ref h18, .ref h19]))] sz) := by
  refine zMetV rfl (Nat.le_of_ble_eq_true rfl) ?_
  intro p e s m args below meth c A ls hx hb hml hr hlocks hin hown hts hK hN hZ hP hD hA hS hAe hl
  have hown : s.vm.findClass RX2 = some m.cls := hown
  have hl : lv_has ls 2 [(0, .ref h0), (1, .ref h1)] := hl
  refine lv_aload_n hx hb dX2_begin_0 rfl (lv_at hl 1 rfl) ?_
  refine va_getN (D := g.1) (ci := 0) (v := .ref h2) (C := RX0) (T := TX0) (N := 11) hx hb hts zl_X0 hown hK hP 4 rfl rfl 5 (by decide) (hN.f 11 (q := (RX2, 58, "FishSteps$Books", "purse", "[I")) rfl) (fun _ h => h) rfl dX2_begin_1 ?_
  refine lv_iconst (v := 0) hx hb dX2_begin_4 (by decide) ?_
  refine lv_aload_n hx hb dX2_begin_5 rfl (lv_at hl 0 rfl) ?_
  refine va_get (D := g.1) (ci := 2) (v := .ref h3) (C := RX2) (T := TX2) (N := 12) hx hb hts zl_X2 hown hK hP 5 rfl rfl 1 (by decide) (hts _ m_f_RX2_15) (fun _ h => h) rfl dX2_begin_6 ?_
  refine lv_iconst (v := 0) hx hb dX2_begin_9 (by decide) ?_
  refine lv_iconst (v := 5) hx hb dX2_begin_10 (by decide) ?_
  refine va_copyi (D := g.1) (ty := .int) (sp := 0) (dp := 0) (n := 5) hx hb (hml.trans hl.1.symm) hown (hts _ m_m_RX2_52) (hts _ m_n_arraycopyName) (hts _ m_s_arraycopyName) (hts _ m_z_RJ10) hK hP hD hS 0 1 0 0 rfl rfl rfl rfl rfl (by decide) (by decide) (by decide) (by decide) (by decide) (fun _ _ => rfl) (Nat.le_of_ble_eq_true rfl) (Nat.le_of_ble_eq_true rfl) dX2_begin_11 (fun H locs hP hD hS => ?_)
  have hP : va_P g.1 vwCl [(h2, .inl (zI g, 5, .inl (fun _ => 0))), (h3, .inl (zI g, 5, .inl (va_cpy (fun _ => 0) (fun _ => 0) 0 0 5))), (h4, .inl (zI g, 5, .inl (fun _ => 0))), (h5, .inl (zI g, 5, .inl (fun _ => 0))), (h1, .inr (0, [.ref h6, .int 0, .ref h7, .int 0, .ref h8, .ref h2, .ref h9, .ref h10, .ref h11, .ref h12, .int 0])), (h0, .inr (2, [.ref h13, .ref h3, .ref h4, .ref h5, .ref h14, .ref h15, .int 0, .int 0, .ref h16, .ref h17, .ref h18, .ref h19]))] H := hP
  have hD : va_D A [(h2, .inl (zI g, 5, .inl (fun _ => 0))), (h3, .inl (zI g, 5, .inl (va_cpy (fun _ => 0) (fun _ => 0) 0 0 5))), (h4, .inl (zI g, 5, .inl (fun _ => 0))), (h5, .inl (zI g, 5, .inl (fun _ => 0))), (h1, .inr (0, [.ref h6, .int 0, .ref h7, .int 0, .ref h8, .ref h2, .ref h9, .ref h10, .ref h11, .ref h12, .int 0])), (h0, .inr (2, [.ref h13, .ref h3, .ref h4, .ref h5, .ref h14, .ref h15, .int 0, .int 0, .ref h16, .ref h17, .ref h18, .ref h19]))] := hD
  rw [zc_cpy] at hP hD
  refine lv_aload_n hx hb dX2_begin_14 rfl (lv_at hl 0 rfl) ?_
  refine va_get (D := g.1) (ci := 2) (v := .ref h4) (C := RX2) (T := TX2) (N := 12) hx hb hts zl_X2 hown hK hP 5 rfl rfl 2 (by decide) (hts _ m_f_RX2_18) (fun _ h => h) rfl dX2_begin_15 ?_
  refine lv_iconst (v := 0) hx hb dX2_begin_18 (by decide) ?_
  refine z_callv (wr := [(h2, .inl (zI g, 5, .inl (fun _ => 0))), (h3, .inl (zI g, 5, .inl (fun _ => 0))), (h5, .inl (zI g, 5, .inl (fun _ => 0))), (h1, .inr (0, [.ref h6, .int 0, .ref h7, .int 0, .ref h8, .ref h2, .ref h9, .ref h10, .ref h11, .ref h12, .int 0])), (h0, .inr (2, [.ref h13, .ref h3, .ref h4, .ref h5, .ref h14, .ref h15, .int 0, .int 0, .ref h16, .ref h17, .ref h18, .ref h19]))]) hP hD hS hA [2] [0, 1, 3, 4, 5] (by decide) rfl rfl (by decide) (va_runS (As := [.ref h4, .int 0]) (rest := []) ⟨hx, hb, hml, hown, hts⟩ (kJ7_fill_n5 l g h4 H.size (0 : Int32) (fun _ => 0)) ⟨callB_of 2 hts (zGood m_o_yJ7_fill_53178) rfl rfl rfl (hts _ m_z_RJ7) (hts _ m_m_RX2_59) ⟨by decide +kernel, by decide +kernel, by decide +kernel⟩ ⟨Nat.le_of_ble_eq_true rfl, Nat.le_of_ble_eq_true rfl⟩, hts _ m_s_yJ7_fill_53178⟩ (zPreS hK hN hZ hP hD hS hA [2] (by decide) rfl rfl) rfl rfl hl.1 rfl (lv_room (Nat.le_of_ble_eq_true rfl)) dX2_begin_19 ⟨Nat.le_of_ble_eq_true rfl, Nat.le_of_ble_eq_true rfl⟩) (fun u H locs hw hP hD hS => ?_)
  have hP : va_P g.1 vwCl [(h2, .inl (zI g, 5, .inl (fun _ => 0))), (h3, .inl (zI g, 5, .inl (fun _ => 0))), (h5, .inl (zI g, 5, .inl (fun _ => 0))), (h1, .inr (0, [.ref h6, .int 0, .ref h7, .int 0, .ref h8, .ref h2, .ref h9, .ref h10, .ref h11, .ref h12, .int 0])), (h0, .inr (2, [.ref h13, .ref h3, .ref h4, .ref h5, .ref h14, .ref h15, .int 0, .int 0, .ref h16, .ref h17, .ref h18, .ref h19])), (h4, .inl (zI g, 5, .inl (fun _ => 0)))] H := hP
  have hD : va_D A [(h2, .inl (zI g, 5, .inl (fun _ => 0))), (h3, .inl (zI g, 5, .inl (fun _ => 0))), (h5, .inl (zI g, 5, .inl (fun _ => 0))), (h1, .inr (0, [.ref h6, .int 0, .ref h7, .int 0, .ref h8, .ref h2, .ref h9, .ref h10, .ref h11, .ref h12, .int 0])), (h0, .inr (2, [.ref h13, .ref h3, .ref h4, .ref h5, .ref h14, .ref h15, .int 0, .int 0, .ref h16, .ref h17, .ref h18, .ref h19])), (h4, .inl (zI g, 5, .inl (fun _ => 0)))] := hD
  refine lv_aload_n hx hb dX2_begin_22 rfl (lv_at hl 0 rfl) ?_
  refine va_get (D := g.1) (ci := 2) (v := .ref h5) (C := RX2) (T := TX2) (N := 12) hx hb hts zl_X2 hown hK hP 4 rfl rfl 3 (by decide) (hts _ m_f_RX2_21) (fun _ h => h) rfl dX2_begin_23 ?_
  refine lv_iconst (v := 0) hx hb dX2_begin_26 (by decide) ?_
  refine z_callv (wr := [(h2, .inl (zI g, 5, .inl (fun _ => 0))), (h3, .inl (zI g, 5, .inl (fun _ => 0))), (h1, .inr (0, [.ref h6, .int 0, .ref h7, .int 0, .ref h8, .ref h2, .ref h9, .ref h10, .ref h11, .ref h12, .int 0])), (h0, .inr (2, [.ref h13, .ref h3, .ref h4, .ref h5, .ref h14, .ref h15, .int 0, .int 0, .ref h16, .ref h17, .ref h18, .ref h19])), (h4, .inl (zI g, 5, .inl (fun _ => 0)))]) hP hD hS hA [2] [0, 1, 3, 4, 5] (by decide) rfl rfl (by decide) (va_runS (As := [.ref h5, .int 0]) (rest := []) ⟨hx, hb, hml, hown, hts⟩ (kJ7_fill_n5 l g h5 H.size (0 : Int32) (fun _ => 0)) ⟨callB_of 2 hts (zGood m_o_yJ7_fill_53178) rfl rfl rfl (hts _ m_z_RJ7) (hts _ m_m_RX2_59) ⟨by decide +kernel, by decide +kernel, by decide +kernel⟩ ⟨Nat.le_of_ble_eq_true rfl, Nat.le_of_ble_eq_true rfl⟩, hts _ m_s_yJ7_fill_53178⟩ (zPreS hK hN hZ hP hD hS hA [2] (by decide) rfl rfl) rfl rfl hl.1 rfl (lv_room (Nat.le_of_ble_eq_true rfl)) dX2_begin_27 ⟨Nat.le_of_ble_eq_true rfl, Nat.le_of_ble_eq_true rfl⟩) (fun u H locs hw hP hD hS => ?_)
  have hP : va_P g.1 vwCl [(h2, .inl (zI g, 5, .inl (fun _ => 0))), (h3, .inl (zI g, 5, .inl (fun _ => 0))), (h1, .inr (0, [.ref h6, .int 0, .ref h7, .int 0, .ref h8, .ref h2, .ref h9, .ref h10, .ref h11, .ref h12, .int 0])), (h0, .inr (2, [.ref h13, .ref h3, .ref h4, .ref h5, .ref h14, .ref h15, .int 0, .int 0, .ref h16, .ref h17, .ref h18, .ref h19])), (h4, .inl (zI g, 5, .inl (fun _ => 0))), (h5, .inl (zI g, 5, .inl (fun _ => 0)))] H := hP
  have hD : va_D A [(h2, .inl (zI g, 5, .inl (fun _ => 0))), (h3, .inl (zI g, 5, .inl (fun _ => 0))), (h1, .inr (0, [.ref h6, .int 0, .ref h7, .int 0, .ref h8, .ref h2, .ref h9, .ref h10, .ref h11, .ref h12, .int 0])), (h0, .inr (2, [.ref h13, .ref h3, .ref h4, .ref h5, .ref h14, .ref h15, .int 0, .int 0, .ref h16, .ref h17, .ref h18, .ref h19])), (h4, .inl (zI g, 5, .inl (fun _ => 0))), (h5, .inl (zI g, 5, .inl (fun _ => 0)))] := hD
  have hP9 := hP.sub (ws' := [(h2, .inl (zI g, 5, .inl (fun _ => 0))), (h3, .inl (zI g, 5, .inl (fun _ => 0))), (h1, .inr (0, [.ref h6, .int 0, .ref h7, .int 0, .ref h8, .ref h2, .ref h9, .ref h10, .ref h11, .ref h12, .int 0])), (h0, .inr (2, [.ref h13, .ref h3, .ref h4, .ref h5, .ref h14, .ref h15, .int 0, .int 0, .ref h16, .ref h17, .ref h18, .ref h19])), (h4, .inl (zI g, 5, .inl (fun _ => 0))), (h5, .inl (zI g, 5, .inl (fun _ => 0)))]) [0, 1, 2, 3, 4, 5] rfl
  have hD9 := hD.sub (ws' := [(h2, .inl (zI g, 5, .inl (fun _ => 0))), (h3, .inl (zI g, 5, .inl (fun _ => 0))), (h1, .inr (0, [.ref h6, .int 0, .ref h7, .int 0, .ref h8, .ref h2, .ref h9, .ref h10, .ref h11, .ref h12, .int 0])), (h0, .inr (2, [.ref h13, .ref h3, .ref h4, .ref h5, .ref h14, .ref h15, .int 0, .int 0, .ref h16, .ref h17, .ref h18, .ref h19])), (h4, .inl (zI g, 5, .inl (fun _ => 0))), (h5, .inl (zI g, 5, .inl (fun _ => 0)))]) [0, 1, 2, 3, 4, 5] (by decide) rfl
  exact W.vret hx hb hr (fun t ht hW => ⟨⟨0, rfl, trivial, by rw [ht]; exact hP9, hD9⟩, hS.F ht⟩) hS.2.2 dX2_begin_30
set_option maxHeartbeats 4000000 in
set_option maxRecDepth 100000 in
theorem kX2_tillBy (l : Launch) (g : zG) (h0 h1 h11 h12 h13 h14 h15 h16 h17 h26 h27 h28 h29 h30 h31 h32 h33 h34 h39 h40 : Nat) (sz : Nat) (p2 : Int32) : Met l yX2_tillBy (.code yX2_tillBy cX2_tillBy 5 (some .int) :: zBig) ({ frames := 2, cells := 0, slots := 0, locals := 81 }) (va_Pc [.ref h0, .ref h1, .int p2] (zPre g [(h14, .inl (zI g, 5, .inl (fun _ => 0))), (h26, .inl (zI g, 5, .inl (fun _ => 0))), (h27, .inl (zI g, 5, .inl (fun _ => 0))), (h28, .inl (zI g, 5, .inl (fun _ => 0))), (h1, .inr (0, [.ref h11, .int 0, .ref h12, .int 0, .ref h13, .ref h14, .ref h39, .ref h15, .ref h16, .ref h17, .int 0])), (h0, .inr (2, [.ref h40, .ref h26, .ref h27, .ref h28, .ref h29, .ref h30, .int 0, .int 0, .ref h31, .ref h32, .ref h33, .ref h34]))] sz)) (va_Qi (fun (r : Int32) (_ : Nat) => r = 0) (zPost g (fun _ : Nat => [(h14, .inl (zI g, 5, .inl (fun _ => 0))), (h26, .inl (zI g, 5, .inl (fun _ => 0))), (h1, .inr (0, [.ref h11, .int 0, .ref h12, .int 0, .ref h13, .ref h14, .ref h39, .ref h15, .ref h16, .ref h17, .int 0])), (h0, .inr (2, [.ref h40, .ref h26, .ref h27, .ref h28, .ref h29, .ref h30, .int 0, .int 0, .ref h31, .ref h32, .ref h33, .ref h34])), (h27, .inl (zI g, 5, .inl (fun _ => 0))), (h28, .inl (zI g, 5, .inl (fun _ => 0)))]) (va_A [(h14, .inl (zI g, 5, .inl (fun _ => 0))), (h26, .inl (zI g, 5, .inl (fun _ => 0))), (h27, .inl (zI g, 5, .inl (fun _ => 0))), (h28, .inl (zI g, 5, .inl (fun _ => 0))), (h1, .inr (0, [.ref h11, .int 0, .ref h12, .int 0, .ref h13, .ref h14, .ref h39, .ref h15, .ref h16, .ref h17, .int 0])), (h0, .inr (2, [.ref h40, .ref h26, .ref h27, .ref h28, .ref h29, .ref h30, .int 0, .int 0, .ref h31, .ref h32, .ref h33, .ref h34]))] sz)) (va_A [(h14, .inl (zI g, 5, .inl (fun _ => 0))), (h26, .inl (zI g, 5, .inl (fun _ => 0))), (h27, .inl (zI g, 5, .inl (fun _ => 0))), (h28, .inl (zI g, 5, .inl (fun _ => 0))), (h1, .inr (0, [.ref h11, .int 0, .ref h12, .int 0, .ref h13, .ref h14, .ref h39, .ref h15, .ref h16, .ref h17, .int 0])), (h0, .inr (2, [.ref h40, .ref h26, .ref h27, .ref h28, .ref h29, .ref h30, .int 0, .int 0, .ref h31, .ref h32, .ref h33, .ref h34]))] sz)) 0 0 (va_A [(h14, .inl (zI g, 5, .inl (fun _ => 0))), (h26, .inl (zI g, 5, .inl (fun _ => 0))), (h27, .inl (zI g, 5, .inl (fun _ => 0))), (h28, .inl (zI g, 5, .inl (fun _ => 0))), (h1, .inr (0, [.ref h11, .int 0, .ref h12, .int 0, .ref h13, .ref h14, .ref h39, .ref h15, .ref h16, .ref h17, .int 0])), (h0, .inr (2, [.ref h40, .ref h26, .ref h27, .ref h28, .ref h29, .ref h30, .int 0, .int 0, .ref h31, .ref h32, .ref h33, .ref h34]))] sz) := by
  refine zMetI rfl (Nat.le_of_ble_eq_true rfl) ?_
  intro p e s m args below meth c A ls hx hb hml hr hlocks hin hown hts hK hN hZ hP hD hA hS hAe hl
  have hown : s.vm.findClass RX2 = some m.cls := hown
  have hl : lv_has ls 5 [(0, .ref h0), (1, .ref h1), (2, .int p2)] := hl
  refine lv_aload_n hx hb dX2_tillBy_0 rfl (lv_at hl 0 rfl) ?_
  refine lv_aload_n hx hb dX2_tillBy_1 rfl (lv_at hl 1 rfl) ?_
  refine z_callv (wr := []) hP hD hS hA [0, 1, 2, 3, 4, 5] [] (by decide) rfl rfl (by decide) (va_runV (As := [.ref h1]) (rest := []) ⟨hx, hb, hml, hown, hts⟩ (kX2_begin_2 l g h0 h1 h14 h26 h27 h28 h11 h12 h13 h39 h15 h16 h17 h40 h29 h30 h31 h32 h33 h34 s.heap.size) ⟨callB_of 1 hts (zGood m_o_yX2_begin) rfl rfl rfl (hts _ m_z_RX2) (hts _ m_m_RX2_73) ⟨by decide +kernel, by decide +kernel, by decide +kernel⟩ ⟨Nat.le_of_ble_eq_true rfl, Nat.le_of_ble_eq_true rfl⟩, hts _ m_i_yX2_begin, hts _ m_e_yX2_begin⟩ (zPreV hK hN hZ hP hD hS hA [0, 1, 2, 3, 4, 5] (by decide) rfl rfl 2 5 rfl rfl) rfl rfl hl.1 rfl (lv_room (Nat.le_of_ble_eq_true rfl)) dX2_tillBy_2 ⟨Nat.le_of_ble_eq_true rfl, Nat.le_of_ble_eq_true rfl⟩) (fun u H locs hw hP hD hS => ?_)
  have hP : va_P g.1 vwCl [(h14, .inl (zI g, 5, .inl (fun _ => 0))), (h26, .inl (zI g, 5, .inl (fun _ => 0))), (h1, .inr (0, [.ref h11, .int 0, .ref h12, .int 0, .ref h13, .ref h14, .ref h39, .ref h15, .ref h16, .ref h17, .int 0])), (h0, .inr (2, [.ref h40, .ref h26, .ref h27, .ref h28, .ref h29, .ref h30, .int 0, .int 0, .ref h31, .ref h32, .ref h33, .ref h34])), (h27, .inl (zI g, 5, .inl (fun _ => 0))), (h28, .inl (zI g, 5, .inl (fun _ => 0)))] H := hP
  have hD : va_D A [(h14, .inl (zI g, 5, .inl (fun _ => 0))), (h26, .inl (zI g, 5, .inl (fun _ => 0))), (h1, .inr (0, [.ref h11, .int 0, .ref h12, .int 0, .ref h13, .ref h14, .ref h39, .ref h15, .ref h16, .ref h17, .int 0])), (h0, .inr (2, [.ref h40, .ref h26, .ref h27, .ref h28, .ref h29, .ref h30, .int 0, .int 0, .ref h31, .ref h32, .ref h33, .ref h34])), (h27, .inl (zI g, 5, .inl (fun _ => 0))), (h28, .inl (zI g, 5, .inl (fun _ => 0)))] := hD
  refine lv_iconst (v := 0) hx hb dX2_tillBy_5 (by decide) ?_
  refine lv_istore_n (lv' := [(3, .int 0), (0, .ref h0), (1, .ref h1), (2, .int p2)]) hx hb dX2_tillBy_6 rfl hl (by decide) rfl (fun ls hl => ?_)
  refine lv_iconst (v := 0) hx hb dX2_tillBy_7 (by decide) ?_
  refine lv_istore (lv' := [(4, .int 0), (3, .int 0), (0, .ref h0), (1, .ref h1), (2, .int p2)]) hx hb dX2_tillBy_8 hl (by decide) rfl (fun ls hl => ?_)
  refine lv_iload hx hb dX2_tillBy_10 (lv_at hl 0 rfl) ?_
  refine lv_bipush (v := 6) hx hb dX2_tillBy_12 (by decide) ?_
  refine lv_icmp_ge (tgt := 80) hx hb dX2_tillBy_14 (by decide) (fun h => absurd h (by decide +kernel)) (fun _ => ?_)
  refine lv_iload hx hb dX2_tillBy_17 (lv_at hl 0 rfl) ?_
  refine lv_aload_n hx hb dX2_tillBy_19 rfl (lv_at hl 3 rfl) ?_
  refine va_getN (D := g.1) (ci := 0) (v := .int 0) (C := RX0) (T := TX0) (N := 11) hx hb hts zl_X0 hown hK hP 2 rfl rfl 1 (by decide) (hN.f 3 (q := (RX2, 76, "FishSteps$Books", "lots", "I")) rfl) (fun _ h => h) rfl dX2_tillBy_20 ?_
  refine lv_icmp_ge (tgt := 80) hx hb dX2_tillBy_23 (by decide) (fun _ => ?_) (fun h => absurd h (by decide +kernel))
  refine lv_iload_n hx hb dX2_tillBy_80 rfl (lv_at hl 1 rfl) ?_
  have hP9 := hP.sub (ws' := [(h14, .inl (zI g, 5, .inl (fun _ => 0))), (h26, .inl (zI g, 5, .inl (fun _ => 0))), (h1, .inr (0, [.ref h11, .int 0, .ref h12, .int 0, .ref h13, .ref h14, .ref h39, .ref h15, .ref h16, .ref h17, .int 0])), (h0, .inr (2, [.ref h40, .ref h26, .ref h27, .ref h28, .ref h29, .ref h30, .int 0, .int 0, .ref h31, .ref h32, .ref h33, .ref h34])), (h27, .inl (zI g, 5, .inl (fun _ => 0))), (h28, .inl (zI g, 5, .inl (fun _ => 0)))]) [0, 1, 2, 3, 4, 5] rfl
  have hD9 := hD.sub (ws' := [(h14, .inl (zI g, 5, .inl (fun _ => 0))), (h26, .inl (zI g, 5, .inl (fun _ => 0))), (h1, .inr (0, [.ref h11, .int 0, .ref h12, .int 0, .ref h13, .ref h14, .ref h39, .ref h15, .ref h16, .ref h17, .int 0])), (h0, .inr (2, [.ref h40, .ref h26, .ref h27, .ref h28, .ref h29, .ref h30, .int 0, .int 0, .ref h31, .ref h32, .ref h33, .ref h34])), (h27, .inl (zI g, 5, .inl (fun _ => 0))), (h28, .inl (zI g, 5, .inl (fun _ => 0)))]) [0, 1, 2, 3, 4, 5] (by decide) rfl
  exact W.iret (v := 0) hx hb hr (fun t ht hW => ⟨⟨0, 0, rfl, rfl, by rw [ht]; exact hP9, hD9⟩, hS.F ht⟩) hS.2.2 dX2_tillBy_81
set_option maxHeartbeats 4000000 in
set_option maxRecDepth 100000 in
theorem kX2_takeMargins_2 (l : Launch) (g : zG) (h0 h1 h11 h12 h13 h14 h15 h16 h17 h18 h19 h20 h21 h22 h23 h24 h25 h26 h27 h28 : Nat) (sz : Nat) : Met l yX2_takeMargins (.code yX2_takeMargins cX2_takeMargins 2 none :: zBig) ({ frames := 1, cells := 0, slots := 0, locals := 60 }) (va_Pc [.ref h0, .ref h1] (zPre g [(h1, .inr (0, [.ref h11, .int 0, .ref h12, .int 0, .ref h13, .ref h14, .ref h15, .ref h16, .ref h17, .ref h18, .int 0])), (h15, .inl (zI g, 5, .inl (fun _ => 0))), (h0, .inr (2, [.ref h19, .ref h20, .ref h21, .ref h22, .ref h23, .ref h24, .int 0, .int 0, .ref h25, .ref h26, .ref h27, .ref h28])), (h19, .inl (zI g, 5, .inl (fun _ => 0)))] sz)) (va_Qv (fun _ : Nat => True) (zPost g (fun _ : Nat => [(h1, .inr (0, [.ref h11, .int 0, .ref h12, .int 0, .ref h13, .ref h14, .ref h15, .ref h16, .ref h17, .ref h18, .int 0])), (h15, .inl (zI g, 5, .inl (fun _ => 0))), (h0, .inr (2, [.ref h19, .ref h20, .ref h21, .ref h22, .ref h23, .ref h24, .int 0, .int 0, .ref h25, .ref h26, .ref h27, .ref h28])), (h19, .inl (zI g, 5, .inl (fun _ => 0)))]) (va_A [(h1, .inr (0, [.ref h11, .int 0, .ref h12, .int 0, .ref h13, .ref h14, .ref h15, .ref h16, .ref h17, .ref h18, .int 0])), (h15, .inl (zI g, 5, .inl (fun _ => 0))), (h0, .inr (2, [.ref h19, .ref h20, .ref h21, .ref h22, .ref h23, .ref h24, .int 0, .int 0, .ref h25, .ref h26, .ref h27, .ref h28])), (h19, .inl (zI g, 5, .inl (fun _ => 0)))] sz)) (va_A [(h1, .inr (0, [.ref h11, .int 0, .ref h12, .int 0, .ref h13, .ref h14, .ref h15, .ref h16, .ref h17, .ref h18, .int 0])), (h15, .inl (zI g, 5, .inl (fun _ => 0))), (h0, .inr (2, [.ref h19, .ref h20, .ref h21, .ref h22, .ref h23, .ref h24, .int 0, .int 0, .ref h25, .ref h26, .ref h27, .ref h28])), (h19, .inl (zI g, 5, .inl (fun _ => 0)))] sz)) 0 0 (va_A [(h1, .inr (0, [.ref h11, .int 0, .ref h12, .int 0, .ref h13, .ref h14, .ref h15, .ref h16, .ref h17, .ref h18, .int 0])), (h15, .inl (zI g, 5, .inl (fun _ => 0))), (h0, .inr (2, [.ref h19, .ref h20, .ref h21, .ref h22, .ref h23, .ref h24, .int 0, .int 0, .ref h25, .ref h26, .ref h27, .ref h28])), (h19, .inl (zI g, 5, .inl (fun _ => 0)))] sz) := by
  refine zMetV rfl (Nat.le_of_ble_eq_true rfl) ?_
  intro p e s m args below meth c A ls hx hb hml hr hlocks hin hown hts hK hN hZ hP hD hA hS hAe hl
  have hown : s.vm.findClass RX2 = some m.cls := hown
  have hl : lv_has ls 2 [(0, .ref h0), (1, .ref h1)] := hl
  refine lv_aload_n hx hb dX2_takeMargins_0 rfl (lv_at hl 1 rfl) ?_
  refine va_getN (D := g.1) (ci := 0) (v := .ref h15) (C := RX0) (T := TX0) (N := 11) hx hb hts zl_X0 hown hK hP 0 rfl rfl 6 (by decide) (hN.f 13 (q := (RX2, 49, "FishSteps$Books", "margin", "[I")) rfl) (fun _ h => h) rfl dX2_takeMargins_1 ?_
  refine lv_iconst (v := 0) hx hb dX2_takeMargins_4 (by decide) ?_
  refine lv_aload_n hx hb dX2_takeMargins_5 rfl (lv_at hl 0 rfl) ?_
  refine va_get (D := g.1) (ci := 2) (v := .ref h19) (C := RX2) (T := TX2) (N := 12) hx hb hts zl_X2 hown hK hP 2 rfl rfl 0 (by decide) (hts _ m_f_RX2_9) (fun _ h => h) rfl dX2_takeMargins_6 ?_
  refine lv_iconst (v := 0) hx hb dX2_takeMargins_9 (by decide) ?_
  refine lv_iconst (v := 5) hx hb dX2_takeMargins_10 (by decide) ?_
  refine va_copyi (D := g.1) (ty := .int) (sp := 0) (dp := 0) (n := 5) hx hb (hml.trans hl.1.symm) hown (hts _ m_m_RX2_52) (hts _ m_n_arraycopyName) (hts _ m_s_arraycopyName) (hts _ m_z_RJ10) hK hP hD hS 1 3 0 0 rfl rfl rfl rfl rfl (by decide) (by decide) (by decide) (by decide) (by decide) (fun _ _ => rfl) (Nat.le_of_ble_eq_true rfl) (Nat.le_of_ble_eq_true rfl) dX2_takeMargins_11 (fun H locs hP hD hS => ?_)
  have hP : va_P g.1 vwCl [(h1, .inr (0, [.ref h11, .int 0, .ref h12, .int 0, .ref h13, .ref h14, .ref h15, .ref h16, .ref h17, .ref h18, .int 0])), (h15, .inl (zI g, 5, .inl (fun _ => 0))), (h0, .inr (2, [.ref h19, .ref h20, .ref h21, .ref h22, .ref h23, .ref h24, .int 0, .int 0, .ref h25, .ref h26, .ref h27, .ref h28])), (h19, .inl (zI g, 5, .inl (va_cpy (fun _ => 0) (fun _ => 0) 0 0 5)))] H := hP
  have hD : va_D A [(h1, .inr (0, [.ref h11, .int 0, .ref h12, .int 0, .ref h13, .ref h14, .ref h15, .ref h16, .ref h17, .ref h18, .int 0])), (h15, .inl (zI g, 5, .inl (fun _ => 0))), (h0, .inr (2, [.ref h19, .ref h20, .ref h21, .ref h22, .ref h23, .ref h24, .int 0, .int 0, .ref h25, .ref h26, .ref h27, .ref h28])), (h19, .inl (zI g, 5, .inl (va_cpy (fun _ => 0) (fun _ => 0) 0 0 5)))] := hD
  rw [zc_cpy] at hP hD
  have hP9 := hP.sub (ws' := [(h1, .inr (0, [.ref h11, .int 0, .ref h12, .int 0, .ref h13, .ref h14, .ref h15, .ref h16, .ref h17, .ref h18, .int 0])), (h15, .inl (zI g, 5, .inl (fun _ => 0))), (h0, .inr (2, [.ref h19, .ref h20, .ref h21, .ref h22, .ref h23, .ref h24, .int 0, .int 0, .ref h25, .ref h26, .ref h27, .ref h28])), (h19, .inl (zI g, 5, .inl (fun _ => 0)))]) [0, 1, 2, 3] rfl
  have hD9 := hD.sub (ws' := [(h1, .inr (0, [.ref h11, .int 0, .ref h12, .int 0, .ref h13, .ref h14, .ref h15, .ref h16, .ref h17, .ref h18, .int 0])), (h15, .inl (zI g, 5, .inl (fun _ => 0))), (h0, .inr (2, [.ref h19, .ref h20, .ref h21, .ref h22, .ref h23, .ref h24, .int 0, .int 0, .ref h25, .ref h26, .ref h27, .ref h28])), (h19, .inl (zI g, 5, .inl (fun _ => 0)))]) [0, 1, 2, 3] (by decide) rfl
  exact W.vret hx hb hr (fun t ht hW => ⟨⟨0, rfl, trivial, by rw [ht]; exact hP9, hD9⟩, hS.F ht⟩) hS.2.2 dX2_takeMargins_14
set_option maxHeartbeats 4000000 in
set_option maxRecDepth 100000 in
theorem kX2_begin_3 (l : Launch) (g : zG) (h0 h1 h11 h12 h13 h14 h15 h16 h17 h18 h19 h20 h21 h22 h23 h24 h25 h26 h27 h28 : Nat) (sz : Nat) : Met l yX2_begin (.code yX2_begin cX2_begin 2 none :: zBig) ({ frames := 1, cells := 0, slots := 0, locals := 60 }) (va_Pc [.ref h0, .ref h1] (zPre g [(h11, .inl (zI g, 5, .inl (fun _ => 0))), (h12, .inl (zI g, 5, .inl (fun _ => 0))), (h13, .inl (zI g, 5, .inl (fun _ => 0))), (h14, .inl (zI g, 5, .inl (fun _ => 0))), (h1, .inr (0, [.ref h15, .int 0, .ref h16, .int 0, .ref h17, .ref h11, .ref h18, .ref h19, .ref h20, .ref h21, .int 0])), (h0, .inr (2, [.ref h22, .ref h12, .ref h13, .ref h14, .ref h23, .ref h24, .int 0, .int 0, .ref h25, .ref h26, .ref h27, .ref h28]))] sz)) (va_Qv (fun _ : Nat => True) (zPost g (fun _ : Nat => [(h11, .inl (zI g, 5, .inl (fun _ => 0))), (h12, .inl (zI g, 5, .inl (fun _ => 0))), (h1, .inr (0, [.ref h15, .int 0, .ref h16, .int 0, .ref h17, .ref h11, .ref h18, .ref h19, .ref h20, .ref h21, .int 0])), (h0, .inr (2, [.ref h22, .ref h12, .ref h13, .ref h14, .ref h23, .ref h24, .int 0, .int 0, .ref h25, .ref h26, .ref h27, .ref h28])), (h13, .inl (zI g, 5, .inl (fun _ => 0))), (h14, .inl (zI g, 5, .inl (fun _ => 0)))]) (va_A [(h11, .inl (zI g, 5, .inl (fun _ => 0))), (h12, .inl (zI g, 5, .inl (fun _ => 0))), (h13, .inl (zI g, 5, .inl (fun _ => 0))), (h14, .inl (zI g, 5, .inl (fun _ => 0))), (h1, .inr (0, [.ref h15, .int 0, .ref h16, .int 0, .ref h17, .ref h11, .ref h18, .ref h19, .ref h20, .ref h21, .int 0])), (h0, .inr (2, [.ref h22, .ref h12, .ref h13, .ref h14, .ref h23, .ref h24, .int 0, .int 0, .ref h25, .ref h26, .ref h27, .ref h28]))] sz)) (va_A [(h11, .inl (zI g, 5, .inl (fun _ => 0))), (h12, .inl (zI g, 5, .inl (fun _ => 0))), (h13, .inl (zI g, 5, .inl (fun _ => 0))), (h14, .inl (zI g, 5, .inl (fun _ => 0))), (h1, .inr (0, [.ref h15, .int 0, .ref h16, .int 0, .ref h17, .ref h11, .ref h18, .ref h19, .ref h20, .ref h21, .int 0])), (h0, .inr (2, [.ref h22, .ref h12, .ref h13, .ref h14, .ref h23, .ref h24, .int 0, .int 0, .ref h25, .ref h26, .ref h27, .ref h28]))] sz)) 0 0 (va_A [(h11, .inl (zI g, 5, .inl (fun _ => 0))), (h12, .inl (zI g, 5, .inl (fun _ => 0))), (h13, .inl (zI g, 5, .inl (fun _ => 0))), (h14, .inl (zI g, 5, .inl (fun _ => 0))), (h1, .inr (0, [.ref h15, .int 0, .ref h16, .int 0, .ref h17, .ref h11, .ref h18, .ref h19, .ref h20, .ref h21, .int 0])), (h0, .inr (2, [.ref h22, .ref h12, .ref h13, .ref h14, .ref h23, .ref h24, .int 0, .int 0, .ref h25, .ref h26, .ref h27, .ref h28]))] sz) := by
  refine zMetV rfl (Nat.le_of_ble_eq_true rfl) ?_
  intro p e s m args below meth c A ls hx hb hml hr hlocks hin hown hts hK hN hZ hP hD hA hS hAe hl
  have hown : s.vm.findClass RX2 = some m.cls := hown
  have hl : lv_has ls 2 [(0, .ref h0), (1, .ref h1)] := hl
  refine lv_aload_n hx hb dX2_begin_0 rfl (lv_at hl 1 rfl) ?_
  refine va_getN (D := g.1) (ci := 0) (v := .ref h11) (C := RX0) (T := TX0) (N := 11) hx hb hts zl_X0 hown hK hP 4 rfl rfl 5 (by decide) (hN.f 11 (q := (RX2, 58, "FishSteps$Books", "purse", "[I")) rfl) (fun _ h => h) rfl dX2_begin_1 ?_
  refine lv_iconst (v := 0) hx hb dX2_begin_4 (by decide) ?_
  refine lv_aload_n hx hb dX2_begin_5 rfl (lv_at hl 0 rfl) ?_
  refine va_get (D := g.1) (ci := 2) (v := .ref h12) (C := RX2) (T := TX2) (N := 12) hx hb hts zl_X2 hown hK hP 5 rfl rfl 1 (by decide) (hts _ m_f_RX2_15) (fun _ h => h) rfl dX2_begin_6 ?_
  refine lv_iconst (v := 0) hx hb dX2_begin_9 (by decide) ?_
  refine lv_iconst (v := 5) hx hb dX2_begin_10 (by decide) ?_
  refine va_copyi (D := g.1) (ty := .int) (sp := 0) (dp := 0) (n := 5) hx hb (hml.trans hl.1.symm) hown (hts _ m_m_RX2_52) (hts _ m_n_arraycopyName) (hts _ m_s_arraycopyName) (hts _ m_z_RJ10) hK hP hD hS 0 1 0 0 rfl rfl rfl rfl rfl (by decide) (by decide) (by decide) (by decide) (by decide) (fun _ _ => rfl) (Nat.le_of_ble_eq_true rfl) (Nat.le_of_ble_eq_true rfl) dX2_begin_11 (fun H locs hP hD hS => ?_)
  have hP : va_P g.1 vwCl [(h11, .inl (zI g, 5, .inl (fun _ => 0))), (h12, .inl (zI g, 5, .inl (va_cpy (fun _ => 0) (fun _ => 0) 0 0 5))), (h13, .inl (zI g, 5, .inl (fun _ => 0))), (h14, .inl (zI g, 5, .inl (fun _ => 0))), (h1, .inr (0, [.ref h15, .int 0, .ref h16, .int 0, .ref h17, .ref h11, .ref h18, .ref h19, .ref h20, .ref h21, .int 0])), (h0, .inr (2, [.ref h22, .ref h12, .ref h13, .ref h14, .ref h23, .ref h24, .int 0, .int 0, .ref h25, .ref h26, .ref h27, .ref h28]))] H := hP
  have hD : va_D A [(h11, .inl (zI g, 5, .inl (fun _ => 0))), (h12, .inl (zI g, 5, .inl (va_cpy (fun _ => 0) (fun _ => 0) 0 0 5))), (h13, .inl (zI g, 5, .inl (fun _ => 0))), (h14, .inl (zI g, 5, .inl (fun _ => 0))), (h1, .inr (0, [.ref h15, .int 0, .ref h16, .int 0, .ref h17, .ref h11, .ref h18, .ref h19, .ref h20, .ref h21, .int 0])), (h0, .inr (2, [.ref h22, .ref h12, .ref h13, .ref h14, .ref h23, .ref h24, .int 0, .int 0, .ref h25, .ref h26, .ref h27, .ref h28]))] := hD
  rw [zc_cpy] at hP hD
  refine lv_aload_n hx hb dX2_begin_14 rfl (lv_at hl 0 rfl) ?_
  refine va_get (D := g.1) (ci := 2) (v := .ref h13) (C := RX2) (T := TX2) (N := 12) hx hb hts zl_X2 hown hK hP 5 rfl rfl 2 (by decide) (hts _ m_f_RX2_18) (fun _ h => h) rfl dX2_begin_15 ?_
  refine lv_iconst (v := 0) hx hb dX2_begin_18 (by decide) ?_
  refine z_callv (wr := [(h11, .inl (zI g, 5, .inl (fun _ => 0))), (h12, .inl (zI g, 5, .inl (fun _ => 0))), (h14, .inl (zI g, 5, .inl (fun _ => 0))), (h1, .inr (0, [.ref h15, .int 0, .ref h16, .int 0, .ref h17, .ref h11, .ref h18, .ref h19, .ref h20, .ref h21, .int 0])), (h0, .inr (2, [.ref h22, .ref h12, .ref h13, .ref h14, .ref h23, .ref h24, .int 0, .int 0, .ref h25, .ref h26, .ref h27, .ref h28]))]) hP hD hS hA [2] [0, 1, 3, 4, 5] (by decide) rfl rfl (by decide) (va_runS (As := [.ref h13, .int 0]) (rest := []) ⟨hx, hb, hml, hown, hts⟩ (kJ7_fill_n5 l g h13 H.size (0 : Int32) (fun _ => 0)) ⟨callB_of 2 hts (zGood m_o_yJ7_fill_53178) rfl rfl rfl (hts _ m_z_RJ7) (hts _ m_m_RX2_59) ⟨by decide +kernel, by decide +kernel, by decide +kernel⟩ ⟨Nat.le_of_ble_eq_true rfl, Nat.le_of_ble_eq_true rfl⟩, hts _ m_s_yJ7_fill_53178⟩ (zPreS hK hN hZ hP hD hS hA [2] (by decide) rfl rfl) rfl rfl hl.1 rfl (lv_room (Nat.le_of_ble_eq_true rfl)) dX2_begin_19 ⟨Nat.le_of_ble_eq_true rfl, Nat.le_of_ble_eq_true rfl⟩) (fun u H locs hw hP hD hS => ?_)
  have hP : va_P g.1 vwCl [(h11, .inl (zI g, 5, .inl (fun _ => 0))), (h12, .inl (zI g, 5, .inl (fun _ => 0))), (h14, .inl (zI g, 5, .inl (fun _ => 0))), (h1, .inr (0, [.ref h15, .int 0, .ref h16, .int 0, .ref h17, .ref h11, .ref h18, .ref h19, .ref h20, .ref h21, .int 0])), (h0, .inr (2, [.ref h22, .ref h12, .ref h13, .ref h14, .ref h23, .ref h24, .int 0, .int 0, .ref h25, .ref h26, .ref h27, .ref h28])), (h13, .inl (zI g, 5, .inl (fun _ => 0)))] H := hP
  have hD : va_D A [(h11, .inl (zI g, 5, .inl (fun _ => 0))), (h12, .inl (zI g, 5, .inl (fun _ => 0))), (h14, .inl (zI g, 5, .inl (fun _ => 0))), (h1, .inr (0, [.ref h15, .int 0, .ref h16, .int 0, .ref h17, .ref h11, .ref h18, .ref h19, .ref h20, .ref h21, .int 0])), (h0, .inr (2, [.ref h22, .ref h12, .ref h13, .ref h14, .ref h23, .ref h24, .int 0, .int 0, .ref h25, .ref h26, .ref h27, .ref h28])), (h13, .inl (zI g, 5, .inl (fun _ => 0)))] := hD
  refine lv_aload_n hx hb dX2_begin_22 rfl (lv_at hl 0 rfl) ?_
  refine va_get (D := g.1) (ci := 2) (v := .ref h14) (C := RX2) (T := TX2) (N := 12) hx hb hts zl_X2 hown hK hP 4 rfl rfl 3 (by decide) (hts _ m_f_RX2_21) (fun _ h => h) rfl dX2_begin_23 ?_
  refine lv_iconst (v := 0) hx hb dX2_begin_26 (by decide) ?_
  refine z_callv (wr := [(h11, .inl (zI g, 5, .inl (fun _ => 0))), (h12, .inl (zI g, 5, .inl (fun _ => 0))), (h1, .inr (0, [.ref h15, .int 0, .ref h16, .int 0, .ref h17, .ref h11, .ref h18, .ref h19, .ref h20, .ref h21, .int 0])), (h0, .inr (2, [.ref h22, .ref h12, .ref h13, .ref h14, .ref h23, .ref h24, .int 0, .int 0, .ref h25, .ref h26, .ref h27, .ref h28])), (h13, .inl (zI g, 5, .inl (fun _ => 0)))]) hP hD hS hA [2] [0, 1, 3, 4, 5] (by decide) rfl rfl (by decide) (va_runS (As := [.ref h14, .int 0]) (rest := []) ⟨hx, hb, hml, hown, hts⟩ (kJ7_fill_n5 l g h14 H.size (0 : Int32) (fun _ => 0)) ⟨callB_of 2 hts (zGood m_o_yJ7_fill_53178) rfl rfl rfl (hts _ m_z_RJ7) (hts _ m_m_RX2_59) ⟨by decide +kernel, by decide +kernel, by decide +kernel⟩ ⟨Nat.le_of_ble_eq_true rfl, Nat.le_of_ble_eq_true rfl⟩, hts _ m_s_yJ7_fill_53178⟩ (zPreS hK hN hZ hP hD hS hA [2] (by decide) rfl rfl) rfl rfl hl.1 rfl (lv_room (Nat.le_of_ble_eq_true rfl)) dX2_begin_27 ⟨Nat.le_of_ble_eq_true rfl, Nat.le_of_ble_eq_true rfl⟩) (fun u H locs hw hP hD hS => ?_)
  have hP : va_P g.1 vwCl [(h11, .inl (zI g, 5, .inl (fun _ => 0))), (h12, .inl (zI g, 5, .inl (fun _ => 0))), (h1, .inr (0, [.ref h15, .int 0, .ref h16, .int 0, .ref h17, .ref h11, .ref h18, .ref h19, .ref h20, .ref h21, .int 0])), (h0, .inr (2, [.ref h22, .ref h12, .ref h13, .ref h14, .ref h23, .ref h24, .int 0, .int 0, .ref h25, .ref h26, .ref h27, .ref h28])), (h13, .inl (zI g, 5, .inl (fun _ => 0))), (h14, .inl (zI g, 5, .inl (fun _ => 0)))] H := hP
  have hD : va_D A [(h11, .inl (zI g, 5, .inl (fun _ => 0))), (h12, .inl (zI g, 5, .inl (fun _ => 0))), (h1, .inr (0, [.ref h15, .int 0, .ref h16, .int 0, .ref h17, .ref h11, .ref h18, .ref h19, .ref h20, .ref h21, .int 0])), (h0, .inr (2, [.ref h22, .ref h12, .ref h13, .ref h14, .ref h23, .ref h24, .int 0, .int 0, .ref h25, .ref h26, .ref h27, .ref h28])), (h13, .inl (zI g, 5, .inl (fun _ => 0))), (h14, .inl (zI g, 5, .inl (fun _ => 0)))] := hD
  have hP9 := hP.sub (ws' := [(h11, .inl (zI g, 5, .inl (fun _ => 0))), (h12, .inl (zI g, 5, .inl (fun _ => 0))), (h1, .inr (0, [.ref h15, .int 0, .ref h16, .int 0, .ref h17, .ref h11, .ref h18, .ref h19, .ref h20, .ref h21, .int 0])), (h0, .inr (2, [.ref h22, .ref h12, .ref h13, .ref h14, .ref h23, .ref h24, .int 0, .int 0, .ref h25, .ref h26, .ref h27, .ref h28])), (h13, .inl (zI g, 5, .inl (fun _ => 0))), (h14, .inl (zI g, 5, .inl (fun _ => 0)))]) [0, 1, 2, 3, 4, 5] rfl
  have hD9 := hD.sub (ws' := [(h11, .inl (zI g, 5, .inl (fun _ => 0))), (h12, .inl (zI g, 5, .inl (fun _ => 0))), (h1, .inr (0, [.ref h15, .int 0, .ref h16, .int 0, .ref h17, .ref h11, .ref h18, .ref h19, .ref h20, .ref h21, .int 0])), (h0, .inr (2, [.ref h22, .ref h12, .ref h13, .ref h14, .ref h23, .ref h24, .int 0, .int 0, .ref h25, .ref h26, .ref h27, .ref h28])), (h13, .inl (zI g, 5, .inl (fun _ => 0))), (h14, .inl (zI g, 5, .inl (fun _ => 0)))]) [0, 1, 2, 3, 4, 5] (by decide) rfl
  exact W.vret hx hb hr (fun t ht hW => ⟨⟨0, rfl, trivial, by rw [ht]; exact hP9, hD9⟩, hS.F ht⟩) hS.2.2 dX2_begin_30
set_option maxHeartbeats 4000000 in
set_option maxRecDepth 100000 in
theorem kX2_tillBy_2 (l : Launch) (g : zG) (h0 h1 h11 h12 h13 h14 h15 h16 h17 h18 h19 h20 h21 h22 h23 h24 h25 h26 h27 h28 : Nat) (sz : Nat) (p2 : Int32) : Met l yX2_tillBy (.code yX2_tillBy cX2_tillBy 5 (some .int) :: zBig) ({ frames := 2, cells := 0, slots := 0, locals := 81 }) (va_Pc [.ref h0, .ref h1, .int p2] (zPre g [(h11, .inl (zI g, 5, .inl (fun _ => 0))), (h12, .inl (zI g, 5, .inl (fun _ => 0))), (h13, .inl (zI g, 5, .inl (fun _ => 0))), (h14, .inl (zI g, 5, .inl (fun _ => 0))), (h1, .inr (0, [.ref h15, .int 0, .ref h16, .int 0, .ref h17, .ref h11, .ref h18, .ref h19, .ref h20, .ref h21, .int 0])), (h0, .inr (2, [.ref h22, .ref h12, .ref h13, .ref h14, .ref h23, .ref h24, .int 0, .int 0, .ref h25, .ref h26, .ref h27, .ref h28]))] sz)) (va_Qi (fun (r : Int32) (_ : Nat) => r = 0) (zPost g (fun _ : Nat => [(h11, .inl (zI g, 5, .inl (fun _ => 0))), (h12, .inl (zI g, 5, .inl (fun _ => 0))), (h1, .inr (0, [.ref h15, .int 0, .ref h16, .int 0, .ref h17, .ref h11, .ref h18, .ref h19, .ref h20, .ref h21, .int 0])), (h0, .inr (2, [.ref h22, .ref h12, .ref h13, .ref h14, .ref h23, .ref h24, .int 0, .int 0, .ref h25, .ref h26, .ref h27, .ref h28])), (h13, .inl (zI g, 5, .inl (fun _ => 0))), (h14, .inl (zI g, 5, .inl (fun _ => 0)))]) (va_A [(h11, .inl (zI g, 5, .inl (fun _ => 0))), (h12, .inl (zI g, 5, .inl (fun _ => 0))), (h13, .inl (zI g, 5, .inl (fun _ => 0))), (h14, .inl (zI g, 5, .inl (fun _ => 0))), (h1, .inr (0, [.ref h15, .int 0, .ref h16, .int 0, .ref h17, .ref h11, .ref h18, .ref h19, .ref h20, .ref h21, .int 0])), (h0, .inr (2, [.ref h22, .ref h12, .ref h13, .ref h14, .ref h23, .ref h24, .int 0, .int 0, .ref h25, .ref h26, .ref h27, .ref h28]))] sz)) (va_A [(h11, .inl (zI g, 5, .inl (fun _ => 0))), (h12, .inl (zI g, 5, .inl (fun _ => 0))), (h13, .inl (zI g, 5, .inl (fun _ => 0))), (h14, .inl (zI g, 5, .inl (fun _ => 0))), (h1, .inr (0, [.ref h15, .int 0, .ref h16, .int 0, .ref h17, .ref h11, .ref h18, .ref h19, .ref h20, .ref h21, .int 0])), (h0, .inr (2, [.ref h22, .ref h12, .ref h13, .ref h14, .ref h23, .ref h24, .int 0, .int 0, .ref h25, .ref h26, .ref h27, .ref h28]))] sz)) 0 0 (va_A [(h11, .inl (zI g, 5, .inl (fun _ => 0))), (h12, .inl (zI g, 5, .inl (fun _ => 0))), (h13, .inl (zI g, 5, .inl (fun _ => 0))), (h14, .inl (zI g, 5, .inl (fun _ => 0))), (h1, .inr (0, [.ref h15, .int 0, .ref h16, .int 0, .ref h17, .ref h11, .ref h18, .ref h19, .ref h20, .ref h21, .int 0])), (h0, .inr (2, [.ref h22, .ref h12, .ref h13, .ref h14, .ref h23, .ref h24, .int 0, .int 0, .ref h25, .ref h26, .ref h27, .ref h28]))] sz) := by
  refine zMetI rfl (Nat.le_of_ble_eq_true rfl) ?_
  intro p e s m args below meth c A ls hx hb hml hr hlocks hin hown hts hK hN hZ hP hD hA hS hAe hl
  have hown : s.vm.findClass RX2 = some m.cls := hown
  have hl : lv_has ls 5 [(0, .ref h0), (1, .ref h1), (2, .int p2)] := hl
  refine lv_aload_n hx hb dX2_tillBy_0 rfl (lv_at hl 0 rfl) ?_
  refine lv_aload_n hx hb dX2_tillBy_1 rfl (lv_at hl 1 rfl) ?_
  refine z_callv (wr := []) hP hD hS hA [0, 1, 2, 3, 4, 5] [] (by decide) rfl rfl (by decide) (va_runV (As := [.ref h1]) (rest := []) ⟨hx, hb, hml, hown, hts⟩ (kX2_begin_2 l g h0 h1 h11 h12 h13 h14 h15 h16 h17 h18 h19 h20 h21 h22 h23 h24 h25 h26 h27 h28 s.heap.size) ⟨callB_of 1 hts (zGood m_o_yX2_begin) rfl rfl rfl (hts _ m_z_RX2) (hts _ m_m_RX2_73) ⟨by decide +kernel, by decide +kernel, by decide +kernel⟩ ⟨Nat.le_of_ble_eq_true rfl, Nat.le_of_ble_eq_true rfl⟩, hts _ m_i_yX2_begin, hts _ m_e_yX2_begin⟩ (zPreV hK hN hZ hP hD hS hA [0, 1, 2, 3, 4, 5] (by decide) rfl rfl 2 5 rfl rfl) rfl rfl hl.1 rfl (lv_room (Nat.le_of_ble_eq_true rfl)) dX2_tillBy_2 ⟨Nat.le_of_ble_eq_true rfl, Nat.le_of_ble_eq_true rfl⟩) (fun u H locs hw hP hD hS => ?_)
  have hP : va_P g.1 vwCl [(h11, .inl (zI g, 5, .inl (fun _ => 0))), (h12, .inl (zI g, 5, .inl (fun _ => 0))), (h1, .inr (0, [.ref h15, .int 0, .ref h16, .int 0, .ref h17, .ref h11, .ref h18, .ref h19, .ref h20, .ref h21, .int 0])), (h0, .inr (2, [.ref h22, .ref h12, .ref h13, .ref h14, .ref h23, .ref h24, .int 0, .int 0, .ref h25, .ref h26, .ref h27, .ref h28])), (h13, .inl (zI g, 5, .inl (fun _ => 0))), (h14, .inl (zI g, 5, .inl (fun _ => 0)))] H := hP
  have hD : va_D A [(h11, .inl (zI g, 5, .inl (fun _ => 0))), (h12, .inl (zI g, 5, .inl (fun _ => 0))), (h1, .inr (0, [.ref h15, .int 0, .ref h16, .int 0, .ref h17, .ref h11, .ref h18, .ref h19, .ref h20, .ref h21, .int 0])), (h0, .inr (2, [.ref h22, .ref h12, .ref h13, .ref h14, .ref h23, .ref h24, .int 0, .int 0, .ref h25, .ref h26, .ref h27, .ref h28])), (h13, .inl (zI g, 5, .inl (fun _ => 0))), (h14, .inl (zI g, 5, .inl (fun _ => 0)))] := hD
  refine lv_iconst (v := 0) hx hb dX2_tillBy_5 (by decide) ?_
  refine lv_istore_n (lv' := [(3, .int 0), (0, .ref h0), (1, .ref h1), (2, .int p2)]) hx hb dX2_tillBy_6 rfl hl (by decide) rfl (fun ls hl => ?_)
  refine lv_iconst (v := 0) hx hb dX2_tillBy_7 (by decide) ?_
  refine lv_istore (lv' := [(4, .int 0), (3, .int 0), (0, .ref h0), (1, .ref h1), (2, .int p2)]) hx hb dX2_tillBy_8 hl (by decide) rfl (fun ls hl => ?_)
  refine lv_iload hx hb dX2_tillBy_10 (lv_at hl 0 rfl) ?_
  refine lv_bipush (v := 6) hx hb dX2_tillBy_12 (by decide) ?_
  refine lv_icmp_ge (tgt := 80) hx hb dX2_tillBy_14 (by decide) (fun h => absurd h (by decide +kernel)) (fun _ => ?_)
  refine lv_iload hx hb dX2_tillBy_17 (lv_at hl 0 rfl) ?_
  refine lv_aload_n hx hb dX2_tillBy_19 rfl (lv_at hl 3 rfl) ?_
  refine va_getN (D := g.1) (ci := 0) (v := .int 0) (C := RX0) (T := TX0) (N := 11) hx hb hts zl_X0 hown hK hP 2 rfl rfl 1 (by decide) (hN.f 3 (q := (RX2, 76, "FishSteps$Books", "lots", "I")) rfl) (fun _ h => h) rfl dX2_tillBy_20 ?_
  refine lv_icmp_ge (tgt := 80) hx hb dX2_tillBy_23 (by decide) (fun _ => ?_) (fun h => absurd h (by decide +kernel))
  refine lv_iload_n hx hb dX2_tillBy_80 rfl (lv_at hl 1 rfl) ?_
  have hP9 := hP.sub (ws' := [(h11, .inl (zI g, 5, .inl (fun _ => 0))), (h12, .inl (zI g, 5, .inl (fun _ => 0))), (h1, .inr (0, [.ref h15, .int 0, .ref h16, .int 0, .ref h17, .ref h11, .ref h18, .ref h19, .ref h20, .ref h21, .int 0])), (h0, .inr (2, [.ref h22, .ref h12, .ref h13, .ref h14, .ref h23, .ref h24, .int 0, .int 0, .ref h25, .ref h26, .ref h27, .ref h28])), (h13, .inl (zI g, 5, .inl (fun _ => 0))), (h14, .inl (zI g, 5, .inl (fun _ => 0)))]) [0, 1, 2, 3, 4, 5] rfl
  have hD9 := hD.sub (ws' := [(h11, .inl (zI g, 5, .inl (fun _ => 0))), (h12, .inl (zI g, 5, .inl (fun _ => 0))), (h1, .inr (0, [.ref h15, .int 0, .ref h16, .int 0, .ref h17, .ref h11, .ref h18, .ref h19, .ref h20, .ref h21, .int 0])), (h0, .inr (2, [.ref h22, .ref h12, .ref h13, .ref h14, .ref h23, .ref h24, .int 0, .int 0, .ref h25, .ref h26, .ref h27, .ref h28])), (h13, .inl (zI g, 5, .inl (fun _ => 0))), (h14, .inl (zI g, 5, .inl (fun _ => 0)))]) [0, 1, 2, 3, 4, 5] (by decide) rfl
  exact W.iret (v := 0) hx hb hr (fun t ht hW => ⟨⟨0, 0, rfl, rfl, by rw [ht]; exact hP9, hD9⟩, hS.F ht⟩) hS.2.2 dX2_tillBy_81
set_option maxHeartbeats 4000000 in
set_option maxRecDepth 100000 in
theorem kX4_till (l : Launch) (g : zG) (h0 h1 h2 h3 h4 h5 h6 h7 h8 h9 h10 h11 h12 h13 h14 h15 h16 h17 h18 h27 h28 h29 h30 h31 h32 h33 h34 h35 h36 : Nat) (sz : Nat) (p1 : Int32) : Met l yX4_till (.code yX4_till cX4_till 2 (some .int) :: zBig) ({ frames := 3, cells := 0, slots := 0, locals := 105 }) (va_Pc [.ref h0, .int p1] (zPre g [(h0, .inr (4, [.ref h1, .ref h2, .int 0, .ref h3, .ref h4, .ref h5, .ref h6, .int (-1), .ref h7, .ref h8, .ref h9, .ref h10])), (h1, .inr (0, [.ref h11, .int 0, .ref h12, .int 0, .ref h13, .ref h14, .ref h15, .ref h16, .ref h17, .ref h18, .int 0])), (h14, .inl (zI g, 5, .inl (fun _ => 0))), (h15, .inl (zI g, 5, .inl (fun _ => 0))), (h3, .inr (2, [.ref h27, .ref h28, .ref h29, .ref h30, .ref h31, .ref h32, .int 0, .int 0, .ref h33, .ref h34, .ref h35, .ref h36])), (h27, .inl (zI g, 5, .inl (fun _ => 0))), (h28, .inl (zI g, 5, .inl (fun _ => 0))), (h29, .inl (zI g, 5, .inl (fun _ => 0))), (h30, .inl (zI g, 5, .inl (fun _ => 0)))] sz)) (va_Qi (fun (r : Int32) (_ : Nat) => (p1.toInt < 0 ∧ r = (-1)) ∨ (0 ≤ p1.toInt ∧ p1.toInt ≤ 2 ∧ r = 0) ∨ (0 ≤ p1.toInt ∧ 2 < p1.toInt ∧ r = (-1))) (zPost g (fun _ : Nat => []) (va_A [(h0, .inr (4, [.ref h1, .ref h2, .int 0, .ref h3, .ref h4, .ref h5, .ref h6, .int (-1), .ref h7, .ref h8, .ref h9, .ref h10])), (h1, .inr (0, [.ref h11, .int 0, .ref h12, .int 0, .ref h13, .ref h14, .ref h15, .ref h16, .ref h17, .ref h18, .int 0])), (h14, .inl (zI g, 5, .inl (fun _ => 0))), (h15, .inl (zI g, 5, .inl (fun _ => 0))), (h3, .inr (2, [.ref h27, .ref h28, .ref h29, .ref h30, .ref h31, .ref h32, .int 0, .int 0, .ref h33, .ref h34, .ref h35, .ref h36])), (h27, .inl (zI g, 5, .inl (fun _ => 0))), (h28, .inl (zI g, 5, .inl (fun _ => 0))), (h29, .inl (zI g, 5, .inl (fun _ => 0))), (h30, .inl (zI g, 5, .inl (fun _ => 0)))] sz)) (va_A [(h0, .inr (4, [.ref h1, .ref h2, .int 0, .ref h3, .ref h4, .ref h5, .ref h6, .int (-1), .ref h7, .ref h8, .ref h9, .ref h10])), (h1, .inr (0, [.ref h11, .int 0, .ref h12, .int 0, .ref h13, .ref h14, .ref h15, .ref h16, .ref h17, .ref h18, .int 0])), (h14, .inl (zI g, 5, .inl (fun _ => 0))), (h15, .inl (zI g, 5, .inl (fun _ => 0))), (h3, .inr (2, [.ref h27, .ref h28, .ref h29, .ref h30, .ref h31, .ref h32, .int 0, .int 0, .ref h33, .ref h34, .ref h35, .ref h36])), (h27, .inl (zI g, 5, .inl (fun _ => 0))), (h28, .inl (zI g, 5, .inl (fun _ => 0))), (h29, .inl (zI g, 5, .inl (fun _ => 0))), (h30, .inl (zI g, 5, .inl (fun _ => 0)))] sz)) 0 0 (va_A [(h0, .inr (4, [.ref h1, .ref h2, .int 0, .ref h3, .ref h4, .ref h5, .ref h6, .int (-1), .ref h7, .ref h8, .ref h9, .ref h10])), (h1, .inr (0, [.ref h11, .int 0, .ref h12, .int 0, .ref h13, .ref h14, .ref h15, .ref h16, .ref h17, .ref h18, .int 0])), (h14, .inl (zI g, 5, .inl (fun _ => 0))), (h15, .inl (zI g, 5, .inl (fun _ => 0))), (h3, .inr (2, [.ref h27, .ref h28, .ref h29, .ref h30, .ref h31, .ref h32, .int 0, .int 0, .ref h33, .ref h34, .ref h35, .ref h36])), (h27, .inl (zI g, 5, .inl (fun _ => 0))), (h28, .inl (zI g, 5, .inl (fun _ => 0))), (h29, .inl (zI g, 5, .inl (fun _ => 0))), (h30, .inl (zI g, 5, .inl (fun _ => 0)))] sz) := by
  refine zMetI rfl (Nat.le_of_ble_eq_true rfl) ?_
  intro p e s m args below meth c A ls hx hb hml hr hlocks hin hown hts hK hN hZ hP hD hA hS hAe hl
  have hown : s.vm.findClass RX4 = some m.cls := hown
  have hl : lv_has ls 2 [(0, .ref h0), (1, .int p1)] := hl
  refine lv_iload_n hx hb dX4_till_0 rfl (lv_at hl 1 rfl) ?_
  refine lv_if_lt (tgt := 9) hx hb dX4_till_1 (by decide) (fun c_0 => ?_) (fun c_0 => ?_)
  · have i_0 : p1.toInt < 0 := z_lt (rfl) (rfl) c_0
    refine lv_iconst (v := (-1)) hx hb dX4_till_9 (by decide) ?_
    have hP9 := hP.sub (ws' := []) [] rfl
    have hD9 := hD.sub (ws' := []) [] (by decide) rfl
    exact W.iret (v := (-1)) hx hb hr (fun t ht hW => ⟨⟨(-1), 0, rfl, Or.inl ⟨i_0, rfl⟩, by rw [ht]; exact hP9, hD9⟩, hS.F ht⟩) hS.2.2 dX4_till_10
  · have i_0 : 0 ≤ p1.toInt := z_nlt (rfl) (rfl) c_0
    refine lv_iload_n hx hb dX4_till_4 rfl (lv_at hl 1 rfl) ?_
    refine lv_iconst (v := 2) hx hb dX4_till_5 (by decide) ?_
    refine lv_icmp_le (tgt := 11) hx hb dX4_till_6 (by decide) (fun c_1 => ?_) (fun c_1 => ?_)
    · have i_1 : p1.toInt ≤ 2 := z_le (rfl) (rfl) c_1
      refine lv_aload_n hx hb dX4_till_11 rfl (lv_at hl 0 rfl) ?_
      refine va_get (D := g.1) (ci := 4) (v := .ref h3) (C := RX4) (T := TX4) (N := 12) hx hb hts zl_X4 hown hK hP 0 rfl rfl 3 (by decide) (hts _ m_f_RX4_26) (fun _ h => h) rfl dX4_till_12 ?_
      refine lv_aload_n hx hb dX4_till_15 rfl (lv_at hl 0 rfl) ?_
      refine va_get (D := g.1) (ci := 4) (v := .ref h1) (C := RX4) (T := TX4) (N := 12) hx hb hts zl_X4 hown hK hP 0 rfl rfl 0 (by decide) (hts _ m_f_RX4_10) (fun _ h => h) rfl dX4_till_16 ?_
      refine z_callv (wr := [(h0, .inr (4, [.ref h1, .ref h2, .int 0, .ref h3, .ref h4, .ref h5, .ref h6, .int (-1), .ref h7, .ref h8, .ref h9, .ref h10])), (h14, .inl (zI g, 5, .inl (fun _ => 0))), (h28, .inl (zI g, 5, .inl (fun _ => 0))), (h29, .inl (zI g, 5, .inl (fun _ => 0))), (h30, .inl (zI g, 5, .inl (fun _ => 0)))]) hP hD hS hA [1, 3, 4, 5] [0, 2, 6, 7, 8] (by decide) rfl rfl (by decide) (va_runVN (As := [.ref h1]) (rest := []) ⟨hx, hb, hml, hown, hts⟩ (kX2_takeMargins_2 l g h3 h1 h11 h12 h13 h14 h15 h16 h17 h18 h27 h28 h29 h30 h31 h32 h33 h34 h35 h36 s.heap.size) ⟨va_cnB 1 hts (zGood m_o_yX2_takeMargins) rfl rfl rfl (hN.m 16 (q := (RX4, 154, yX2_takeMargins)) rfl) (hts _ m_z_RX2) ⟨by decide +kernel, by decide +kernel, by decide +kernel⟩ ⟨Nat.le_of_ble_eq_true rfl, Nat.le_of_ble_eq_true rfl⟩, hts _ m_i_yX2_takeMargins, hts _ m_e_yX2_takeMargins⟩ (zPreV hK hN hZ hP hD hS hA [1, 3, 4, 5] (by decide) rfl rfl 2 4 rfl rfl) rfl rfl hl.1 rfl (lv_room (Nat.le_of_ble_eq_true rfl)) dX4_till_19 ⟨Nat.le_of_ble_eq_true rfl, Nat.le_of_ble_eq_true rfl⟩) (fun u H locs hw hP hD hS => ?_)
      have hP : va_P g.1 vwCl [(h0, .inr (4, [.ref h1, .ref h2, .int 0, .ref h3, .ref h4, .ref h5, .ref h6, .int (-1), .ref h7, .ref h8, .ref h9, .ref h10])), (h14, .inl (zI g, 5, .inl (fun _ => 0))), (h28, .inl (zI g, 5, .inl (fun _ => 0))), (h29, .inl (zI g, 5, .inl (fun _ => 0))), (h30, .inl (zI g, 5, .inl (fun _ => 0))), (h1, .inr (0, [.ref h11, .int 0, .ref h12, .int 0, .ref h13, .ref h14, .ref h15, .ref h16, .ref h17, .ref h18, .int 0])), (h15, .inl (zI g, 5, .inl (fun _ => 0))), (h3, .inr (2, [.ref h27, .ref h28, .ref h29, .ref h30, .ref h31, .ref h32, .int 0, .int 0, .ref h33, .ref h34, .ref h35, .ref h36])), (h27, .inl (zI g, 5, .inl (fun _ => 0)))] H := hP
      have hD : va_D A [(h0, .inr (4, [.ref h1, .ref h2, .int 0, .ref h3, .ref h4, .ref h5, .ref h6, .int (-1), .ref h7, .ref h8, .ref h9, .ref h10])), (h14, .inl (zI g, 5, .inl (fun _ => 0))), (h28, .inl (zI g, 5, .inl (fun _ => 0))), (h29, .inl (zI g, 5, .inl (fun _ => 0))), (h30, .inl (zI g, 5, .inl (fun _ => 0))), (h1, .inr (0, [.ref h11, .int 0, .ref h12, .int 0, .ref h13, .ref h14, .ref h15, .ref h16, .ref h17, .ref h18, .int 0])), (h15, .inl (zI g, 5, .inl (fun _ => 0))), (h3, .inr (2, [.ref h27, .ref h28, .ref h29, .ref h30, .ref h31, .ref h32, .int 0, .int 0, .ref h33, .ref h34, .ref h35, .ref h36])), (h27, .inl (zI g, 5, .inl (fun _ => 0)))] := hD
      refine lv_aload_n hx hb dX4_till_22 rfl (lv_at hl 0 rfl) ?_
      refine va_get (D := g.1) (ci := 4) (v := .ref h3) (C := RX4) (T := TX4) (N := 12) hx hb hts zl_X4 hown hK hP 0 rfl rfl 3 (by decide) (hts _ m_f_RX4_26) (fun _ h => h) rfl dX4_till_23 ?_
      refine lv_aload_n hx hb dX4_till_26 rfl (lv_at hl 0 rfl) ?_
      refine va_get (D := g.1) (ci := 4) (v := .ref h1) (C := RX4) (T := TX4) (N := 12) hx hb hts zl_X4 hown hK hP 0 rfl rfl 0 (by decide) (hts _ m_f_RX4_10) (fun _ h => h) rfl dX4_till_27 ?_
      refine lv_iload_n hx hb dX4_till_30 rfl (lv_at hl 1 rfl) ?_
      refine z_calli (wr := [(h0, .inr (4, [.ref h1, .ref h2, .int 0, .ref h3, .ref h4, .ref h5, .ref h6, .int (-1), .ref h7, .ref h8, .ref h9, .ref h10])), (h15, .inl (zI g, 5, .inl (fun _ => 0))), (h27, .inl (zI g, 5, .inl (fun _ => 0)))]) hP hD hS hA [1, 2, 3, 4, 5, 7] [0, 6, 8] (by decide) rfl rfl (by decide) (va_runVN (As := [.ref h1, .int p1]) (rest := []) ⟨hx, hb, hml, hown, hts⟩ (kX2_tillBy_2 l g h3 h1 h14 h28 h29 h30 h11 h12 h13 h15 h16 h17 h18 h27 h31 h32 h33 h34 h35 h36 H.size p1) ⟨va_cnB 2 hts (zGood m_o_yX2_tillBy) rfl rfl rfl (hN.m 17 (q := (RX4, 157, yX2_tillBy)) rfl) (hts _ m_z_RX2) ⟨by decide +kernel, by decide +kernel, by decide +kernel⟩ ⟨Nat.le_of_ble_eq_true rfl, Nat.le_of_ble_eq_true rfl⟩, hts _ m_i_yX2_tillBy, hts _ m_e_yX2_tillBy⟩ (zPreV hK hN hZ hP hD hS hA [1, 2, 3, 4, 5, 7] (by decide) rfl rfl 2 7 rfl rfl) rfl rfl hl.1 rfl (lv_room (Nat.le_of_ble_eq_true rfl)) dX4_till_31 ⟨Nat.le_of_ble_eq_true rfl, Nat.le_of_ble_eq_true rfl⟩) (fun r u H locs hw hP hD hS => ?_)
      obtain rfl := hw
      have hP : va_P g.1 vwCl [(h0, .inr (4, [.ref h1, .ref h2, .int 0, .ref h3, .ref h4, .ref h5, .ref h6, .int (-1), .ref h7, .ref h8, .ref h9, .ref h10])), (h15, .inl (zI g, 5, .inl (fun _ => 0))), (h27, .inl (zI g, 5, .inl (fun _ => 0))), (h14, .inl (zI g, 5, .inl (fun _ => 0))), (h28, .inl (zI g, 5, .inl (fun _ => 0))), (h1, .inr (0, [.ref h11, .int 0, .ref h12, .int 0, .ref h13, .ref h14, .ref h15, .ref h16, .ref h17, .ref h18, .int 0])), (h3, .inr (2, [.ref h27, .ref h28, .ref h29, .ref h30, .ref h31, .ref h32, .int 0, .int 0, .ref h33, .ref h34, .ref h35, .ref h36])), (h29, .inl (zI g, 5, .inl (fun _ => 0))), (h30, .inl (zI g, 5, .inl (fun _ => 0)))] H := hP
      have hD : va_D A [(h0, .inr (4, [.ref h1, .ref h2, .int 0, .ref h3, .ref h4, .ref h5, .ref h6, .int (-1), .ref h7, .ref h8, .ref h9, .ref h10])), (h15, .inl (zI g, 5, .inl (fun _ => 0))), (h27, .inl (zI g, 5, .inl (fun _ => 0))), (h14, .inl (zI g, 5, .inl (fun _ => 0))), (h28, .inl (zI g, 5, .inl (fun _ => 0))), (h1, .inr (0, [.ref h11, .int 0, .ref h12, .int 0, .ref h13, .ref h14, .ref h15, .ref h16, .ref h17, .ref h18, .int 0])), (h3, .inr (2, [.ref h27, .ref h28, .ref h29, .ref h30, .ref h31, .ref h32, .int 0, .int 0, .ref h33, .ref h34, .ref h35, .ref h36])), (h29, .inl (zI g, 5, .inl (fun _ => 0))), (h30, .inl (zI g, 5, .inl (fun _ => 0)))] := hD
      have hP9 := hP.sub (ws' := []) [] rfl
      have hD9 := hD.sub (ws' := []) [] (by decide) rfl
      exact W.iret (v := 0) hx hb hr (fun t ht hW => ⟨⟨0, 0, rfl, Or.inr (Or.inl ⟨i_0, i_1, rfl⟩), by rw [ht]; exact hP9, hD9⟩, hS.F ht⟩) hS.2.2 dX4_till_34
    · have i_1 : 2 < p1.toInt := z_nle (rfl) (rfl) c_1
      refine lv_iconst (v := (-1)) hx hb dX4_till_9 (by decide) ?_
      have hP9 := hP.sub (ws' := []) [] rfl
      have hD9 := hD.sub (ws' := []) [] (by decide) rfl
      exact W.iret (v := (-1)) hx hb hr (fun t ht hW => ⟨⟨(-1), 0, rfl, Or.inr (Or.inr (⟨i_0, i_1, rfl⟩)), by rw [ht]; exact hP9, hD9⟩, hS.F ht⟩) hS.2.2 dX4_till_10
set_option maxHeartbeats 4000000 in
set_option maxRecDepth 100000 in
theorem kX4_morning (l : Launch) (g : zG) (h0 h1 h2 h3 h4 h5 h6 h7 h8 h9 h10 h11 h12 h13 h14 h15 h16 h17 h18 : Nat) (sz : Nat) : Met l yX4_morning (.code yX4_morning cX4_morning 3 (some .int) :: zBig) ({ frames := 0, cells := 0, slots := 0, locals := 0 }) (va_Pc [.ref h0] (zPre g [(h0, .inr (4, [.ref h1, .ref h2, .int 0, .ref h3, .ref h4, .ref h5, .ref h6, .int (-1), .ref h7, .ref h8, .ref h9, .ref h10])), (h1, .inr (0, [.ref h11, .int 0, .ref h12, .int 0, .ref h13, .ref h14, .ref h15, .ref h16, .ref h17, .ref h18, .int 0]))] sz)) (va_Qi (fun (r : Int32) (_ : Nat) => r = (-2)) (zPost g (fun _ : Nat => []) (va_A [(h0, .inr (4, [.ref h1, .ref h2, .int 0, .ref h3, .ref h4, .ref h5, .ref h6, .int (-1), .ref h7, .ref h8, .ref h9, .ref h10])), (h1, .inr (0, [.ref h11, .int 0, .ref h12, .int 0, .ref h13, .ref h14, .ref h15, .ref h16, .ref h17, .ref h18, .int 0]))] sz)) (va_A [(h0, .inr (4, [.ref h1, .ref h2, .int 0, .ref h3, .ref h4, .ref h5, .ref h6, .int (-1), .ref h7, .ref h8, .ref h9, .ref h10])), (h1, .inr (0, [.ref h11, .int 0, .ref h12, .int 0, .ref h13, .ref h14, .ref h15, .ref h16, .ref h17, .ref h18, .int 0]))] sz)) 0 0 (va_A [(h0, .inr (4, [.ref h1, .ref h2, .int 0, .ref h3, .ref h4, .ref h5, .ref h6, .int (-1), .ref h7, .ref h8, .ref h9, .ref h10])), (h1, .inr (0, [.ref h11, .int 0, .ref h12, .int 0, .ref h13, .ref h14, .ref h15, .ref h16, .ref h17, .ref h18, .int 0]))] sz) := by
  refine zMetI rfl (Nat.le_of_ble_eq_true rfl) ?_
  intro p e s m args below meth c A ls hx hb hml hr hlocks hin hown hts hK hN hZ hP hD hA hS hAe hl
  have hown : s.vm.findClass RX4 = some m.cls := hown
  have hl : lv_has ls 3 [(0, .ref h0)] := hl
  refine lv_aload_n hx hb dX4_morning_0 rfl (lv_at hl 0 rfl) ?_
  refine va_get (D := g.1) (ci := 4) (v := .ref h1) (C := RX4) (T := TX4) (N := 12) hx hb hts zl_X4 hown hK hP 0 rfl rfl 0 (by decide) (hts _ m_f_RX4_10) (fun _ h => h) rfl dX4_morning_1 ?_
  refine va_getN (D := g.1) (ci := 0) (v := .int 0) (C := RX0) (T := TX0) (N := 11) hx hb hts zl_X0 hown hK hP 1 rfl rfl 1 (by decide) (hN.f 4 (q := (RX4, 122, "FishSteps$Books", "lots", "I")) rfl) (fun _ h => h) rfl dX4_morning_4 ?_
  refine lv_if_gt (tgt := 13) hx hb dX4_morning_7 (by decide) (fun h => absurd h (by decide +kernel)) (fun _ => ?_)
  refine lv_bipush (v := (-2)) hx hb dX4_morning_10 (by decide) ?_
  have hP9 := hP.sub (ws' := []) [] rfl
  have hD9 := hD.sub (ws' := []) [] (by decide) rfl
  exact W.iret (v := (-2)) hx hb hr (fun t ht hW => ⟨⟨(-2), 0, rfl, rfl, by rw [ht]; exact hP9, hD9⟩, hS.F ht⟩) hS.2.2 dX4_morning_12
set_option maxHeartbeats 4000000 in
set_option maxRecDepth 100000 in
theorem kX4_span (l : Launch) (g : zG) (h0 h1 h2 h3 h4 h5 h6 h7 h8 h9 h10 h11 h12 h13 h14 h15 h16 h17 h18 : Nat) (sz : Nat) (p1 : Int32) (p2 : Int32) (p3 : Int32) : Met l yX4_span (.code yX4_span cX4_span 5 (some .int) :: zBig) ({ frames := 1, cells := 0, slots := 0, locals := 21 }) (va_Pc [.ref h0, .int p1, .int p2, .int p3] (zPre g [(h0, .inr (4, [.ref h1, .ref h2, .int 0, .ref h3, .ref h4, .ref h5, .ref h6, .int (-1), .ref h7, .ref h8, .ref h9, .ref h10])), (h1, .inr (0, [.ref h11, .int 0, .ref h12, .int 0, .ref h13, .ref h14, .ref h15, .ref h16, .ref h17, .ref h18, .int 0]))] sz)) (va_Qi (fun (r : Int32) (_ : Nat) => (p1.toInt < 0 ∧ r = (-1)) ∨ (0 ≤ p1.toInt ∧ 5 ≤ p1.toInt ∧ r = (-1)) ∨ (0 ≤ p1.toInt ∧ p1.toInt < 5 ∧ r = (-1))) (zPost g (fun _ : Nat => []) (va_A [(h0, .inr (4, [.ref h1, .ref h2, .int 0, .ref h3, .ref h4, .ref h5, .ref h6, .int (-1), .ref h7, .ref h8, .ref h9, .ref h10])), (h1, .inr (0, [.ref h11, .int 0, .ref h12, .int 0, .ref h13, .ref h14, .ref h15, .ref h16, .ref h17, .ref h18, .int 0]))] sz)) (va_A [(h0, .inr (4, [.ref h1, .ref h2, .int 0, .ref h3, .ref h4, .ref h5, .ref h6, .int (-1), .ref h7, .ref h8, .ref h9, .ref h10])), (h1, .inr (0, [.ref h11, .int 0, .ref h12, .int 0, .ref h13, .ref h14, .ref h15, .ref h16, .ref h17, .ref h18, .int 0]))] sz)) 0 0 (va_A [(h0, .inr (4, [.ref h1, .ref h2, .int 0, .ref h3, .ref h4, .ref h5, .ref h6, .int (-1), .ref h7, .ref h8, .ref h9, .ref h10])), (h1, .inr (0, [.ref h11, .int 0, .ref h12, .int 0, .ref h13, .ref h14, .ref h15, .ref h16, .ref h17, .ref h18, .int 0]))] sz) := by
  refine zMetI rfl (Nat.le_of_ble_eq_true rfl) ?_
  intro p e s m args below meth c A ls hx hb hml hr hlocks hin hown hts hK hN hZ hP hD hA hS hAe hl
  have hown : s.vm.findClass RX4 = some m.cls := hown
  have hl : lv_has ls 5 [(0, .ref h0), (1, .int p1), (2, .int p2), (3, .int p3)] := hl
  refine lv_aload_n hx hb dX4_span_0 rfl (lv_at hl 0 rfl) ?_
  refine va_get (D := g.1) (ci := 4) (v := .ref h1) (C := RX4) (T := TX4) (N := 12) hx hb hts zl_X4 hown hK hP 0 rfl rfl 0 (by decide) (hts _ m_f_RX4_10) (fun _ h => h) rfl dX4_span_1 ?_
  refine lv_iload_n hx hb dX4_span_4 rfl (lv_at hl 1 rfl) ?_
  refine z_calli (wr := [(h0, .inr (4, [.ref h1, .ref h2, .int 0, .ref h3, .ref h4, .ref h5, .ref h6, .int (-1), .ref h7, .ref h8, .ref h9, .ref h10]))]) hP hD hS hA [1] [0] (by decide) rfl rfl (by decide) (va_runVN (As := [.int p1]) (rest := []) ⟨hx, hb, hml, hown, hts⟩ (kX0_isThere_2 l g h1 h11 h12 h13 h14 h15 h16 h17 h18 s.heap.size p1) ⟨va_cnB 1 hts (zGood m_o_yX0_isThere) rfl rfl rfl (hN.m 4 (q := (RX4, 80, yX0_isThere)) rfl) (hts _ m_z_RX0) ⟨by decide +kernel, by decide +kernel, by decide +kernel⟩ ⟨Nat.le_of_ble_eq_true rfl, Nat.le_of_ble_eq_true rfl⟩, hts _ m_i_yX0_isThere, hts _ m_e_yX0_isThere⟩ (zPreV hK hN hZ hP hD hS hA [1] (by decide) rfl rfl 0 1 rfl rfl) rfl rfl hl.1 rfl (lv_room (Nat.le_of_ble_eq_true rfl)) dX4_span_5 ⟨Nat.le_of_ble_eq_true rfl, Nat.le_of_ble_eq_true rfl⟩) (fun r u H locs hw hP hD hS => ?_)
  rcases hw with ⟨i_0, rfl⟩ | ⟨i_1, i_2, rfl⟩ | ⟨i_3, i_4, rfl⟩
  · skip
    have i_0 : p1.toInt < 0 := i_0
    have hP : va_P g.1 vwCl [(h0, .inr (4, [.ref h1, .ref h2, .int 0, .ref h3, .ref h4, .ref h5, .ref h6, .int (-1), .ref h7, .ref h8, .ref h9, .ref h10])), (h1, .inr (0, [.ref h11, .int 0, .ref h12, .int 0, .ref h13, .ref h14, .ref h15, .ref h16, .ref h17, .ref h18, .int 0]))] H := hP
    have hD : va_D A [(h0, .inr (4, [.ref h1, .ref h2, .int 0, .ref h3, .ref h4, .ref h5, .ref h6, .int (-1), .ref h7, .ref h8, .ref h9, .ref h10])), (h1, .inr (0, [.ref h11, .int 0, .ref h12, .int 0, .ref h13, .ref h14, .ref h15, .ref h16, .ref h17, .ref h18, .int 0]))] := hD
    refine lv_if_eq (tgt := 27) hx hb dX4_span_8 (by decide) (fun _ => ?_) (fun h => absurd h (by decide +kernel))
    refine lv_iconst (v := (-1)) hx hb dX4_span_27 (by decide) ?_
    have hP9 := hP.sub (ws' := []) [] rfl
    have hD9 := hD.sub (ws' := []) [] (by decide) rfl
    exact W.iret (v := (-1)) hx hb hr (fun t ht hW => ⟨⟨(-1), 0, rfl, Or.inl ⟨i_0, rfl⟩, by rw [ht]; exact hP9, hD9⟩, hS.F ht⟩) hS.2.2 dX4_span_28
  · skip
    have i_1 : 0 ≤ p1.toInt := i_1
    have i_2 : 5 ≤ p1.toInt := i_2
    have hP : va_P g.1 vwCl [(h0, .inr (4, [.ref h1, .ref h2, .int 0, .ref h3, .ref h4, .ref h5, .ref h6, .int (-1), .ref h7, .ref h8, .ref h9, .ref h10])), (h1, .inr (0, [.ref h11, .int 0, .ref h12, .int 0, .ref h13, .ref h14, .ref h15, .ref h16, .ref h17, .ref h18, .int 0]))] H := hP
    have hD : va_D A [(h0, .inr (4, [.ref h1, .ref h2, .int 0, .ref h3, .ref h4, .ref h5, .ref h6, .int (-1), .ref h7, .ref h8, .ref h9, .ref h10])), (h1, .inr (0, [.ref h11, .int 0, .ref h12, .int 0, .ref h13, .ref h14, .ref h15, .ref h16, .ref h17, .ref h18, .int 0]))] := hD
    refine lv_if_eq (tgt := 27) hx hb dX4_span_8 (by decide) (fun _ => ?_) (fun h => absurd h (by decide +kernel))
    refine lv_iconst (v := (-1)) hx hb dX4_span_27 (by decide) ?_
    have hP9 := hP.sub (ws' := []) [] rfl
    have hD9 := hD.sub (ws' := []) [] (by decide) rfl
    exact W.iret (v := (-1)) hx hb hr (fun t ht hW => ⟨⟨(-1), 0, rfl, Or.inr (Or.inl ⟨i_1, i_2, rfl⟩), by rw [ht]; exact hP9, hD9⟩, hS.F ht⟩) hS.2.2 dX4_span_28
  · skip
    have i_3 : 0 ≤ p1.toInt := i_3
    have i_4 : p1.toInt < 5 := i_4
    have hP : va_P g.1 vwCl [(h0, .inr (4, [.ref h1, .ref h2, .int 0, .ref h3, .ref h4, .ref h5, .ref h6, .int (-1), .ref h7, .ref h8, .ref h9, .ref h10])), (h1, .inr (0, [.ref h11, .int 0, .ref h12, .int 0, .ref h13, .ref h14, .ref h15, .ref h16, .ref h17, .ref h18, .int 0]))] H := hP
    have hD : va_D A [(h0, .inr (4, [.ref h1, .ref h2, .int 0, .ref h3, .ref h4, .ref h5, .ref h6, .int (-1), .ref h7, .ref h8, .ref h9, .ref h10])), (h1, .inr (0, [.ref h11, .int 0, .ref h12, .int 0, .ref h13, .ref h14, .ref h15, .ref h16, .ref h17, .ref h18, .int 0]))] := hD
    refine lv_if_eq (tgt := 27) hx hb dX4_span_8 (by decide) (fun _ => ?_) (fun h => absurd h (by decide +kernel))
    refine lv_iconst (v := (-1)) hx hb dX4_span_27 (by decide) ?_
    have hP9 := hP.sub (ws' := []) [] rfl
    have hD9 := hD.sub (ws' := []) [] (by decide) rfl
    exact W.iret (v := (-1)) hx hb hr (fun t ht hW => ⟨⟨(-1), 0, rfl, Or.inr (Or.inr (⟨i_3, i_4, rfl⟩)), by rw [ht]; exact hP9, hD9⟩, hS.F ht⟩) hS.2.2 dX4_span_28
