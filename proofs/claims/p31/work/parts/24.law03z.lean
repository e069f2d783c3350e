theorem zPreSY {s : State} {H : Heap} {locs : List Loc} {g : zG} {A : Nat → Prop} {ws wc : va_W} {av : List Value} {b L : Nat} {xs : Nat → Int32} (hX : va_X b L xs s s.heap) (hbl : b < s.heap.size) (hbA : ¬ A b) (hK : va_K g.1 vwCl (zTys g) s) (hN : zN s) (hZ : zS g A s s.heap) (hP : va_P g.1 vwCl ws H) (hD : va_D A ws) (hS : va_S A s.heap H locs) (hA : ∀ q, s.heap.size ≤ q → A q) (isC : List Nat) (hn : va_nd isC = true) (hC : isC.map (fun i => ws[i]?) = wc.map some) (hC2 : isC.filterMap (fun i => ws[i]?) = wc) : PreS s H (va_Pc av (zPreX g wc H.size b L xs)) av := ⟨zBlindX, fun U hU hW => ⟨rfl, zPreOf hK hN hZ hP hD hS hA isC hn hC hC2 hU hW, by
  rw [hU]
  exact (hX.kept (hS.2.1 b hbl hbA)).moved hW.alike, by
  rw [hU]
  exact Nat.lt_of_lt_of_le hbl hS.1, fun h => hbA (va_free hD hS hA isC hC b h)⟩⟩
