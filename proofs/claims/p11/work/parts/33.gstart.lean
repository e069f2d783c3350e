/-! the start: classes of rows, tables, nest words; the two objects; the script's length; the switch -/
theorem z_arr {args : Array Value} {s : State} (h : (Cond.arrayClass .int).before args s = true) (h2 : (Cond.arrayClass .long).before args s = true) (h3 : (Cond.arrayClass .byte).before args s = true) : ∃ cI cJ cB : ClassId, (ArrOfT s cI .int ∧ va_RA s cI .int) ∧ (ArrOfT s cJ .long ∧ va_RA s cJ .long) ∧ (ArrOfT s cB .byte ∧ va_RA s cB .byte) := by
  obtain ⟨c1, k1, d1, a1, b1, e1⟩ := Cond.arrayClass_spec h
  obtain ⟨c2, k2, d2, a2, b2, e2⟩ := Cond.arrayClass_spec h2
  obtain ⟨c3, k3, d3, a3, b3, e3⟩ := Cond.arrayClass_spec h3
  exact ⟨c1, c2, c3, ⟨fun n z => ⟨(fun k h => by cases h), k1, b1, d1, e1⟩, a1⟩, ⟨fun n z => ⟨(fun k h => by cases h), k2, b2, d2, e2⟩, a2⟩, ⟨fun n z => ⟨(fun k h => by cases h), k3, b3, d3, e3⟩, a3⟩⟩
theorem z_len {t : Term} {args : Array Value} {s : State} {v : Value} {b : Addr} {cell : Cell} (hv : (Term.length t).eval args s none [] s = some v) (ht : t.eval args s none [] s = some (.ref b)) (harr : s.arrayAt? b = some cell) : cell.slots.size < 2 ^ 31 := by
  simp only [Term.eval, ht, harr, Option.bind_eq_bind, Option.bind_some] at hv
  by_cases hlt : cell.slots.size < 2147483648
  · exact hlt
  · simp [hlt] at hv
theorem z_st {args : Array Value} {s : State} {n : String} {cI : ClassId} (l5 : List Int32) (hnm : s.vm.findClass "[I" = some cI)
    (h1 : (Cond.laysStatic "FishSteps" n "[I").before args s = true) (h2 : (Cond.initialized "FishSteps").before args s = true)
    (h3 : (Cond.arrayOf (.static "FishSteps" n "[I") .int).before args s = true)
    (h4 : (Cond.eq (.length (.static "FishSteps" n "[I")) (.int 5)).before args s = true)
    (h5 : ∀ j, j < 5 → (Cond.eq (.elem (.static "FishSteps" n "[I") (.int (Int32.ofNat j))) (.int (zA l5 j))).before args s = true)
    (h6 : (Cond.exactly (.static "FishSteps" n "[I") "[I").before args s = true) :
    ∃ t : Nat, ∀ g : zG, zI g = cI → zSt g n t (zA l5) (fun q : Nat => s.heap.size ≤ q) s s.heap := by
  have hA : ∀ a : Nat, a < s.heap.size → ¬ (fun q : Nat => s.heap.size ≤ q) a := fun a h => Nat.not_le.mpr h
  have hv := va_eqt h4
  obtain ⟨t, ht, hT⟩ := va_Tof (N := 5) (f := fun j => .int (zA l5 j)) (by decide) h3 hv (fun j hj => va_eqt (h5 j hj)) hA
  have hZ := va_Zref h1 h2 ht hA
  obtain ⟨a, c, cell, k, e1, e2, e3, e4, e5, e6, -⟩ := Cond.exactly_spec h6
  have ea : a = t := by
    have h := e1.symm.trans ht
    exact Value.ref.inj (Option.some.inj h)
  subst ea
  have ec : cI = c := Option.some.inj (hnm.symm.trans e2)
  subst ec
  obtain ⟨b, cell', ht', harr, -⟩ := Term.length_spec hv
  have eb : a = b := Value.ref.inj (Option.some.inj (ht.symm.trans ht'))
  subst eb
  obtain ⟨hc', -, -, -⟩ := State.arrayAt?_spec harr
  have ecell : cell = cell' := Option.some.inj (e3.symm.trans hc')
  subst ecell
  have hsz : cell.slots.size < 2 ^ 31 := z_len hv ht' harr
  obtain ⟨cell1, c1, c2, c3, c4, c5, c6, c7⟩ := id hT
  have e1' : cell = cell1 := Option.some.inj (e3.symm.trans c1)
  subst e1'
  have hs5 : cell.slots.size = 5 := (nI_eq hsz (by decide)).mp c5
  refine ⟨a, fun g hg => ⟨hZ, hT, cell, e3, by rw [e6, hg], ?_, (fun k h => by rw [h] at e5; cases e5), c3, c7⟩⟩
  apply Array.ext
  · rw [hs5]; exact (arrV_size _ _ _).symm
  · intro i hi1 hi2
    have hi : i < 5 := by rw [← hs5]; exact hi1
    have r1 := c6 i hi
    have r2 := arrV_read (zI g) (N := 5) (fun j => Value.int (zA l5 j)) hi
    rw [Array.getElem?_eq_getElem hi1] at r1
    rw [Array.getElem?_eq_getElem hi2] at r2
    exact Option.some.inj (r1.trans r2.symm)
theorem z_nest {args : Array Value} {s : State} (hts : ∀ w ∈ lw_tbl, w.before args s = true) : zN s := by
  refine ⟨fun q hq => va_Nw.of rfl (hts _ (List.mem_append_right _ ?_)), fun q hq => va_Nw.of rfl (hts _ (List.mem_append_right _ ?_)), va_Nw.of rfl (hts _ (List.mem_append_right _ (List.mem_of_getElem? (i := 32) (by decide +kernel))))⟩
  · exact (by decide +kernel : ∀ q ∈ zNF, Cond.fieldLinkNest q.1 q.2.1 q.2.2.1 q.2.2.2.1 q.2.2.2.2 RX4 ∈ tables_1) q hq
  · exact (by decide +kernel : ∀ q ∈ zNM, Cond.methodLinkNest q.1 q.2.1 q.2.2 RX4 ∈ tables_1) q hq
