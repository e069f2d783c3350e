/-! THE CLAIM OUT OF ONE WALK OF THE LAW'S BODY. Your part is whole_start (and what it stands on); all else here is the same for every law, but numbers. -/
def R_law : String := "FishStepsLaw"
def lw_P (b : Addr) (xs : List Int32) (args : Array Value) (s : State) : Prop := args = #[.ref b] ∧ s.IntsAt b xs ∧ xs.length ≤ 3072 ∧ (Jvm.Cond.and given_1 narrow_1).before args s = true
def lw_Q (_ : Array Value) (s : State) (o : Outcome) (t : State) : Prop := o = .returned (some (.int 1)) ∧ Framed s o t [] 600000 7302250
def lw_Z (below : List Frame) (a : Array Value) (s : State) : State → Prop := fun t => ∃ o, t.status = .running ∧ Ended t below o ∧ lw_Q a s o t
/-- the law's own end, with 1 on the stack, nothing written that was there before, its room as the claim has it -/
theorem lw_ret {p : Program} {l : Launch} {e : Env} {s : State} {m : MethodId} {below : List Frame} {meth : Method} {c : Code} {b : Nat} (hx : p.tables.exec = Jvm.exec) (hb : c.code = code) (hr : meth.sig.returnType = ret) (hlocks : meth.locks = false) {pc : Nat} {H : Heap} {ls : Array Slot} (hdg : decode code pc = .ok (.ireturn, 1)) : W p l e room_1 s m #[Value.ref b] below meth c H [] 600000 7302250 (lw_Z below #[Value.ref b] s) (F0 m pc ls [.int 1]) := by
  intro T hT X
  obtain ⟨fs, hret, hrun, hended, hW, hframe⟩ := X.leave (v := some (.int 1)) (hlocks := hlocks) (fun h => by rw [hr] at h; cases h)
  have hmeth' : T.vm.method? m = some meth := X.method'
  refine ⟨T.setFrames fs, ?_, .returned (some (.int 1)), hrun, hended, rfl, ⟨_, rfl⟩, hW, hframe⟩
  jvm_step X.here [X.here.top, hx, hb, hdg, hmeth', hr, ret, narrow_b1]
  (try refine ⟨rfl, ?_⟩); (try refine ⟨rfl, ?_⟩)
  first | (intro acts; rw [hret _ acts rfl rfl rfl]) | rw [hret _ _ rfl rfl rfl]
  exact Steps.refl _
/-- what holds at the law's entry: the machine, the code, the tables' words (any of lw_tbl by 'hts w (by decide +kernel)'), the script of L ints xs at the cell b, what the Statement gives of the start (any of its parts by flat_of_before) -/
def lw_At (p : Program) (s : State) (m : MethodId) (meth : Method) (c : Code) (b L : Nat) (xs : Nat → Int32) : Prop :=
  p.tables.exec = Jvm.exec ∧ c.code = code ∧ meth.sig.returnType = ret ∧ c.maxLocals = 4 ∧ s.vm.findClass R_law = some m.cls ∧ (∀ w ∈ lw_tbl, w.before #[Value.ref b] s = true) ∧ va_X b L xs s s.heap ∧ b < s.heap.size ∧ meth.locks = false ∧ (Jvm.Cond.and given_1 narrow_1).before #[Value.ref b] s = true
/-- both desks between two calls, of any content -/
def lW (g : zG) (x0 m0 : Nat) (xN0 xN1 xN2 xN3 xN4 xN5 xN6 xN7 xN8 xN9 xN10 xN11 xN12 xN13 xN14 xN15 xN16 xN17 xN18 xN19 xN20 xN21 xN22 xN23 xN24 xN25 xN26 xN27 xN28 xN29 xN30 xN31 xN32 xN33 xN34 xN35 xN36 xN37 xN38 xN39 mN0 mN1 mN2 mN3 mN4 mN5 mN6 mN7 mN8 mN9 mN10 mN11 mN12 mN13 mN14 mN15 mN16 mN17 mN18 mN19 mN20 mN21 : Nat) (xv0 xv1 xv2 xv3 xv4 xv13 xv14 xv15 xv24 xv25 xv36 mv0 mv1 mv2 mv3 mv4 : Int32) (xF5 xF6 xF7 xF8 xF9 xF10 xF11 xF12 xF16 xF17 xF18 xF19 xF20 xF21 xF22 xF23 xF26 xF27 xF28 xF29 xF30 xF31 xF32 xF33 xF34 xF35 xF37 xF38 xF39 xF41 xF42 xF43 xF44 xF45 mF5 mF6 mF7 mF8 mF9 mF10 mF11 mF12 mF13 mF14 mF15 mF16 mF17 mF18 mF19 mF20 mF21 mF22 mF23 mF24 : Nat → Int32) (xF40 mF25 mF26 : Nat → Int64) : va_W := [(x0, .inr (4, [.ref xN0, .ref xN9, .int xv0, .ref xN18, .ref xN29, .ref xN31, .ref xN35, .int xv1, .ref xN36, .ref xN37, .ref xN38, .ref xN39])), (xN0, .inr (0, [.ref xN1, .int xv2, .ref xN2, .int xv3, .ref xN3, .ref xN4, .ref xN5, .ref xN6, .ref xN7, .ref xN8, .int xv4])), (xN1, .inl (zI g, 5, .inl xF5)), (xN2, .inl (zI g, 6, .inl xF6)), (xN3, .inl (zI g, 5, .inl xF7)), (xN4, .inl (zI g, 5, .inl xF8)), (xN5, .inl (zI g, 5, .inl xF9)), (xN6, .inl (zI g, 20, .inl xF10)), (xN7, .inl (zI g, 20, .inl xF11)), (xN8, .inl (zI g, 20, .inl xF12)), (xN9, .inr (0, [.ref xN10, .int xv13, .ref xN11, .int xv14, .ref xN12, .ref xN13, .ref xN14, .ref xN15, .ref xN16, .ref xN17, .int xv15])), (xN10, .inl (zI g, 5, .inl xF16)), (xN11, .inl (zI g, 6, .inl xF17)), (xN12, .inl (zI g, 5, .inl xF18)), (xN13, .inl (zI g, 5, .inl xF19)), (xN14, .inl (zI g, 5, .inl xF20)), (xN15, .inl (zI g, 20, .inl xF21)), (xN16, .inl (zI g, 20, .inl xF22)), (xN17, .inl (zI g, 20, .inl xF23)), (xN18, .inr (2, [.ref xN19, .ref xN20, .ref xN21, .ref xN22, .ref xN23, .ref xN24, .int xv24, .int xv25, .ref xN25, .ref xN26, .ref xN27, .ref xN28])), (xN19, .inl (zI g, 5, .inl xF26)), (xN20, .inl (zI g, 5, .inl xF27)), (xN21, .inl (zI g, 5, .inl xF28)), (xN22, .inl (zI g, 5, .inl xF29)), (xN23, .inl (zI g, 5, .inl xF30)), (xN24, .inl (zI g, 5, .inl xF31)), (xN25, .inl (zI g, 6, .inl xF32)), (xN26, .inl (zI g, 6, .inl xF33)), (xN27, .inl (zI g, 6, .inl xF34)), (xN28, .inl (zI g, 6, .inl xF35)), (xN29, .inr (3, [.ref xN30, .int xv36])), (xN30, .inl (zB g, 60, .inl xF37)), (xN31, .inr (1, [.ref xN32, .ref xN33, .ref xN34])), (xN32, .inl (zI g, 4, .inl xF38)), (xN33, .inl (zI g, 4, .inl xF39)), (xN34, .inl (zJ g, 64, .inr (.inl xF40))), (xN35, .inl (zI g, 5120, .inl xF41)), (xN36, .inl (zI g, 6, .inl xF42)), (xN37, .inl (zI g, 6, .inl xF43)), (xN38, .inl (zI g, 5, .inl xF44)), (xN39, .inl (zI g, 6, .inl xF45)), (m0, .inr (5, [.ref mN0, .int mv0, .ref mN1, .int mv1, .int mv2, .ref mN2, .ref mN3, .ref mN4, .ref mN5, .int mv3, .ref mN6, .ref mN7, .ref mN8, .int mv4, .ref mN9, .ref mN10, .ref mN11, .ref mN12, .ref mN13, .ref mN14, .ref mN15, .ref mN16, .ref mN17, .ref mN18, .ref mN19, .ref mN20, .ref mN21])), (mN0, .inl (zI g, 180, .inl mF5)), (mN1, .inl (zI g, 60, .inl mF6)), (mN2, .inl (zI g, 5, .inl mF7)), (mN3, .inl (zI g, 6, .inl mF8)), (mN4, .inl (zI g, 6, .inl mF9)), (mN5, .inl (zI g, 5, .inl mF10)), (mN6, .inl (zI g, 5, .inl mF11)), (mN7, .inl (zI g, 5, .inl mF12)), (mN8, .inl (zI g, 5, .inl mF13)), (mN9, .inl (zI g, 6, .inl mF14)), (mN10, .inl (zI g, 6, .inl mF15)), (mN11, .inl (zI g, 6, .inl mF16)), (mN12, .inl (zI g, 6, .inl mF17)), (mN13, .inl (zI g, 6, .inl mF18)), (mN14, .inl (zI g, 6, .inl mF19)), (mN15, .inl (zI g, 6, .inl mF20)), (mN16, .inl (zI g, 5120, .inl mF21)), (mN17, .inl (zI g, 6, .inl mF22)), (mN18, .inl (zI g, 4, .inl mF23)), (mN19, .inl (zI g, 4, .inl mF24)), (mN20, .inl (zJ g, 64, .inr (.inl mF25))), (mN21, .inl (zJ g, 16, .inr (.inl mF26)))]
/-- what the law's walk holds on to -/
def lC (g : zG) (p : Program) (s : State) (m : MethodId) (meth : Method) (c : Code) (b L : Nat) (xs : Nat → Int32) : Prop := p.tables.exec = Jvm.exec ∧ c.code = code ∧ c.maxLocals = 4 ∧ meth.sig.returnType = ret ∧ meth.locks = false ∧ s.vm.findClass RL = some m.cls ∧ (∀ w ∈ zBig, w.before #[Value.ref b] s = true) ∧ va_K g.1 vwCl (zTys g) s ∧ zN s ∧ zS g (fun q : Nat => s.heap.size ≤ q) s s.heap ∧ va_X b L xs s s.heap ∧ b < s.heap.size
/-- the law goes well from here, whatever the desks hold -/
def lGo (pc : Nat) (p : Program) (l : Launch) (e : Env) (s : State) (m : MethodId) (below : List Frame) (meth : Method) (c : Code) (b : Nat) (g : zG) (x0 m0 : Nat) (v : Int32) : Prop := ∀ (xN0 xN1 xN2 xN3 xN4 xN5 xN6 xN7 xN8 xN9 xN10 xN11 xN12 xN13 xN14 xN15 xN16 xN17 xN18 xN19 xN20 xN21 xN22 xN23 xN24 xN25 xN26 xN27 xN28 xN29 xN30 xN31 xN32 xN33 xN34 xN35 xN36 xN37 xN38 xN39 mN0 mN1 mN2 mN3 mN4 mN5 mN6 mN7 mN8 mN9 mN10 mN11 mN12 mN13 mN14 mN15 mN16 mN17 mN18 mN19 mN20 mN21 : Nat) (xv0 xv1 xv2 xv3 xv4 xv13 xv14 xv15 xv24 xv25 xv36 mv0 mv1 mv2 mv3 mv4 : Int32) (xF5 xF6 xF7 xF8 xF9 xF10 xF11 xF12 xF16 xF17 xF18 xF19 xF20 xF21 xF22 xF23 xF26 xF27 xF28 xF29 xF30 xF31 xF32 xF33 xF34 xF35 xF37 xF38 xF39 xF41 xF42 xF43 xF44 xF45 mF5 mF6 mF7 mF8 mF9 mF10 mF11 mF12 mF13 mF14 mF15 mF16 mF17 mF18 mF19 mF20 mF21 mF22 mF23 mF24 : Nat → Int32) (xF40 mF25 mF26 : Nat → Int64) (H : Heap) (locs : List Loc) (ls : Array Slot), va_P g.1 vwCl (lW g x0 m0 xN0 xN1 xN2 xN3 xN4 xN5 xN6 xN7 xN8 xN9 xN10 xN11 xN12 xN13 xN14 xN15 xN16 xN17 xN18 xN19 xN20 xN21 xN22 xN23 xN24 xN25 xN26 xN27 xN28 xN29 xN30 xN31 xN32 xN33 xN34 xN35 xN36 xN37 xN38 xN39 mN0 mN1 mN2 mN3 mN4 mN5 mN6 mN7 mN8 mN9 mN10 mN11 mN12 mN13 mN14 mN15 mN16 mN17 mN18 mN19 mN20 mN21 xv0 xv1 xv2 xv3 xv4 xv13 xv14 xv15 xv24 xv25 xv36 mv0 mv1 mv2 mv3 mv4 xF5 xF6 xF7 xF8 xF9 xF10 xF11 xF12 xF16 xF17 xF18 xF19 xF20 xF21 xF22 xF23 xF26 xF27 xF28 xF29 xF30 xF31 xF32 xF33 xF34 xF35 xF37 xF38 xF39 xF41 xF42 xF43 xF44 xF45 mF5 mF6 mF7 mF8 mF9 mF10 mF11 mF12 mF13 mF14 mF15 mF16 mF17 mF18 mF19 mF20 mF21 mF22 mF23 mF24 xF40 mF25 mF26) H → va_D (fun q : Nat => s.heap.size ≤ q) (lW g x0 m0 xN0 xN1 xN2 xN3 xN4 xN5 xN6 xN7 xN8 xN9 xN10 xN11 xN12 xN13 xN14 xN15 xN16 xN17 xN18 xN19 xN20 xN21 xN22 xN23 xN24 xN25 xN26 xN27 xN28 xN29 xN30 xN31 xN32 xN33 xN34 xN35 xN36 xN37 xN38 xN39 mN0 mN1 mN2 mN3 mN4 mN5 mN6 mN7 mN8 mN9 mN10 mN11 mN12 mN13 mN14 mN15 mN16 mN17 mN18 mN19 mN20 mN21 xv0 xv1 xv2 xv3 xv4 xv13 xv14 xv15 xv24 xv25 xv36 mv0 mv1 mv2 mv3 mv4 xF5 xF6 xF7 xF8 xF9 xF10 xF11 xF12 xF16 xF17 xF18 xF19 xF20 xF21 xF22 xF23 xF26 xF27 xF28 xF29 xF30 xF31 xF32 xF33 xF34 xF35 xF37 xF38 xF39 xF41 xF42 xF43 xF44 xF45 mF5 mF6 mF7 mF8 mF9 mF10 mF11 mF12 mF13 mF14 mF15 mF16 mF17 mF18 mF19 mF20 mF21 mF22 mF23 mF24 xF40 mF25 mF26) → va_S (fun q : Nat => s.heap.size ≤ q) s.heap H locs → (0 ≤ xv2.toInt ∧ xv2.toInt ≤ 6) → (0 ≤ xv3.toInt ∧ xv3.toInt ≤ 5) → (0 ≤ xv4.toInt ∧ xv4.toInt ≤ 9999) → (0 ≤ xv13.toInt ∧ xv13.toInt ≤ 6) → (0 ≤ xv14.toInt ∧ xv14.toInt ≤ 5) → (0 ≤ xv15.toInt ∧ xv15.toInt ≤ 9999) → (0 ≤ xv36.toInt ∧ xv36.toInt ≤ 60) → (0 ≤ mv1.toInt ∧ mv1.toInt ≤ 60) → (0 ≤ mv2.toInt ∧ mv2.toInt ≤ 60) → (0 ≤ mv3.toInt ∧ mv3.toInt ≤ 31) → (0 ≤ mv4.toInt ∧ mv4.toInt ≤ 1000) → iLaw xF5 → iKd xF6 → iSo xF7 → iPu xF8 → iMa xF9 → iWo xF10 → iLaw xF16 → iKd xF17 → iSo xF18 → iPu xF19 → iMa xF20 → iWo xF21 → iMa xF26 → iPu xF27 → iHd xF28 → iGa xF29 → iLm xF30 → iMo xF31 → iSize xF39 → iRw xF42 → iKd xF45 → iW (mv0.toInt ≠ 0) (zBk.mk xF5 xv2.toInt xF6 xv3.toInt xF7 xF8 xF9 xF10 xv4.toInt) (zBk.mk xF16 xv13.toInt xF17 xv14.toInt xF18 xF19 xF20 xF21 xv15.toInt) mF5 → iKd mF8 → iPerm mF9 → iMa mF10 → iPu mF11 → iRo mF12 → iGa mF13 → iSize mF24 → zPos xF37 xv36.toInt = 1 → zPos mF6 mv1.toInt = 1 → (xv0 = mv0) → (xF38 = mF23) → (xF39 = mF24) → (xv36.toInt = mv1.toInt) → (∀ a : Int, 0 ≤ a → a < xv36.toInt → zc xF37 a = zc mF6 a) → lv_has ls 4 [(0, .ref b), (1, .ref x0), (2, .ref m0), (3, .int v)] → W p l e room_1 s m #[Value.ref b] below meth c H locs 600000 7302250 (lw_Z below #[Value.ref b] s) (F0 m pc ls [])
theorem z_ofNat {L : Nat} {y : Int32} (e : y = Int32.ofNat L) (h : L ≤ 3072) : y.toInt = (L : Int) := by
  rw [e]
  exact Int32.toInt_ofNat_of_lt (by omega)
theorem iSize_0 : iSize (fun _ => 0) := fun _ _ => ⟨show (0 : Int) ≤ (0 : Int32).toInt from by decide, show (0 : Int32).toInt ≤ 16 from by decide⟩
theorem i_00 {N : Nat} {lo hi : Int} (h : lo ≤ (0 : Int32).toInt ∧ (0 : Int32).toInt ≤ hi) : ∀ j : Nat, j < N → lo ≤ ((fun _ : Nat => (0 : Int32)) j).toInt ∧ ((fun _ : Nat => (0 : Int32)) j).toInt ≤ hi := fun _ _ => h
theorem iPerm_0 : iPerm (upd (upd (upd (upd (upd (fun _ => 0) 1 1) 2 2) 3 3) 4 4) 5 5) := iPerm_ident (by decide) (by decide) (by decide) (by decide) (by decide) (by decide)
theorem iW_new {C : zBk} : iW ((0 : Int32).toInt ≠ 0) (zBk.mk (zA [60, 1, 1, 0, 0]) (0 : Int32).toInt (fun _ => 0) (0 : Int32).toInt (fun _ => 0) (fun _ => 0) (fun _ => 0) (fun _ => 0) (0 : Int32).toInt) C (upd (upd (upd (fun _ => 0) 0 60) 1 1) 2 1) := by
  refine ⟨fun j hj => ?_, ⟨fun j hj => ⟨fun c => ?_, fun c => ?_, fun _ _ c => ?_, fun c => ?_, fun _ _ c => ?_, fun _ _ c => ?_, fun _ _ c => ?_, fun _ _ c => ?_, fun c => ?_⟩, fun j hj c => rfl, fun j hj c => rfl⟩, fun h => absurd rfl h⟩
  rotate_left
  · have q : j = 0 ∨ j = 1 ∨ j = 2 ∨ j = 3 ∨ j = 4 := by omega
    rcases q with rfl | rfl | rfl | rfl | rfl <;> rfl
  · subst c
    rfl
  · have c : (j : Int) - 6 < 0 := c
    exfalso
    omega
  · subst c
    rfl
  · have c : (j : Int) - 13 < 0 := c
    exfalso
    omega
  · have c : (j : Int) - 23 < 0 := c
    exfalso
    omega
  · have c : (j : Int) - 28 < 4 * 0 := c
    exfalso
    omega
  · have c : (j : Int) - 18 < 0 := c
    exfalso
    omega
  · subst c
    rfl
  rw [Nat.zero_add]
  simp only [upd]
  by_cases q2 : j = 2
  · subst q2
    exact ⟨by decide, by decide, by decide, by decide, by decide, by decide⟩
  · rw [if_neg q2]
    by_cases q1 : j = 1
    · subst q1
      exact ⟨by decide, by decide, by decide, by decide, by decide, by decide⟩
    · rw [if_neg q1]
      by_cases q0 : j = 0
      · subst q0
        exact ⟨by decide, by decide, by decide, by decide, by decide, by decide⟩
      · rw [if_neg q0]
        have e : ((0 : Int32)).toInt = 0 := rfl
        rw [e]
        refine ⟨fun h => ?_, fun h => ?_, fun h => ?_, fun h => ?_, fun h1 h2 => ?_, fun h => ?_⟩ <;> omega
