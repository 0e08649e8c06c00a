theorem tab_X {args : Array Value} {s : State} {tm : Term} {N : Nat} {f : Nat → Int32} (hN : N < 2147483648) (harr : (Cond.arrayOf tm .int).before args s = true) (hlen : (Term.length tm).eval args s none [] s = some (.int (Int32.ofNat N))) (hel : ∀ j : Nat, j < N → (Term.elem tm (.int (Int32.ofNat j))).eval args s none [] s = some (.int (f j))) : ∃ t : Nat, tm.eval args s none [] s = some (.ref t) ∧ va_X t N f s s.heap ∧ t < s.heap.size := by
  obtain ⟨t, ht, cell, h1, h2, h3, h4, h5, h6, -⟩ := va_Tof (A := fun _ => False) (f := fun j => .int (f j)) hN harr hlen hel (fun _ _ z => z)
  have hlt : t < s.heap.size := (Array.getElem?_eq_some_iff.mp h1).1
  obtain ⟨b, cell2, ht2, hat, -⟩ := Term.length_spec hlen
  cases ht.symm.trans ht2
  obtain ⟨hc2, -, -, -⟩ := State.arrayAt?_spec hat
  cases h1.symm.trans hc2
  have hsz : cell.slots.size < 2147483648 := by
    simp only [Term.eval, ht, hat, Option.bind_eq_bind, Option.bind_some] at hlen
    by_cases q : cell.slots.size < 2147483648
    · exact q
    · simp [q] at hlen
  have hs : cell.slots.size = N := (n_eq hsz hN).mp h5
  exact ⟨t, ht, ⟨cell, h1, h2, h3, hs, h6⟩, hlt⟩
theorem eq_el {args : Array Value} {s : State} {n : String} {j z : Int32} (h : (Cond.eq (.elem (.static "PassBill" n "[I") (.int j)) (.int z)).before args s = true) : (Term.elem (.static "PassBill" n "[I") (.int j)).eval args s none [] s = some (.int z) := va_eqt h
set_option maxRecDepth 100000 in
theorem stat_0 {args : Array Value} {s : State} (h : (Jvm.Cond.and given_1 narrow_1).before args s = true) : ∃ t : Nat, (Term.static "PassBill" "LEAST" "[I").eval args s none [] s = some (.ref t) ∧ va_X t 11 (xm_ls [0, 0, 0, 0, 0, 0, 0, 0, 0, 1, 0]) s s.heap ∧ t < s.heap.size := by
  have hs := flat_of_before _ h
  refine tab_X (by omega) (hs _ (by decide +kernel)) (va_eqt (z := 11) (hs _ (by decide +kernel))) (fun j hj => ?_)
  match j, hj with
  | 0, _ => exact eq_el (j := 0) (z := 0) (hs _ (by decide +kernel))
  | 1, _ => exact eq_el (j := 1) (z := 0) (hs _ (by decide +kernel))
  | 2, _ => exact eq_el (j := 2) (z := 0) (hs _ (by decide +kernel))
  | 3, _ => exact eq_el (j := 3) (z := 0) (hs _ (by decide +kernel))
  | 4, _ => exact eq_el (j := 4) (z := 0) (hs _ (by decide +kernel))
  | 5, _ => exact eq_el (j := 5) (z := 0) (hs _ (by decide +kernel))
  | 6, _ => exact eq_el (j := 6) (z := 0) (hs _ (by decide +kernel))
  | 7, _ => exact eq_el (j := 7) (z := 0) (hs _ (by decide +kernel))
  | 8, _ => exact eq_el (j := 8) (z := 0) (hs _ (by decide +kernel))
  | 9, _ => exact eq_el (j := 9) (z := 1) (hs _ (by decide +kernel))
  | 10, _ => exact eq_el (j := 10) (z := 0) (hs _ (by decide +kernel))
  | j + 11, hj => exact absurd hj (by omega)
set_option maxRecDepth 100000 in
theorem stat_1 {args : Array Value} {s : State} (h : (Jvm.Cond.and given_1 narrow_1).before args s = true) : ∃ t : Nat, (Term.static "PassBill" "MOST" "[I").eval args s none [] s = some (.ref t) ∧ va_X t 11 (xm_ls [9, 9999, 99, 3, 4, 1, 99, 99, 199, 99, 99]) s s.heap ∧ t < s.heap.size := by
  have hs := flat_of_before _ h
  refine tab_X (by omega) (hs _ (by decide +kernel)) (va_eqt (z := 11) (hs _ (by decide +kernel))) (fun j hj => ?_)
  match j, hj with
  | 0, _ => exact eq_el (j := 0) (z := 9) (hs _ (by decide +kernel))
  | 1, _ => exact eq_el (j := 1) (z := 9999) (hs _ (by decide +kernel))
  | 2, _ => exact eq_el (j := 2) (z := 99) (hs _ (by decide +kernel))
  | 3, _ => exact eq_el (j := 3) (z := 3) (hs _ (by decide +kernel))
  | 4, _ => exact eq_el (j := 4) (z := 4) (hs _ (by decide +kernel))
  | 5, _ => exact eq_el (j := 5) (z := 1) (hs _ (by decide +kernel))
  | 6, _ => exact eq_el (j := 6) (z := 99) (hs _ (by decide +kernel))
  | 7, _ => exact eq_el (j := 7) (z := 99) (hs _ (by decide +kernel))
  | 8, _ => exact eq_el (j := 8) (z := 199) (hs _ (by decide +kernel))
  | 9, _ => exact eq_el (j := 9) (z := 99) (hs _ (by decide +kernel))
  | 10, _ => exact eq_el (j := 10) (z := 99) (hs _ (by decide +kernel))
  | j + 11, hj => exact absurd hj (by omega)
set_option maxRecDepth 100000 in
theorem stat_2 {args : Array Value} {s : State} (h : (Jvm.Cond.and given_1 narrow_1).before args s = true) : ∃ t : Nat, (Term.static "PassBill" "FIRST" "[I").eval args s none [] s = some (.ref t) ∧ va_X t 11 (xm_ls [5, 100, 30, 0, 0, 1, 10, 20, 0, 10, 10]) s s.heap ∧ t < s.heap.size := by
  have hs := flat_of_before _ h
  refine tab_X (by omega) (hs _ (by decide +kernel)) (va_eqt (z := 11) (hs _ (by decide +kernel))) (fun j hj => ?_)
  match j, hj with
  | 0, _ => exact eq_el (j := 0) (z := 5) (hs _ (by decide +kernel))
  | 1, _ => exact eq_el (j := 1) (z := 100) (hs _ (by decide +kernel))
  | 2, _ => exact eq_el (j := 2) (z := 30) (hs _ (by decide +kernel))
  | 3, _ => exact eq_el (j := 3) (z := 0) (hs _ (by decide +kernel))
  | 4, _ => exact eq_el (j := 4) (z := 0) (hs _ (by decide +kernel))
  | 5, _ => exact eq_el (j := 5) (z := 1) (hs _ (by decide +kernel))
  | 6, _ => exact eq_el (j := 6) (z := 10) (hs _ (by decide +kernel))
  | 7, _ => exact eq_el (j := 7) (z := 20) (hs _ (by decide +kernel))
  | 8, _ => exact eq_el (j := 8) (z := 0) (hs _ (by decide +kernel))
  | 9, _ => exact eq_el (j := 9) (z := 10) (hs _ (by decide +kernel))
  | 10, _ => exact eq_el (j := 10) (z := 10) (hs _ (by decide +kernel))
  | j + 11, hj => exact absurd hj (by omega)
set_option maxRecDepth 100000 in
theorem stat_3 {args : Array Value} {s : State} (h : (Jvm.Cond.and given_1 narrow_1).before args s = true) : ∃ t : Nat, (Term.static "PassBill" "ABOVE" "[I").eval args s none [] s = some (.ref t) ∧ va_X t 8 (xm_ls [(-1), 0, 0, 2, 1, 3, 0, 6]) s s.heap ∧ t < s.heap.size := by
  have hs := flat_of_before _ h
  refine tab_X (by omega) (hs _ (by decide +kernel)) (va_eqt (z := 8) (hs _ (by decide +kernel))) (fun j hj => ?_)
  match j, hj with
  | 0, _ => exact eq_el (j := 0) (z := (-1)) (hs _ (by decide +kernel))
  | 1, _ => exact eq_el (j := 1) (z := 0) (hs _ (by decide +kernel))
  | 2, _ => exact eq_el (j := 2) (z := 0) (hs _ (by decide +kernel))
  | 3, _ => exact eq_el (j := 3) (z := 2) (hs _ (by decide +kernel))
  | 4, _ => exact eq_el (j := 4) (z := 1) (hs _ (by decide +kernel))
  | 5, _ => exact eq_el (j := 5) (z := 3) (hs _ (by decide +kernel))
  | 6, _ => exact eq_el (j := 6) (z := 0) (hs _ (by decide +kernel))
  | 7, _ => exact eq_el (j := 7) (z := 6) (hs _ (by decide +kernel))
  | j + 8, hj => exact absurd hj (by omega)
set_option maxRecDepth 100000 in
theorem stat_4 {args : Array Value} {s : State} (h : (Jvm.Cond.and given_1 narrow_1).before args s = true) : ∃ t : Nat, (Term.static "PassBill" "OWN" "[I").eval args s none [] s = some (.ref t) ∧ va_X t 32 (xm_ls [1, 10, 11, 2, 20, 0, 0, 0, 0, 30, 0, 0, 0, 41, 40, 0, 0, 0, 0, 50, 0, 0, 60, 61, 70, 0, 0, 0, 81, 80, 0, 0]) s s.heap ∧ t < s.heap.size := by
  have hs := flat_of_before _ h
  refine tab_X (by omega) (hs _ (by decide +kernel)) (va_eqt (z := 32) (hs _ (by decide +kernel))) (fun j hj => ?_)
  match j, hj with
  | 0, _ => exact eq_el (j := 0) (z := 1) (hs _ (by decide +kernel))
  | 1, _ => exact eq_el (j := 1) (z := 10) (hs _ (by decide +kernel))
  | 2, _ => exact eq_el (j := 2) (z := 11) (hs _ (by decide +kernel))
  | 3, _ => exact eq_el (j := 3) (z := 2) (hs _ (by decide +kernel))
  | 4, _ => exact eq_el (j := 4) (z := 20) (hs _ (by decide +kernel))
  | 5, _ => exact eq_el (j := 5) (z := 0) (hs _ (by decide +kernel))
  | 6, _ => exact eq_el (j := 6) (z := 0) (hs _ (by decide +kernel))
  | 7, _ => exact eq_el (j := 7) (z := 0) (hs _ (by decide +kernel))
  | 8, _ => exact eq_el (j := 8) (z := 0) (hs _ (by decide +kernel))
  | 9, _ => exact eq_el (j := 9) (z := 30) (hs _ (by decide +kernel))
  | 10, _ => exact eq_el (j := 10) (z := 0) (hs _ (by decide +kernel))
  | 11, _ => exact eq_el (j := 11) (z := 0) (hs _ (by decide +kernel))
  | 12, _ => exact eq_el (j := 12) (z := 0) (hs _ (by decide +kernel))
  | 13, _ => exact eq_el (j := 13) (z := 41) (hs _ (by decide +kernel))
  | 14, _ => exact eq_el (j := 14) (z := 40) (hs _ (by decide +kernel))
  | 15, _ => exact eq_el (j := 15) (z := 0) (hs _ (by decide +kernel))
  | 16, _ => exact eq_el (j := 16) (z := 0) (hs _ (by decide +kernel))
  | 17, _ => exact eq_el (j := 17) (z := 0) (hs _ (by decide +kernel))
  | 18, _ => exact eq_el (j := 18) (z := 0) (hs _ (by decide +kernel))
  | 19, _ => exact eq_el (j := 19) (z := 50) (hs _ (by decide +kernel))
  | 20, _ => exact eq_el (j := 20) (z := 0) (hs _ (by decide +kernel))
  | 21, _ => exact eq_el (j := 21) (z := 0) (hs _ (by decide +kernel))
  | 22, _ => exact eq_el (j := 22) (z := 60) (hs _ (by decide +kernel))
  | 23, _ => exact eq_el (j := 23) (z := 61) (hs _ (by decide +kernel))
  | 24, _ => exact eq_el (j := 24) (z := 70) (hs _ (by decide +kernel))
  | 25, _ => exact eq_el (j := 25) (z := 0) (hs _ (by decide +kernel))
  | 26, _ => exact eq_el (j := 26) (z := 0) (hs _ (by decide +kernel))
  | 27, _ => exact eq_el (j := 27) (z := 0) (hs _ (by decide +kernel))
  | 28, _ => exact eq_el (j := 28) (z := 81) (hs _ (by decide +kernel))
  | 29, _ => exact eq_el (j := 29) (z := 80) (hs _ (by decide +kernel))
  | 30, _ => exact eq_el (j := 30) (z := 0) (hs _ (by decide +kernel))
  | 31, _ => exact eq_el (j := 31) (z := 0) (hs _ (by decide +kernel))
  | j + 32, hj => exact absurd hj (by omega)
theorem arr_K {args : Array Value} {s : State} {ty : FieldType} (hne : ∀ C, ty ≠ .object C) (h : (Cond.arrayClass ty).before args s = true) : ∃ cA : ClassId, ArrOfT s cA ty ∧ va_RA s cA ty := by
  obtain ⟨cA, kA, comp, h1, h2, h3⟩ := Cond.arrayClass_spec h
  refine ⟨cA, fun n z => ⟨fun k h => (by cases h), kA, h2, comp, h3⟩, ?_⟩
  cases ty with
  | object C => exact absurd rfl (hne C)
  | _ => exact h1
theorem arr_Q {args : Array Value} {s : State} {C : String} (h : (Cond.arrayOver (.object C)).before args s = true) : ∃ cA : ClassId, ArrOfT s cA (.object C) ∧ va_RA s cA (.object C) := by
  obtain ⟨comp, c, k, h1, h2, h3, h4, h5⟩ := Cond.arrayOver_spec h
  exact ⟨c, fun n z => ⟨fun q h => (by cases h), k, h3, comp, h4⟩, k, comp, h3, h4, h1, h5⟩
set_option maxRecDepth 100000 in
theorem law_K {args : Array Value} {s : State} (hts : ∀ w ∈ lw_tbl, w.before args s = true) : ∃ (D : va_G) (cA : Nat → ClassId), va_K D vwCl (xm_ty cA) s := by
  obtain ⟨cX0, iX0, kX0⟩ := u_known (C := RX0) (T := TX0) (N := 3) (n := 3) hts xm_in0 (hts _ (List.mem_of_getElem? (i := 262) (by decide +kernel)))
  obtain ⟨cX1, iX1, kX1⟩ := u_known (C := RX1) (T := TX1) (N := 5) (n := 5) hts xm_in1 (hts _ (List.mem_of_getElem? (i := 278) (by decide +kernel)))
  obtain ⟨cX2, iX2, kX2⟩ := u_known (C := RX2) (T := TX2) (N := 5) (n := 5) hts xm_in2 (hts _ (List.mem_of_getElem? (i := 238) (by decide +kernel)))
  obtain ⟨cX3, iX3, kX3⟩ := u_known (C := RX3) (T := TX3) (N := 5) (n := 5) hts xm_in3 (hts _ (List.mem_of_getElem? (i := 212) (by decide +kernel)))
  obtain ⟨cX4, iX4, kX4⟩ := u_known (C := RX4) (T := TX4) (N := 11) (n := 11) hts xm_in4 (hts _ (List.mem_of_getElem? (i := 149) (by decide +kernel)))
  obtain ⟨cX5, iX5, kX5⟩ := u_known (C := RX5) (T := TX5) (N := 4) (n := 4) hts xm_in5 (hts _ (List.mem_of_getElem? (i := 305) (by decide +kernel)))
  obtain ⟨cX6, iX6, kX6⟩ := u_known (C := RX6) (T := TX6) (N := 3) (n := 3) hts xm_in6 (hts _ (List.mem_of_getElem? (i := 155) (by decide +kernel)))
  obtain ⟨cX7, iX7, kX7⟩ := u_known (C := RX7) (T := TX7) (N := 2) (n := 2) hts xm_in7 (hts _ (List.mem_of_getElem? (i := 130) (by decide +kernel)))
  obtain ⟨cX8, iX8, kX8⟩ := u_known (C := RX8) (T := TX8) (N := 13) (n := 13) hts xm_in8 (hts _ (List.mem_of_getElem? (i := 122) (by decide +kernel)))
  obtain ⟨cX9, iX9, kX9⟩ := u_known (C := RX9) (T := TX9) (N := 58) (n := 58) hts xm_in9 (hts _ (List.mem_of_getElem? (i := 921) (by decide +kernel)))
  obtain ⟨a0, b0⟩ := arr_K (ty := .int) (fun _ h => by cases h) (hts _ (List.mem_of_getElem? (i := 147) (by decide +kernel)))
  obtain ⟨a1, b1⟩ := arr_K (ty := .byte) (fun _ h => by cases h) (hts _ (List.mem_of_getElem? (i := 1100) (by decide +kernel)))
  obtain ⟨a2, b2⟩ := arr_K (ty := .short) (fun _ h => by cases h) (hts _ (List.mem_of_getElem? (i := 1101) (by decide +kernel)))
  obtain ⟨a3, b3⟩ := arr_K (ty := .long) (fun _ h => by cases h) (hts _ (List.mem_of_getElem? (i := 327) (by decide +kernel)))
  obtain ⟨a4, b4⟩ := arr_Q (C := RX5) (hts _ (List.mem_of_getElem? (i := 304) (by decide +kernel)))
  refine ⟨(fun c => match c with
    | 0 => cX0
    | 1 => cX1
    | 2 => cX2
    | 3 => cX3
    | 4 => cX4
    | 5 => cX5
    | 6 => cX6
    | 7 => cX7
    | 8 => cX8
    | 9 => cX9
    | _ => cX0, fun c => match c with
    | 0 => iX0
    | 1 => iX1
    | 2 => iX2
    | 3 => iX3
    | 4 => iX4
    | 5 => iX5
    | 6 => iX6
    | 7 => iX7
    | 8 => iX8
    | 9 => iX9
    | _ => iX0), fun k => match k with
    | 0 => a0
    | 1 => a1
    | 2 => a2
    | 3 => a3
    | _ => a4, fun c q hq => ?_, fun k q hq => ?_⟩
  · match c, hq with
    | 0, hq => cases hq; exact kX0
    | 1, hq => cases hq; exact kX1
    | 2, hq => cases hq; exact kX2
    | 3, hq => cases hq; exact kX3
    | 4, hq => cases hq; exact kX4
    | 5, hq => cases hq; exact kX5
    | 6, hq => cases hq; exact kX6
    | 7, hq => cases hq; exact kX7
    | 8, hq => cases hq; exact kX8
    | 9, hq => cases hq; exact kX9
    | n + 10, hq => cases hq
  · match k, hq with
    | 0, hq => cases hq; exact b0
    | 1, hq => cases hq; exact b1
    | 2, hq => cases hq; exact b2
    | 3, hq => cases hq; exact b3
    | 4, hq => cases hq; exact b4
    | n + 5, hq => cases hq
set_option maxRecDepth 100000 in
theorem law_out {s : State} {b L : Nat} {xs : Nat → Int32} (hts : ∀ w ∈ lw_tbl, w.before #[Value.ref b] s = true) (hX : va_X b L xs s s.heap) (hbl : b < s.heap.size) (hgv : (Jvm.Cond.and given_1 narrow_1).before #[Value.ref b] s = true) : ∃ r : Nat → Nat, r 1005 = b ∧ xm_out (xm_oL L xs) r (fun q => s.heap.size ≤ q) s s.heap := by
  obtain ⟨t0, e0, x0, l0⟩ := stat_0 hgv
  obtain ⟨t1, e1, x1, l1⟩ := stat_1 hgv
  obtain ⟨t2, e2, x2, l2⟩ := stat_2 hgv
  obtain ⟨t3, e3, x3, l3⟩ := stat_3 hgv
  obtain ⟨t4, e4, x4, l4⟩ := stat_4 hgv
  refine ⟨fun i => match i - 1000 with
    | 0 => t0
    | 1 => t1
    | 2 => t2
    | 3 => t3
    | 4 => t4
    | _ => b, rfl, fun j N f hj => ?_, fun j n hj => ?_, fun w hw hn => ?_, ?_⟩
  · match j, hj with
    | 0, hj => cases hj; exact ⟨x0, l0, fun q => absurd (show s.heap.size ≤ t0 from q) (by omega)⟩
    | 1, hj => cases hj; exact ⟨x1, l1, fun q => absurd (show s.heap.size ≤ t1 from q) (by omega)⟩
    | 2, hj => cases hj; exact ⟨x2, l2, fun q => absurd (show s.heap.size ≤ t2 from q) (by omega)⟩
    | 3, hj => cases hj; exact ⟨x3, l3, fun q => absurd (show s.heap.size ≤ t3 from q) (by omega)⟩
    | 4, hj => cases hj; exact ⟨x4, l4, fun q => absurd (show s.heap.size ≤ t4 from q) (by omega)⟩
    | 5, hj => cases hj; exact ⟨hX, hbl, fun q => absurd (show s.heap.size ≤ b from q) (by omega)⟩
    | j + 6, hj => exact absurd (show xm_st (j + 6) = some (N, f) from hj) (by intro q; cases q)
  · match j, hj with
    | 0, hj => cases hj; exact va_Zref (hts _ (List.mem_of_getElem? (i := 376) (by decide +kernel))) (hts _ (List.mem_of_getElem? (i := 108) (by decide +kernel))) e0 (fun a ha q => absurd (show s.heap.size ≤ a from q) (by omega))
    | 1, hj => cases hj; exact va_Zref (hts _ (List.mem_of_getElem? (i := 378) (by decide +kernel))) (hts _ (List.mem_of_getElem? (i := 108) (by decide +kernel))) e1 (fun a ha q => absurd (show s.heap.size ≤ a from q) (by omega))
    | 2, hj => cases hj; exact va_Zref (hts _ (List.mem_of_getElem? (i := 136) (by decide +kernel))) (hts _ (List.mem_of_getElem? (i := 108) (by decide +kernel))) e2 (fun a ha q => absurd (show s.heap.size ≤ a from q) (by omega))
    | 3, hj => cases hj; exact va_Zref (hts _ (List.mem_of_getElem? (i := 851) (by decide +kernel))) (hts _ (List.mem_of_getElem? (i := 108) (by decide +kernel))) e3 (fun a ha q => absurd (show s.heap.size ≤ a from q) (by omega))
    | 4, hj => cases hj; exact va_Zref (hts _ (List.mem_of_getElem? (i := 849) (by decide +kernel))) (hts _ (List.mem_of_getElem? (i := 108) (by decide +kernel))) e4 (fun a ha q => absurd (show s.heap.size ≤ a from q) (by omega))
    | j + 5, hj => cases hj
  · refine va_Nw.of ?_ (hts w hw)
    cases w <;> first | rfl | (cases hn)
  · exact va_AO.of (hts _ (List.mem_of_getElem? (i := 304) (by decide +kernel)))
/-! THE CLAIM OUT OF ONE WALK OF THE LAW'S BODY. Your part is whole_start (and what it stands on); all else here is the same for every law, but numbers. -/
def R_law : String := "PassBillLaw"
def lw_P (b : Addr) (xs : List Int32) (args : Array Value) (s : State) : Prop := args = #[.ref b] ∧ s.IntsAt b xs ∧ xs.length ≤ 3072 ∧ (Jvm.Cond.and given_1 narrow_1).before args s = true
def lw_Q (_ : Array Value) (s : State) (o : Outcome) (t : State) : Prop := o = .returned (some (.int 1)) ∧ Framed s o t [] 600000 7302250
def lw_Z (below : List Frame) (a : Array Value) (s : State) : State → Prop := fun t => ∃ o, t.status = .running ∧ Ended t below o ∧ lw_Q a s o t
/-- the law's own end, with 1 on the stack, nothing written that was there before, its room as the claim has it -/
theorem lw_ret {p : Program} {l : Launch} {e : Env} {s : State} {m : MethodId} {below : List Frame} {meth : Method} {c : Code} {b : Nat} (hx : p.tables.exec = Jvm.exec) (hb : c.code = code) (hr : meth.sig.returnType = ret) (hlocks : meth.locks = false) {pc : Nat} {H : Heap} {ls : Array Slot} (hdg : decode code pc = .ok (.ireturn, 1)) : W p l e room_1 s m #[Value.ref b] below meth c H [] 600000 7302250 (lw_Z below #[Value.ref b] s) (F0 m pc ls [.int 1]) := by
  intro T hT X
  obtain ⟨fs, hret, hrun, hended, hW, hframe⟩ := X.leave (v := some (.int 1)) (hlocks := hlocks) (fun h => by rw [hr] at h; cases h)
  have hmeth' : T.vm.method? m = some meth := X.method'
  refine ⟨T.setFrames fs, ?_, .returned (some (.int 1)), hrun, hended, rfl, ⟨_, rfl⟩, hW, hframe⟩
  jvm_step X.here [X.here.top, hx, hb, hdg, hmeth', hr, ret, narrow_b1]
  (try refine ⟨rfl, ?_⟩); (try refine ⟨rfl, ?_⟩)
  first | (intro acts; rw [hret _ acts rfl rfl rfl]) | rw [hret _ _ rfl rfl rfl]
  exact Steps.refl _
/-- what holds at the law's entry: the machine, the code, the tables' words (any of lw_tbl by 'hts w (by decide +kernel)'), the script of L ints xs at the cell b, what the Statement gives of the start (any of its parts by flat_of_before) -/
def lw_At (p : Program) (s : State) (m : MethodId) (meth : Method) (c : Code) (b L : Nat) (xs : Nat → Int32) : Prop :=
  p.tables.exec = Jvm.exec ∧ c.code = code ∧ meth.sig.returnType = ret ∧ c.maxLocals = 4 ∧ s.vm.findClass R_law = some m.cls ∧ (∀ w ∈ lw_tbl, w.before #[Value.ref b] s = true) ∧ va_X b L xs s s.heap ∧ b < s.heap.size ∧ meth.locks = false ∧ (Jvm.Cond.and given_1 narrow_1).before #[Value.ref b] s = true
set_option maxRecDepth 100000 in
set_option maxHeartbeats 4000000 in
theorem law_runs {L : Nat} {xs : Nat → Int32} (hL : L ≤ 3072) : xm_At (xm_oL L xs) 100 sL_law RL kL_law 0 0 0 [some (.ref 1005), none, none, none] [] [] (fun v _ => v = some (.int 1)) := by
  refine xL_law_0 xm_oL_st ⟨by decide, ⟨by decide +kernel, by decide +kernel, by decide +kernel, by decide +kernel⟩, by decide, ⟨by decide +kernel, by decide +kernel, by decide +kernel, by decide +kernel⟩, ?_⟩
  refine c_init8 (by omega) ?_
  rw [hq_eq]
  refine ⟨by decide, ⟨by decide +kernel, by decide +kernel, by decide +kernel, by decide +kernel⟩, by decide, ⟨by decide +kernel, by decide +kernel, by decide +kernel, by decide +kernel⟩, ?_⟩
  refine c_init9 (by omega) ?_
  exact law_loop (K := 100) (by omega) hL (fun _ => rfl) (L + 1) 0 ar_0 lo_0 fl_0 0 0 dflt (by omega) (by omega) INV0
theorem whole_start {p : Program} {e : Env} {s : State} {m : MethodId} {below : List Frame} {meth : Method} {c : Code} (l : Launch) (hflags : l.flags = flags0) {b L : Nat} {xs : Nat → Int32} (hL : L ≤ 3072) (C0 : lw_At p s m meth c b L xs) : W p l e room_1 s m #[Value.ref b] below meth c s.heap [] 0 0 (lw_Z below #[Value.ref b] s) (entryFrame m ([Value.ref b] : List Value).toArray 4) := by
  obtain ⟨hx, hb, hr, hml, hown, hts, hX, hbl, hlk, hgv⟩ := C0
  obtain ⟨D, cA, hK⟩ := law_K hts
  obtain ⟨r, hr5, ho⟩ := law_out hts hX hbl hgv
  have hE : xm_En 100 sL_law RL p room_1 s m #[Value.ref b] meth c := ⟨hx, hb, hr, hml, hown, fun w hw => hts w (List.mem_filter.mp hw).1, hlk, fun q => absurd q (by decide), Nat.le_of_ble_eq_true rfl, Nat.le_of_ble_eq_true rfl, Nat.le_of_ble_eq_true rfl, Nat.le_of_ble_eq_true rfl⟩
  have hav : ([Value.ref b] : List Value) = ([Value.ref 1005] : List Value).map (xm_v r) := by
    show [Value.ref b] = [Value.ref (r 1005)]; rw [hr5]
  have hlh := xm_en_lh r [Value.ref 1005] 4 (by decide)
  have hW := law_runs (xs := xs) hL p l e room_1 s m #[Value.ref b] below meth c s.heap [] (lw_Z below #[Value.ref b] s) D cA r (fun q => s.heap.size ≤ q) _ hE hK (fun _ h => h) ho (fun k q hq => by cases hq) ⟨fun i j p q hp => (by cases hp), fun k q hq => by cases hq⟩ va_S.rf hlh ?_ (Nat.zero_le _) (Nat.zero_le _)
  · rw [← hav] at hW
    rw [lg_entry_eq]
    exact hW
  · intro pc' arr' H' locs' uc' us' r' v h' hv hrt _ _ _ hu1 hu2 hP' hD' hS'
    subst hv
    refine va_forget (fun q hq => hS'.2.2 q hq) ?_
    refine W.widen (k := 600000) (n := 7302250) hu1 hu2 ?_
    rcases hrt with ⟨x, hxv, hd, -⟩ | ⟨x, hxv, -⟩ | ⟨hxv, -⟩ | ⟨n, -, -, hxv⟩
    · exact lw_ret hx hb hr hlk hd
    · cases hxv
    · cases hxv
    · rcases hxv with hxv | ⟨a, hxv⟩ <;> cases hxv
set_option maxHeartbeats 4000000 in
theorem lw_walk (l : Launch) (hflags : l.flags = flags0) (b : Addr) (xs : List Int32) : MetFree l x (headSpec (Jvm.Cond.code x code maxLocals ret :: tables_1) room_1) (lw_P b xs) (fun _ _ _ _ _ => True) lw_Q := by
  refine MetFree.of_bodyS (code := code) (maxLocals := maxLocals) (ret := ret) (by decide) ?_ ?_
  · intro args s m h hn
    obtain ⟨meth, c, h1, h2, h3, h4, h5, h6, -, -⟩ := Cond.code_spec hn (atoms_spec (ws := Jvm.Cond.code x code maxLocals ret :: tables_1) h _ List.mem_cons_self)
    exact ⟨meth, c, h1, h2, h3, h4, h5, h6⟩
  · intro p e s m args below meth c s₁ B hml0 hP _
    obtain ⟨rfl, hx, hbd, hgv⟩ := hP
    obtain ⟨scr, harrAt, hlist, hof, hsmall⟩ := hx
    obtain ⟨hcb, hkn, -, -⟩ := State.arrayAt?_spec harrAt
    have hown : s.vm.findClass R_law = some m.cls := findClass_of_methodNamed B.named
    have hts0 : ∀ c ∈ (Jvm.Cond.code x code maxLocals ret :: tables_1), c.before #[Value.ref b] s = true := atoms_spec (ws := Jvm.Cond.code x code maxLocals ret :: tables_1) B.pre
    have hts : ∀ w ∈ lw_tbl, w.before #[Value.ref b] s = true := k2_hts_sels lw_privs (fun w hw => hts0 w (List.mem_cons_of_mem _ hw)) lw_privs_ok
    have hml : c.maxLocals = 4 := B.maxLocals_eq (hts0 _ List.mem_cons_self)
    have X₀ : Stand p l e room_1 s m #[Value.ref b] below meth c s₁ [] 0 0 := Stand.of_body B
    have hh0 : s₁.heap = s.heap := by rw [B.state]; rfl
    have hsz : scr.slots.size = xs.length := by rw [← Array.length_toList, hlist, List.length_map]
    have hval : ∀ j : Nat, j < xs.length → scr.slots[j]? = some (.int (xs.getD j 0)) := fun j hj => by
      rw [← Array.getElem?_toList, hlist]
      simp [hj]
    have hbl : b < s.heap.size := (Array.getElem?_eq_some_iff.mp hcb).1
    have hX : va_X b xs.length (fun j => xs.getD j 0) s s.heap := ⟨scr, hcb, hof, hkn, hsz, hval⟩
    have K : W p l e room_1 s m #[Value.ref b] below meth c s₁.heap [] 0 0 (lw_Z below #[Value.ref b] s) (entryFrame m ([Value.ref b] : List Value).toArray 4) := by
      rw [hh0]
      exact whole_start l hflags hbd ⟨B.exec, B.bytes, B.returns, hml, hown, hts, hX, hbl, B.notSynchronized, hgv⟩
    obtain ⟨t, a1, o, b1, b2, b3⟩ := K s₁ rfl X₀
    exact ⟨t, o, a1, b1, b2, b3⟩
theorem lw_pre_spec {args : Array Value} {s : State} (h : (Jvm.Cond.and given_1 narrow_1).before args s = true) (hr : rest_1_c.before args s = true) : ∃ (b : Addr) (xs : List Int32), lw_P b xs args s := by
  have hs := flat_of_before _ h
  have hq := flat_of_before _ hr
  have hc : (Cond.count 1).before args s = true := hs _ (by decide +kernel)
  have harr : (Cond.arrayOf (.arg 0) .int).before args s = true := hs _ (by decide +kernel)
  have hle : (Cond.le (.length (.arg 0)) (.int 3072)).before args s = true := hs _ (by decide +kernel)
  have hlen : (Cond.isInt (.length (.arg 0))).before args s = true := hq _ (by decide +kernel)
  have hall : (Cond.all (.arg 0) (.isInt (.elem (.arg 0) (.index 0)))).before args s = true := hq _ (by decide +kernel)
  obtain ⟨b, xs, hb, hx⟩ := State.ints_of_pre rfl harr hlen hall
  have hsm : xs.length < 2 ^ 31 := hx.choose_spec.2.2.2
  have hev : (Term.length (.arg 0)).eval args s none [] s = some (.int xs.length.toInt32) := hx.length_eval hb
  have hv := Cond.le_ints hev (show (Term.int 3072).eval args s none [] s = some (.int 3072) from rfl)
  have hd : xs.length.toInt32 ≤ 3072 := by
    simpa [Cond.before, Cond.holds, hv] using hle
  have hN : xs.length ≤ 3072 := (Int32.ofNat_le_ofNat hsm (by decide)).mp (show Int32.ofNat xs.length ≤ Int32.ofNat 3072 from hd)
  exact ⟨b, xs, Cond.one_arg hc (show args[0]? = some (.ref b) from hb), hx, hN, h⟩
theorem lw_comes (l : Launch) (hflags : l.flags = flags0) : Comes l x (Jvm.Cond.code x code maxLocals ret :: tables_1) room_1 (fun tb e args s => Calls_1 tb e args s ∧ rest_1 tb e args s ∧ Pre_1 tb e args s)
    (fun _ _ args s o t => lw_Q args s o t) := by
  intro p e ha hc hk s m args below hf hfit hheap happ hpre
  obtain ⟨b, xs, hP⟩ := lw_pre_spec hpre.2.2 hpre.2.1
  obtain ⟨k, o, h1, h2, h3, hQ⟩ := lw_walk l hflags b xs p e ha hc hk s m args below hf ((Spec.applies_iff_loose hf).mp happ).1 hP trivial
  exact ⟨k, o, h1, h2, h3, hQ⟩
theorem lw_frame {s t : State} {o : Outcome} {args : Array Value} (h : Framed s o t [] 600000 7302250) :
    Framed s o t (fieldLocs frame_1_writes args s ++ arrayLocs frame_1_arrays args s ++ staticLocs frame_1_statics s) 600000 7302250 := h
theorem lw_limb (L : Cond) (hL : ∀ (args : Array Value) (s t : State), L.after args s (.returned (some (.int 1))) t = true) :
    ArmFor flags0 classFile x code maxLocals ret World_1 tables_1 room_1 Calls_1 rest_1 Pre_1
      (fun tb e a s o t => postC L tb e a s o t ∧ Framed s o t (fieldLocs frame_1_writes a s ++ arrayLocs frame_1_arrays a s ++ staticLocs frame_1_statics s) 600000 7302250) := by
  intro l hflags _ _ p e ha hc hk s m args below hf hfit hheap happ hpre
  obtain ⟨k, o, h1, h2, h3, rfl, hF⟩ := lw_comes l hflags p e ha hc hk s m args below hf hfit hheap happ hpre
  exact ⟨k, _, h1, h2, h3, hL args s _, lw_frame hF⟩
theorem i_vc : Claimed_1_1 ∧ Claimed_1_2 := ⟨lw_limb limb_1_1 (fun args s t => by simp [limb_1_1, Cond.after, Cond.holds, Cond.value]), lw_limb limb_1_2 (fun args s t => Cond.after_iff.mpr (by
  first | (rw [show limb_1_2 = Cond.eq .result (.int 1) from rfl, Cond.eq_ints (x := 1) (y := 1) rfl rfl]; simp; done) | (simp [limb_1_2, Cond.value, Term.eval]; done)))⟩
