def kX8_fillWorths : List xm_I := [
  i_0 0 (.aload_n 0) 1 none,
  i_f 1 (.getfield 16) 3 none 8 1 [329] 1,
  i_0 4 (.aload_n 0) 1 none,
  i_f 5 (.getfield 10) 3 none 8 0 [328] 1,
  i_m 8 (.invokevirtual 182) 3 none 1 7 [595, 596, 597, 109, 598] 0 sX7_copy,
  i_v 11 (.iconst 0) 1 none 0 [],
  i_0 12 (.istore_n 2) 1 none,
  i_0 13 (.iload_n 2) 1 (some [true, true, true, false]),
  i_0 14 (.iload_n 1) 1 none,
  i_j 15 (.if_icmp .ge 91) 3 none 54,
  i_v 18 (.iconst 0) 1 none 0 [],
  i_0 19 (.istore_n 3) 1 none,
  i_0 20 (.iload_n 3) 1 (some [true, true, true, true]),
  i_0 21 (.aload_n 0) 1 none,
  i_f 22 (.getfield 10) 3 none 8 0 [328] 1,
  i_f 25 (.getfield 89) 3 none 7 1 [140] 0,
  i_j 28 (.if_icmp .ge 24) 3 none 28,
  i_0 31 (.aload_n 0) 1 none,
  i_f 32 (.getfield 16) 3 none 8 1 [329] 1,
  i_0 35 (.iload_n 3) 1 none,
  i_v 36 (.iconst 3) 1 none 3 [],
  i_0 37 (.aload_n 0) 1 none,
  i_0 38 (.iload_n 2) 1 none,
  i_0 39 (.iload_n 3) 1 none,
  i_m 40 (.invokevirtual 197) 3 none 2 8 [614, 616, 9, 108, 617] 0 sX8_habitIn,
  i_m 43 (.invokevirtual 185) 3 none 3 7 [600, 385, 386, 109, 387] 0 sX7_set,
  i_v 46 (.iinc 3 1) 3 none 1 [],
  i_j 49 (.goto (-29)) 3 none 12,
  i_0 52 (.aload_n 0) 1 none,
  i_f 53 (.getfield 22) 3 none 8 2 [330] 1,
  i_0 56 (.aload_n 0) 1 none,
  i_f 57 (.getfield 16) 3 none 8 1 [329] 1,
  i_m 60 (.invokevirtual 163) 3 none 1 4 [546, 547, 548, 110, 549] 0 sX4_reckon,
  i_v 63 (.iconst 0) 1 none 0 [],
  i_0 64 (.istore_n 3) 1 none,
  i_0 65 (.iload_n 3) 1 (some [true, true, true, true]),
  i_0 66 (.aload_n 0) 1 none,
  i_f 67 (.getfield 10) 3 none 8 0 [328] 1,
  i_f 70 (.getfield 89) 3 none 7 1 [140] 0,
  i_j 73 (.if_icmp .ge 27) 3 none 52,
  i_0 76 (.aload_n 0) 1 none,
  i_0 77 (.iload_n 2) 1 none,
  i_0 78 (.iload_n 3) 1 none,
  i_0 79 (.aload_n 0) 1 none,
  i_f 80 (.getfield 22) 3 none 8 2 [330] 1,
  i_0 83 (.aload_n 0) 1 none,
  i_f 84 (.getfield 16) 3 none 8 1 [329] 1,
  i_0 87 (.iload_n 3) 1 none,
  i_m 88 (.invokevirtual 176) 3 none 2 4 [575, 576, 577, 110, 578] 0 sX4_worthOf,
  i_m 91 (.invokevirtual 204) 3 none 3 8 [622, 624, 11, 108, 625] 0 sX8_setWorthIn,
  i_v 94 (.iinc 3 1) 3 none 1 [],
  i_j 97 (.goto (-32)) 3 none 35,
  i_v 100 (.iinc 2 1) 3 none 1 [],
  i_j 103 (.goto (-90)) 3 none 7,
  i_0 106 (.return_) 1 none]
set_option maxRecDepth 100000 in
theorem oX8_fillWorths : xm_ok sX8_fillWorths sX8_fillWorths.1.cls kX8_fillWorths = true := by decide +kernel
set_option maxRecDepth 100000 in
set_option maxHeartbeats 4000000 in
theorem xX8_fillWorths_0 {K : Nat} {h : xm_H} {P : Option Value → xm_H → Prop} {a0 : Nat} {x1 : Int32} (H :
    ∃ q1, xm_fld h a0 8 1 = some (.ref q1) ∧ /- thought -/
    ∃ q2, xm_fld h a0 8 0 = some (.ref q2) ∧ /- now -/
    xm_Call K sX7_copy 7 [.ref q1, .ref q2] h (xm_pv fun h3 =>
      xm_L K sX8_fillWorths kX8_fillWorths 7 [some (.ref a0), some (.int x1), some (.int (0 : Int32)), none] [] h3 P)) :
    xm_L K sX8_fillWorths kX8_fillWorths 0 [some (.ref a0), some (.int x1), none, none] [] h P :=
  xm_run (fun _ _ h => h) oX8_fillWorths 8 0 0 0 [some (.ref a0), some (.int x1), none, none] [] h H
set_option maxRecDepth 100000 in
theorem eX8_fillWorths {K K' : Nat} (hK : K < K') {h : xm_H} {P : Option Value → xm_H → Prop} {a0 : Nat} {x1 : Int32} (hr : ∃ fs, h[a0]? = some (.inr (8, fs))) (H :
    ∃ q1, xm_fld h a0 8 1 = some (.ref q1) ∧ /- thought -/
    ∃ q2, xm_fld h a0 8 0 = some (.ref q2) ∧ /- now -/
    xm_Call K sX7_copy 7 [.ref q1, .ref q2] h (xm_pv fun h3 =>
      xm_L K sX8_fillWorths kX8_fillWorths 7 [some (.ref a0), some (.int x1), some (.int (0 : Int32)), none] [] h3 P)) :
    xm_Call K' sX8_fillWorths 8 [.ref a0, .int x1] h P :=
  xm_call_of (C := kX8_fillWorths) hK (by decide +kernel) rfl (Nat.le_of_ble_eq_true rfl) (Or.inr ⟨a0, hr.choose, rfl, hr.choose_spec⟩) (xX8_fillWorths_0 H)

set_option maxRecDepth 100000 in
set_option maxHeartbeats 4000000 in
theorem xX8_fillWorths_7 {K : Nat} {h : xm_H} {P : Option Value → xm_H → Prop} {a0 : Nat} {x1 : Int32} {x2 : Int32} (H :
    (if x2 < x1 then
      xm_L K sX8_fillWorths kX8_fillWorths 12 [some (.ref a0), some (.int x1), some (.int x2), some (.int (0 : Int32))] [] h P
    else
      P none h)) :
    xm_L K sX8_fillWorths kX8_fillWorths 7 [some (.ref a0), some (.int x1), some (.int x2), none] [] h P :=
  xm_run (fun _ _ h => h) oX8_fillWorths 6 7 0 0 [some (.ref a0), some (.int x1), some (.int x2), none] [] h H

set_option maxRecDepth 100000 in
set_option maxHeartbeats 4000000 in
theorem xX8_fillWorths_12 {K : Nat} {h : xm_H} {P : Option Value → xm_H → Prop} {a0 : Nat} {x1 : Int32} {x2 : Int32} {x3 : Int32} (H :
    ∃ q1, xm_fld h a0 8 0 = some (.ref q1) ∧ /- now -/
    ∃ f2, xm_fld h q1 7 1 = some (.int f2) ∧ /- people -/
    (if x3 < f2 then
      ∃ q3, xm_fld h a0 8 1 = some (.ref q3) ∧ /- thought -/
      xm_Call K sX8_habitIn 8 [.ref a0, .int x2, .int x3] h (xm_pi fun c5 h4 =>
        xm_Call K sX7_set 7 [.ref q3, .int x3, .int (3 : Int32), .int c5] h4 (xm_pv fun h6 =>
          xm_L K sX8_fillWorths kX8_fillWorths 12 [some (.ref a0), some (.int x1), some (.int x2), some (.int (x3 + (1 : Int32)))] [] h6 P))
    else
      ∃ q7, xm_fld h a0 8 2 = some (.ref q7) ∧ /- reckoner -/
      ∃ q8, xm_fld h a0 8 1 = some (.ref q8) ∧ /- thought -/
      xm_Call K sX4_reckon 4 [.ref q7, .ref q8] h (xm_pv fun h9 =>
        xm_L K sX8_fillWorths kX8_fillWorths 35 [some (.ref a0), some (.int x1), some (.int x2), some (.int (0 : Int32))] [] h9 P))) :
    xm_L K sX8_fillWorths kX8_fillWorths 12 [some (.ref a0), some (.int x1), some (.int x2), some (.int x3)] [] h P :=
  xm_run (fun _ _ h => h) oX8_fillWorths 17 12 0 0 [some (.ref a0), some (.int x1), some (.int x2), some (.int x3)] [] h H

set_option maxRecDepth 100000 in
set_option maxHeartbeats 4000000 in
theorem xX8_fillWorths_35 {K : Nat} {h : xm_H} {P : Option Value → xm_H → Prop} {a0 : Nat} {x1 : Int32} {x2 : Int32} {x3 : Int32} (H :
    ∃ q1, xm_fld h a0 8 0 = some (.ref q1) ∧ /- now -/
    ∃ f2, xm_fld h q1 7 1 = some (.int f2) ∧ /- people -/
    (if x3 < f2 then
      ∃ q3, xm_fld h a0 8 2 = some (.ref q3) ∧ /- reckoner -/
      ∃ q4, xm_fld h a0 8 1 = some (.ref q4) ∧ /- thought -/
      xm_Call K sX4_worthOf 4 [.ref q3, .ref q4, .int x3] h (xm_pi fun c6 h5 =>
        xm_Call K sX8_setWorthIn 8 [.ref a0, .int x2, .int x3, .int c6] h5 (xm_pv fun h7 =>
          xm_L K sX8_fillWorths kX8_fillWorths 35 [some (.ref a0), some (.int x1), some (.int x2), some (.int (x3 + (1 : Int32)))] [] h7 P))
    else
      xm_L K sX8_fillWorths kX8_fillWorths 7 [some (.ref a0), some (.int x1), some (.int (x2 + (1 : Int32))), none] [] h P)) :
    xm_L K sX8_fillWorths kX8_fillWorths 35 [some (.ref a0), some (.int x1), some (.int x2), some (.int x3)] [] h P :=
  xm_run (fun _ _ h => h) oX8_fillWorths 18 35 0 0 [some (.ref a0), some (.int x1), some (.int x2), some (.int x3)] [] h H

def kX8_setWorthIn : List xm_I := [
  i_0 0 (.iload_n 1) 1 none,
  i_v 1 (.iconst 4) 1 none 4 [],
  i_0 2 (.imul) 1 none,
  i_0 3 (.iload_n 2) 1 none,
  i_0 4 (.iadd) 1 none,
  i_0 5 (.istore 4) 2 none,
  i_0 7 (.iload 4) 2 none,
  i_j 9 (.ifCond .lt 21) 3 none 18,
  i_0 12 (.iload 4) 2 none,
  i_0 14 (.aload_n 0) 1 none,
  i_f 15 (.getfield 54) 3 none 8 9 [337] 1,
  i_0 18 (.arraylength) 1 none,
  i_j 19 (.if_icmp .ge 11) 3 none 18,
  i_0 22 (.aload_n 0) 1 none,
  i_f 23 (.getfield 54) 3 none 8 9 [337] 1,
  i_0 26 (.iload 4) 2 none,
  i_0 28 (.iload_n 3) 1 none,
  i_0 29 (.iastore) 1 none,
  i_0 30 (.return_) 1 none]
set_option maxRecDepth 100000 in
theorem oX8_setWorthIn : xm_ok sX8_setWorthIn sX8_setWorthIn.1.cls kX8_setWorthIn = true := by decide +kernel
set_option maxRecDepth 100000 in
set_option maxHeartbeats 4000000 in
theorem xX8_setWorthIn_0 {K : Nat} {h : xm_H} {P : Option Value → xm_H → Prop} {a0 : Nat} {x1 : Int32} {x2 : Int32} {x3 : Int32} (H :
    (if ((x1 * (4 : Int32)) + x2) < 0 then
      P none h
    else
      ∃ q1, xm_fld h a0 8 9 = some (.ref q1) ∧ /- worths -/
      ∃ n2, xm_len xm_st h q1 = some n2 ∧
      (if ((x1 * (4 : Int32)) + x2) < n2 then
        ∃ q3, xm_fld h a0 8 9 = some (.ref q3) ∧ /- worths -/
        ∃ h4, xm_sto h 0 q3 ((x1 * (4 : Int32)) + x2) x3 = some h4 ∧
        P none h4
      else
        P none h))) :
    xm_L K sX8_setWorthIn kX8_setWorthIn 0 [some (.ref a0), some (.int x1), some (.int x2), some (.int x3), none] [] h P :=
  xm_run (fun _ _ h => h) oX8_setWorthIn 20 0 0 0 [some (.ref a0), some (.int x1), some (.int x2), some (.int x3), none] [] h H
set_option maxRecDepth 100000 in
theorem eX8_setWorthIn {K K' : Nat} (hK : K < K') {h : xm_H} {P : Option Value → xm_H → Prop} {a0 : Nat} {x1 : Int32} {x2 : Int32} {x3 : Int32} (hr : ∃ fs, h[a0]? = some (.inr (8, fs))) (H :
    (if ((x1 * (4 : Int32)) + x2) < 0 then
      P none h
    else
      ∃ q1, xm_fld h a0 8 9 = some (.ref q1) ∧ /- worths -/
      ∃ n2, xm_len xm_st h q1 = some n2 ∧
      (if ((x1 * (4 : Int32)) + x2) < n2 then
        ∃ q3, xm_fld h a0 8 9 = some (.ref q3) ∧ /- worths -/
        ∃ h4, xm_sto h 0 q3 ((x1 * (4 : Int32)) + x2) x3 = some h4 ∧
        P none h4
      else
        P none h))) :
    xm_Call K' sX8_setWorthIn 8 [.ref a0, .int x1, .int x2, .int x3] h P :=
  xm_call_of (C := kX8_setWorthIn) hK (by decide +kernel) rfl (Nat.le_of_ble_eq_true rfl) (Or.inr ⟨a0, hr.choose, rfl, hr.choose_spec⟩) (xX8_setWorthIn_0 H)

def kX8_worthIn : List xm_I := [
  i_0 0 (.iload_n 1) 1 none,
  i_v 1 (.iconst 4) 1 none 4 [],
  i_0 2 (.imul) 1 none,
  i_0 3 (.iload_n 2) 1 none,
  i_0 4 (.iadd) 1 none,
  i_0 5 (.istore_n 3) 1 none,
  i_0 6 (.iload_n 3) 1 none,
  i_j 7 (.ifCond .lt 21) 3 none 18,
  i_0 10 (.iload_n 3) 1 none,
  i_0 11 (.aload_n 0) 1 none,
  i_f 12 (.getfield 54) 3 none 8 9 [337] 1,
  i_0 15 (.arraylength) 1 none,
  i_j 16 (.if_icmp .ge 12) 3 none 18,
  i_0 19 (.aload_n 0) 1 none,
  i_f 20 (.getfield 54) 3 none 8 9 [337] 1,
  i_0 23 (.iload_n 3) 1 none,
  i_0 24 (.iaload) 1 none,
  i_j 25 (.goto 4) 3 none 19,
  i_v 28 (.iconst 0) 1 none 0 [],
  i_0 29 (.ireturn) 1 none]
set_option maxRecDepth 100000 in
theorem oX8_worthIn : xm_ok sX8_worthIn sX8_worthIn.1.cls kX8_worthIn = true := by decide +kernel
set_option maxRecDepth 100000 in
set_option maxHeartbeats 4000000 in
theorem xX8_worthIn_0 {K : Nat} {h : xm_H} {P : Option Value → xm_H → Prop} {a0 : Nat} {x1 : Int32} {x2 : Int32} (H :
    (if ((x1 * (4 : Int32)) + x2) < 0 then
      P (some (.int (0 : Int32))) h
    else
      ∃ q1, xm_fld h a0 8 9 = some (.ref q1) ∧ /- worths -/
      ∃ n2, xm_len xm_st h q1 = some n2 ∧
      (if ((x1 * (4 : Int32)) + x2) < n2 then
        ∃ q3, xm_fld h a0 8 9 = some (.ref q3) ∧ /- worths -/
        ∃ e4, xm_ld xm_st h 0 q3 ((x1 * (4 : Int32)) + x2) = some e4 ∧
        P (some (.int e4)) h
      else
        P (some (.int (0 : Int32))) h))) :
    xm_L K sX8_worthIn kX8_worthIn 0 [some (.ref a0), some (.int x1), some (.int x2), none] [] h P :=
  xm_run (fun _ _ h => h) oX8_worthIn 20 0 0 0 [some (.ref a0), some (.int x1), some (.int x2), none] [] h H
set_option maxRecDepth 100000 in
theorem eX8_worthIn {K K' : Nat} (hK : K < K') {h : xm_H} {P : Option Value → xm_H → Prop} {a0 : Nat} {x1 : Int32} {x2 : Int32} (hr : ∃ fs, h[a0]? = some (.inr (8, fs))) (H :
    (if ((x1 * (4 : Int32)) + x2) < 0 then
      P (some (.int (0 : Int32))) h
    else
      ∃ q1, xm_fld h a0 8 9 = some (.ref q1) ∧ /- worths -/
      ∃ n2, xm_len xm_st h q1 = some n2 ∧
      (if ((x1 * (4 : Int32)) + x2) < n2 then
        ∃ q3, xm_fld h a0 8 9 = some (.ref q3) ∧ /- worths -/
        ∃ e4, xm_ld xm_st h 0 q3 ((x1 * (4 : Int32)) + x2) = some e4 ∧
        P (some (.int e4)) h
      else
        P (some (.int (0 : Int32))) h))) :
    xm_Call K' sX8_worthIn 8 [.ref a0, .int x1, .int x2] h P :=
  xm_call_of (C := kX8_worthIn) hK (by decide +kernel) rfl (Nat.le_of_ble_eq_true rfl) (Or.inr ⟨a0, hr.choose, rfl, hr.choose_spec⟩) (xX8_worthIn_0 H)

def kX8_isRowAtRest : List xm_I := [
  i_v 0 (.iconst 0) 1 none 0 [],
  i_0 1 (.istore_n 2) 1 none,
  i_0 2 (.iload_n 2) 1 (some [true, true, true, false, false, false]),
  i_0 3 (.aload_n 0) 1 none,
  i_f 4 (.getfield 10) 3 none 8 0 [328] 1,
  i_f 7 (.getfield 89) 3 none 7 1 [140] 0,
  i_j 10 (.if_icmp .ge 66) 3 none 45,
  i_0 13 (.iload_n 1) 1 none,
  i_v 14 (.iconst 3) 1 none 3 [],
  i_0 15 (.aload_n 0) 1 none,
  i_0 16 (.iload_n 2) 1 none,
  i_m 17 (.invokevirtual 200) 3 none 1 8 [618, 620, 10, 108, 621] 0 sX8_placeIn,
  i_0 20 (.ishl) 1 none,
  i_v 21 (.iconst (-1)) 1 none (-1) [],
  i_0 22 (.ixor) 1 none,
  i_0 23 (.iand) 1 none,
  i_0 24 (.istore_n 3) 1 none,
  i_0 25 (.aload_n 0) 1 none,
  i_0 26 (.iload_n 1) 1 none,
  i_0 27 (.iload_n 2) 1 none,
  i_m 28 (.invokevirtual 207) 3 none 2 8 [630, 632, 13, 108, 633] 0 sX8_worthIn,
  i_0 31 (.istore 4) 2 none,
  i_v 33 (.iconst 0) 1 none 0 [],
  i_0 34 (.istore 5) 2 none,
  i_0 36 (.iload 5) 2 (some [true, true, true, true, true, true]),
  i_v 38 (.iconst 4) 1 none 4 [],
  i_j 39 (.if_icmp .ge 31) 3 none 43,
  i_0 42 (.aload_n 0) 1 none,
  i_0 43 (.iload_n 3) 1 none,
  i_0 44 (.iload 5) 2 none,
  i_0 46 (.aload_n 0) 1 none,
  i_0 47 (.iload_n 2) 1 none,
  i_m 48 (.invokevirtual 200) 3 none 1 8 [618, 620, 10, 108, 621] 0 sX8_placeIn,
  i_0 51 (.ishl) 1 none,
  i_0 52 (.ior) 1 none,
  i_0 53 (.iload_n 2) 1 none,
  i_m 54 (.invokevirtual 207) 3 none 2 8 [630, 632, 13, 108, 633] 0 sX8_worthIn,
  i_0 57 (.iload 4) 2 none,
  i_j 59 (.if_icmp .le 5) 3 none 41,
  i_v 62 (.iconst 0) 1 none 0 [],
  i_0 63 (.ireturn) 1 none,
  i_v 64 (.iinc 5 1) 3 none 1 [],
  i_j 67 (.goto (-31)) 3 none 24,
  i_v 70 (.iinc 2 1) 3 none 1 [],
  i_j 73 (.goto (-71)) 3 none 2,
  i_v 76 (.iconst 1) 1 none 1 [],
  i_0 77 (.ireturn) 1 none]
set_option maxRecDepth 100000 in
theorem oX8_isRowAtRest : xm_ok sX8_isRowAtRest sX8_isRowAtRest.1.cls kX8_isRowAtRest = true := by decide +kernel
set_option maxRecDepth 100000 in
set_option maxHeartbeats 4000000 in
theorem xX8_isRowAtRest_0 {K : Nat} {h : xm_H} {P : Option Value → xm_H → Prop} {a0 : Nat} {x1 : Int32} (H :
    xm_L K sX8_isRowAtRest kX8_isRowAtRest 2 [some (.ref a0), some (.int x1), some (.int (0 : Int32)), none, none, none] [] h P) :
    xm_L K sX8_isRowAtRest kX8_isRowAtRest 0 [some (.ref a0), some (.int x1), none, none, none, none] [] h P :=
  xm_run (fun _ _ h => h) oX8_isRowAtRest 3 0 0 0 [some (.ref a0), some (.int x1), none, none, none, none] [] h H
set_option maxRecDepth 100000 in
theorem eX8_isRowAtRest {K K' : Nat} (hK : K < K') {h : xm_H} {P : Option Value → xm_H → Prop} {a0 : Nat} {x1 : Int32} (hr : ∃ fs, h[a0]? = some (.inr (8, fs))) (H :
    xm_L K sX8_isRowAtRest kX8_isRowAtRest 2 [some (.ref a0), some (.int x1), some (.int (0 : Int32)), none, none, none] [] h P) :
    xm_Call K' sX8_isRowAtRest 8 [.ref a0, .int x1] h P :=
  xm_call_of (C := kX8_isRowAtRest) hK (by decide +kernel) rfl (Nat.le_of_ble_eq_true rfl) (Or.inr ⟨a0, hr.choose, rfl, hr.choose_spec⟩) (xX8_isRowAtRest_0 H)

set_option maxRecDepth 100000 in
set_option maxHeartbeats 4000000 in
theorem xX8_isRowAtRest_2 {K : Nat} {h : xm_H} {P : Option Value → xm_H → Prop} {a0 : Nat} {x1 : Int32} {x2 : Int32} (H :
    ∃ q1, xm_fld h a0 8 0 = some (.ref q1) ∧ /- now -/
    ∃ f2, xm_fld h q1 7 1 = some (.int f2) ∧ /- people -/
    (if x2 < f2 then
      xm_Call K sX8_placeIn 8 [.ref a0, .int x2] h (xm_pi fun c4 h3 =>
        xm_Call K sX8_worthIn 8 [.ref a0, .int x1, .int x2] h3 (xm_pi fun c6 h5 =>
          xm_L K sX8_isRowAtRest kX8_isRowAtRest 24 [some (.ref a0), some (.int x1), some (.int x2), some (.int (x1 &&& (((3 : Int32) <<< (c4 &&& 31)) ^^^ (-1 : Int32)))), some (.int c6), some (.int (0 : Int32))] [] h5 P))
    else
      P (some (.int (1 : Int32))) h)) :
    xm_L K sX8_isRowAtRest kX8_isRowAtRest 2 [some (.ref a0), some (.int x1), some (.int x2), none, none, none] [] h P :=
  xm_run (fun _ _ h => h) oX8_isRowAtRest 23 2 0 0 [some (.ref a0), some (.int x1), some (.int x2), none, none, none] [] h H

set_option maxRecDepth 100000 in
set_option maxHeartbeats 4000000 in
theorem xX8_isRowAtRest_24 {K : Nat} {h : xm_H} {P : Option Value → xm_H → Prop} {a0 : Nat} {x1 : Int32} {x2 : Int32} {x3 : Int32} {x4 : Int32} {x5 : Int32} (H :
    (if x5 < (4 : Int32) then
      xm_Call K sX8_placeIn 8 [.ref a0, .int x2] h (xm_pi fun c2 h1 =>
        xm_Call K sX8_worthIn 8 [.ref a0, .int (x3 ||| (x5 <<< (c2 &&& 31))), .int x2] h1 (xm_pi fun c4 h3 =>
          (if x4 < c4 then
            P (some (.int (0 : Int32))) h3
          else
            xm_L K sX8_isRowAtRest kX8_isRowAtRest 24 [some (.ref a0), some (.int x1), some (.int x2), some (.int x3), some (.int x4), some (.int (x5 + (1 : Int32)))] [] h3 P)))
    else
      xm_L K sX8_isRowAtRest kX8_isRowAtRest 2 [some (.ref a0), some (.int x1), some (.int (x2 + (1 : Int32))), none, none, none] [] h P)) :
    xm_L K sX8_isRowAtRest kX8_isRowAtRest 24 [some (.ref a0), some (.int x1), some (.int x2), some (.int x3), some (.int x4), some (.int x5)] [] h P :=
  xm_run (fun _ _ h => h) oX8_isRowAtRest 18 24 0 0 [some (.ref a0), some (.int x1), some (.int x2), some (.int x3), some (.int x4), some (.int x5)] [] h H

def kX8_freeRate : List xm_I := [
  i_0 0 (.aload_n 0) 1 none,
  i_f 1 (.getfield 16) 3 none 8 1 [329] 1,
  i_0 4 (.aload_n 0) 1 none,
  i_f 5 (.getfield 10) 3 none 8 0 [328] 1,
  i_m 8 (.invokevirtual 182) 3 none 1 7 [595, 596, 597, 109, 598] 0 sX7_copy,
  i_f 11 (.getstatic 210) 3 none 0 0 [375] 0,
  i_v 14 (.bipush 9) 2 none 9 [],
  i_0 16 (.iaload) 1 none,
  i_0 17 (.istore_n 1) 1 none,
  i_0 18 (.iload_n 1) 1 (some [true, true]),
  i_f 19 (.getstatic 213) 3 none 1 0 [377] 0,
  i_v 22 (.bipush 9) 2 none 9 [],
  i_0 24 (.iaload) 1 none,
  i_j 25 (.if_icmp .gt 40) 3 none 32,
  i_0 28 (.aload_n 0) 1 none,
  i_f 29 (.getfield 16) 3 none 8 1 [329] 1,
  i_v 32 (.iconst 0) 1 none 0 [],
  i_v 33 (.bipush 9) 2 none 9 [],
  i_0 35 (.iload_n 1) 1 none,
  i_m 36 (.invokevirtual 185) 3 none 3 7 [600, 385, 386, 109, 387] 0 sX7_set,
  i_0 39 (.aload_n 0) 1 none,
  i_f 40 (.getfield 22) 3 none 8 2 [330] 1,
  i_0 43 (.aload_n 0) 1 none,
  i_f 44 (.getfield 16) 3 none 8 1 [329] 1,
  i_m 47 (.invokevirtual 163) 3 none 1 4 [546, 547, 548, 110, 549] 0 sX4_reckon,
  i_0 50 (.aload_n 0) 1 none,
  i_m 51 (.invokevirtual 216) 3 none 0 8 [638, 640, 14, 108, 641] 0 sX8_nobodyStaysGladly,
  i_j 54 (.ifCond .eq 5) 3 none 30,
  i_0 57 (.iload_n 1) 1 none,
  i_0 58 (.ireturn) 1 none,
  i_v 59 (.iinc 1 1) 3 none 1 [],
  i_j 62 (.goto (-44)) 3 none 9,
  i_v 65 (.bipush (-2)) 2 none (-2) [],
  i_0 67 (.ireturn) 1 none]
set_option maxRecDepth 100000 in
theorem oX8_freeRate : xm_ok sX8_freeRate sX8_freeRate.1.cls kX8_freeRate = true := by decide +kernel
set_option maxRecDepth 100000 in
set_option maxHeartbeats 4000000 in
theorem xX8_freeRate_0 {K : Nat} {h : xm_H} {P : Option Value → xm_H → Prop} {a0 : Nat} (H :
    ∃ q1, xm_fld h a0 8 1 = some (.ref q1) ∧ /- thought -/
    ∃ q2, xm_fld h a0 8 0 = some (.ref q2) ∧ /- now -/
    xm_Call K sX7_copy 7 [.ref q1, .ref q2] h (xm_pv fun h3 =>
      ∃ e4, xm_ld xm_st h3 0 (1000 + 0) (9 : Int32) = some e4 ∧
      xm_L K sX8_freeRate kX8_freeRate 9 [some (.ref a0), some (.int e4)] [] h3 P)) :
    xm_L K sX8_freeRate kX8_freeRate 0 [some (.ref a0), none] [] h P :=
  xm_run (fun _ _ h => h) oX8_freeRate 10 0 0 0 [some (.ref a0), none] [] h H
set_option maxRecDepth 100000 in
theorem eX8_freeRate {K K' : Nat} (hK : K < K') {h : xm_H} {P : Option Value → xm_H → Prop} {a0 : Nat} (hr : ∃ fs, h[a0]? = some (.inr (8, fs))) (H :
    ∃ q1, xm_fld h a0 8 1 = some (.ref q1) ∧ /- thought -/
    ∃ q2, xm_fld h a0 8 0 = some (.ref q2) ∧ /- now -/
    xm_Call K sX7_copy 7 [.ref q1, .ref q2] h (xm_pv fun h3 =>
      ∃ e4, xm_ld xm_st h3 0 (1000 + 0) (9 : Int32) = some e4 ∧
      xm_L K sX8_freeRate kX8_freeRate 9 [some (.ref a0), some (.int e4)] [] h3 P)) :
    xm_Call K' sX8_freeRate 8 [.ref a0] h P :=
  xm_call_of (C := kX8_freeRate) hK (by decide +kernel) rfl (Nat.le_of_ble_eq_true rfl) (Or.inr ⟨a0, hr.choose, rfl, hr.choose_spec⟩) (xX8_freeRate_0 H)

set_option maxRecDepth 100000 in
set_option maxHeartbeats 4000000 in
theorem xX8_freeRate_9 {K : Nat} {h : xm_H} {P : Option Value → xm_H → Prop} {a0 : Nat} {x1 : Int32} (H :
    ∃ e1, xm_ld xm_st h 0 (1000 + 1) (9 : Int32) = some e1 ∧
    (if e1 < x1 then
      P (some (.int (-2 : Int32))) h
    else
      ∃ q2, xm_fld h a0 8 1 = some (.ref q2) ∧ /- thought -/
      xm_Call K sX7_set 7 [.ref q2, .int (0 : Int32), .int (9 : Int32), .int x1] h (xm_pv fun h3 =>
        ∃ q4, xm_fld h3 a0 8 2 = some (.ref q4) ∧ /- reckoner -/
        ∃ q5, xm_fld h3 a0 8 1 = some (.ref q5) ∧ /- thought -/
        xm_Call K sX4_reckon 4 [.ref q4, .ref q5] h3 (xm_pv fun h6 =>
          xm_Call K sX8_nobodyStaysGladly 8 [.ref a0] h6 (xm_pi fun c8 h7 =>
            (if c8 = 0 then
              xm_L K sX8_freeRate kX8_freeRate 9 [some (.ref a0), some (.int (x1 + (1 : Int32)))] [] h7 P
            else
              P (some (.int x1)) h7)))))) :
    xm_L K sX8_freeRate kX8_freeRate 9 [some (.ref a0), some (.int x1)] [] h P :=
  xm_run (fun _ _ h => h) oX8_freeRate 22 9 0 0 [some (.ref a0), some (.int x1)] [] h H

def kX8_nobodyStaysGladly : List xm_I := [
  i_v 0 (.iconst 0) 1 none 0 [],
  i_0 1 (.istore_n 1) 1 none,
  i_0 2 (.iload_n 1) 1 (some [true, true, false, false]),
  i_0 3 (.aload_n 0) 1 none,
  i_f 4 (.getfield 16) 3 none 8 1 [329] 1,
  i_f 7 (.getfield 89) 3 none 7 1 [140] 0,
  i_j 10 (.if_icmp .ge 77) 3 none 47,
  i_0 13 (.aload_n 0) 1 none,
  i_f 14 (.getfield 16) 3 none 8 1 [329] 1,
  i_0 17 (.iload_n 1) 1 none,
  i_v 18 (.iconst 3) 1 none 3 [],
  i_m 19 (.invokevirtual 188) 3 none 2 7 [605, 509, 510, 109, 511] 0 sX7_get,
  i_v 22 (.iconst 1) 1 none 1 [],
  i_j 23 (.if_icmp .ne 20) 3 none 23,
  i_0 26 (.aload_n 0) 1 none,
  i_f 27 (.getfield 16) 3 none 8 1 [329] 1,
  i_0 30 (.iload_n 1) 1 none,
  i_v 31 (.iconst 5) 1 none 5 [],
  i_m 32 (.invokevirtual 188) 3 none 2 7 [605, 509, 510, 109, 511] 0 sX7_get,
  i_v 35 (.iconst 1) 1 none 1 [],
  i_j 36 (.if_icmp .ne 7) 3 none 23,
  i_v 39 (.iconst 1) 1 none 1 [],
  i_j 40 (.goto 4) 3 none 24,
  i_v 43 (.iconst 0) 1 none 0 [],
  i_0 44 (.istore_n 2) 1 none,
  i_0 45 (.aload_n 0) 1 none,
  i_f 46 (.getfield 22) 3 none 8 2 [330] 1,
  i_0 49 (.aload_n 0) 1 none,
  i_f 50 (.getfield 16) 3 none 8 1 [329] 1,
  i_0 53 (.iload_n 1) 1 none,
  i_v 54 (.iconst 2) 1 none 2 [],
  i_m 55 (.invokevirtual 219) 3 none 3 4 [642, 580, 581, 110, 582] 0 sX4_gainOf,
  i_0 58 (.istore_n 3) 1 none,
  i_0 59 (.iload_n 2) 1 none,
  i_j 60 (.ifCond .eq 21) 3 none 45,
  i_0 63 (.iload_n 3) 1 none,
  i_0 64 (.aload_n 0) 1 none,
  i_f 65 (.getfield 22) 3 none 8 2 [330] 1,
  i_0 68 (.aload_n 0) 1 none,
  i_f 69 (.getfield 16) 3 none 8 1 [329] 1,
  i_0 72 (.iload_n 1) 1 none,
  i_m 73 (.invokevirtual 176) 3 none 2 4 [575, 576, 577, 110, 578] 0 sX4_worthOf,
  i_j 76 (.if_icmp .ge 5) 3 none 45,
  i_v 79 (.iconst 0) 1 none 0 [],
  i_0 80 (.ireturn) 1 none,
  i_v 81 (.iinc 1 1) 3 none 1 [],
  i_j 84 (.goto (-82)) 3 none 2,
  i_v 87 (.iconst 1) 1 none 1 [],
  i_0 88 (.ireturn) 1 none]
set_option maxRecDepth 100000 in
theorem oX8_nobodyStaysGladly : xm_ok sX8_nobodyStaysGladly sX8_nobodyStaysGladly.1.cls kX8_nobodyStaysGladly = true := by decide +kernel
set_option maxRecDepth 100000 in
set_option maxHeartbeats 4000000 in
theorem xX8_nobodyStaysGladly_0 {K : Nat} {h : xm_H} {P : Option Value → xm_H → Prop} {a0 : Nat} (H :
    xm_L K sX8_nobodyStaysGladly kX8_nobodyStaysGladly 2 [some (.ref a0), some (.int (0 : Int32)), none, none] [] h P) :
    xm_L K sX8_nobodyStaysGladly kX8_nobodyStaysGladly 0 [some (.ref a0), none, none, none] [] h P :=
  xm_run (fun _ _ h => h) oX8_nobodyStaysGladly 3 0 0 0 [some (.ref a0), none, none, none] [] h H
set_option maxRecDepth 100000 in
theorem eX8_nobodyStaysGladly {K K' : Nat} (hK : K < K') {h : xm_H} {P : Option Value → xm_H → Prop} {a0 : Nat} (hr : ∃ fs, h[a0]? = some (.inr (8, fs))) (H :
    xm_L K sX8_nobodyStaysGladly kX8_nobodyStaysGladly 2 [some (.ref a0), some (.int (0 : Int32)), none, none] [] h P) :
    xm_Call K' sX8_nobodyStaysGladly 8 [.ref a0] h P :=
  xm_call_of (C := kX8_nobodyStaysGladly) hK (by decide +kernel) rfl (Nat.le_of_ble_eq_true rfl) (Or.inr ⟨a0, hr.choose, rfl, hr.choose_spec⟩) (xX8_nobodyStaysGladly_0 H)

set_option maxRecDepth 100000 in
set_option maxHeartbeats 4000000 in
theorem xX8_nobodyStaysGladly_2 {K : Nat} {h : xm_H} {P : Option Value → xm_H → Prop} {a0 : Nat} {x1 : Int32} (H :
    ∃ q1, xm_fld h a0 8 1 = some (.ref q1) ∧ /- thought -/
    ∃ f2, xm_fld h q1 7 1 = some (.int f2) ∧ /- people -/
    (if x1 < f2 then
      ∃ q3, xm_fld h a0 8 1 = some (.ref q3) ∧ /- thought -/
      xm_Call K sX7_get 7 [.ref q3, .int x1, .int (3 : Int32)] h (xm_pi fun c5 h4 =>
        (if c5 = (1 : Int32) then
          ∃ q6, xm_fld h4 a0 8 1 = some (.ref q6) ∧ /- thought -/
          xm_Call K sX7_get 7 [.ref q6, .int x1, .int (5 : Int32)] h4 (xm_pi fun c8 h7 =>
            (if c8 = (1 : Int32) then
              ∃ q9, xm_fld h7 a0 8 2 = some (.ref q9) ∧ /- reckoner -/
              ∃ q10, xm_fld h7 a0 8 1 = some (.ref q10) ∧ /- thought -/
              xm_Call K sX4_gainOf 4 [.ref q9, .ref q10, .int x1, .int (2 : Int32)] h7 (xm_pi fun c12 h11 =>
                ∃ q13, xm_fld h11 a0 8 2 = some (.ref q13) ∧ /- reckoner -/
                ∃ q14, xm_fld h11 a0 8 1 = some (.ref q14) ∧ /- thought -/
                xm_Call K sX4_worthOf 4 [.ref q13, .ref q14, .int x1] h11 (xm_pi fun c16 h15 =>
                  (if c12 < c16 then
                    P (some (.int (0 : Int32))) h15
                  else
                    xm_L K sX8_nobodyStaysGladly kX8_nobodyStaysGladly 2 [some (.ref a0), some (.int (x1 + (1 : Int32))), none, none] [] h15 P)))
            else
              ∃ q17, xm_fld h7 a0 8 2 = some (.ref q17) ∧ /- reckoner -/
              ∃ q18, xm_fld h7 a0 8 1 = some (.ref q18) ∧ /- thought -/
              xm_Call K sX4_gainOf 4 [.ref q17, .ref q18, .int x1, .int (2 : Int32)] h7 (xm_pi fun c20 h19 =>
                xm_L K sX8_nobodyStaysGladly kX8_nobodyStaysGladly 2 [some (.ref a0), some (.int (x1 + (1 : Int32))), none, none] [] h19 P)))
        else
          ∃ q21, xm_fld h4 a0 8 2 = some (.ref q21) ∧ /- reckoner -/
          ∃ q22, xm_fld h4 a0 8 1 = some (.ref q22) ∧ /- thought -/
          xm_Call K sX4_gainOf 4 [.ref q21, .ref q22, .int x1, .int (2 : Int32)] h4 (xm_pi fun c24 h23 =>
            xm_L K sX8_nobodyStaysGladly kX8_nobodyStaysGladly 2 [some (.ref a0), some (.int (x1 + (1 : Int32))), none, none] [] h23 P)))
    else
      P (some (.int (1 : Int32))) h)) :
    xm_L K sX8_nobodyStaysGladly kX8_nobodyStaysGladly 2 [some (.ref a0), some (.int x1), none, none] [] h P :=
  xm_run (fun _ _ h => h) oX8_nobodyStaysGladly 43 2 0 0 [some (.ref a0), some (.int x1), none, none] [] h H

def kX8_pool : List xm_I := [
  i_0 0 (.aload_n 0) 1 none,
  i_f 1 (.getfield 10) 3 none 8 0 [328] 1,
  i_0 4 (.iload_n 2) 1 none,
  i_m 5 (.invokevirtual 152) 3 none 1 7 [500, 501, 502, 109, 503] 0 sX7_has,
  i_j 8 (.ifCond .eq 23) 3 none 17,
  i_0 11 (.iload_n 1) 1 none,
  i_0 12 (.aload_n 0) 1 none,
  i_f 13 (.getfield 10) 3 none 8 0 [328] 1,
  i_f 16 (.getfield 89) 3 none 7 1 [140] 0,
  i_0 19 (.iushr) 1 none,
  i_j 20 (.ifCond .ne 11) 3 none 17,
  i_0 23 (.iload_n 1) 1 none,
  i_0 24 (.iload_n 2) 1 none,
  i_0 25 (.ishr) 1 none,
  i_v 26 (.iconst 1) 1 none 1 [],
  i_0 27 (.iand) 1 none,
  i_j 28 (.ifCond .ne 6) 3 none 19,
  i_v 31 (.ldc 175) 2 none (-2000000000) [574],
  i_0 33 (.ireturn) 1 none,
  i_0 34 (.aload_n 0) 1 none,
  i_f 35 (.getfield 22) 3 none 8 2 [330] 1,
  i_0 38 (.aload_n 0) 1 none,
  i_f 39 (.getfield 10) 3 none 8 0 [328] 1,
  i_m 42 (.invokevirtual 163) 3 none 1 4 [546, 547, 548, 110, 549] 0 sX4_reckon,
  i_0 45 (.aload_n 0) 1 none,
  i_f 46 (.getfield 22) 3 none 8 2 [330] 1,
  i_f 49 (.getfield 172) 3 none 4 4 [177] 1,
  i_0 52 (.iload_n 2) 1 none,
  i_0 53 (.iaload) 1 none,
  i_0 54 (.aload_n 0) 1 none,
  i_0 55 (.iload_n 1) 1 none,
  i_m 56 (.invokevirtual 223) 3 none 1 8 [647, 649, 15, 108, 650] 0 sX8_pooled,
  i_0 59 (.isub) 1 none,
  i_0 60 (.ireturn) 1 none]
set_option maxRecDepth 100000 in
theorem oX8_pool : xm_ok sX8_pool sX8_pool.1.cls kX8_pool = true := by decide +kernel
set_option maxRecDepth 100000 in
set_option maxHeartbeats 4000000 in
theorem xX8_pool_0 {K : Nat} {h : xm_H} {P : Option Value → xm_H → Prop} {a0 : Nat} {x1 : Int32} {x2 : Int32} (H :
    ∃ q1, xm_fld h a0 8 0 = some (.ref q1) ∧ /- now -/
    xm_Call K sX7_has 7 [.ref q1, .int x2] h (xm_pi fun c3 h2 =>
      (if c3 = 0 then
        P (some (.int (-2000000000 : Int32))) h2
      else
        ∃ q4, xm_fld h2 a0 8 0 = some (.ref q4) ∧ /- now -/
        ∃ f5, xm_fld h2 q4 7 1 = some (.int f5) ∧ /- people -/
        (if (((Int32.toUInt32 x1) >>> ((Int32.toUInt32 f5) &&& Int32.toUInt32 31)).toInt32) = 0 then
          (if ((x1 >>> (x2 &&& 31)) &&& (1 : Int32)) = 0 then
            P (some (.int (-2000000000 : Int32))) h2
          else
            ∃ q6, xm_fld h2 a0 8 2 = some (.ref q6) ∧ /- reckoner -/
            ∃ q7, xm_fld h2 a0 8 0 = some (.ref q7) ∧ /- now -/
            xm_Call K sX4_reckon 4 [.ref q6, .ref q7] h2 (xm_pv fun h8 =>
              ∃ q9, xm_fld h8 a0 8 2 = some (.ref q9) ∧ /- reckoner -/
              ∃ q10, xm_fld h8 q9 4 4 = some (.ref q10) ∧ /- shares -/
              ∃ e11, xm_ld xm_st h8 0 q10 x2 = some e11 ∧
              xm_Call K sX8_pooled 8 [.ref a0, .int x1] h8 (xm_pi fun c13 h12 =>
                P (some (.int (e11 - c13))) h12)))
        else
          P (some (.int (-2000000000 : Int32))) h2)))) :
    xm_L K sX8_pool kX8_pool 0 [some (.ref a0), some (.int x1), some (.int x2)] [] h P :=
  xm_run (fun _ _ h => h) oX8_pool 33 0 0 0 [some (.ref a0), some (.int x1), some (.int x2)] [] h H
set_option maxRecDepth 100000 in
theorem eX8_pool {K K' : Nat} (hK : K < K') {h : xm_H} {P : Option Value → xm_H → Prop} {a0 : Nat} {x1 : Int32} {x2 : Int32} (hr : ∃ fs, h[a0]? = some (.inr (8, fs))) (H :
    ∃ q1, xm_fld h a0 8 0 = some (.ref q1) ∧ /- now -/
    xm_Call K sX7_has 7 [.ref q1, .int x2] h (xm_pi fun c3 h2 =>
      (if c3 = 0 then
        P (some (.int (-2000000000 : Int32))) h2
      else
        ∃ q4, xm_fld h2 a0 8 0 = some (.ref q4) ∧ /- now -/
        ∃ f5, xm_fld h2 q4 7 1 = some (.int f5) ∧ /- people -/
        (if (((Int32.toUInt32 x1) >>> ((Int32.toUInt32 f5) &&& Int32.toUInt32 31)).toInt32) = 0 then
          (if ((x1 >>> (x2 &&& 31)) &&& (1 : Int32)) = 0 then
            P (some (.int (-2000000000 : Int32))) h2
          else
            ∃ q6, xm_fld h2 a0 8 2 = some (.ref q6) ∧ /- reckoner -/
            ∃ q7, xm_fld h2 a0 8 0 = some (.ref q7) ∧ /- now -/
            xm_Call K sX4_reckon 4 [.ref q6, .ref q7] h2 (xm_pv fun h8 =>
              ∃ q9, xm_fld h8 a0 8 2 = some (.ref q9) ∧ /- reckoner -/
              ∃ q10, xm_fld h8 q9 4 4 = some (.ref q10) ∧ /- shares -/
              ∃ e11, xm_ld xm_st h8 0 q10 x2 = some e11 ∧
              xm_Call K sX8_pooled 8 [.ref a0, .int x1] h8 (xm_pi fun c13 h12 =>
                P (some (.int (e11 - c13))) h12)))
        else
          P (some (.int (-2000000000 : Int32))) h2)))) :
    xm_Call K' sX8_pool 8 [.ref a0, .int x1, .int x2] h P :=
  xm_call_of (C := kX8_pool) hK (by decide +kernel) rfl (Nat.le_of_ble_eq_true rfl) (Or.inr ⟨a0, hr.choose, rfl, hr.choose_spec⟩) (xX8_pool_0 H)

def kX8_pooled : List xm_I := [
  i_v 0 (.iconst 0) 1 none 0 [],
  i_0 1 (.istore_n 2) 1 none,
  i_v 2 (.iconst 0) 1 none 0 [],
  i_0 3 (.istore_n 3) 1 none,
  i_v 4 (.iconst 0) 1 none 0 [],
  i_0 5 (.istore 4) 2 none,
  i_0 7 (.iload 4) 2 (some [true, true, true, true, true]),
  i_0 9 (.aload_n 0) 1 none,
  i_f 10 (.getfield 10) 3 none 8 0 [328] 1,
  i_f 13 (.getfield 89) 3 none 7 1 [140] 0,
  i_j 16 (.if_icmp .ge 35) 3 none 29,
  i_0 19 (.iload_n 1) 1 none,
  i_0 20 (.iload 4) 2 none,
  i_0 22 (.ishr) 1 none,
  i_v 23 (.iconst 1) 1 none 1 [],
  i_0 24 (.iand) 1 none,
  i_v 25 (.iconst 1) 1 none 1 [],
  i_j 26 (.if_icmp .ne 19) 3 none 27,
  i_0 29 (.iload_n 2) 1 none,
  i_0 30 (.aload_n 0) 1 none,
  i_f 31 (.getfield 22) 3 none 8 2 [330] 1,
  i_f 34 (.getfield 172) 3 none 4 4 [177] 1,
  i_0 37 (.iload 4) 2 none,
  i_0 39 (.iaload) 1 none,
  i_0 40 (.iadd) 1 none,
  i_0 41 (.istore_n 2) 1 none,
  i_v 42 (.iinc 3 1) 3 none 1 [],
  i_v 45 (.iinc 4 1) 3 none 1 [],
  i_j 48 (.goto (-41)) 3 none 6,
  i_0 51 (.iload_n 3) 1 none,
  i_j 52 (.ifCond .ne 7) 3 none 33,
  i_v 55 (.iconst 0) 1 none 0 [],
  i_j 56 (.goto 10) 3 none 40,
  i_0 59 (.iload_n 2) 1 none,
  i_0 60 (.iload_n 3) 1 none,
  i_0 61 (.iadd) 1 none,
  i_v 62 (.iconst 1) 1 none 1 [],
  i_0 63 (.isub) 1 none,
  i_0 64 (.iload_n 3) 1 none,
  i_0 65 (.idiv) 1 none,
  i_0 66 (.ireturn) 1 none]
set_option maxRecDepth 100000 in
theorem oX8_pooled : xm_ok sX8_pooled sX8_pooled.1.cls kX8_pooled = true := by decide +kernel
set_option maxRecDepth 100000 in
set_option maxHeartbeats 4000000 in
theorem xX8_pooled_0 {K : Nat} {h : xm_H} {P : Option Value → xm_H → Prop} {a0 : Nat} {x1 : Int32} (H :
    xm_L K sX8_pooled kX8_pooled 6 [some (.ref a0), some (.int x1), some (.int (0 : Int32)), some (.int (0 : Int32)), some (.int (0 : Int32))] [] h P) :
    xm_L K sX8_pooled kX8_pooled 0 [some (.ref a0), some (.int x1), none, none, none] [] h P :=
  xm_run (fun _ _ h => h) oX8_pooled 7 0 0 0 [some (.ref a0), some (.int x1), none, none, none] [] h H
set_option maxRecDepth 100000 in
theorem eX8_pooled {K K' : Nat} (hK : K < K') {h : xm_H} {P : Option Value → xm_H → Prop} {a0 : Nat} {x1 : Int32} (hr : ∃ fs, h[a0]? = some (.inr (8, fs))) (H :
    xm_L K sX8_pooled kX8_pooled 6 [some (.ref a0), some (.int x1), some (.int (0 : Int32)), some (.int (0 : Int32)), some (.int (0 : Int32))] [] h P) :
    xm_Call K' sX8_pooled 8 [.ref a0, .int x1] h P :=
  xm_call_of (C := kX8_pooled) hK (by decide +kernel) rfl (Nat.le_of_ble_eq_true rfl) (Or.inr ⟨a0, hr.choose, rfl, hr.choose_spec⟩) (xX8_pooled_0 H)

set_option maxRecDepth 100000 in
set_option maxHeartbeats 4000000 in
theorem xX8_pooled_6 {K : Nat} {h : xm_H} {P : Option Value → xm_H → Prop} {a0 : Nat} {x1 : Int32} {x2 : Int32} {x3 : Int32} {x4 : Int32} (H :
    ∃ q1, xm_fld h a0 8 0 = some (.ref q1) ∧ /- now -/
    ∃ f2, xm_fld h q1 7 1 = some (.int f2) ∧ /- people -/
    (if x4 < f2 then
      (if ((x1 >>> (x4 &&& 31)) &&& (1 : Int32)) = (1 : Int32) then
        ∃ q3, xm_fld h a0 8 2 = some (.ref q3) ∧ /- reckoner -/
        ∃ q4, xm_fld h q3 4 4 = some (.ref q4) ∧ /- shares -/
        ∃ e5, xm_ld xm_st h 0 q4 x4 = some e5 ∧
        xm_L K sX8_pooled kX8_pooled 6 [some (.ref a0), some (.int x1), some (.int (x2 + e5)), some (.int (x3 + (1 : Int32))), some (.int (x4 + (1 : Int32)))] [] h P
      else
        xm_L K sX8_pooled kX8_pooled 6 [some (.ref a0), some (.int x1), some (.int x2), some (.int x3), some (.int (x4 + (1 : Int32)))] [] h P)
    else
      (if x3 = 0 then
        P (some (.int (0 : Int32))) h
      else
        ¬ x3 = 0 ∧
        P (some (.int (((x2 + x3) - (1 : Int32)) / x3))) h))) :
    xm_L K sX8_pooled kX8_pooled 6 [some (.ref a0), some (.int x1), some (.int x2), some (.int x3), some (.int x4)] [] h P :=
  xm_run (fun _ _ h => h) oX8_pooled 24 6 0 0 [some (.ref a0), some (.int x1), some (.int x2), some (.int x3), some (.int x4)] [] h H

def kX8_spared : List xm_I := [
  i_0 0 (.aload_n 0) 1 none,
  i_f 1 (.getfield 22) 3 none 8 2 [330] 1,
  i_0 4 (.aload_n 0) 1 none,
  i_f 5 (.getfield 10) 3 none 8 0 [328] 1,
  i_m 8 (.invokevirtual 163) 3 none 1 4 [546, 547, 548, 110, 549] 0 sX4_reckon,
  i_v 11 (.iconst 0) 1 none 0 [],
  i_0 12 (.istore_n 1) 1 none,
  i_v 13 (.iconst 0) 1 none 0 [],
  i_0 14 (.istore_n 2) 1 none,
  i_0 15 (.iload_n 2) 1 (some [true, true, true, false, false]),
  i_0 16 (.aload_n 0) 1 none,
  i_f 17 (.getfield 10) 3 none 8 0 [328] 1,
  i_f 20 (.getfield 89) 3 none 7 1 [140] 0,
  i_j 23 (.if_icmp .ge 31) 3 none 30,
  i_0 26 (.iload_n 1) 1 none,
  i_0 27 (.aload_n 0) 1 none,
  i_f 28 (.getfield 22) 3 none 8 2 [330] 1,
  i_f 31 (.getfield 226) 3 none 4 3 [175] 1,
  i_0 34 (.iload_n 2) 1 none,
  i_0 35 (.iaload) 1 none,
  i_j 36 (.ifCond .le 9) 3 none 25,
  i_v 39 (.iconst 1) 1 none 1 [],
  i_0 40 (.iload_n 2) 1 none,
  i_0 41 (.ishl) 1 none,
  i_j 42 (.goto 4) 3 none 26,
  i_v 45 (.iconst 0) 1 none 0 [],
  i_0 46 (.ior) 1 none,
  i_0 47 (.istore_n 1) 1 none,
  i_v 48 (.iinc 2 1) 3 none 1 [],
  i_j 51 (.goto (-36)) 3 none 9,
  i_0 54 (.aload_n 0) 1 none,
  i_0 55 (.iload_n 1) 1 none,
  i_m 56 (.invokevirtual 223) 3 none 1 8 [647, 649, 15, 108, 650] 0 sX8_pooled,
  i_0 59 (.istore_n 2) 1 none,
  i_v 60 (.iconst 0) 1 none 0 [],
  i_0 61 (.istore_n 3) 1 none,
  i_v 62 (.iconst 0) 1 none 0 [],
  i_0 63 (.istore 4) 2 none,
  i_0 65 (.iload 4) 2 (some [true, false, true, true, true]),
  i_0 67 (.aload_n 0) 1 none,
  i_f 68 (.getfield 10) 3 none 8 0 [328] 1,
  i_f 71 (.getfield 89) 3 none 7 1 [140] 0,
  i_j 74 (.if_icmp .ge 47) 3 none 66,
  i_0 77 (.iload_n 3) 1 none,
  i_0 78 (.aload_n 0) 1 none,
  i_f 79 (.getfield 22) 3 none 8 2 [330] 1,
  i_f 82 (.getfield 226) 3 none 4 3 [175] 1,
  i_0 85 (.iload 4) 2 none,
  i_0 87 (.iaload) 1 none,
  i_j 88 (.ifCond .le 24) 3 none 61,
  i_0 91 (.aload_n 0) 1 none,
  i_f 92 (.getfield 22) 3 none 8 2 [330] 1,
  i_f 95 (.getfield 172) 3 none 4 4 [177] 1,
  i_0 98 (.iload 4) 2 none,
  i_0 100 (.iaload) 1 none,
  i_0 101 (.iload_n 2) 1 none,
  i_j 102 (.if_icmp .le 10) 3 none 61,
  i_v 105 (.iconst 1) 1 none 1 [],
  i_0 106 (.iload 4) 2 none,
  i_0 108 (.ishl) 1 none,
  i_j 109 (.goto 4) 3 none 62,
  i_v 112 (.iconst 0) 1 none 0 [],
  i_0 113 (.ior) 1 none,
  i_0 114 (.istore_n 3) 1 none,
  i_v 115 (.iinc 4 1) 3 none 1 [],
  i_j 118 (.goto (-53)) 3 none 38,
  i_0 121 (.iload_n 3) 1 none,
  i_0 122 (.ireturn) 1 none]
set_option maxRecDepth 100000 in
theorem oX8_spared : xm_ok sX8_spared sX8_spared.1.cls kX8_spared = true := by decide +kernel
set_option maxRecDepth 100000 in
set_option maxHeartbeats 4000000 in
theorem xX8_spared_0 {K : Nat} {h : xm_H} {P : Option Value → xm_H → Prop} {a0 : Nat} (H :
    ∃ q1, xm_fld h a0 8 2 = some (.ref q1) ∧ /- reckoner -/
    ∃ q2, xm_fld h a0 8 0 = some (.ref q2) ∧ /- now -/
    xm_Call K sX4_reckon 4 [.ref q1, .ref q2] h (xm_pv fun h3 =>
      xm_L K sX8_spared kX8_spared 9 [some (.ref a0), some (.int (0 : Int32)), some (.int (0 : Int32)), none, none] [] h3 P)) :
    xm_L K sX8_spared kX8_spared 0 [some (.ref a0), none, none, none, none] [] h P :=
  xm_run (fun _ _ h => h) oX8_spared 10 0 0 0 [some (.ref a0), none, none, none, none] [] h H
set_option maxRecDepth 100000 in
theorem eX8_spared {K K' : Nat} (hK : K < K') {h : xm_H} {P : Option Value → xm_H → Prop} {a0 : Nat} (hr : ∃ fs, h[a0]? = some (.inr (8, fs))) (H :
    ∃ q1, xm_fld h a0 8 2 = some (.ref q1) ∧ /- reckoner -/
    ∃ q2, xm_fld h a0 8 0 = some (.ref q2) ∧ /- now -/
    xm_Call K sX4_reckon 4 [.ref q1, .ref q2] h (xm_pv fun h3 =>
      xm_L K sX8_spared kX8_spared 9 [some (.ref a0), some (.int (0 : Int32)), some (.int (0 : Int32)), none, none] [] h3 P)) :
    xm_Call K' sX8_spared 8 [.ref a0] h P :=
  xm_call_of (C := kX8_spared) hK (by decide +kernel) rfl (Nat.le_of_ble_eq_true rfl) (Or.inr ⟨a0, hr.choose, rfl, hr.choose_spec⟩) (xX8_spared_0 H)

set_option maxRecDepth 100000 in
set_option maxHeartbeats 4000000 in
theorem xX8_spared_9 {K : Nat} {h : xm_H} {P : Option Value → xm_H → Prop} {a0 : Nat} {x1 : Int32} {x2 : Int32} (H :
    ∃ q1, xm_fld h a0 8 0 = some (.ref q1) ∧ /- now -/
    ∃ f2, xm_fld h q1 7 1 = some (.int f2) ∧ /- people -/
    (if x2 < f2 then
      ∃ q3, xm_fld h a0 8 2 = some (.ref q3) ∧ /- reckoner -/
      ∃ q4, xm_fld h q3 4 3 = some (.ref q4) ∧ /- assessed -/
      ∃ e5, xm_ld xm_st h 0 q4 x2 = some e5 ∧
      (if 0 < e5 then
        xm_L K sX8_spared kX8_spared 9 [some (.ref a0), some (.int (x1 ||| ((1 : Int32) <<< (x2 &&& 31)))), some (.int (x2 + (1 : Int32))), none, none] [] h P
      else
        xm_L K sX8_spared kX8_spared 9 [some (.ref a0), some (.int (x1 ||| (0 : Int32))), some (.int (x2 + (1 : Int32))), none, none] [] h P)
    else
      xm_Call K sX8_pooled 8 [.ref a0, .int x1] h (xm_pi fun c7 h6 =>
        xm_L K sX8_spared kX8_spared 38 [some (.ref a0), none, some (.int c7), some (.int (0 : Int32)), some (.int (0 : Int32))] [] h6 P))) :
    xm_L K sX8_spared kX8_spared 9 [some (.ref a0), some (.int x1), some (.int x2), none, none] [] h P :=
  xm_run (fun _ _ h => h) oX8_spared 21 9 0 0 [some (.ref a0), some (.int x1), some (.int x2), none, none] [] h H

set_option maxRecDepth 100000 in
set_option maxHeartbeats 4000000 in
theorem xX8_spared_38 {K : Nat} {h : xm_H} {P : Option Value → xm_H → Prop} {a0 : Nat} {x2 : Int32} {x3 : Int32} {x4 : Int32} (H :
    ∃ q1, xm_fld h a0 8 0 = some (.ref q1) ∧ /- now -/
    ∃ f2, xm_fld h q1 7 1 = some (.int f2) ∧ /- people -/
    (if x4 < f2 then
      ∃ q3, xm_fld h a0 8 2 = some (.ref q3) ∧ /- reckoner -/
      ∃ q4, xm_fld h q3 4 3 = some (.ref q4) ∧ /- assessed -/
      ∃ e5, xm_ld xm_st h 0 q4 x4 = some e5 ∧
      (if 0 < e5 then
        ∃ q6, xm_fld h a0 8 2 = some (.ref q6) ∧ /- reckoner -/
        ∃ q7, xm_fld h q6 4 4 = some (.ref q7) ∧ /- shares -/
        ∃ e8, xm_ld xm_st h 0 q7 x4 = some e8 ∧
        (if x2 < e8 then
          xm_L K sX8_spared kX8_spared 38 [some (.ref a0), none, some (.int x2), some (.int (x3 ||| ((1 : Int32) <<< (x4 &&& 31)))), some (.int (x4 + (1 : Int32)))] [] h P
        else
          xm_L K sX8_spared kX8_spared 38 [some (.ref a0), none, some (.int x2), some (.int (x3 ||| (0 : Int32))), some (.int (x4 + (1 : Int32)))] [] h P)
      else
        xm_L K sX8_spared kX8_spared 38 [some (.ref a0), none, some (.int x2), some (.int (x3 ||| (0 : Int32))), some (.int (x4 + (1 : Int32)))] [] h P)
    else
      P (some (.int x3)) h)) :
    xm_L K sX8_spared kX8_spared 38 [some (.ref a0), none, some (.int x2), some (.int x3), some (.int x4)] [] h P :=
  xm_run (fun _ _ h => h) oX8_spared 28 38 0 0 [some (.ref a0), none, some (.int x2), some (.int x3), some (.int x4)] [] h H

def kX8_later : List xm_I := [
  i_0 0 (.iload_n 3) 1 none,
  i_j 1 (.ifCond .eq 8) 3 none 5,
  i_0 4 (.iload_n 3) 1 none,
  i_v 5 (.iconst 1) 1 none 1 [],
  i_j 6 (.if_icmp .ne 7) 3 none 7,
  i_v 9 (.iconst 1) 1 none 1 [],
  i_j 10 (.goto 4) 3 none 8,
  i_v 13 (.iconst 0) 1 none 0 [],
  i_0 14 (.istore 4) 2 none,
  i_0 16 (.iload_n 1) 1 none,
  i_j 17 (.ifCond .lt 41) 3 none 29,
  i_0 20 (.iload_n 1) 1 none,
  i_v 21 (.bipush 60) 2 none 60 [],
  i_j 23 (.if_icmp .gt 35) 3 none 29,
  i_0 26 (.iload_n 3) 1 none,
  i_j 27 (.ifCond .lt 31) 3 none 29,
  i_0 30 (.iload_n 3) 1 none,
  i_v 31 (.iconst 4) 1 none 4 [],
  i_j 32 (.if_icmp .gt 26) 3 none 29,
  i_0 35 (.iload 4) 2 none,
  i_j 37 (.ifCond .eq 17) 3 none 27,
  i_0 40 (.aload_n 0) 1 none,
  i_f 41 (.getfield 10) 3 none 8 0 [328] 1,
  i_0 44 (.iload_n 2) 1 none,
  i_m 45 (.invokevirtual 152) 3 none 1 7 [500, 501, 502, 109, 503] 0 sX7_has,
  i_j 48 (.ifCond .ne 12) 3 none 31,
  i_j 51 (.goto 7) 3 none 29,
  i_0 54 (.iload_n 2) 1 none,
  i_j 55 (.ifCond .eq 5) 3 none 31,
  i_v 58 (.iconst (-1)) 1 none (-1) [],
  i_0 59 (.ireturn) 1 none,
  i_0 60 (.aload_n 0) 1 none,
  i_f 61 (.getfield 16) 3 none 8 1 [329] 1,
  i_0 64 (.aload_n 0) 1 none,
  i_f 65 (.getfield 10) 3 none 8 0 [328] 1,
  i_m 68 (.invokevirtual 182) 3 none 1 7 [595, 596, 597, 109, 598] 0 sX7_copy,
  i_v 71 (.iconst 0) 1 none 0 [],
  i_0 72 (.istore 5) 2 none,
  i_v 74 (.iconst 0) 1 none 0 [],
  i_0 75 (.istore 6) 2 none,
  i_v 77 (.iconst 0) 1 none 0 [],
  i_0 78 (.istore 7) 2 none,
  i_0 80 (.iload 7) 2 (some [true, true, true, true, false, true, true, true]),
  i_0 82 (.iload_n 1) 1 none,
  i_j 83 (.if_icmp .ge 44) 3 none 64,
  i_0 86 (.aload_n 0) 1 none,
  i_f 87 (.getfield 22) 3 none 8 2 [330] 1,
  i_0 90 (.aload_n 0) 1 none,
  i_f 91 (.getfield 16) 3 none 8 1 [329] 1,
  i_m 94 (.invokevirtual 229) 3 none 1 4 [659, 660, 661, 110, 662] 0 sX4_endYear,
  i_0 97 (.iload 5) 2 none,
  i_0 99 (.aload_n 0) 1 none,
  i_f 100 (.getfield 22) 3 none 8 2 [330] 1,
  i_f 103 (.getfield 169) 3 none 4 9 [185] 0,
  i_0 106 (.iadd) 1 none,
  i_0 107 (.istore 5) 2 none,
  i_0 109 (.iload 6) 2 none,
  i_0 111 (.aload_n 0) 1 none,
  i_f 112 (.getfield 22) 3 none 8 2 [330] 1,
  i_f 115 (.getfield 232) 3 none 4 10 [187] 0,
  i_0 118 (.iadd) 1 none,
  i_0 119 (.istore 6) 2 none,
  i_v 121 (.iinc 7 1) 3 none 1 [],
  i_j 124 (.goto (-44)) 3 none 42,
  i_0 127 (.iload_n 3) 1 none,
  i_s 128 (.tableswitch 58 0 3 #[32, 42, 52, 55]) 32 none 82 [(0, 66), (1, 72), (2, 78), (3, 80)],
  i_0 160 (.aload_n 0) 1 none,
  i_f 161 (.getfield 16) 3 none 8 1 [329] 1,
  i_0 164 (.iload_n 2) 1 none,
  i_v 165 (.iconst 1) 1 none 1 [],
  i_m 166 (.invokevirtual 188) 3 none 2 7 [605, 509, 510, 109, 511] 0 sX7_get,
  i_0 169 (.ireturn) 1 none,
  i_0 170 (.aload_n 0) 1 none,
  i_f 171 (.getfield 16) 3 none 8 1 [329] 1,
  i_0 174 (.iload_n 2) 1 none,
  i_v 175 (.iconst 2) 1 none 2 [],
  i_m 176 (.invokevirtual 188) 3 none 2 7 [605, 509, 510, 109, 511] 0 sX7_get,
  i_0 179 (.ireturn) 1 none,
  i_0 180 (.iload 5) 2 none,
  i_0 182 (.ireturn) 1 none,
  i_0 183 (.iload 6) 2 none,
  i_0 185 (.ireturn) 1 none,
  i_0 186 (.aload_n 0) 1 none,
  i_f 187 (.getfield 16) 3 none 8 1 [329] 1,
  i_m 190 (.invokevirtual 235) 3 none 0 7 [665, 523, 524, 109, 525] 0 sX7_snow,
  i_0 193 (.aload_n 0) 1 none,
  i_f 194 (.getfield 16) 3 none 8 1 [329] 1,
  i_v 197 (.iconst 0) 1 none 0 [],
  i_v 198 (.bipush 9) 2 none 9 [],
  i_m 200 (.invokevirtual 188) 3 none 2 7 [605, 509, 510, 109, 511] 0 sX7_get,
  i_0 203 (.imul) 1 none,
  i_0 204 (.ireturn) 1 none]
set_option maxRecDepth 100000 in
theorem oX8_later : xm_ok sX8_later sX8_later.1.cls kX8_later = true := by decide +kernel
set_option maxRecDepth 100000 in
set_option maxHeartbeats 4000000 in
theorem xX8_later_0 {K : Nat} {h : xm_H} {P : Option Value → xm_H → Prop} {a0 : Nat} {x1 : Int32} {x2 : Int32} {x3 : Int32} (H :
    (if x3 = 0 then
      (if x1 < 0 then
        P (some (.int (-1 : Int32))) h
      else
        (if (60 : Int32) < x1 then
          P (some (.int (-1 : Int32))) h
        else
          (if x3 < 0 then
            P (some (.int (-1 : Int32))) h
          else
            (if (4 : Int32) < x3 then
              P (some (.int (-1 : Int32))) h
            else
              ∃ q1, xm_fld h a0 8 0 = some (.ref q1) ∧ /- now -/
              xm_Call K sX7_has 7 [.ref q1, .int x2] h (xm_pi fun c3 h2 =>
                (if c3 = 0 then
                  P (some (.int (-1 : Int32))) h2
                else
                  ∃ q4, xm_fld h2 a0 8 1 = some (.ref q4) ∧ /- thought -/
                  ∃ q5, xm_fld h2 a0 8 0 = some (.ref q5) ∧ /- now -/
                  xm_Call K sX7_copy 7 [.ref q4, .ref q5] h2 (xm_pv fun h6 =>
                    xm_L K sX8_later kX8_later 42 [some (.ref a0), some (.int x1), some (.int x2), some (.int x3), none, some (.int (0 : Int32)), some (.int (0 : Int32)), some (.int (0 : Int32))] [] h6 P)))))))
    else
      (if x3 = (1 : Int32) then
        (if x1 < 0 then
          P (some (.int (-1 : Int32))) h
        else
          (if (60 : Int32) < x1 then
            P (some (.int (-1 : Int32))) h
          else
            (if x3 < 0 then
              P (some (.int (-1 : Int32))) h
            else
              (if (4 : Int32) < x3 then
                P (some (.int (-1 : Int32))) h
              else
                ∃ q7, xm_fld h a0 8 0 = some (.ref q7) ∧ /- now -/
                xm_Call K sX7_has 7 [.ref q7, .int x2] h (xm_pi fun c9 h8 =>
                  (if c9 = 0 then
                    P (some (.int (-1 : Int32))) h8
                  else
                    ∃ q10, xm_fld h8 a0 8 1 = some (.ref q10) ∧ /- thought -/
                    ∃ q11, xm_fld h8 a0 8 0 = some (.ref q11) ∧ /- now -/
                    xm_Call K sX7_copy 7 [.ref q10, .ref q11] h8 (xm_pv fun h12 =>
                      xm_L K sX8_later kX8_later 42 [some (.ref a0), some (.int x1), some (.int x2), some (.int x3), none, some (.int (0 : Int32)), some (.int (0 : Int32)), some (.int (0 : Int32))] [] h12 P)))))))
      else
        (if x1 < 0 then
          P (some (.int (-1 : Int32))) h
        else
          (if (60 : Int32) < x1 then
            P (some (.int (-1 : Int32))) h
          else
            (if x3 < 0 then
              P (some (.int (-1 : Int32))) h
            else
              (if (4 : Int32) < x3 then
                P (some (.int (-1 : Int32))) h
              else
                (if x2 = 0 then
                  ∃ q13, xm_fld h a0 8 1 = some (.ref q13) ∧ /- thought -/
                  ∃ q14, xm_fld h a0 8 0 = some (.ref q14) ∧ /- now -/
                  xm_Call K sX7_copy 7 [.ref q13, .ref q14] h (xm_pv fun h15 =>
                    xm_L K sX8_later kX8_later 42 [some (.ref a0), some (.int x1), some (.int x2), some (.int x3), none, some (.int (0 : Int32)), some (.int (0 : Int32)), some (.int (0 : Int32))] [] h15 P)
                else
                  P (some (.int (-1 : Int32))) h)))))))) :
    xm_L K sX8_later kX8_later 0 [some (.ref a0), some (.int x1), some (.int x2), some (.int x3), none, none, none, none] [] h P :=
  xm_run (fun _ _ h => h) oX8_later 37 0 0 0 [some (.ref a0), some (.int x1), some (.int x2), some (.int x3), none, none, none, none] [] h H
set_option maxRecDepth 100000 in
theorem eX8_later {K K' : Nat} (hK : K < K') {h : xm_H} {P : Option Value → xm_H → Prop} {a0 : Nat} {x1 : Int32} {x2 : Int32} {x3 : Int32} (hr : ∃ fs, h[a0]? = some (.inr (8, fs))) (H :
    (if x3 = 0 then
      (if x1 < 0 then
        P (some (.int (-1 : Int32))) h
      else
        (if (60 : Int32) < x1 then
          P (some (.int (-1 : Int32))) h
        else
          (if x3 < 0 then
            P (some (.int (-1 : Int32))) h
          else
            (if (4 : Int32) < x3 then
              P (some (.int (-1 : Int32))) h
            else
              ∃ q1, xm_fld h a0 8 0 = some (.ref q1) ∧ /- now -/
              xm_Call K sX7_has 7 [.ref q1, .int x2] h (xm_pi fun c3 h2 =>
                (if c3 = 0 then
                  P (some (.int (-1 : Int32))) h2
                else
                  ∃ q4, xm_fld h2 a0 8 1 = some (.ref q4) ∧ /- thought -/
                  ∃ q5, xm_fld h2 a0 8 0 = some (.ref q5) ∧ /- now -/
                  xm_Call K sX7_copy 7 [.ref q4, .ref q5] h2 (xm_pv fun h6 =>
                    xm_L K sX8_later kX8_later 42 [some (.ref a0), some (.int x1), some (.int x2), some (.int x3), none, some (.int (0 : Int32)), some (.int (0 : Int32)), some (.int (0 : Int32))] [] h6 P)))))))
    else
      (if x3 = (1 : Int32) then
        (if x1 < 0 then
          P (some (.int (-1 : Int32))) h
        else
          (if (60 : Int32) < x1 then
            P (some (.int (-1 : Int32))) h
          else
            (if x3 < 0 then
              P (some (.int (-1 : Int32))) h
            else
              (if (4 : Int32) < x3 then
                P (some (.int (-1 : Int32))) h
              else
                ∃ q7, xm_fld h a0 8 0 = some (.ref q7) ∧ /- now -/
                xm_Call K sX7_has 7 [.ref q7, .int x2] h (xm_pi fun c9 h8 =>
                  (if c9 = 0 then
                    P (some (.int (-1 : Int32))) h8
                  else
                    ∃ q10, xm_fld h8 a0 8 1 = some (.ref q10) ∧ /- thought -/
                    ∃ q11, xm_fld h8 a0 8 0 = some (.ref q11) ∧ /- now -/
                    xm_Call K sX7_copy 7 [.ref q10, .ref q11] h8 (xm_pv fun h12 =>
                      xm_L K sX8_later kX8_later 42 [some (.ref a0), some (.int x1), some (.int x2), some (.int x3), none, some (.int (0 : Int32)), some (.int (0 : Int32)), some (.int (0 : Int32))] [] h12 P)))))))
      else
        (if x1 < 0 then
          P (some (.int (-1 : Int32))) h
        else
          (if (60 : Int32) < x1 then
            P (some (.int (-1 : Int32))) h
          else
            (if x3 < 0 then
              P (some (.int (-1 : Int32))) h
            else
              (if (4 : Int32) < x3 then
                P (some (.int (-1 : Int32))) h
              else
                (if x2 = 0 then
                  ∃ q13, xm_fld h a0 8 1 = some (.ref q13) ∧ /- thought -/
                  ∃ q14, xm_fld h a0 8 0 = some (.ref q14) ∧ /- now -/
                  xm_Call K sX7_copy 7 [.ref q13, .ref q14] h (xm_pv fun h15 =>
                    xm_L K sX8_later kX8_later 42 [some (.ref a0), some (.int x1), some (.int x2), some (.int x3), none, some (.int (0 : Int32)), some (.int (0 : Int32)), some (.int (0 : Int32))] [] h15 P)
                else
                  P (some (.int (-1 : Int32))) h)))))))) :
    xm_Call K' sX8_later 8 [.ref a0, .int x1, .int x2, .int x3] h P :=
  xm_call_of (C := kX8_later) hK (by decide +kernel) rfl (Nat.le_of_ble_eq_true rfl) (Or.inr ⟨a0, hr.choose, rfl, hr.choose_spec⟩) (xX8_later_0 H)

set_option maxRecDepth 100000 in
set_option maxHeartbeats 4000000 in
theorem xX8_later_42 {K : Nat} {h : xm_H} {P : Option Value → xm_H → Prop} {a0 : Nat} {x1 : Int32} {x2 : Int32} {x3 : Int32} {x5 : Int32} {x6 : Int32} {x7 : Int32} (H :
    (if x7 < x1 then
      ∃ q1, xm_fld h a0 8 2 = some (.ref q1) ∧ /- reckoner -/
      ∃ q2, xm_fld h a0 8 1 = some (.ref q2) ∧ /- thought -/
      xm_Call K sX4_endYear 4 [.ref q1, .ref q2] h (xm_pv fun h3 =>
        ∃ q4, xm_fld h3 a0 8 2 = some (.ref q4) ∧ /- reckoner -/
        ∃ f5, xm_fld h3 q4 4 9 = some (.int f5) ∧ /- paid -/
        ∃ q6, xm_fld h3 a0 8 2 = some (.ref q6) ∧ /- reckoner -/
        ∃ f7, xm_fld h3 q6 4 10 = some (.int f7) ∧ /- lacking -/
        xm_L K sX8_later kX8_later 42 [some (.ref a0), some (.int x1), some (.int x2), some (.int x3), none, some (.int (x5 + f5)), some (.int (x6 + f7)), some (.int (x7 + (1 : Int32)))] [] h3 P)
    else
      (if x3 = 0 then
        ∃ q8, xm_fld h a0 8 1 = some (.ref q8) ∧ /- thought -/
        xm_Call K sX7_get 7 [.ref q8, .int x2, .int (1 : Int32)] h (xm_pi fun c10 h9 =>
          P (some (.int c10)) h9)
      else
      (if x3 = 1 then
        ∃ q11, xm_fld h a0 8 1 = some (.ref q11) ∧ /- thought -/
        xm_Call K sX7_get 7 [.ref q11, .int x2, .int (2 : Int32)] h (xm_pi fun c13 h12 =>
          P (some (.int c13)) h12)
      else
      (if x3 = 2 then
        P (some (.int x5)) h
      else
      (if x3 = 3 then
        P (some (.int x6)) h
      else
      ∃ q14, xm_fld h a0 8 1 = some (.ref q14) ∧ /- thought -/
      xm_Call K sX7_snow 7 [.ref q14] h (xm_pi fun c16 h15 =>
        ∃ q17, xm_fld h15 a0 8 1 = some (.ref q17) ∧ /- thought -/
        xm_Call K sX7_get 7 [.ref q17, .int (0 : Int32), .int (9 : Int32)] h15 (xm_pi fun c19 h18 =>
          P (some (.int (c16 * c19))) h18)))))))) :
    xm_L K sX8_later kX8_later 42 [some (.ref a0), some (.int x1), some (.int x2), some (.int x3), none, some (.int x5), some (.int x6), some (.int x7)] [] h P :=
  xm_run (fun _ _ h => h) oX8_later 23 42 0 0 [some (.ref a0), some (.int x1), some (.int x2), some (.int x3), none, some (.int x5), some (.int x6), some (.int x7)] [] h H

def kX8_broke : List xm_I := [
  i_0 0 (.aload_n 0) 1 none,
  i_f 1 (.getfield 10) 3 none 8 0 [328] 1,
  i_0 4 (.iload_n 1) 1 none,
  i_m 5 (.invokevirtual 152) 3 none 1 7 [500, 501, 502, 109, 503] 0 sX7_has,
  i_j 8 (.ifCond .ne 5) 3 none 7,
  i_v 11 (.iconst (-1)) 1 none (-1) [],
  i_0 12 (.ireturn) 1 none,
  i_0 13 (.aload_n 0) 1 none,
  i_f 14 (.getfield 16) 3 none 8 1 [329] 1,
  i_0 17 (.aload_n 0) 1 none,
  i_f 18 (.getfield 10) 3 none 8 0 [328] 1,
  i_m 21 (.invokevirtual 182) 3 none 1 7 [595, 596, 597, 109, 598] 0 sX7_copy,
  i_v 24 (.iconst 0) 1 none 0 [],
  i_0 25 (.istore_n 2) 1 none,
  i_0 26 (.iload_n 2) 1 (some [true, true, true]),
  i_v 27 (.bipush 60) 2 none 60 [],
  i_j 29 (.if_icmp .gt 34) 3 none 32,
  i_0 32 (.aload_n 0) 1 none,
  i_f 33 (.getfield 16) 3 none 8 1 [329] 1,
  i_0 36 (.iload_n 1) 1 none,
  i_v 37 (.iconst 1) 1 none 1 [],
  i_m 38 (.invokevirtual 188) 3 none 2 7 [605, 509, 510, 109, 511] 0 sX7_get,
  i_j 41 (.ifCond .ne 5) 3 none 25,
  i_0 44 (.iload_n 2) 1 none,
  i_0 45 (.ireturn) 1 none,
  i_0 46 (.aload_n 0) 1 none,
  i_f 47 (.getfield 22) 3 none 8 2 [330] 1,
  i_0 50 (.aload_n 0) 1 none,
  i_f 51 (.getfield 16) 3 none 8 1 [329] 1,
  i_m 54 (.invokevirtual 229) 3 none 1 4 [659, 660, 661, 110, 662] 0 sX4_endYear,
  i_v 57 (.iinc 2 1) 3 none 1 [],
  i_j 60 (.goto (-34)) 3 none 14,
  i_v 63 (.bipush (-2)) 2 none (-2) [],
  i_0 65 (.ireturn) 1 none]
set_option maxRecDepth 100000 in
theorem oX8_broke : xm_ok sX8_broke sX8_broke.1.cls kX8_broke = true := by decide +kernel
set_option maxRecDepth 100000 in
set_option maxHeartbeats 4000000 in
theorem xX8_broke_0 {K : Nat} {h : xm_H} {P : Option Value → xm_H → Prop} {a0 : Nat} {x1 : Int32} (H :
    ∃ q1, xm_fld h a0 8 0 = some (.ref q1) ∧ /- now -/
    xm_Call K sX7_has 7 [.ref q1, .int x1] h (xm_pi fun c3 h2 =>
      (if c3 = 0 then
        P (some (.int (-1 : Int32))) h2
      else
        ∃ q4, xm_fld h2 a0 8 1 = some (.ref q4) ∧ /- thought -/
        ∃ q5, xm_fld h2 a0 8 0 = some (.ref q5) ∧ /- now -/
        xm_Call K sX7_copy 7 [.ref q4, .ref q5] h2 (xm_pv fun h6 =>
          xm_L K sX8_broke kX8_broke 14 [some (.ref a0), some (.int x1), some (.int (0 : Int32))] [] h6 P)))) :
    xm_L K sX8_broke kX8_broke 0 [some (.ref a0), some (.int x1), none] [] h P :=
  xm_run (fun _ _ h => h) oX8_broke 13 0 0 0 [some (.ref a0), some (.int x1), none] [] h H
set_option maxRecDepth 100000 in
theorem eX8_broke {K K' : Nat} (hK : K < K') {h : xm_H} {P : Option Value → xm_H → Prop} {a0 : Nat} {x1 : Int32} (hr : ∃ fs, h[a0]? = some (.inr (8, fs))) (H :
    ∃ q1, xm_fld h a0 8 0 = some (.ref q1) ∧ /- now -/
    xm_Call K sX7_has 7 [.ref q1, .int x1] h (xm_pi fun c3 h2 =>
      (if c3 = 0 then
        P (some (.int (-1 : Int32))) h2
      else
        ∃ q4, xm_fld h2 a0 8 1 = some (.ref q4) ∧ /- thought -/
        ∃ q5, xm_fld h2 a0 8 0 = some (.ref q5) ∧ /- now -/
        xm_Call K sX7_copy 7 [.ref q4, .ref q5] h2 (xm_pv fun h6 =>
          xm_L K sX8_broke kX8_broke 14 [some (.ref a0), some (.int x1), some (.int (0 : Int32))] [] h6 P)))) :
    xm_Call K' sX8_broke 8 [.ref a0, .int x1] h P :=
  xm_call_of (C := kX8_broke) hK (by decide +kernel) rfl (Nat.le_of_ble_eq_true rfl) (Or.inr ⟨a0, hr.choose, rfl, hr.choose_spec⟩) (xX8_broke_0 H)

set_option maxRecDepth 100000 in
set_option maxHeartbeats 4000000 in
theorem xX8_broke_14 {K : Nat} {h : xm_H} {P : Option Value → xm_H → Prop} {a0 : Nat} {x1 : Int32} {x2 : Int32} (H :
    (if (60 : Int32) < x2 then
      P (some (.int (-2 : Int32))) h
    else
      ∃ q1, xm_fld h a0 8 1 = some (.ref q1) ∧ /- thought -/
      xm_Call K sX7_get 7 [.ref q1, .int x1, .int (1 : Int32)] h (xm_pi fun c3 h2 =>
        (if c3 = 0 then
          P (some (.int x2)) h2
        else
          ∃ q4, xm_fld h2 a0 8 2 = some (.ref q4) ∧ /- reckoner -/
          ∃ q5, xm_fld h2 a0 8 1 = some (.ref q5) ∧ /- thought -/
          xm_Call K sX4_endYear 4 [.ref q4, .ref q5] h2 (xm_pv fun h6 =>
            xm_L K sX8_broke kX8_broke 14 [some (.ref a0), some (.int x1), some (.int (x2 + (1 : Int32)))] [] h6 P))))) :
    xm_L K sX8_broke kX8_broke 14 [some (.ref a0), some (.int x1), some (.int x2)] [] h P :=
  xm_run (fun _ _ h => h) oX8_broke 17 14 0 0 [some (.ref a0), some (.int x1), some (.int x2)] [] h H

def kX8_thrift : List xm_I := [
  i_0 0 (.aload_n 0) 1 none,
  i_f 1 (.getfield 10) 3 none 8 0 [328] 1,
  i_0 4 (.iload_n 1) 1 none,
  i_m 5 (.invokevirtual 152) 3 none 1 7 [500, 501, 502, 109, 503] 0 sX7_has,
  i_j 8 (.ifCond .eq 22) 3 none 15,
  i_0 11 (.iload_n 2) 1 none,
  i_j 12 (.ifCond .lt 18) 3 none 15,
  i_0 15 (.iload_n 2) 1 none,
  i_v 16 (.bipush 40) 2 none 40 [],
  i_j 18 (.if_icmp .gt 12) 3 none 15,
  i_0 21 (.iload_n 3) 1 none,
  i_j 22 (.ifCond .eq 10) 3 none 17,
  i_0 25 (.iload_n 3) 1 none,
  i_v 26 (.iconst 1) 1 none 1 [],
  i_j 27 (.if_icmp .eq 5) 3 none 17,
  i_v 30 (.iconst (-1)) 1 none (-1) [],
  i_0 31 (.ireturn) 1 none,
  i_v 32 (.iconst 0) 1 none 0 [],
  i_0 33 (.istore 4) 2 none,
  i_0 35 (.aload_n 0) 1 none,
  i_0 36 (.iload_n 1) 1 none,
  i_v 37 (.iconst 0) 1 none 0 [],
  i_0 38 (.iload_n 2) 1 none,
  i_m 39 (.invokevirtual 239) 3 none 3 8 [674, 676, 16, 108, 677] 0 sX8_purseBy,
  i_0 42 (.istore 5) 2 none,
  i_v 44 (.iconst 1) 1 none 1 [],
  i_0 45 (.istore 6) 2 none,
  i_0 47 (.iload 6) 2 (some [true, true, true, true, true, true, true, false]),
  i_v 49 (.iconst 4) 1 none 4 [],
  i_j 50 (.if_icmp .ge 34) 3 none 45,
  i_0 53 (.aload_n 0) 1 none,
  i_0 54 (.iload_n 1) 1 none,
  i_0 55 (.iload 6) 2 none,
  i_0 57 (.iload_n 2) 1 none,
  i_m 58 (.invokevirtual 239) 3 none 3 8 [674, 676, 16, 108, 677] 0 sX8_purseBy,
  i_0 61 (.istore 7) 2 none,
  i_0 63 (.iload 7) 2 none,
  i_0 65 (.iload 5) 2 none,
  i_j 67 (.if_icmp .le 11) 3 none 43,
  i_0 70 (.iload 6) 2 none,
  i_0 72 (.istore 4) 2 none,
  i_0 74 (.iload 7) 2 none,
  i_0 76 (.istore 5) 2 none,
  i_v 78 (.iinc 6 1) 3 none 1 [],
  i_j 81 (.goto (-34)) 3 none 27,
  i_0 84 (.iload_n 3) 1 none,
  i_j 85 (.ifCond .ne 8) 3 none 49,
  i_0 88 (.iload 4) 2 none,
  i_j 90 (.goto 5) 3 none 50,
  i_0 93 (.iload 5) 2 none,
  i_0 95 (.ireturn) 1 none]
set_option maxRecDepth 100000 in
theorem oX8_thrift : xm_ok sX8_thrift sX8_thrift.1.cls kX8_thrift = true := by decide +kernel
set_option maxRecDepth 100000 in
set_option maxHeartbeats 4000000 in
theorem xX8_thrift_0 {K : Nat} {h : xm_H} {P : Option Value → xm_H → Prop} {a0 : Nat} {x1 : Int32} {x2 : Int32} {x3 : Int32} (H :
    ∃ q1, xm_fld h a0 8 0 = some (.ref q1) ∧ /- now -/
    xm_Call K sX7_has 7 [.ref q1, .int x1] h (xm_pi fun c3 h2 =>
      (if c3 = 0 then
        P (some (.int (-1 : Int32))) h2
      else
        (if x2 < 0 then
          P (some (.int (-1 : Int32))) h2
        else
          (if (40 : Int32) < x2 then
            P (some (.int (-1 : Int32))) h2
          else
            (if x3 = 0 then
              xm_Call K sX8_purseBy 8 [.ref a0, .int x1, .int (0 : Int32), .int x2] h2 (xm_pi fun c5 h4 =>
                xm_L K sX8_thrift kX8_thrift 27 [some (.ref a0), some (.int x1), some (.int x2), some (.int x3), some (.int (0 : Int32)), some (.int c5), some (.int (1 : Int32)), none] [] h4 P)
            else
              (if x3 = (1 : Int32) then
                xm_Call K sX8_purseBy 8 [.ref a0, .int x1, .int (0 : Int32), .int x2] h2 (xm_pi fun c7 h6 =>
                  xm_L K sX8_thrift kX8_thrift 27 [some (.ref a0), some (.int x1), some (.int x2), some (.int x3), some (.int (0 : Int32)), some (.int c7), some (.int (1 : Int32)), none] [] h6 P)
              else
                P (some (.int (-1 : Int32))) h2))))))) :
    xm_L K sX8_thrift kX8_thrift 0 [some (.ref a0), some (.int x1), some (.int x2), some (.int x3), none, none, none, none] [] h P :=
  xm_run (fun _ _ h => h) oX8_thrift 26 0 0 0 [some (.ref a0), some (.int x1), some (.int x2), some (.int x3), none, none, none, none] [] h H
set_option maxRecDepth 100000 in
theorem eX8_thrift {K K' : Nat} (hK : K < K') {h : xm_H} {P : Option Value → xm_H → Prop} {a0 : Nat} {x1 : Int32} {x2 : Int32} {x3 : Int32} (hr : ∃ fs, h[a0]? = some (.inr (8, fs))) (H :
    ∃ q1, xm_fld h a0 8 0 = some (.ref q1) ∧ /- now -/
    xm_Call K sX7_has 7 [.ref q1, .int x1] h (xm_pi fun c3 h2 =>
      (if c3 = 0 then
        P (some (.int (-1 : Int32))) h2
      else
        (if x2 < 0 then
          P (some (.int (-1 : Int32))) h2
        else
          (if (40 : Int32) < x2 then
            P (some (.int (-1 : Int32))) h2
          else
            (if x3 = 0 then
              xm_Call K sX8_purseBy 8 [.ref a0, .int x1, .int (0 : Int32), .int x2] h2 (xm_pi fun c5 h4 =>
                xm_L K sX8_thrift kX8_thrift 27 [some (.ref a0), some (.int x1), some (.int x2), some (.int x3), some (.int (0 : Int32)), some (.int c5), some (.int (1 : Int32)), none] [] h4 P)
            else
              (if x3 = (1 : Int32) then
                xm_Call K sX8_purseBy 8 [.ref a0, .int x1, .int (0 : Int32), .int x2] h2 (xm_pi fun c7 h6 =>
                  xm_L K sX8_thrift kX8_thrift 27 [some (.ref a0), some (.int x1), some (.int x2), some (.int x3), some (.int (0 : Int32)), some (.int c7), some (.int (1 : Int32)), none] [] h6 P)
              else
                P (some (.int (-1 : Int32))) h2))))))) :
    xm_Call K' sX8_thrift 8 [.ref a0, .int x1, .int x2, .int x3] h P :=
  xm_call_of (C := kX8_thrift) hK (by decide +kernel) rfl (Nat.le_of_ble_eq_true rfl) (Or.inr ⟨a0, hr.choose, rfl, hr.choose_spec⟩) (xX8_thrift_0 H)

set_option maxRecDepth 100000 in
set_option maxHeartbeats 4000000 in
theorem xX8_thrift_27 {K : Nat} {h : xm_H} {P : Option Value → xm_H → Prop} {a0 : Nat} {x1 : Int32} {x2 : Int32} {x3 : Int32} {x4 : Int32} {x5 : Int32} {x6 : Int32} (H :
    (if x6 < (4 : Int32) then
      xm_Call K sX8_purseBy 8 [.ref a0, .int x1, .int x6, .int x2] h (xm_pi fun c2 h1 =>
        (if x5 < c2 then
          xm_L K sX8_thrift kX8_thrift 27 [some (.ref a0), some (.int x1), some (.int x2), some (.int x3), some (.int x6), some (.int c2), some (.int (x6 + (1 : Int32))), none] [] h1 P
        else
          xm_L K sX8_thrift kX8_thrift 27 [some (.ref a0), some (.int x1), some (.int x2), some (.int x3), some (.int x4), some (.int x5), some (.int (x6 + (1 : Int32))), none] [] h1 P))
    else
      (if x3 = 0 then
        P (some (.int x4)) h
      else
        P (some (.int x5)) h))) :
    xm_L K sX8_thrift kX8_thrift 27 [some (.ref a0), some (.int x1), some (.int x2), some (.int x3), some (.int x4), some (.int x5), some (.int x6), none] [] h P :=
  xm_run (fun _ _ h => h) oX8_thrift 19 27 0 0 [some (.ref a0), some (.int x1), some (.int x2), some (.int x3), some (.int x4), some (.int x5), some (.int x6), none] [] h H

def kX8_purseBy : List xm_I := [
  i_0 0 (.aload_n 0) 1 none,
  i_f 1 (.getfield 16) 3 none 8 1 [329] 1,
  i_0 4 (.aload_n 0) 1 none,
  i_f 5 (.getfield 10) 3 none 8 0 [328] 1,
  i_m 8 (.invokevirtual 182) 3 none 1 7 [595, 596, 597, 109, 598] 0 sX7_copy,
  i_0 11 (.aload_n 0) 1 none,
  i_f 12 (.getfield 16) 3 none 8 1 [329] 1,
  i_0 15 (.iload_n 1) 1 none,
  i_v 16 (.iconst 3) 1 none 3 [],
  i_0 17 (.iload_n 2) 1 none,
  i_m 18 (.invokevirtual 185) 3 none 3 7 [600, 385, 386, 109, 387] 0 sX7_set,
  i_v 21 (.iconst 0) 1 none 0 [],
  i_0 22 (.istore 4) 2 none,
  i_0 24 (.iload 4) 2 (some [true, true, false, true, true]),
  i_0 26 (.iload_n 3) 1 none,
  i_j 27 (.if_icmp .ge 20) 3 none 23,
  i_0 30 (.aload_n 0) 1 none,
  i_f 31 (.getfield 22) 3 none 8 2 [330] 1,
  i_0 34 (.aload_n 0) 1 none,
  i_f 35 (.getfield 16) 3 none 8 1 [329] 1,
  i_m 38 (.invokevirtual 229) 3 none 1 4 [659, 660, 661, 110, 662] 0 sX4_endYear,
  i_v 41 (.iinc 4 1) 3 none 1 [],
  i_j 44 (.goto (-20)) 3 none 13,
  i_0 47 (.aload_n 0) 1 none,
  i_f 48 (.getfield 16) 3 none 8 1 [329] 1,
  i_0 51 (.iload_n 1) 1 none,
  i_v 52 (.iconst 1) 1 none 1 [],
  i_m 53 (.invokevirtual 188) 3 none 2 7 [605, 509, 510, 109, 511] 0 sX7_get,
  i_0 56 (.ireturn) 1 none]
set_option maxRecDepth 100000 in
theorem oX8_purseBy : xm_ok sX8_purseBy sX8_purseBy.1.cls kX8_purseBy = true := by decide +kernel
set_option maxRecDepth 100000 in
set_option maxHeartbeats 4000000 in
theorem xX8_purseBy_0 {K : Nat} {h : xm_H} {P : Option Value → xm_H → Prop} {a0 : Nat} {x1 : Int32} {x2 : Int32} {x3 : Int32} (H :
    ∃ q1, xm_fld h a0 8 1 = some (.ref q1) ∧ /- thought -/
    ∃ q2, xm_fld h a0 8 0 = some (.ref q2) ∧ /- now -/
    xm_Call K sX7_copy 7 [.ref q1, .ref q2] h (xm_pv fun h3 =>
      ∃ q4, xm_fld h3 a0 8 1 = some (.ref q4) ∧ /- thought -/
      xm_Call K sX7_set 7 [.ref q4, .int x1, .int (3 : Int32), .int x2] h3 (xm_pv fun h5 =>
        xm_L K sX8_purseBy kX8_purseBy 13 [some (.ref a0), some (.int x1), none, some (.int x3), some (.int (0 : Int32))] [] h5 P))) :
    xm_L K sX8_purseBy kX8_purseBy 0 [some (.ref a0), some (.int x1), some (.int x2), some (.int x3), none] [] h P :=
  xm_run (fun _ _ h => h) oX8_purseBy 14 0 0 0 [some (.ref a0), some (.int x1), some (.int x2), some (.int x3), none] [] h H
set_option maxRecDepth 100000 in
theorem eX8_purseBy {K K' : Nat} (hK : K < K') {h : xm_H} {P : Option Value → xm_H → Prop} {a0 : Nat} {x1 : Int32} {x2 : Int32} {x3 : Int32} (hr : ∃ fs, h[a0]? = some (.inr (8, fs))) (H :
    ∃ q1, xm_fld h a0 8 1 = some (.ref q1) ∧ /- thought -/
    ∃ q2, xm_fld h a0 8 0 = some (.ref q2) ∧ /- now -/
    xm_Call K sX7_copy 7 [.ref q1, .ref q2] h (xm_pv fun h3 =>
      ∃ q4, xm_fld h3 a0 8 1 = some (.ref q4) ∧ /- thought -/
      xm_Call K sX7_set 7 [.ref q4, .int x1, .int (3 : Int32), .int x2] h3 (xm_pv fun h5 =>
        xm_L K sX8_purseBy kX8_purseBy 13 [some (.ref a0), some (.int x1), none, some (.int x3), some (.int (0 : Int32))] [] h5 P))) :
    xm_Call K' sX8_purseBy 8 [.ref a0, .int x1, .int x2, .int x3] h P :=
  xm_call_of (C := kX8_purseBy) hK (by decide +kernel) rfl (Nat.le_of_ble_eq_true rfl) (Or.inr ⟨a0, hr.choose, rfl, hr.choose_spec⟩) (xX8_purseBy_0 H)

set_option maxRecDepth 100000 in
set_option maxHeartbeats 4000000 in
theorem xX8_purseBy_13 {K : Nat} {h : xm_H} {P : Option Value → xm_H → Prop} {a0 : Nat} {x1 : Int32} {x3 : Int32} {x4 : Int32} (H :
    (if x4 < x3 then
      ∃ q1, xm_fld h a0 8 2 = some (.ref q1) ∧ /- reckoner -/
      ∃ q2, xm_fld h a0 8 1 = some (.ref q2) ∧ /- thought -/
      xm_Call K sX4_endYear 4 [.ref q1, .ref q2] h (xm_pv fun h3 =>
        xm_L K sX8_purseBy kX8_purseBy 13 [some (.ref a0), some (.int x1), none, some (.int x3), some (.int (x4 + (1 : Int32)))] [] h3 P)
    else
      ∃ q4, xm_fld h a0 8 1 = some (.ref q4) ∧ /- thought -/
      xm_Call K sX7_get 7 [.ref q4, .int x1, .int (1 : Int32)] h (xm_pi fun c6 h5 =>
        P (some (.int c6)) h5))) :
    xm_L K sX8_purseBy kX8_purseBy 13 [some (.ref a0), some (.int x1), none, some (.int x3), some (.int x4)] [] h P :=
  xm_run (fun _ _ h => h) oX8_purseBy 11 13 0 0 [some (.ref a0), some (.int x1), none, some (.int x3), some (.int x4)] [] h H

def kX8_judge : List xm_I := [
  i_0 0 (.aload_n 0) 1 none,
  i_0 1 (.iload_n 1) 1 none,
  i_m 2 (.invokevirtual 243) 3 none 1 8 [682, 684, 17, 108, 685] 0 sX8_readBilled,
  i_0 5 (.istore_n 2) 1 none,
  i_0 6 (.iload_n 2) 1 none,
  i_j 7 (.ifCond .eq 5) 3 none 8,
  i_0 10 (.iload_n 2) 1 none,
  i_0 11 (.ireturn) 1 none,
  i_0 12 (.aload_n 0) 1 none,
  i_f 13 (.getfield 22) 3 none 8 2 [330] 1,
  i_0 16 (.aload_n 0) 1 none,
  i_f 17 (.getfield 10) 3 none 8 0 [328] 1,
  i_m 20 (.invokevirtual 163) 3 none 1 4 [546, 547, 548, 110, 549] 0 sX4_reckon,
  i_0 23 (.aload_n 0) 1 none,
  i_f 24 (.getfield 60) 3 none 8 10 [338] 1,
  i_0 27 (.aload_n 0) 1 none,
  i_f 28 (.getfield 22) 3 none 8 2 [330] 1,
  i_f 31 (.getfield 172) 3 none 4 4 [177] 1,
  i_m 34 (.invokevirtual 246) 3 none 1 0 [691, 692, 693, 114, 694] 0 sX0_firstWrong,
  i_0 37 (.istore_n 3) 1 none,
  i_0 38 (.iload_n 3) 1 none,
  i_j 39 (.ifCond .ge 8) 3 none 24,
  i_v 42 (.bipush (-2)) 2 none (-2) [],
  i_j 44 (.goto 4) 3 none 25,
  i_0 47 (.iload_n 3) 1 none,
  i_0 48 (.ireturn) 1 none]
set_option maxRecDepth 100000 in
theorem oX8_judge : xm_ok sX8_judge sX8_judge.1.cls kX8_judge = true := by decide +kernel
set_option maxRecDepth 100000 in
set_option maxHeartbeats 4000000 in
theorem xX8_judge_0 {K : Nat} {h : xm_H} {P : Option Value → xm_H → Prop} {a0 : Nat} {x1 : Int32} (H :
    xm_Call K sX8_readBilled 8 [.ref a0, .int x1] h (xm_pi fun c2 h1 =>
      (if c2 = 0 then
        ∃ q3, xm_fld h1 a0 8 2 = some (.ref q3) ∧ /- reckoner -/
        ∃ q4, xm_fld h1 a0 8 0 = some (.ref q4) ∧ /- now -/
        xm_Call K sX4_reckon 4 [.ref q3, .ref q4] h1 (xm_pv fun h5 =>
          ∃ q6, xm_fld h5 a0 8 10 = some (.ref q6) ∧ /- billed -/
          ∃ q7, xm_fld h5 a0 8 2 = some (.ref q7) ∧ /- reckoner -/
          ∃ q8, xm_fld h5 q7 4 4 = some (.ref q8) ∧ /- shares -/
          xm_Call K sX0_firstWrong 0 [.ref q6, .ref q8] h5 (xm_pi fun c10 h9 =>
            (if c10 < 0 then
              P (some (.int (-2 : Int32))) h9
            else
              P (some (.int c10)) h9)))
      else
        P (some (.int c2)) h1))) :
    xm_L K sX8_judge kX8_judge 0 [some (.ref a0), some (.int x1), none, none] [] h P :=
  xm_run (fun _ _ h => h) oX8_judge 24 0 0 0 [some (.ref a0), some (.int x1), none, none] [] h H
set_option maxRecDepth 100000 in
theorem eX8_judge {K K' : Nat} (hK : K < K') {h : xm_H} {P : Option Value → xm_H → Prop} {a0 : Nat} {x1 : Int32} (hr : ∃ fs, h[a0]? = some (.inr (8, fs))) (H :
    xm_Call K sX8_readBilled 8 [.ref a0, .int x1] h (xm_pi fun c2 h1 =>
      (if c2 = 0 then
        ∃ q3, xm_fld h1 a0 8 2 = some (.ref q3) ∧ /- reckoner -/
        ∃ q4, xm_fld h1 a0 8 0 = some (.ref q4) ∧ /- now -/
        xm_Call K sX4_reckon 4 [.ref q3, .ref q4] h1 (xm_pv fun h5 =>
          ∃ q6, xm_fld h5 a0 8 10 = some (.ref q6) ∧ /- billed -/
          ∃ q7, xm_fld h5 a0 8 2 = some (.ref q7) ∧ /- reckoner -/
          ∃ q8, xm_fld h5 q7 4 4 = some (.ref q8) ∧ /- shares -/
          xm_Call K sX0_firstWrong 0 [.ref q6, .ref q8] h5 (xm_pi fun c10 h9 =>
            (if c10 < 0 then
              P (some (.int (-2 : Int32))) h9
            else
              P (some (.int c10)) h9)))
      else
        P (some (.int c2)) h1))) :
    xm_Call K' sX8_judge 8 [.ref a0, .int x1] h P :=
  xm_call_of (C := kX8_judge) hK (by decide +kernel) rfl (Nat.le_of_ble_eq_true rfl) (Or.inr ⟨a0, hr.choose, rfl, hr.choose_spec⟩) (xX8_judge_0 H)

def kX8_readBilled : List xm_I := [
  i_0 0 (.aload_n 0) 1 none,
  i_0 1 (.iload_n 1) 1 none,
  i_m 2 (.invokevirtual 93) 3 none 1 8 [396, 398, 0, 108, 399] 0 sX8_shelfAt,
  i_0 5 (.astore_n 2) 1 none,
  i_0 6 (.aload_n 2) 1 none,
  i_j 7 (.ifnonnull 5) 3 none 8,
  i_v 10 (.iconst (-1)) 1 none (-1) [],
  i_0 11 (.ireturn) 1 none,
  i_0 12 (.aload_n 2) 1 none,
  i_f 13 (.getfield 97) 3 none 5 0 [311] 0,
  i_v 16 (.iconst (-1)) 1 none (-1) [],
  i_j 17 (.if_icmp .ne 6) 3 none 14,
  i_v 20 (.bipush (-11)) 2 none (-11) [],
  i_0 22 (.ireturn) 1 none,
  i_0 23 (.aload_n 2) 1 none,
  i_f 24 (.getfield 97) 3 none 5 0 [311] 0,
  i_v 27 (.iconst 1) 1 none 1 [],
  i_j 28 (.if_icmp .eq 6) 3 none 20,
  i_v 31 (.bipush (-12)) 2 none (-12) [],
  i_0 33 (.ireturn) 1 none,
  i_0 34 (.aload_n 0) 1 none,
  i_f 35 (.getfield 60) 3 none 8 10 [338] 1,
  i_0 38 (.aload_n 2) 1 none,
  i_0 39 (.aload_n 0) 1 none,
  i_f 40 (.getfield 10) 3 none 8 0 [328] 1,
  i_f 43 (.getfield 89) 3 none 7 1 [140] 0,
  i_m 46 (.invokevirtual 250) 3 none 2 0 [686, 687, 688, 114, 689] 0 sX0_readTwos,
  i_v 49 (.iconst 0) 1 none 0 [],
  i_0 50 (.ireturn) 1 none]
set_option maxRecDepth 100000 in
theorem oX8_readBilled : xm_ok sX8_readBilled sX8_readBilled.1.cls kX8_readBilled = true := by decide +kernel
set_option maxRecDepth 100000 in
set_option maxHeartbeats 4000000 in
theorem xX8_readBilled_0 {K : Nat} {h : xm_H} {P : Option Value → xm_H → Prop} {a0 : Nat} {x1 : Int32} (H :
    xm_Call K sX8_shelfAt 8 [.ref a0, .int x1] h (xm_pq (fun h1 =>
      P (some (.int (-1 : Int32))) h1) (fun q2 h1 =>
      ∃ f3, xm_fld h1 q2 5 0 = some (.int f3) ∧ /- sort -/
      (if f3 = (-1 : Int32) then
        P (some (.int (-11 : Int32))) h1
      else
        ∃ f4, xm_fld h1 q2 5 0 = some (.int f4) ∧ /- sort -/
        (if f4 = (1 : Int32) then
          ∃ q5, xm_fld h1 a0 8 10 = some (.ref q5) ∧ /- billed -/
          ∃ q6, xm_fld h1 a0 8 0 = some (.ref q6) ∧ /- now -/
          ∃ f7, xm_fld h1 q6 7 1 = some (.int f7) ∧ /- people -/
          xm_Call K sX0_readTwos 0 [.ref q5, .ref q2, .int f7] h1 (xm_pv fun h8 =>
            P (some (.int (0 : Int32))) h8)
        else
          P (some (.int (-12 : Int32))) h1))))) :
    xm_L K sX8_readBilled kX8_readBilled 0 [some (.ref a0), some (.int x1), none] [] h P :=
  xm_run (fun _ _ h => h) oX8_readBilled 24 0 0 0 [some (.ref a0), some (.int x1), none] [] h H
set_option maxRecDepth 100000 in
theorem eX8_readBilled {K K' : Nat} (hK : K < K') {h : xm_H} {P : Option Value → xm_H → Prop} {a0 : Nat} {x1 : Int32} (hr : ∃ fs, h[a0]? = some (.inr (8, fs))) (H :
    xm_Call K sX8_shelfAt 8 [.ref a0, .int x1] h (xm_pq (fun h1 =>
      P (some (.int (-1 : Int32))) h1) (fun q2 h1 =>
      ∃ f3, xm_fld h1 q2 5 0 = some (.int f3) ∧ /- sort -/
      (if f3 = (-1 : Int32) then
        P (some (.int (-11 : Int32))) h1
      else
        ∃ f4, xm_fld h1 q2 5 0 = some (.int f4) ∧ /- sort -/
        (if f4 = (1 : Int32) then
          ∃ q5, xm_fld h1 a0 8 10 = some (.ref q5) ∧ /- billed -/
          ∃ q6, xm_fld h1 a0 8 0 = some (.ref q6) ∧ /- now -/
          ∃ f7, xm_fld h1 q6 7 1 = some (.int f7) ∧ /- people -/
          xm_Call K sX0_readTwos 0 [.ref q5, .ref q2, .int f7] h1 (xm_pv fun h8 =>
            P (some (.int (0 : Int32))) h8)
        else
          P (some (.int (-12 : Int32))) h1))))) :
    xm_Call K' sX8_readBilled 8 [.ref a0, .int x1] h P :=
  xm_call_of (C := kX8_readBilled) hK (by decide +kernel) rfl (Nat.le_of_ble_eq_true rfl) (Or.inr ⟨a0, hr.choose, rfl, hr.choose_spec⟩) (xX8_readBilled_0 H)

def kX8_fits : List xm_I := [
  i_0 0 (.iload_n 3) 1 none,
  i_j 1 (.ifCond .eq 8) 3 none 5,
  i_0 4 (.iload_n 3) 1 none,
  i_v 5 (.iconst 1) 1 none 1 [],
  i_j 6 (.if_icmp .ne 7) 3 none 7,
  i_v 9 (.iconst 1) 1 none 1 [],
  i_j 10 (.goto 4) 3 none 8,
  i_v 13 (.iconst 0) 1 none 0 [],
  i_0 14 (.istore 4) 2 none,
  i_0 16 (.iload_n 3) 1 none,
  i_j 17 (.ifCond .lt 31) 3 none 24,
  i_0 20 (.iload_n 3) 1 none,
  i_v 21 (.iconst 5) 1 none 5 [],
  i_j 22 (.if_icmp .gt 26) 3 none 24,
  i_0 25 (.iload 4) 2 none,
  i_j 27 (.ifCond .eq 17) 3 none 22,
  i_0 30 (.aload_n 0) 1 none,
  i_f 31 (.getfield 10) 3 none 8 0 [328] 1,
  i_0 34 (.iload_n 2) 1 none,
  i_m 35 (.invokevirtual 152) 3 none 1 7 [500, 501, 502, 109, 503] 0 sX7_has,
  i_j 38 (.ifCond .ne 12) 3 none 26,
  i_j 41 (.goto 7) 3 none 24,
  i_0 44 (.iload_n 2) 1 none,
  i_j 45 (.ifCond .eq 5) 3 none 26,
  i_v 48 (.iconst (-1)) 1 none (-1) [],
  i_0 49 (.ireturn) 1 none,
  i_0 50 (.aload_n 0) 1 none,
  i_0 51 (.iload_n 1) 1 none,
  i_m 52 (.invokevirtual 243) 3 none 1 8 [682, 684, 17, 108, 685] 0 sX8_readBilled,
  i_0 55 (.istore 5) 2 none,
  i_0 57 (.iload 5) 2 none,
  i_j 59 (.ifCond .eq 6) 3 none 34,
  i_0 62 (.iload 5) 2 none,
  i_0 64 (.ireturn) 1 none,
  i_0 65 (.iload_n 3) 1 none,
  i_s 66 (.tableswitch 66 0 4 #[34, 41, 48, 54, 60]) 34 none 58 [(0, 36), (1, 41), (2, 46), (3, 50), (4, 54)],
  i_0 100 (.aload_n 0) 1 none,
  i_0 101 (.iload_n 2) 1 none,
  i_v 102 (.iconst 3) 1 none 3 [],
  i_m 103 (.invokevirtual 254) 3 none 2 8 [699, 701, 18, 108, 702] 0 sX8_fittingOf,
  i_0 106 (.ireturn) 1 none,
  i_0 107 (.aload_n 0) 1 none,
  i_0 108 (.iload_n 2) 1 none,
  i_v 109 (.iconst 4) 1 none 4 [],
  i_m 110 (.invokevirtual 254) 3 none 2 8 [699, 701, 18, 108, 702] 0 sX8_fittingOf,
  i_0 113 (.ireturn) 1 none,
  i_0 114 (.aload_n 0) 1 none,
  i_v 115 (.iconst 0) 1 none 0 [],
  i_m 116 (.invokevirtual 257) 3 none 1 8 [707, 709, 20, 108, 710] 0 sX8_fittingSnows,
  i_0 119 (.ireturn) 1 none,
  i_0 120 (.aload_n 0) 1 none,
  i_v 121 (.iconst 1) 1 none 1 [],
  i_m 122 (.invokevirtual 257) 3 none 1 8 [707, 709, 20, 108, 710] 0 sX8_fittingSnows,
  i_0 125 (.ireturn) 1 none,
  i_0 126 (.aload_n 0) 1 none,
  i_v 127 (.iconst 0) 1 none 0 [],
  i_m 128 (.invokevirtual 261) 3 none 1 8 [715, 717, 21, 108, 718] 0 sX8_fittingEars,
  i_0 131 (.ireturn) 1 none,
  i_0 132 (.aload_n 0) 1 none,
  i_v 133 (.iconst 1) 1 none 1 [],
  i_m 134 (.invokevirtual 261) 3 none 1 8 [715, 717, 21, 108, 718] 0 sX8_fittingEars,
  i_0 137 (.ireturn) 1 none]
set_option maxRecDepth 100000 in
theorem oX8_fits : xm_ok sX8_fits sX8_fits.1.cls kX8_fits = true := by decide +kernel
set_option maxRecDepth 100000 in
set_option maxHeartbeats 4000000 in
theorem xX8_fits_0 {K : Nat} {h : xm_H} {P : Option Value → xm_H → Prop} {a0 : Nat} {x1 : Int32} {x2 : Int32} {x3 : Int32} (H :
    (if x3 = 0 then
      (if x3 < 0 then
        P (some (.int (-1 : Int32))) h
      else
        (if (5 : Int32) < x3 then
          P (some (.int (-1 : Int32))) h
        else
          ∃ q1, xm_fld h a0 8 0 = some (.ref q1) ∧ /- now -/
          xm_Call K sX7_has 7 [.ref q1, .int x2] h (xm_pi fun c3 h2 =>
            (if c3 = 0 then
              P (some (.int (-1 : Int32))) h2
            else
              xm_Call K sX8_readBilled 8 [.ref a0, .int x1] h2 (xm_pi fun c5 h4 =>
                (if c5 = 0 then
                  (if x3 = 0 then
                    xm_Call K sX8_fittingOf 8 [.ref a0, .int x2, .int (3 : Int32)] h4 (xm_pi fun c7 h6 =>
                      P (some (.int c7)) h6)
                  else
                  (if x3 = 1 then
                    xm_Call K sX8_fittingOf 8 [.ref a0, .int x2, .int (4 : Int32)] h4 (xm_pi fun c9 h8 =>
                      P (some (.int c9)) h8)
                  else
                  (if x3 = 2 then
                    xm_Call K sX8_fittingSnows 8 [.ref a0, .int (0 : Int32)] h4 (xm_pi fun c11 h10 =>
                      P (some (.int c11)) h10)
                  else
                  (if x3 = 3 then
                    xm_Call K sX8_fittingSnows 8 [.ref a0, .int (1 : Int32)] h4 (xm_pi fun c13 h12 =>
                      P (some (.int c13)) h12)
                  else
                  (if x3 = 4 then
                    xm_Call K sX8_fittingEars 8 [.ref a0, .int (0 : Int32)] h4 (xm_pi fun c15 h14 =>
                      P (some (.int c15)) h14)
                  else
                  xm_Call K sX8_fittingEars 8 [.ref a0, .int (1 : Int32)] h4 (xm_pi fun c17 h16 =>
                    P (some (.int c17)) h16))))))
                else
                  P (some (.int c5)) h4))))))
    else
      (if x3 = (1 : Int32) then
        (if x3 < 0 then
          P (some (.int (-1 : Int32))) h
        else
          (if (5 : Int32) < x3 then
            P (some (.int (-1 : Int32))) h
          else
            ∃ q18, xm_fld h a0 8 0 = some (.ref q18) ∧ /- now -/
            xm_Call K sX7_has 7 [.ref q18, .int x2] h (xm_pi fun c20 h19 =>
              (if c20 = 0 then
                P (some (.int (-1 : Int32))) h19
              else
                xm_Call K sX8_readBilled 8 [.ref a0, .int x1] h19 (xm_pi fun c22 h21 =>
                  (if c22 = 0 then
                    (if x3 = 0 then
                      xm_Call K sX8_fittingOf 8 [.ref a0, .int x2, .int (3 : Int32)] h21 (xm_pi fun c24 h23 =>
                        P (some (.int c24)) h23)
                    else
                    (if x3 = 1 then
                      xm_Call K sX8_fittingOf 8 [.ref a0, .int x2, .int (4 : Int32)] h21 (xm_pi fun c26 h25 =>
                        P (some (.int c26)) h25)
                    else
                    (if x3 = 2 then
                      xm_Call K sX8_fittingSnows 8 [.ref a0, .int (0 : Int32)] h21 (xm_pi fun c28 h27 =>
                        P (some (.int c28)) h27)
                    else
                    (if x3 = 3 then
                      xm_Call K sX8_fittingSnows 8 [.ref a0, .int (1 : Int32)] h21 (xm_pi fun c30 h29 =>
                        P (some (.int c30)) h29)
                    else
                    (if x3 = 4 then
                      xm_Call K sX8_fittingEars 8 [.ref a0, .int (0 : Int32)] h21 (xm_pi fun c32 h31 =>
                        P (some (.int c32)) h31)
                    else
                    xm_Call K sX8_fittingEars 8 [.ref a0, .int (1 : Int32)] h21 (xm_pi fun c34 h33 =>
                      P (some (.int c34)) h33))))))
                  else
                    P (some (.int c22)) h21))))))
      else
        (if x3 < 0 then
          P (some (.int (-1 : Int32))) h
        else
          (if (5 : Int32) < x3 then
            P (some (.int (-1 : Int32))) h
          else
            (if x2 = 0 then
              xm_Call K sX8_readBilled 8 [.ref a0, .int x1] h (xm_pi fun c36 h35 =>
                (if c36 = 0 then
                  (if x3 = 0 then
                    xm_Call K sX8_fittingOf 8 [.ref a0, .int x2, .int (3 : Int32)] h35 (xm_pi fun c38 h37 =>
                      P (some (.int c38)) h37)
                  else
                  (if x3 = 1 then
                    xm_Call K sX8_fittingOf 8 [.ref a0, .int x2, .int (4 : Int32)] h35 (xm_pi fun c40 h39 =>
                      P (some (.int c40)) h39)
                  else
                  (if x3 = 2 then
                    xm_Call K sX8_fittingSnows 8 [.ref a0, .int (0 : Int32)] h35 (xm_pi fun c42 h41 =>
                      P (some (.int c42)) h41)
                  else
                  (if x3 = 3 then
                    xm_Call K sX8_fittingSnows 8 [.ref a0, .int (1 : Int32)] h35 (xm_pi fun c44 h43 =>
                      P (some (.int c44)) h43)
                  else
                  (if x3 = 4 then
                    xm_Call K sX8_fittingEars 8 [.ref a0, .int (0 : Int32)] h35 (xm_pi fun c46 h45 =>
                      P (some (.int c46)) h45)
                  else
                  xm_Call K sX8_fittingEars 8 [.ref a0, .int (1 : Int32)] h35 (xm_pi fun c48 h47 =>
                    P (some (.int c48)) h47))))))
                else
                  P (some (.int c36)) h35))
            else
              P (some (.int (-1 : Int32))) h)))))) :
    xm_L K sX8_fits kX8_fits 0 [some (.ref a0), some (.int x1), some (.int x2), some (.int x3), none, none] [] h P :=
  xm_run (fun _ _ h => h) oX8_fits 34 0 0 0 [some (.ref a0), some (.int x1), some (.int x2), some (.int x3), none, none] [] h H
set_option maxRecDepth 100000 in
theorem eX8_fits {K K' : Nat} (hK : K < K') {h : xm_H} {P : Option Value → xm_H → Prop} {a0 : Nat} {x1 : Int32} {x2 : Int32} {x3 : Int32} (hr : ∃ fs, h[a0]? = some (.inr (8, fs))) (H :
    (if x3 = 0 then
      (if x3 < 0 then
        P (some (.int (-1 : Int32))) h
      else
        (if (5 : Int32) < x3 then
          P (some (.int (-1 : Int32))) h
        else
          ∃ q1, xm_fld h a0 8 0 = some (.ref q1) ∧ /- now -/
          xm_Call K sX7_has 7 [.ref q1, .int x2] h (xm_pi fun c3 h2 =>
            (if c3 = 0 then
              P (some (.int (-1 : Int32))) h2
            else
              xm_Call K sX8_readBilled 8 [.ref a0, .int x1] h2 (xm_pi fun c5 h4 =>
                (if c5 = 0 then
                  (if x3 = 0 then
                    xm_Call K sX8_fittingOf 8 [.ref a0, .int x2, .int (3 : Int32)] h4 (xm_pi fun c7 h6 =>
                      P (some (.int c7)) h6)
                  else
                  (if x3 = 1 then
                    xm_Call K sX8_fittingOf 8 [.ref a0, .int x2, .int (4 : Int32)] h4 (xm_pi fun c9 h8 =>
                      P (some (.int c9)) h8)
                  else
                  (if x3 = 2 then
                    xm_Call K sX8_fittingSnows 8 [.ref a0, .int (0 : Int32)] h4 (xm_pi fun c11 h10 =>
                      P (some (.int c11)) h10)
                  else
                  (if x3 = 3 then
                    xm_Call K sX8_fittingSnows 8 [.ref a0, .int (1 : Int32)] h4 (xm_pi fun c13 h12 =>
                      P (some (.int c13)) h12)
                  else
                  (if x3 = 4 then
                    xm_Call K sX8_fittingEars 8 [.ref a0, .int (0 : Int32)] h4 (xm_pi fun c15 h14 =>
                      P (some (.int c15)) h14)
                  else
                  xm_Call K sX8_fittingEars 8 [.ref a0, .int (1 : Int32)] h4 (xm_pi fun c17 h16 =>
                    P (some (.int c17)) h16))))))
                else
                  P (some (.int c5)) h4))))))
    else
      (if x3 = (1 : Int32) then
        (if x3 < 0 then
          P (some (.int (-1 : Int32))) h
        else
          (if (5 : Int32) < x3 then
            P (some (.int (-1 : Int32))) h
          else
            ∃ q18, xm_fld h a0 8 0 = some (.ref q18) ∧ /- now -/
            xm_Call K sX7_has 7 [.ref q18, .int x2] h (xm_pi fun c20 h19 =>
              (if c20 = 0 then
                P (some (.int (-1 : Int32))) h19
              else
                xm_Call K sX8_readBilled 8 [.ref a0, .int x1] h19 (xm_pi fun c22 h21 =>
                  (if c22 = 0 then
                    (if x3 = 0 then
                      xm_Call K sX8_fittingOf 8 [.ref a0, .int x2, .int (3 : Int32)] h21 (xm_pi fun c24 h23 =>
                        P (some (.int c24)) h23)
                    else
                    (if x3 = 1 then
                      xm_Call K sX8_fittingOf 8 [.ref a0, .int x2, .int (4 : Int32)] h21 (xm_pi fun c26 h25 =>
                        P (some (.int c26)) h25)
                    else
                    (if x3 = 2 then
                      xm_Call K sX8_fittingSnows 8 [.ref a0, .int (0 : Int32)] h21 (xm_pi fun c28 h27 =>
                        P (some (.int c28)) h27)
                    else
                    (if x3 = 3 then
                      xm_Call K sX8_fittingSnows 8 [.ref a0, .int (1 : Int32)] h21 (xm_pi fun c30 h29 =>
                        P (some (.int c30)) h29)
                    else
                    (if x3 = 4 then
                      xm_Call K sX8_fittingEars 8 [.ref a0, .int (0 : Int32)] h21 (xm_pi fun c32 h31 =>
                        P (some (.int c32)) h31)
                    else
                    xm_Call K sX8_fittingEars 8 [.ref a0, .int (1 : Int32)] h21 (xm_pi fun c34 h33 =>
                      P (some (.int c34)) h33))))))
                  else
                    P (some (.int c22)) h21))))))
      else
        (if x3 < 0 then
          P (some (.int (-1 : Int32))) h
        else
          (if (5 : Int32) < x3 then
            P (some (.int (-1 : Int32))) h
          else
            (if x2 = 0 then
              xm_Call K sX8_readBilled 8 [.ref a0, .int x1] h (xm_pi fun c36 h35 =>
                (if c36 = 0 then
                  (if x3 = 0 then
                    xm_Call K sX8_fittingOf 8 [.ref a0, .int x2, .int (3 : Int32)] h35 (xm_pi fun c38 h37 =>
                      P (some (.int c38)) h37)
                  else
                  (if x3 = 1 then
                    xm_Call K sX8_fittingOf 8 [.ref a0, .int x2, .int (4 : Int32)] h35 (xm_pi fun c40 h39 =>
                      P (some (.int c40)) h39)
                  else
                  (if x3 = 2 then
                    xm_Call K sX8_fittingSnows 8 [.ref a0, .int (0 : Int32)] h35 (xm_pi fun c42 h41 =>
                      P (some (.int c42)) h41)
                  else
                  (if x3 = 3 then
                    xm_Call K sX8_fittingSnows 8 [.ref a0, .int (1 : Int32)] h35 (xm_pi fun c44 h43 =>
                      P (some (.int c44)) h43)
                  else
                  (if x3 = 4 then
                    xm_Call K sX8_fittingEars 8 [.ref a0, .int (0 : Int32)] h35 (xm_pi fun c46 h45 =>
                      P (some (.int c46)) h45)
                  else
                  xm_Call K sX8_fittingEars 8 [.ref a0, .int (1 : Int32)] h35 (xm_pi fun c48 h47 =>
                    P (some (.int c48)) h47))))))
                else
                  P (some (.int c36)) h35))
            else
              P (some (.int (-1 : Int32))) h)))))) :
    xm_Call K' sX8_fits 8 [.ref a0, .int x1, .int x2, .int x3] h P :=
  xm_call_of (C := kX8_fits) hK (by decide +kernel) rfl (Nat.le_of_ble_eq_true rfl) (Or.inr ⟨a0, hr.choose, rfl, hr.choose_spec⟩) (xX8_fits_0 H)

def kX8_isAllSo : List xm_I := [
  i_0 0 (.aload_n 0) 1 none,
  i_f 1 (.getfield 60) 3 none 8 10 [338] 1,
  i_0 4 (.aload_n 0) 1 none,
  i_f 5 (.getfield 22) 3 none 8 2 [330] 1,
  i_f 8 (.getfield 172) 3 none 4 4 [177] 1,
  i_m 11 (.invokevirtual 246) 3 none 1 0 [691, 692, 693, 114, 694] 0 sX0_firstWrong,
  i_j 14 (.ifCond .ge 7) 3 none 9,
  i_v 17 (.iconst 1) 1 none 1 [],
  i_j 18 (.goto 4) 3 none 10,
  i_v 21 (.iconst 0) 1 none 0 [],
  i_0 22 (.ireturn) 1 none]
set_option maxRecDepth 100000 in
theorem oX8_isAllSo : xm_ok sX8_isAllSo sX8_isAllSo.1.cls kX8_isAllSo = true := by decide +kernel
set_option maxRecDepth 100000 in
set_option maxHeartbeats 4000000 in
theorem xX8_isAllSo_0 {K : Nat} {h : xm_H} {P : Option Value → xm_H → Prop} {a0 : Nat} (H :
    ∃ q1, xm_fld h a0 8 10 = some (.ref q1) ∧ /- billed -/
    ∃ q2, xm_fld h a0 8 2 = some (.ref q2) ∧ /- reckoner -/
    ∃ q3, xm_fld h q2 4 4 = some (.ref q3) ∧ /- shares -/
    xm_Call K sX0_firstWrong 0 [.ref q1, .ref q3] h (xm_pi fun c5 h4 =>
      (if c5 < 0 then
        P (some (.int (1 : Int32))) h4
      else
        P (some (.int (0 : Int32))) h4))) :
    xm_L K sX8_isAllSo kX8_isAllSo 0 [some (.ref a0)] [] h P :=
  xm_run (fun _ _ h => h) oX8_isAllSo 11 0 0 0 [some (.ref a0)] [] h H
set_option maxRecDepth 100000 in
theorem eX8_isAllSo {K K' : Nat} (hK : K < K') {h : xm_H} {P : Option Value → xm_H → Prop} {a0 : Nat} (hr : ∃ fs, h[a0]? = some (.inr (8, fs))) (H :
    ∃ q1, xm_fld h a0 8 10 = some (.ref q1) ∧ /- billed -/
    ∃ q2, xm_fld h a0 8 2 = some (.ref q2) ∧ /- reckoner -/
    ∃ q3, xm_fld h q2 4 4 = some (.ref q3) ∧ /- shares -/
    xm_Call K sX0_firstWrong 0 [.ref q1, .ref q3] h (xm_pi fun c5 h4 =>
      (if c5 < 0 then
        P (some (.int (1 : Int32))) h4
      else
        P (some (.int (0 : Int32))) h4))) :
    xm_Call K' sX8_isAllSo 8 [.ref a0] h P :=
  xm_call_of (C := kX8_isAllSo) hK (by decide +kernel) rfl (Nat.le_of_ble_eq_true rfl) (Or.inr ⟨a0, hr.choose, rfl, hr.choose_spec⟩) (xX8_isAllSo_0 H)

def kX8_fittingOf : List xm_I := [
  i_0 0 (.aload_n 0) 1 none,
  i_f 1 (.getfield 16) 3 none 8 1 [329] 1,
  i_0 4 (.aload_n 0) 1 none,
  i_f 5 (.getfield 10) 3 none 8 0 [328] 1,
  i_m 8 (.invokevirtual 182) 3 none 1 7 [595, 596, 597, 109, 598] 0 sX7_copy,
  i_v 11 (.iconst 0) 1 none 0 [],
  i_0 12 (.istore_n 3) 1 none,
  i_f 13 (.getstatic 210) 3 none 0 0 [375] 0,
  i_0 16 (.iload_n 2) 1 none,
  i_0 17 (.iaload) 1 none,
  i_0 18 (.istore 4) 2 none,
  i_0 20 (.iload 4) 2 (some [true, true, true, true, true]),
  i_f 22 (.getstatic 213) 3 none 1 0 [377] 0,
  i_0 25 (.iload_n 2) 1 none,
  i_0 26 (.iaload) 1 none,
  i_j 27 (.if_icmp .gt 49) 3 none 40,
  i_0 30 (.aload_n 0) 1 none,
  i_f 31 (.getfield 16) 3 none 8 1 [329] 1,
  i_0 34 (.iload_n 1) 1 none,
  i_0 35 (.iload_n 2) 1 none,
  i_0 36 (.iload 4) 2 none,
  i_m 38 (.invokevirtual 185) 3 none 3 7 [600, 385, 386, 109, 387] 0 sX7_set,
  i_0 41 (.aload_n 0) 1 none,
  i_f 42 (.getfield 22) 3 none 8 2 [330] 1,
  i_0 45 (.aload_n 0) 1 none,
  i_f 46 (.getfield 16) 3 none 8 1 [329] 1,
  i_m 49 (.invokevirtual 163) 3 none 1 4 [546, 547, 548, 110, 549] 0 sX4_reckon,
  i_0 52 (.iload_n 3) 1 none,
  i_0 53 (.aload_n 0) 1 none,
  i_m 54 (.invokevirtual 264) 3 none 0 8 [703, 705, 19, 108, 706] 0 sX8_isAllSo,
  i_j 57 (.ifCond .eq 10) 3 none 35,
  i_v 60 (.iconst 1) 1 none 1 [],
  i_0 61 (.iload 4) 2 none,
  i_0 63 (.ishl) 1 none,
  i_j 64 (.goto 4) 3 none 36,
  i_v 67 (.iconst 0) 1 none 0 [],
  i_0 68 (.ior) 1 none,
  i_0 69 (.istore_n 3) 1 none,
  i_v 70 (.iinc 4 1) 3 none 1 [],
  i_j 73 (.goto (-53)) 3 none 11,
  i_0 76 (.iload_n 3) 1 none,
  i_0 77 (.ireturn) 1 none]
set_option maxRecDepth 100000 in
theorem oX8_fittingOf : xm_ok sX8_fittingOf sX8_fittingOf.1.cls kX8_fittingOf = true := by decide +kernel
set_option maxRecDepth 100000 in
set_option maxHeartbeats 4000000 in
theorem xX8_fittingOf_0 {K : Nat} {h : xm_H} {P : Option Value → xm_H → Prop} {a0 : Nat} {x1 : Int32} {x2 : Int32} (H :
    ∃ q1, xm_fld h a0 8 1 = some (.ref q1) ∧ /- thought -/
    ∃ q2, xm_fld h a0 8 0 = some (.ref q2) ∧ /- now -/
    xm_Call K sX7_copy 7 [.ref q1, .ref q2] h (xm_pv fun h3 =>
      ∃ e4, xm_ld xm_st h3 0 (1000 + 0) x2 = some e4 ∧
      xm_L K sX8_fittingOf kX8_fittingOf 11 [some (.ref a0), some (.int x1), some (.int x2), some (.int (0 : Int32)), some (.int e4)] [] h3 P)) :
    xm_L K sX8_fittingOf kX8_fittingOf 0 [some (.ref a0), some (.int x1), some (.int x2), none, none] [] h P :=
  xm_run (fun _ _ h => h) oX8_fittingOf 12 0 0 0 [some (.ref a0), some (.int x1), some (.int x2), none, none] [] h H
set_option maxRecDepth 100000 in
theorem eX8_fittingOf {K K' : Nat} (hK : K < K') {h : xm_H} {P : Option Value → xm_H → Prop} {a0 : Nat} {x1 : Int32} {x2 : Int32} (hr : ∃ fs, h[a0]? = some (.inr (8, fs))) (H :
    ∃ q1, xm_fld h a0 8 1 = some (.ref q1) ∧ /- thought -/
    ∃ q2, xm_fld h a0 8 0 = some (.ref q2) ∧ /- now -/
    xm_Call K sX7_copy 7 [.ref q1, .ref q2] h (xm_pv fun h3 =>
      ∃ e4, xm_ld xm_st h3 0 (1000 + 0) x2 = some e4 ∧
      xm_L K sX8_fittingOf kX8_fittingOf 11 [some (.ref a0), some (.int x1), some (.int x2), some (.int (0 : Int32)), some (.int e4)] [] h3 P)) :
    xm_Call K' sX8_fittingOf 8 [.ref a0, .int x1, .int x2] h P :=
  xm_call_of (C := kX8_fittingOf) hK (by decide +kernel) rfl (Nat.le_of_ble_eq_true rfl) (Or.inr ⟨a0, hr.choose, rfl, hr.choose_spec⟩) (xX8_fittingOf_0 H)

set_option maxRecDepth 100000 in
set_option maxHeartbeats 4000000 in
theorem xX8_fittingOf_11 {K : Nat} {h : xm_H} {P : Option Value → xm_H → Prop} {a0 : Nat} {x1 : Int32} {x2 : Int32} {x3 : Int32} {x4 : Int32} (H :
    ∃ e1, xm_ld xm_st h 0 (1000 + 1) x2 = some e1 ∧
    (if e1 < x4 then
      P (some (.int x3)) h
    else
      ∃ q2, xm_fld h a0 8 1 = some (.ref q2) ∧ /- thought -/
      xm_Call K sX7_set 7 [.ref q2, .int x1, .int x2, .int x4] h (xm_pv fun h3 =>
        ∃ q4, xm_fld h3 a0 8 2 = some (.ref q4) ∧ /- reckoner -/
        ∃ q5, xm_fld h3 a0 8 1 = some (.ref q5) ∧ /- thought -/
        xm_Call K sX4_reckon 4 [.ref q4, .ref q5] h3 (xm_pv fun h6 =>
          xm_Call K sX8_isAllSo 8 [.ref a0] h6 (xm_pi fun c8 h7 =>
            (if c8 = 0 then
              xm_L K sX8_fittingOf kX8_fittingOf 11 [some (.ref a0), some (.int x1), some (.int x2), some (.int (x3 ||| (0 : Int32))), some (.int (x4 + (1 : Int32)))] [] h7 P
            else
              xm_L K sX8_fittingOf kX8_fittingOf 11 [some (.ref a0), some (.int x1), some (.int x2), some (.int (x3 ||| ((1 : Int32) <<< (x4 &&& 31)))), some (.int (x4 + (1 : Int32)))] [] h7 P)))))) :
    xm_L K sX8_fittingOf kX8_fittingOf 11 [some (.ref a0), some (.int x1), some (.int x2), some (.int x3), some (.int x4)] [] h P :=
  xm_run (fun _ _ h => h) oX8_fittingOf 29 11 0 0 [some (.ref a0), some (.int x1), some (.int x2), some (.int x3), some (.int x4)] [] h H

