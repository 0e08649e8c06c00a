def kX9_dearest : List xm_I := [
  i_v 0 (.bipush (-2)) 2 none (-2) [],
  i_0 2 (.istore_n 1) 1 none,
  i_v 3 (.iconst 0) 1 none 0 [],
  i_0 4 (.istore_n 2) 1 none,
  i_0 5 (.iload_n 2) 1 (some [true, true, true]),
  i_0 6 (.aload_n 0) 1 none,
  i_f 7 (.getfield 125) 3 none 9 1 [926] 0,
  i_j 10 (.if_icmp .ge 32) 3 none 23,
  i_0 13 (.aload_n 0) 1 none,
  i_0 14 (.iload_n 2) 1 none,
  i_m 15 (.invokevirtual 282) 3 none 1 9 [1289, 1291, 66, 117, 1292] 0 sX9_shareOf,
  i_0 18 (.iload_n 1) 1 none,
  i_j 19 (.ifCond .ge 7) 3 none 15,
  i_v 22 (.iconst 0) 1 none 0 [],
  i_j 23 (.goto 8) 3 none 18,
  i_0 26 (.aload_n 0) 1 none,
  i_0 27 (.iload_n 1) 1 none,
  i_m 28 (.invokevirtual 282) 3 none 1 9 [1289, 1291, 66, 117, 1292] 0 sX9_shareOf,
  i_j 31 (.if_icmp .le 5) 3 none 21,
  i_0 34 (.iload_n 2) 1 none,
  i_0 35 (.istore_n 1) 1 none,
  i_v 36 (.iinc 2 1) 3 none 1 [],
  i_j 39 (.goto (-34)) 3 none 4,
  i_0 42 (.iload_n 1) 1 none,
  i_0 43 (.ireturn) 1 none]
set_option maxRecDepth 100000 in
theorem oX9_dearest : xm_ok sX9_dearest sX9_dearest.1.cls kX9_dearest = true := by decide +kernel
set_option maxRecDepth 100000 in
set_option maxHeartbeats 4000000 in
theorem xX9_dearest_0 {K : Nat} {h : xm_H} {P : Option Value → xm_H → Prop} {a0 : Nat} (H :
    xm_L K sX9_dearest kX9_dearest 4 [some (.ref a0), some (.int (-2 : Int32)), some (.int (0 : Int32))] [] h P) :
    xm_L K sX9_dearest kX9_dearest 0 [some (.ref a0), none, none] [] h P :=
  xm_run (fun _ _ h => h) oX9_dearest 5 0 0 0 [some (.ref a0), none, none] [] h H
set_option maxRecDepth 100000 in
theorem eX9_dearest {K K' : Nat} (hK : K < K') {h : xm_H} {P : Option Value → xm_H → Prop} {a0 : Nat} (hr : ∃ fs, h[a0]? = some (.inr (9, fs))) (H :
    xm_L K sX9_dearest kX9_dearest 4 [some (.ref a0), some (.int (-2 : Int32)), some (.int (0 : Int32))] [] h P) :
    xm_Call K' sX9_dearest 9 [.ref a0] h P :=
  xm_call_of (C := kX9_dearest) hK (by decide +kernel) rfl (Nat.le_of_ble_eq_true rfl) (Or.inr ⟨a0, hr.choose, rfl, hr.choose_spec⟩) (xX9_dearest_0 H)

set_option maxRecDepth 100000 in
set_option maxHeartbeats 4000000 in
theorem xX9_dearest_4 {K : Nat} {h : xm_H} {P : Option Value → xm_H → Prop} {a0 : Nat} {x1 : Int32} {x2 : Int32} (H :
    ∃ f1, xm_fld h a0 9 1 = some (.int f1) ∧ /- many -/
    (if x2 < f1 then
      xm_Call K sX9_shareOf 9 [.ref a0, .int x2] h (xm_pi fun c3 h2 =>
        (if x1 < 0 then
          (if (0 : Int32) < c3 then
            xm_L K sX9_dearest kX9_dearest 4 [some (.ref a0), some (.int x2), some (.int (x2 + (1 : Int32)))] [] h2 P
          else
            xm_L K sX9_dearest kX9_dearest 4 [some (.ref a0), some (.int x1), some (.int (x2 + (1 : Int32)))] [] h2 P)
        else
          xm_Call K sX9_shareOf 9 [.ref a0, .int x1] h2 (xm_pi fun c5 h4 =>
            (if c5 < c3 then
              xm_L K sX9_dearest kX9_dearest 4 [some (.ref a0), some (.int x2), some (.int (x2 + (1 : Int32)))] [] h4 P
            else
              xm_L K sX9_dearest kX9_dearest 4 [some (.ref a0), some (.int x1), some (.int (x2 + (1 : Int32)))] [] h4 P))))
    else
      P (some (.int x1)) h)) :
    xm_L K sX9_dearest kX9_dearest 4 [some (.ref a0), some (.int x1), some (.int x2)] [] h P :=
  xm_run (fun _ _ h => h) oX9_dearest 18 4 0 0 [some (.ref a0), some (.int x1), some (.int x2)] [] h H

def kX9_alike : List xm_I := [
  i_v 0 (.iconst 0) 1 none 0 [],
  i_0 1 (.istore_n 1) 1 none,
  i_v 2 (.iconst 0) 1 none 0 [],
  i_0 3 (.istore_n 2) 1 none,
  i_0 4 (.iload_n 2) 1 (some [true, true, true, false]),
  i_0 5 (.aload_n 0) 1 none,
  i_f 6 (.getfield 125) 3 none 9 1 [926] 0,
  i_j 9 (.if_icmp .ge 46) 3 none 29,
  i_v 12 (.iconst 0) 1 none 0 [],
  i_0 13 (.istore_n 3) 1 none,
  i_0 14 (.iload_n 3) 1 (some [true, true, true, true]),
  i_0 15 (.iload_n 2) 1 none,
  i_j 16 (.if_icmp .ge 33) 3 none 27,
  i_0 19 (.aload_n 0) 1 none,
  i_0 20 (.iload_n 2) 1 none,
  i_m 21 (.invokevirtual 282) 3 none 1 9 [1289, 1291, 66, 117, 1292] 0 sX9_shareOf,
  i_j 24 (.ifCond .le 19) 3 none 25,
  i_0 27 (.aload_n 0) 1 none,
  i_0 28 (.iload_n 2) 1 none,
  i_m 29 (.invokevirtual 282) 3 none 1 9 [1289, 1291, 66, 117, 1292] 0 sX9_shareOf,
  i_0 32 (.aload_n 0) 1 none,
  i_0 33 (.iload_n 3) 1 none,
  i_m 34 (.invokevirtual 282) 3 none 1 9 [1289, 1291, 66, 117, 1292] 0 sX9_shareOf,
  i_j 37 (.if_icmp .ne 6) 3 none 25,
  i_v 40 (.iinc 1 1) 3 none 1 [],
  i_v 43 (.iinc 3 1) 3 none 1 [],
  i_j 46 (.goto (-32)) 3 none 10,
  i_v 49 (.iinc 2 1) 3 none 1 [],
  i_j 52 (.goto (-48)) 3 none 4,
  i_0 55 (.iload_n 1) 1 none,
  i_0 56 (.ireturn) 1 none]
set_option maxRecDepth 100000 in
theorem oX9_alike : xm_ok sX9_alike sX9_alike.1.cls kX9_alike = true := by decide +kernel
set_option maxRecDepth 100000 in
set_option maxHeartbeats 4000000 in
theorem xX9_alike_0 {K : Nat} {h : xm_H} {P : Option Value → xm_H → Prop} {a0 : Nat} (H :
    xm_L K sX9_alike kX9_alike 4 [some (.ref a0), some (.int (0 : Int32)), some (.int (0 : Int32)), none] [] h P) :
    xm_L K sX9_alike kX9_alike 0 [some (.ref a0), none, none, none] [] h P :=
  xm_run (fun _ _ h => h) oX9_alike 5 0 0 0 [some (.ref a0), none, none, none] [] h H
set_option maxRecDepth 100000 in
theorem eX9_alike {K K' : Nat} (hK : K < K') {h : xm_H} {P : Option Value → xm_H → Prop} {a0 : Nat} (hr : ∃ fs, h[a0]? = some (.inr (9, fs))) (H :
    xm_L K sX9_alike kX9_alike 4 [some (.ref a0), some (.int (0 : Int32)), some (.int (0 : Int32)), none] [] h P) :
    xm_Call K' sX9_alike 9 [.ref a0] h P :=
  xm_call_of (C := kX9_alike) hK (by decide +kernel) rfl (Nat.le_of_ble_eq_true rfl) (Or.inr ⟨a0, hr.choose, rfl, hr.choose_spec⟩) (xX9_alike_0 H)

set_option maxRecDepth 100000 in
set_option maxHeartbeats 4000000 in
theorem xX9_alike_4 {K : Nat} {h : xm_H} {P : Option Value → xm_H → Prop} {a0 : Nat} {x1 : Int32} {x2 : Int32} (H :
    ∃ f1, xm_fld h a0 9 1 = some (.int f1) ∧ /- many -/
    (if x2 < f1 then
      xm_L K sX9_alike kX9_alike 10 [some (.ref a0), some (.int x1), some (.int x2), some (.int (0 : Int32))] [] h P
    else
      P (some (.int x1)) h)) :
    xm_L K sX9_alike kX9_alike 4 [some (.ref a0), some (.int x1), some (.int x2), none] [] h P :=
  xm_run (fun _ _ h => h) oX9_alike 7 4 0 0 [some (.ref a0), some (.int x1), some (.int x2), none] [] h H

set_option maxRecDepth 100000 in
set_option maxHeartbeats 4000000 in
theorem xX9_alike_10 {K : Nat} {h : xm_H} {P : Option Value → xm_H → Prop} {a0 : Nat} {x1 : Int32} {x2 : Int32} {x3 : Int32} (H :
    (if x3 < x2 then
      xm_Call K sX9_shareOf 9 [.ref a0, .int x2] h (xm_pi fun c2 h1 =>
        (if 0 < c2 then
          xm_Call K sX9_shareOf 9 [.ref a0, .int x2] h1 (xm_pi fun c4 h3 =>
            xm_Call K sX9_shareOf 9 [.ref a0, .int x3] h3 (xm_pi fun c6 h5 =>
              (if c4 = c6 then
                xm_L K sX9_alike kX9_alike 10 [some (.ref a0), some (.int (x1 + (1 : Int32))), some (.int x2), some (.int (x3 + (1 : Int32)))] [] h5 P
              else
                xm_L K sX9_alike kX9_alike 10 [some (.ref a0), some (.int x1), some (.int x2), some (.int (x3 + (1 : Int32)))] [] h5 P)))
        else
          xm_L K sX9_alike kX9_alike 10 [some (.ref a0), some (.int x1), some (.int x2), some (.int (x3 + (1 : Int32)))] [] h1 P))
    else
      xm_L K sX9_alike kX9_alike 4 [some (.ref a0), some (.int x1), some (.int (x2 + (1 : Int32))), none] [] h P)) :
    xm_L K sX9_alike kX9_alike 10 [some (.ref a0), some (.int x1), some (.int x2), some (.int x3)] [] h P :=
  xm_run (fun _ _ h => h) oX9_alike 18 10 0 0 [some (.ref a0), some (.int x1), some (.int x2), some (.int x3)] [] h H

def kX9_said : List xm_I := [
  i_0 0 (.iload_n 1) 1 none,
  i_v 1 (.iconst 0) 1 none 0 [],
  i_v 2 (.iconst 2) 1 none 2 [],
  i_m 3 (.invokestatic 128) 3 none 3 99 [1106, 1107, 117, 1108] 0 sX9_in,
  i_j 6 (.ifCond .ne 5) 3 none 7,
  i_v 9 (.iconst (-1)) 1 none (-1) [],
  i_0 10 (.ireturn) 1 none,
  i_0 11 (.iload_n 1) 1 none,
  i_j 12 (.ifCond .ne 8) 3 none 12,
  i_0 15 (.aload_n 0) 1 none,
  i_m 16 (.invokevirtual 369) 3 none 0 9 [1433, 1435, 87, 117, 1436] 0 sX9_leastSaid,
  i_0 19 (.ireturn) 1 none,
  i_0 20 (.aload_n 0) 1 none,
  i_m 21 (.invokevirtual 267) 3 none 0 9 [1227, 1229, 53, 117, 1230] 0 sX9_layNow,
  i_0 24 (.aload_n 0) 1 none,
  i_m 25 (.invokevirtual 285) 3 none 0 9 [1270, 1272, 62, 117, 1273] 0 sX9_assess,
  i_0 28 (.iload_n 1) 1 none,
  i_v 29 (.iconst 1) 1 none 1 [],
  i_j 30 (.if_icmp .ne 10) 3 none 22,
  i_0 33 (.aload_n 0) 1 none,
  i_m 34 (.invokevirtual 372) 3 none 0 9 [1437, 1439, 88, 117, 1440] 0 sX9_dearest,
  i_j 37 (.goto 7) 3 none 24,
  i_0 40 (.aload_n 0) 1 none,
  i_m 41 (.invokevirtual 375) 3 none 0 9 [1441, 1443, 89, 117, 1444] 0 sX9_alike,
  i_0 44 (.ireturn) 1 none]
set_option maxRecDepth 100000 in
theorem oX9_said : xm_ok sX9_said sX9_said.1.cls kX9_said = true := by decide +kernel
set_option maxRecDepth 100000 in
set_option maxHeartbeats 4000000 in
theorem xX9_said_0 {K : Nat} {h : xm_H} {P : Option Value → xm_H → Prop} {a0 : Nat} {x1 : Int32} (H :
    xm_Call K sX9_in 99 [.int x1, .int (0 : Int32), .int (2 : Int32)] h (xm_pi fun c2 h1 =>
      (if c2 = 0 then
        P (some (.int (-1 : Int32))) h1
      else
        (if x1 = 0 then
          xm_Call K sX9_leastSaid 9 [.ref a0] h1 (xm_pi fun c4 h3 =>
            P (some (.int c4)) h3)
        else
          xm_Call K sX9_layNow 9 [.ref a0] h1 (xm_pv fun h5 =>
            xm_Call K sX9_assess 9 [.ref a0] h5 (xm_pv fun h6 =>
              (if x1 = (1 : Int32) then
                xm_Call K sX9_dearest 9 [.ref a0] h6 (xm_pi fun c8 h7 =>
                  P (some (.int c8)) h7)
              else
                xm_Call K sX9_alike 9 [.ref a0] h6 (xm_pi fun c10 h9 =>
                  P (some (.int c10)) h9)))))))) :
    xm_L K sX9_said kX9_said 0 [some (.ref a0), some (.int x1)] [] h P :=
  xm_run (fun _ _ h => h) oX9_said 19 0 0 0 [some (.ref a0), some (.int x1)] [] h H
set_option maxRecDepth 100000 in
theorem eX9_said {K K' : Nat} (hK : K < K') {h : xm_H} {P : Option Value → xm_H → Prop} {a0 : Nat} {x1 : Int32} (hr : ∃ fs, h[a0]? = some (.inr (9, fs))) (H :
    xm_Call K sX9_in 99 [.int x1, .int (0 : Int32), .int (2 : Int32)] h (xm_pi fun c2 h1 =>
      (if c2 = 0 then
        P (some (.int (-1 : Int32))) h1
      else
        (if x1 = 0 then
          xm_Call K sX9_leastSaid 9 [.ref a0] h1 (xm_pi fun c4 h3 =>
            P (some (.int c4)) h3)
        else
          xm_Call K sX9_layNow 9 [.ref a0] h1 (xm_pv fun h5 =>
            xm_Call K sX9_assess 9 [.ref a0] h5 (xm_pv fun h6 =>
              (if x1 = (1 : Int32) then
                xm_Call K sX9_dearest 9 [.ref a0] h6 (xm_pi fun c8 h7 =>
                  P (some (.int c8)) h7)
              else
                xm_Call K sX9_alike 9 [.ref a0] h6 (xm_pi fun c10 h9 =>
                  P (some (.int c10)) h9)))))))) :
    xm_Call K' sX9_said 9 [.ref a0, .int x1] h P :=
  xm_call_of (C := kX9_said) hK (by decide +kernel) rfl (Nat.le_of_ble_eq_true rfl) (Or.inr ⟨a0, hr.choose, rfl, hr.choose_spec⟩) (xX9_said_0 H)

def kX9_byPick : List xm_I := [
  i_0 0 (.aload_n 0) 1 none,
  i_f 1 (.getfield 78) 3 none 9 32 [957] 1,
  i_0 4 (.iload_n 2) 1 none,
  i_v 5 (.iconst 1) 1 none 1 [],
  i_0 6 (.aload_n 0) 1 none,
  i_f 7 (.getfield 78) 3 none 9 32 [957] 1,
  i_0 10 (.iload_n 2) 1 none,
  i_0 11 (.iaload) 1 none,
  i_0 12 (.isub) 1 none,
  i_0 13 (.iastore) 1 none,
  i_0 14 (.aload_n 0) 1 none,
  i_0 15 (.iload_n 1) 1 none,
  i_0 16 (.iload_n 3) 1 none,
  i_v 17 (.iconst 1) 1 none 1 [],
  i_0 18 (.isub) 1 none,
  i_0 19 (.iload 4) 2 none,
  i_j 21 (.ifCond .ne 7) 3 none 19,
  i_v 24 (.iconst 1) 1 none 1 [],
  i_j 25 (.goto 4) 3 none 20,
  i_v 28 (.iconst 0) 1 none 0 [],
  i_m 29 (.invokevirtual 378) 3 none 3 9 [1449, 1451, 90, 117, 1452] 0 sX9_bestOf,
  i_0 32 (.istore 5) 2 none,
  i_0 34 (.aload_n 0) 1 none,
  i_f 35 (.getfield 78) 3 none 9 32 [957] 1,
  i_0 38 (.iload_n 2) 1 none,
  i_v 39 (.iconst 1) 1 none 1 [],
  i_0 40 (.aload_n 0) 1 none,
  i_f 41 (.getfield 78) 3 none 9 32 [957] 1,
  i_0 44 (.iload_n 2) 1 none,
  i_0 45 (.iaload) 1 none,
  i_0 46 (.isub) 1 none,
  i_0 47 (.iastore) 1 none,
  i_0 48 (.iload 5) 2 none,
  i_0 50 (.ireturn) 1 none]
set_option maxRecDepth 100000 in
theorem oX9_byPick : xm_ok sX9_byPick sX9_byPick.1.cls kX9_byPick = true := by decide +kernel
set_option maxRecDepth 100000 in
set_option maxHeartbeats 4000000 in
theorem xX9_byPick_0 {K : Nat} {h : xm_H} {P : Option Value → xm_H → Prop} {a0 : Nat} {x1 : Int32} {x2 : Int32} {x3 : Int32} {x4 : Int32} (H :
    ∃ q1, xm_fld h a0 9 32 = some (.ref q1) ∧ /- heard1 -/
    ∃ q2, xm_fld h a0 9 32 = some (.ref q2) ∧ /- heard1 -/
    ∃ e3, xm_ld xm_st h 0 q2 x2 = some e3 ∧
    ∃ h4, xm_sto h 0 q1 x2 ((1 : Int32) - e3) = some h4 ∧
    (if x4 = 0 then
      xm_Call K sX9_bestOf 9 [.ref a0, .int x1, .int (x3 - (1 : Int32)), .int (1 : Int32)] h4 (xm_pi fun c6 h5 =>
        ∃ q7, xm_fld h5 a0 9 32 = some (.ref q7) ∧ /- heard1 -/
        ∃ q8, xm_fld h5 a0 9 32 = some (.ref q8) ∧ /- heard1 -/
        ∃ e9, xm_ld xm_st h5 0 q8 x2 = some e9 ∧
        ∃ h10, xm_sto h5 0 q7 x2 ((1 : Int32) - e9) = some h10 ∧
        P (some (.int c6)) h10)
    else
      xm_Call K sX9_bestOf 9 [.ref a0, .int x1, .int (x3 - (1 : Int32)), .int (0 : Int32)] h4 (xm_pi fun c12 h11 =>
        ∃ q13, xm_fld h11 a0 9 32 = some (.ref q13) ∧ /- heard1 -/
        ∃ q14, xm_fld h11 a0 9 32 = some (.ref q14) ∧ /- heard1 -/
        ∃ e15, xm_ld xm_st h11 0 q14 x2 = some e15 ∧
        ∃ h16, xm_sto h11 0 q13 x2 ((1 : Int32) - e15) = some h16 ∧
        P (some (.int c12)) h16))) :
    xm_L K sX9_byPick kX9_byPick 0 [some (.ref a0), some (.int x1), some (.int x2), some (.int x3), some (.int x4), none] [] h P :=
  xm_run (fun _ _ h => h) oX9_byPick 34 0 0 0 [some (.ref a0), some (.int x1), some (.int x2), some (.int x3), some (.int x4), none] [] h H
set_option maxRecDepth 100000 in
theorem eX9_byPick {K K' : Nat} (hK : K < K') {h : xm_H} {P : Option Value → xm_H → Prop} {a0 : Nat} {x1 : Int32} {x2 : Int32} {x3 : Int32} {x4 : Int32} (hr : ∃ fs, h[a0]? = some (.inr (9, fs))) (H :
    ∃ q1, xm_fld h a0 9 32 = some (.ref q1) ∧ /- heard1 -/
    ∃ q2, xm_fld h a0 9 32 = some (.ref q2) ∧ /- heard1 -/
    ∃ e3, xm_ld xm_st h 0 q2 x2 = some e3 ∧
    ∃ h4, xm_sto h 0 q1 x2 ((1 : Int32) - e3) = some h4 ∧
    (if x4 = 0 then
      xm_Call K sX9_bestOf 9 [.ref a0, .int x1, .int (x3 - (1 : Int32)), .int (1 : Int32)] h4 (xm_pi fun c6 h5 =>
        ∃ q7, xm_fld h5 a0 9 32 = some (.ref q7) ∧ /- heard1 -/
        ∃ q8, xm_fld h5 a0 9 32 = some (.ref q8) ∧ /- heard1 -/
        ∃ e9, xm_ld xm_st h5 0 q8 x2 = some e9 ∧
        ∃ h10, xm_sto h5 0 q7 x2 ((1 : Int32) - e9) = some h10 ∧
        P (some (.int c6)) h10)
    else
      xm_Call K sX9_bestOf 9 [.ref a0, .int x1, .int (x3 - (1 : Int32)), .int (0 : Int32)] h4 (xm_pi fun c12 h11 =>
        ∃ q13, xm_fld h11 a0 9 32 = some (.ref q13) ∧ /- heard1 -/
        ∃ q14, xm_fld h11 a0 9 32 = some (.ref q14) ∧ /- heard1 -/
        ∃ e15, xm_ld xm_st h11 0 q14 x2 = some e15 ∧
        ∃ h16, xm_sto h11 0 q13 x2 ((1 : Int32) - e15) = some h16 ∧
        P (some (.int c12)) h16))) :
    xm_Call K' sX9_byPick 9 [.ref a0, .int x1, .int x2, .int x3, .int x4] h P :=
  xm_call_of (C := kX9_byPick) hK (by decide +kernel) rfl (Nat.le_of_ble_eq_true rfl) (Or.inr ⟨a0, hr.choose, rfl, hr.choose_spec⟩) (xX9_byPick_0 H)

def kX9_bestOf : List xm_I := [
  i_0 0 (.iload_n 2) 1 none,
  i_j 1 (.ifCond .ne 9) 3 none 6,
  i_0 4 (.aload_n 0) 1 none,
  i_0 5 (.iload_n 1) 1 none,
  i_m 6 (.invokevirtual 294) 3 none 1 9 [1297, 1299, 67, 117, 1300] 0 sX9_shareNow,
  i_0 9 (.ireturn) 1 none,
  i_0 10 (.aload_n 0) 1 none,
  i_0 11 (.iload_n 1) 1 none,
  i_0 12 (.iload_n 2) 1 none,
  i_v 13 (.iconst 1) 1 none 1 [],
  i_0 14 (.isub) 1 none,
  i_0 15 (.iload_n 3) 1 none,
  i_j 16 (.ifCond .ne 7) 3 none 15,
  i_v 19 (.iconst 1) 1 none 1 [],
  i_j 20 (.goto 4) 3 none 16,
  i_v 23 (.iconst 0) 1 none 0 [],
  i_m 24 (.invokevirtual 378) 3 none 3 9 [1449, 1451, 90, 117, 1452] 0 sX9_bestOf,
  i_0 27 (.istore 4) 2 none,
  i_v 29 (.iconst 0) 1 none 0 [],
  i_0 30 (.istore 5) 2 none,
  i_0 32 (.iload 5) 2 (some [true, true, true, true, true, true, false]),
  i_0 34 (.aload_n 0) 1 none,
  i_f 35 (.getfield 125) 3 none 9 1 [926] 0,
  i_j 38 (.if_icmp .ge 45) 3 none 44,
  i_0 41 (.aload_n 0) 1 none,
  i_0 42 (.iload_n 1) 1 none,
  i_0 43 (.iload 5) 2 none,
  i_0 45 (.iload_n 2) 1 none,
  i_0 46 (.iload_n 3) 1 none,
  i_m 47 (.invokevirtual 382) 3 none 4 9 [1453, 1455, 91, 117, 1456] 0 sX9_byPick,
  i_0 50 (.istore 6) 2 none,
  i_0 52 (.iload_n 3) 1 none,
  i_j 53 (.ifCond .eq 13) 3 none 37,
  i_0 56 (.iload 6) 2 none,
  i_0 58 (.iload 4) 2 none,
  i_j 60 (.if_icmp .le 17) 3 none 42,
  i_j 63 (.goto 10) 3 none 40,
  i_0 66 (.iload 6) 2 none,
  i_0 68 (.iload 4) 2 none,
  i_j 70 (.if_icmp .ge 7) 3 none 42,
  i_0 73 (.iload 6) 2 none,
  i_0 75 (.istore 4) 2 none,
  i_v 77 (.iinc 5 1) 3 none 1 [],
  i_j 80 (.goto (-48)) 3 none 20,
  i_0 83 (.iload 4) 2 none,
  i_0 85 (.ireturn) 1 none]
set_option maxRecDepth 100000 in
theorem oX9_bestOf : xm_ok sX9_bestOf sX9_bestOf.1.cls kX9_bestOf = true := by decide +kernel
set_option maxRecDepth 100000 in
set_option maxHeartbeats 4000000 in
theorem xX9_bestOf_0 {K : Nat} {h : xm_H} {P : Option Value → xm_H → Prop} {a0 : Nat} {x1 : Int32} {x2 : Int32} {x3 : Int32} (H :
    (if x2 = 0 then
      xm_Call K sX9_shareNow 9 [.ref a0, .int x1] h (xm_pi fun c2 h1 =>
        P (some (.int c2)) h1)
    else
      (if x3 = 0 then
        xm_Call K sX9_bestOf 9 [.ref a0, .int x1, .int (x2 - (1 : Int32)), .int (1 : Int32)] h (xm_pi fun c4 h3 =>
          xm_L K sX9_bestOf kX9_bestOf 20 [some (.ref a0), some (.int x1), some (.int x2), some (.int x3), some (.int c4), some (.int (0 : Int32)), none] [] h3 P)
      else
        xm_Call K sX9_bestOf 9 [.ref a0, .int x1, .int (x2 - (1 : Int32)), .int (0 : Int32)] h (xm_pi fun c6 h5 =>
          xm_L K sX9_bestOf kX9_bestOf 20 [some (.ref a0), some (.int x1), some (.int x2), some (.int x3), some (.int c6), some (.int (0 : Int32)), none] [] h5 P)))) :
    xm_L K sX9_bestOf kX9_bestOf 0 [some (.ref a0), some (.int x1), some (.int x2), some (.int x3), none, none, none] [] h P :=
  xm_run (fun _ _ h => h) oX9_bestOf 16 0 0 0 [some (.ref a0), some (.int x1), some (.int x2), some (.int x3), none, none, none] [] h H
set_option maxRecDepth 100000 in
theorem eX9_bestOf {K K' : Nat} (hK : K < K') {h : xm_H} {P : Option Value → xm_H → Prop} {a0 : Nat} {x1 : Int32} {x2 : Int32} {x3 : Int32} (hr : ∃ fs, h[a0]? = some (.inr (9, fs))) (H :
    (if x2 = 0 then
      xm_Call K sX9_shareNow 9 [.ref a0, .int x1] h (xm_pi fun c2 h1 =>
        P (some (.int c2)) h1)
    else
      (if x3 = 0 then
        xm_Call K sX9_bestOf 9 [.ref a0, .int x1, .int (x2 - (1 : Int32)), .int (1 : Int32)] h (xm_pi fun c4 h3 =>
          xm_L K sX9_bestOf kX9_bestOf 20 [some (.ref a0), some (.int x1), some (.int x2), some (.int x3), some (.int c4), some (.int (0 : Int32)), none] [] h3 P)
      else
        xm_Call K sX9_bestOf 9 [.ref a0, .int x1, .int (x2 - (1 : Int32)), .int (0 : Int32)] h (xm_pi fun c6 h5 =>
          xm_L K sX9_bestOf kX9_bestOf 20 [some (.ref a0), some (.int x1), some (.int x2), some (.int x3), some (.int c6), some (.int (0 : Int32)), none] [] h5 P)))) :
    xm_Call K' sX9_bestOf 9 [.ref a0, .int x1, .int x2, .int x3] h P :=
  xm_call_of (C := kX9_bestOf) hK (by decide +kernel) rfl (Nat.le_of_ble_eq_true rfl) (Or.inr ⟨a0, hr.choose, rfl, hr.choose_spec⟩) (xX9_bestOf_0 H)

set_option maxRecDepth 100000 in
set_option maxHeartbeats 4000000 in
theorem xX9_bestOf_20 {K : Nat} {h : xm_H} {P : Option Value → xm_H → Prop} {a0 : Nat} {x1 : Int32} {x2 : Int32} {x3 : Int32} {x4 : Int32} {x5 : Int32} (H :
    ∃ f1, xm_fld h a0 9 1 = some (.int f1) ∧ /- many -/
    (if x5 < f1 then
      xm_Call K sX9_byPick 9 [.ref a0, .int x1, .int x5, .int x2, .int x3] h (xm_pi fun c3 h2 =>
        (if x3 = 0 then
          (if c3 < x4 then
            xm_L K sX9_bestOf kX9_bestOf 20 [some (.ref a0), some (.int x1), some (.int x2), some (.int x3), some (.int c3), some (.int (x5 + (1 : Int32))), none] [] h2 P
          else
            xm_L K sX9_bestOf kX9_bestOf 20 [some (.ref a0), some (.int x1), some (.int x2), some (.int x3), some (.int x4), some (.int (x5 + (1 : Int32))), none] [] h2 P)
        else
          (if x4 < c3 then
            xm_L K sX9_bestOf kX9_bestOf 20 [some (.ref a0), some (.int x1), some (.int x2), some (.int x3), some (.int c3), some (.int (x5 + (1 : Int32))), none] [] h2 P
          else
            xm_L K sX9_bestOf kX9_bestOf 20 [some (.ref a0), some (.int x1), some (.int x2), some (.int x3), some (.int x4), some (.int (x5 + (1 : Int32))), none] [] h2 P)))
    else
      P (some (.int x4)) h)) :
    xm_L K sX9_bestOf kX9_bestOf 20 [some (.ref a0), some (.int x1), some (.int x2), some (.int x3), some (.int x4), some (.int x5), none] [] h P :=
  xm_run (fun _ _ h => h) oX9_bestOf 22 20 0 0 [some (.ref a0), some (.int x1), some (.int x2), some (.int x3), some (.int x4), some (.int x5), none] [] h H

def kX9_byTurns : List xm_I := [
  i_0 0 (.aload_n 0) 1 none,
  i_0 1 (.iload_n 1) 1 none,
  i_m 2 (.invokevirtual 156) 3 none 1 9 [1141, 1143, 37, 117, 1144] 0 sX9_isOne,
  i_j 5 (.ifCond .eq 21) 3 none 14,
  i_0 8 (.iload_n 2) 1 none,
  i_v 9 (.iconst 1) 1 none 1 [],
  i_v 10 (.iconst 3) 1 none 3 [],
  i_m 11 (.invokestatic 128) 3 none 3 99 [1106, 1107, 117, 1108] 0 sX9_in,
  i_j 14 (.ifCond .eq 12) 3 none 14,
  i_0 17 (.iload_n 3) 1 none,
  i_v 18 (.iconst 0) 1 none 0 [],
  i_v 19 (.iconst 1) 1 none 1 [],
  i_m 20 (.invokestatic 128) 3 none 3 99 [1106, 1107, 117, 1108] 0 sX9_in,
  i_j 23 (.ifCond .ne 5) 3 none 16,
  i_v 26 (.iconst (-1)) 1 none (-1) [],
  i_0 27 (.ireturn) 1 none,
  i_0 28 (.aload_n 0) 1 none,
  i_m 29 (.invokevirtual 267) 3 none 0 9 [1227, 1229, 53, 117, 1230] 0 sX9_layNow,
  i_0 32 (.aload_n 0) 1 none,
  i_0 33 (.iload_n 1) 1 none,
  i_0 34 (.iload_n 2) 1 none,
  i_v 35 (.iconst 1) 1 none 1 [],
  i_m 36 (.invokevirtual 378) 3 none 3 9 [1449, 1451, 90, 117, 1452] 0 sX9_bestOf,
  i_0 39 (.istore 4) 2 none,
  i_0 41 (.iload_n 3) 1 none,
  i_j 42 (.ifCond .ne 6) 3 none 28,
  i_0 45 (.iload 4) 2 none,
  i_0 47 (.ireturn) 1 none,
  i_0 48 (.aload_n 0) 1 none,
  i_0 49 (.iload_n 1) 1 none,
  i_0 50 (.iload_n 2) 1 none,
  i_v 51 (.iconst 1) 1 none 1 [],
  i_0 52 (.isub) 1 none,
  i_v 53 (.iconst 0) 1 none 0 [],
  i_m 54 (.invokevirtual 378) 3 none 3 9 [1449, 1451, 90, 117, 1452] 0 sX9_bestOf,
  i_0 57 (.iload 4) 2 none,
  i_j 59 (.if_icmp .ne 6) 3 none 39,
  i_v 62 (.bipush 8) 2 none 8 [],
  i_0 64 (.ireturn) 1 none,
  i_v 65 (.iconst 0) 1 none 0 [],
  i_0 66 (.istore 5) 2 none,
  i_0 68 (.iload 5) 2 (some [true, true, true, false, true, true]),
  i_0 70 (.aload_n 0) 1 none,
  i_f 71 (.getfield 125) 3 none 9 1 [926] 0,
  i_j 74 (.if_icmp .ge 26) 3 none 57,
  i_0 77 (.aload_n 0) 1 none,
  i_0 78 (.iload_n 1) 1 none,
  i_0 79 (.iload 5) 2 none,
  i_0 81 (.iload_n 2) 1 none,
  i_v 82 (.iconst 1) 1 none 1 [],
  i_m 83 (.invokevirtual 382) 3 none 4 9 [1453, 1455, 91, 117, 1456] 0 sX9_byPick,
  i_0 86 (.iload 4) 2 none,
  i_j 88 (.if_icmp .ne 6) 3 none 55,
  i_0 91 (.iload 5) 2 none,
  i_0 93 (.ireturn) 1 none,
  i_v 94 (.iinc 5 1) 3 none 1 [],
  i_j 97 (.goto (-29)) 3 none 41,
  i_v 100 (.bipush 8) 2 none 8 [],
  i_0 102 (.ireturn) 1 none]
set_option maxRecDepth 100000 in
theorem oX9_byTurns : xm_ok sX9_byTurns sX9_byTurns.1.cls kX9_byTurns = true := by decide +kernel
set_option maxRecDepth 100000 in
set_option maxHeartbeats 4000000 in
theorem xX9_byTurns_0 {K : Nat} {h : xm_H} {P : Option Value → xm_H → Prop} {a0 : Nat} {x1 : Int32} {x2 : Int32} {x3 : Int32} (H :
    xm_Call K sX9_isOne 9 [.ref a0, .int x1] h (xm_pi fun c2 h1 =>
      (if c2 = 0 then
        P (some (.int (-1 : Int32))) h1
      else
        xm_Call K sX9_in 99 [.int x2, .int (1 : Int32), .int (3 : Int32)] h1 (xm_pi fun c4 h3 =>
          (if c4 = 0 then
            P (some (.int (-1 : Int32))) h3
          else
            xm_Call K sX9_in 99 [.int x3, .int (0 : Int32), .int (1 : Int32)] h3 (xm_pi fun c6 h5 =>
              (if c6 = 0 then
                P (some (.int (-1 : Int32))) h5
              else
                xm_Call K sX9_layNow 9 [.ref a0] h5 (xm_pv fun h7 =>
                  xm_Call K sX9_bestOf 9 [.ref a0, .int x1, .int x2, .int (1 : Int32)] h7 (xm_pi fun c9 h8 =>
                    (if x3 = 0 then
                      P (some (.int c9)) h8
                    else
                      xm_Call K sX9_bestOf 9 [.ref a0, .int x1, .int (x2 - (1 : Int32)), .int (0 : Int32)] h8 (xm_pi fun c11 h10 =>
                        (if c11 = c9 then
                          P (some (.int (8 : Int32))) h10
                        else
                          xm_L K sX9_byTurns kX9_byTurns 41 [some (.ref a0), some (.int x1), some (.int x2), none, some (.int c9), some (.int (0 : Int32))] [] h10 P)))))))))))) :
    xm_L K sX9_byTurns kX9_byTurns 0 [some (.ref a0), some (.int x1), some (.int x2), some (.int x3), none, none] [] h P :=
  xm_run (fun _ _ h => h) oX9_byTurns 36 0 0 0 [some (.ref a0), some (.int x1), some (.int x2), some (.int x3), none, none] [] h H
set_option maxRecDepth 100000 in
theorem eX9_byTurns {K K' : Nat} (hK : K < K') {h : xm_H} {P : Option Value → xm_H → Prop} {a0 : Nat} {x1 : Int32} {x2 : Int32} {x3 : Int32} (hr : ∃ fs, h[a0]? = some (.inr (9, fs))) (H :
    xm_Call K sX9_isOne 9 [.ref a0, .int x1] h (xm_pi fun c2 h1 =>
      (if c2 = 0 then
        P (some (.int (-1 : Int32))) h1
      else
        xm_Call K sX9_in 99 [.int x2, .int (1 : Int32), .int (3 : Int32)] h1 (xm_pi fun c4 h3 =>
          (if c4 = 0 then
            P (some (.int (-1 : Int32))) h3
          else
            xm_Call K sX9_in 99 [.int x3, .int (0 : Int32), .int (1 : Int32)] h3 (xm_pi fun c6 h5 =>
              (if c6 = 0 then
                P (some (.int (-1 : Int32))) h5
              else
                xm_Call K sX9_layNow 9 [.ref a0] h5 (xm_pv fun h7 =>
                  xm_Call K sX9_bestOf 9 [.ref a0, .int x1, .int x2, .int (1 : Int32)] h7 (xm_pi fun c9 h8 =>
                    (if x3 = 0 then
                      P (some (.int c9)) h8
                    else
                      xm_Call K sX9_bestOf 9 [.ref a0, .int x1, .int (x2 - (1 : Int32)), .int (0 : Int32)] h8 (xm_pi fun c11 h10 =>
                        (if c11 = c9 then
                          P (some (.int (8 : Int32))) h10
                        else
                          xm_L K sX9_byTurns kX9_byTurns 41 [some (.ref a0), some (.int x1), some (.int x2), none, some (.int c9), some (.int (0 : Int32))] [] h10 P)))))))))))) :
    xm_Call K' sX9_byTurns 9 [.ref a0, .int x1, .int x2, .int x3] h P :=
  xm_call_of (C := kX9_byTurns) hK (by decide +kernel) rfl (Nat.le_of_ble_eq_true rfl) (Or.inr ⟨a0, hr.choose, rfl, hr.choose_spec⟩) (xX9_byTurns_0 H)

set_option maxRecDepth 100000 in
set_option maxHeartbeats 4000000 in
theorem xX9_byTurns_41 {K : Nat} {h : xm_H} {P : Option Value → xm_H → Prop} {a0 : Nat} {x1 : Int32} {x2 : Int32} {x4 : Int32} {x5 : Int32} (H :
    ∃ f1, xm_fld h a0 9 1 = some (.int f1) ∧ /- many -/
    (if x5 < f1 then
      xm_Call K sX9_byPick 9 [.ref a0, .int x1, .int x5, .int x2, .int (1 : Int32)] h (xm_pi fun c3 h2 =>
        (if c3 = x4 then
          P (some (.int x5)) h2
        else
          xm_L K sX9_byTurns kX9_byTurns 41 [some (.ref a0), some (.int x1), some (.int x2), none, some (.int x4), some (.int (x5 + (1 : Int32)))] [] h2 P))
    else
      P (some (.int (8 : Int32))) h)) :
    xm_L K sX9_byTurns kX9_byTurns 41 [some (.ref a0), some (.int x1), some (.int x2), none, some (.int x4), some (.int x5)] [] h P :=
  xm_run (fun _ _ h => h) oX9_byTurns 15 41 0 0 [some (.ref a0), some (.int x1), some (.int x2), none, some (.int x4), some (.int x5)] [] h H

def kX9_drawn : List xm_I := [
  i_0 0 (.iload_n 2) 1 none,
  i_v 1 (.bipush 100) 2 none 100 [],
  i_0 3 (.idiv) 1 none,
  i_v 4 (.bipush 100) 2 none 100 [],
  i_0 6 (.irem) 1 none,
  i_0 7 (.istore 4) 2 none,
  i_0 9 (.iload_n 2) 1 none,
  i_j 10 (.ifCond .lt 50) 3 none 32,
  i_0 13 (.iload_n 2) 1 none,
  i_v 14 (.sipush 10000) 3 none 10000 [],
  i_0 17 (.idiv) 1 none,
  i_v 18 (.iconst 1) 1 none 1 [],
  i_v 19 (.bipush 30) 2 none 30 [],
  i_m 21 (.invokestatic 128) 3 none 3 99 [1106, 1107, 117, 1108] 0 sX9_in,
  i_j 24 (.ifCond .eq 36) 3 none 32,
  i_0 27 (.iload 4) 2 none,
  i_v 29 (.iconst 1) 1 none 1 [],
  i_v 30 (.bipush 40) 2 none 40 [],
  i_m 32 (.invokestatic 128) 3 none 3 99 [1106, 1107, 117, 1108] 0 sX9_in,
  i_j 35 (.ifCond .eq 25) 3 none 32,
  i_0 38 (.iload_n 2) 1 none,
  i_v 39 (.bipush 100) 2 none 100 [],
  i_0 41 (.irem) 1 none,
  i_v 42 (.bipush 12) 2 none 12 [],
  i_j 44 (.if_icmp .gt 16) 3 none 32,
  i_0 47 (.iload_n 3) 1 none,
  i_v 48 (.iconst (-1)) 1 none (-1) [],
  i_j 49 (.if_icmp .eq 13) 3 none 34,
  i_0 52 (.aload_n 0) 1 none,
  i_0 53 (.iload_n 3) 1 none,
  i_m 54 (.invokevirtual 156) 3 none 1 9 [1141, 1143, 37, 117, 1144] 0 sX9_isOne,
  i_j 57 (.ifCond .ne 5) 3 none 34,
  i_v 60 (.iconst (-1)) 1 none (-1) [],
  i_0 61 (.ireturn) 1 none,
  i_0 62 (.iload_n 1) 1 none,
  i_0 63 (.istore 5) 2 none,
  i_v 65 (.iconst 0) 1 none 0 [],
  i_0 66 (.istore 6) 2 none,
  i_v 68 (.iconst 0) 1 none 0 [],
  i_0 69 (.istore 7) 2 none,
  i_0 71 (.iload 7) 2 (some [true, false, true, true, true, true, true, true, false]),
  i_0 73 (.iload_n 2) 1 none,
  i_v 74 (.sipush 10000) 3 none 10000 [],
  i_0 77 (.idiv) 1 none,
  i_j 78 (.if_icmp .ge 128) 3 none 112,
  i_0 81 (.aload_n 0) 1 none,
  i_m 82 (.invokevirtual 267) 3 none 0 9 [1227, 1229, 53, 117, 1230] 0 sX9_layNow,
  i_0 85 (.aload_n 0) 1 none,
  i_v 86 (.iconst 0) 1 none 0 [],
  i_f 87 (.putfield 329) 3 none 9 42 [967] 0,
  i_v 90 (.iconst 0) 1 none 0 [],
  i_0 91 (.istore 8) 2 none,
  i_0 93 (.iload 8) 2 (some [true, false, true, true, true, true, true, true, true]),
  i_0 95 (.iload 4) 2 none,
  i_j 97 (.if_icmp .ge 81) 3 none 98,
  i_0 100 (.iload 5) 2 none,
  i_v 102 (.ldc_w 386) 3 none 1103515245 [1461],
  i_0 105 (.imul) 1 none,
  i_v 106 (.sipush 12345) 3 none 12345 [],
  i_0 109 (.iadd) 1 none,
  i_0 110 (.istore 5) 2 none,
  i_0 112 (.aload_n 0) 1 none,
  i_0 113 (.iload 5) 2 none,
  i_v 115 (.bipush 8) 2 none 8 [],
  i_0 117 (.iushr) 1 none,
  i_v 118 (.bipush 100) 2 none 100 [],
  i_0 120 (.irem) 1 none,
  i_f 121 (.putfield 243) 3 none 9 36 [961] 0,
  i_0 124 (.aload_n 0) 1 none,
  i_f 125 (.getfield 125) 3 none 9 1 [926] 0,
  i_j 128 (.ifCond .le 40) 3 none 94,
  i_0 131 (.iload 5) 2 none,
  i_v 133 (.bipush 24) 2 none 24 [],
  i_0 135 (.iushr) 1 none,
  i_v 136 (.bipush 12) 2 none 12 [],
  i_0 138 (.irem) 1 none,
  i_0 139 (.iload_n 2) 1 none,
  i_v 140 (.bipush 100) 2 none 100 [],
  i_0 142 (.irem) 1 none,
  i_j 143 (.if_icmp .ge 25) 3 none 94,
  i_0 146 (.aload_n 0) 1 none,
  i_f 147 (.getfield 75) 3 none 9 31 [956] 1,
  i_0 150 (.iload 5) 2 none,
  i_v 152 (.bipush 16) 2 none 16 [],
  i_0 154 (.iushr) 1 none,
  i_0 155 (.aload_n 0) 1 none,
  i_f 156 (.getfield 125) 3 none 9 1 [926] 0,
  i_0 159 (.irem) 1 none,
  i_0 160 (.iload 5) 2 none,
  i_v 162 (.bipush 20) 2 none 20 [],
  i_0 164 (.iushr) 1 none,
  i_v 165 (.iconst 4) 1 none 4 [],
  i_0 166 (.irem) 1 none,
  i_0 167 (.iastore) 1 none,
  i_0 168 (.aload_n 0) 1 none,
  i_m 169 (.invokevirtual 335) 3 none 0 9 [1373, 1375, 77, 117, 1376] 0 sX9_goYear,
  i_v 172 (.iinc 8 1) 3 none 1 [],
  i_j 175 (.goto (-82)) 3 none 52,
  i_0 178 (.iload 6) 2 none,
  i_0 180 (.iload_n 3) 1 none,
  i_j 181 (.ifCond .ge 10) 3 none 104,
  i_0 184 (.aload_n 0) 1 none,
  i_f 185 (.getfield 329) 3 none 9 42 [967] 0,
  i_j 188 (.goto 9) 3 none 108,
  i_0 191 (.aload_n 0) 1 none,
  i_f 192 (.getfield 81) 3 none 9 33 [958] 1,
  i_0 195 (.iload_n 3) 1 none,
  i_0 196 (.iaload) 1 none,
  i_0 197 (.iadd) 1 none,
  i_0 198 (.istore 6) 2 none,
  i_v 200 (.iinc 7 1) 3 none 1 [],
  i_j 203 (.goto (-132)) 3 none 40,
  i_0 206 (.iload 6) 2 none,
  i_0 208 (.ireturn) 1 none]
set_option maxRecDepth 100000 in
theorem oX9_drawn : xm_ok sX9_drawn sX9_drawn.1.cls kX9_drawn = true := by decide +kernel
set_option maxRecDepth 100000 in
set_option maxHeartbeats 4000000 in
theorem xX9_drawn_0 {K : Nat} {h : xm_H} {P : Option Value → xm_H → Prop} {a0 : Nat} {x1 : Int32} {x2 : Int32} {x3 : Int32} (H :
    ¬ (100 : Int32) = 0 ∧
    ¬ (100 : Int32) = 0 ∧
    (if x2 < 0 then
      P (some (.int (-1 : Int32))) h
    else
      ¬ (10000 : Int32) = 0 ∧
      xm_Call K sX9_in 99 [.int (x2 / (10000 : Int32)), .int (1 : Int32), .int (30 : Int32)] h (xm_pi fun c2 h1 =>
        (if c2 = 0 then
          P (some (.int (-1 : Int32))) h1
        else
          xm_Call K sX9_in 99 [.int ((x2 / (100 : Int32)) - (x2 / (100 : Int32)) / (100 : Int32) * (100 : Int32)), .int (1 : Int32), .int (40 : Int32)] h1 (xm_pi fun c4 h3 =>
            (if c4 = 0 then
              P (some (.int (-1 : Int32))) h3
            else
              ¬ (100 : Int32) = 0 ∧
              (if (12 : Int32) < (x2 - x2 / (100 : Int32) * (100 : Int32)) then
                P (some (.int (-1 : Int32))) h3
              else
                (if x3 = (-1 : Int32) then
                  xm_L K sX9_drawn kX9_drawn 40 [some (.ref a0), none, some (.int x2), some (.int x3), some (.int ((x2 / (100 : Int32)) - (x2 / (100 : Int32)) / (100 : Int32) * (100 : Int32))), some (.int x1), some (.int (0 : Int32)), some (.int (0 : Int32)), none] [] h3 P
                else
                  xm_Call K sX9_isOne 9 [.ref a0, .int x3] h3 (xm_pi fun c6 h5 =>
                    (if c6 = 0 then
                      P (some (.int (-1 : Int32))) h5
                    else
                      xm_L K sX9_drawn kX9_drawn 40 [some (.ref a0), none, some (.int x2), some (.int x3), some (.int ((x2 / (100 : Int32)) - (x2 / (100 : Int32)) / (100 : Int32) * (100 : Int32))), some (.int x1), some (.int (0 : Int32)), some (.int (0 : Int32)), none] [] h5 P)))))))))) :
    xm_L K sX9_drawn kX9_drawn 0 [some (.ref a0), some (.int x1), some (.int x2), some (.int x3), none, none, none, none, none] [] h P :=
  xm_run (fun _ _ h => h) oX9_drawn 39 0 0 0 [some (.ref a0), some (.int x1), some (.int x2), some (.int x3), none, none, none, none, none] [] h H
set_option maxRecDepth 100000 in
theorem eX9_drawn {K K' : Nat} (hK : K < K') {h : xm_H} {P : Option Value → xm_H → Prop} {a0 : Nat} {x1 : Int32} {x2 : Int32} {x3 : Int32} (hr : ∃ fs, h[a0]? = some (.inr (9, fs))) (H :
    ¬ (100 : Int32) = 0 ∧
    ¬ (100 : Int32) = 0 ∧
    (if x2 < 0 then
      P (some (.int (-1 : Int32))) h
    else
      ¬ (10000 : Int32) = 0 ∧
      xm_Call K sX9_in 99 [.int (x2 / (10000 : Int32)), .int (1 : Int32), .int (30 : Int32)] h (xm_pi fun c2 h1 =>
        (if c2 = 0 then
          P (some (.int (-1 : Int32))) h1
        else
          xm_Call K sX9_in 99 [.int ((x2 / (100 : Int32)) - (x2 / (100 : Int32)) / (100 : Int32) * (100 : Int32)), .int (1 : Int32), .int (40 : Int32)] h1 (xm_pi fun c4 h3 =>
            (if c4 = 0 then
              P (some (.int (-1 : Int32))) h3
            else
              ¬ (100 : Int32) = 0 ∧
              (if (12 : Int32) < (x2 - x2 / (100 : Int32) * (100 : Int32)) then
                P (some (.int (-1 : Int32))) h3
              else
                (if x3 = (-1 : Int32) then
                  xm_L K sX9_drawn kX9_drawn 40 [some (.ref a0), none, some (.int x2), some (.int x3), some (.int ((x2 / (100 : Int32)) - (x2 / (100 : Int32)) / (100 : Int32) * (100 : Int32))), some (.int x1), some (.int (0 : Int32)), some (.int (0 : Int32)), none] [] h3 P
                else
                  xm_Call K sX9_isOne 9 [.ref a0, .int x3] h3 (xm_pi fun c6 h5 =>
                    (if c6 = 0 then
                      P (some (.int (-1 : Int32))) h5
                    else
                      xm_L K sX9_drawn kX9_drawn 40 [some (.ref a0), none, some (.int x2), some (.int x3), some (.int ((x2 / (100 : Int32)) - (x2 / (100 : Int32)) / (100 : Int32) * (100 : Int32))), some (.int x1), some (.int (0 : Int32)), some (.int (0 : Int32)), none] [] h5 P)))))))))) :
    xm_Call K' sX9_drawn 9 [.ref a0, .int x1, .int x2, .int x3] h P :=
  xm_call_of (C := kX9_drawn) hK (by decide +kernel) rfl (Nat.le_of_ble_eq_true rfl) (Or.inr ⟨a0, hr.choose, rfl, hr.choose_spec⟩) (xX9_drawn_0 H)

set_option maxRecDepth 100000 in
set_option maxHeartbeats 4000000 in
theorem xX9_drawn_40 {K : Nat} {h : xm_H} {P : Option Value → xm_H → Prop} {a0 : Nat} {x2 : Int32} {x3 : Int32} {x4 : Int32} {x5 : Int32} {x6 : Int32} {x7 : Int32} (H :
    ¬ (10000 : Int32) = 0 ∧
    (if x7 < (x2 / (10000 : Int32)) then
      xm_Call K sX9_layNow 9 [.ref a0] h (xm_pv fun h1 =>
        ∃ h2, xm_put h1 a0 9 42 (.int (0 : Int32)) = some h2 ∧ /- paid1 -/
        xm_L K sX9_drawn kX9_drawn 52 [some (.ref a0), none, some (.int x2), some (.int x3), some (.int x4), some (.int x5), some (.int x6), some (.int x7), some (.int (0 : Int32))] [] h2 P)
    else
      P (some (.int x6)) h)) :
    xm_L K sX9_drawn kX9_drawn 40 [some (.ref a0), none, some (.int x2), some (.int x3), some (.int x4), some (.int x5), some (.int x6), some (.int x7), none] [] h P :=
  xm_run (fun _ _ h => h) oX9_drawn 13 40 0 0 [some (.ref a0), none, some (.int x2), some (.int x3), some (.int x4), some (.int x5), some (.int x6), some (.int x7), none] [] h H

set_option maxRecDepth 100000 in
set_option maxHeartbeats 4000000 in
theorem xX9_drawn_52 {K : Nat} {h : xm_H} {P : Option Value → xm_H → Prop} {a0 : Nat} {x2 : Int32} {x3 : Int32} {x4 : Int32} {x5 : Int32} {x6 : Int32} {x7 : Int32} {x8 : Int32} (H :
    (if x8 < x4 then
      ¬ (100 : Int32) = 0 ∧
      ∃ h1, xm_put h a0 9 36 (.int ((((Int32.toUInt32 ((x5 * (1103515245 : Int32)) + (12345 : Int32))) >>> ((Int32.toUInt32 (8 : Int32)) &&& Int32.toUInt32 31)).toInt32) - (((Int32.toUInt32 ((x5 * (1103515245 : Int32)) + (12345 : Int32))) >>> ((Int32.toUInt32 (8 : Int32)) &&& Int32.toUInt32 31)).toInt32) / (100 : Int32) * (100 : Int32))) = some h1 ∧ /- snow1 -/
      ∃ f2, xm_fld h1 a0 9 1 = some (.int f2) ∧ /- many -/
      (if 0 < f2 then
        ¬ (12 : Int32) = 0 ∧
        ¬ (100 : Int32) = 0 ∧
        (if ((((Int32.toUInt32 ((x5 * (1103515245 : Int32)) + (12345 : Int32))) >>> ((Int32.toUInt32 (24 : Int32)) &&& Int32.toUInt32 31)).toInt32) - (((Int32.toUInt32 ((x5 * (1103515245 : Int32)) + (12345 : Int32))) >>> ((Int32.toUInt32 (24 : Int32)) &&& Int32.toUInt32 31)).toInt32) / (12 : Int32) * (12 : Int32)) < (x2 - x2 / (100 : Int32) * (100 : Int32)) then
          ∃ q3, xm_fld h1 a0 9 31 = some (.ref q3) ∧ /- habit1 -/
          ∃ f4, xm_fld h1 a0 9 1 = some (.int f4) ∧ /- many -/
          ¬ f4 = 0 ∧
          ¬ (4 : Int32) = 0 ∧
          ∃ h5, xm_sto h1 0 q3 ((((Int32.toUInt32 ((x5 * (1103515245 : Int32)) + (12345 : Int32))) >>> ((Int32.toUInt32 (16 : Int32)) &&& Int32.toUInt32 31)).toInt32) - (((Int32.toUInt32 ((x5 * (1103515245 : Int32)) + (12345 : Int32))) >>> ((Int32.toUInt32 (16 : Int32)) &&& Int32.toUInt32 31)).toInt32) / f4 * f4) ((((Int32.toUInt32 ((x5 * (1103515245 : Int32)) + (12345 : Int32))) >>> ((Int32.toUInt32 (20 : Int32)) &&& Int32.toUInt32 31)).toInt32) - (((Int32.toUInt32 ((x5 * (1103515245 : Int32)) + (12345 : Int32))) >>> ((Int32.toUInt32 (20 : Int32)) &&& Int32.toUInt32 31)).toInt32) / (4 : Int32) * (4 : Int32)) = some h5 ∧
          xm_Call K sX9_goYear 9 [.ref a0] h5 (xm_pv fun h6 =>
            xm_L K sX9_drawn kX9_drawn 52 [some (.ref a0), none, some (.int x2), some (.int x3), some (.int x4), some (.int ((x5 * (1103515245 : Int32)) + (12345 : Int32))), some (.int x6), some (.int x7), some (.int (x8 + (1 : Int32)))] [] h6 P)
        else
          xm_Call K sX9_goYear 9 [.ref a0] h1 (xm_pv fun h7 =>
            xm_L K sX9_drawn kX9_drawn 52 [some (.ref a0), none, some (.int x2), some (.int x3), some (.int x4), some (.int ((x5 * (1103515245 : Int32)) + (12345 : Int32))), some (.int x6), some (.int x7), some (.int (x8 + (1 : Int32)))] [] h7 P))
      else
        xm_Call K sX9_goYear 9 [.ref a0] h1 (xm_pv fun h8 =>
          xm_L K sX9_drawn kX9_drawn 52 [some (.ref a0), none, some (.int x2), some (.int x3), some (.int x4), some (.int ((x5 * (1103515245 : Int32)) + (12345 : Int32))), some (.int x6), some (.int x7), some (.int (x8 + (1 : Int32)))] [] h8 P))
    else
      (if x3 < 0 then
        ∃ f9, xm_fld h a0 9 42 = some (.int f9) ∧ /- paid1 -/
        xm_L K sX9_drawn kX9_drawn 40 [some (.ref a0), none, some (.int x2), some (.int x3), some (.int x4), some (.int x5), some (.int (x6 + f9)), some (.int (x7 + (1 : Int32))), none] [] h P
      else
        ∃ q10, xm_fld h a0 9 33 = some (.ref q10) ∧ /- purse1 -/
        ∃ e11, xm_ld xm_st h 0 q10 x3 = some e11 ∧
        xm_L K sX9_drawn kX9_drawn 40 [some (.ref a0), none, some (.int x2), some (.int x3), some (.int x4), some (.int x5), some (.int (x6 + e11)), some (.int (x7 + (1 : Int32))), none] [] h P))) :
    xm_L K sX9_drawn kX9_drawn 52 [some (.ref a0), none, some (.int x2), some (.int x3), some (.int x4), some (.int x5), some (.int x6), some (.int x7), some (.int x8)] [] h P :=
  xm_run (fun _ _ h => h) oX9_drawn 47 52 0 0 [some (.ref a0), none, some (.int x2), some (.int x3), some (.int x4), some (.int x5), some (.int x6), some (.int x7), some (.int x8)] [] h H

def kX9_takes : List xm_I := [
  i_0 0 (.aload_n 0) 1 none,
  i_0 1 (.iload_n 1) 1 none,
  i_m 2 (.invokevirtual 156) 3 none 1 9 [1141, 1143, 37, 117, 1144] 0 sX9_isOne,
  i_j 5 (.ifCond .eq 12) 3 none 9,
  i_0 8 (.iload_n 2) 1 none,
  i_v 9 (.iconst 0) 1 none 0 [],
  i_v 10 (.iconst 3) 1 none 3 [],
  i_m 11 (.invokestatic 128) 3 none 3 99 [1106, 1107, 117, 1108] 0 sX9_in,
  i_j 14 (.ifCond .ne 5) 3 none 11,
  i_v 17 (.iconst (-1)) 1 none (-1) [],
  i_0 18 (.ireturn) 1 none,
  i_0 19 (.aload_n 0) 1 none,
  i_f 20 (.getfield 19) 3 none 9 5 [930] 1,
  i_0 23 (.iload_n 1) 1 none,
  i_0 24 (.iaload) 1 none,
  i_0 25 (.istore_n 3) 1 none,
  i_0 26 (.aload_n 0) 1 none,
  i_f 27 (.getfield 19) 3 none 9 5 [930] 1,
  i_0 30 (.iload_n 1) 1 none,
  i_0 31 (.iload_n 2) 1 none,
  i_0 32 (.iastore) 1 none,
  i_0 33 (.aload_n 0) 1 none,
  i_f 34 (.getfield 93) 3 none 9 44 [969] 1,
  i_v 37 (.iconst 0) 1 none 0 [],
  i_0 38 (.dup2) 1 none,
  i_0 39 (.iaload) 1 none,
  i_v 40 (.iconst 1) 1 none 1 [],
  i_0 41 (.iadd) 1 none,
  i_0 42 (.iastore) 1 none,
  i_0 43 (.iload_n 3) 1 none,
  i_0 44 (.ireturn) 1 none]
set_option maxRecDepth 100000 in
theorem oX9_takes : xm_ok sX9_takes sX9_takes.1.cls kX9_takes = true := by decide +kernel
set_option maxRecDepth 100000 in
set_option maxHeartbeats 4000000 in
theorem xX9_takes_0 {K : Nat} {h : xm_H} {P : Option Value → xm_H → Prop} {a0 : Nat} {x1 : Int32} {x2 : Int32} (H :
    xm_Call K sX9_isOne 9 [.ref a0, .int x1] h (xm_pi fun c2 h1 =>
      (if c2 = 0 then
        P (some (.int (-1 : Int32))) h1
      else
        xm_Call K sX9_in 99 [.int x2, .int (0 : Int32), .int (3 : Int32)] h1 (xm_pi fun c4 h3 =>
          (if c4 = 0 then
            P (some (.int (-1 : Int32))) h3
          else
            ∃ q5, xm_fld h3 a0 9 5 = some (.ref q5) ∧ /- habitOf -/
            ∃ e6, xm_ld xm_st h3 0 q5 x1 = some e6 ∧
            ∃ q7, xm_fld h3 a0 9 5 = some (.ref q7) ∧ /- habitOf -/
            ∃ h8, xm_sto h3 0 q7 x1 x2 = some h8 ∧
            ∃ q9, xm_fld h8 a0 9 44 = some (.ref q9) ∧ /- ledOf -/
            ∃ e10, xm_ld xm_st h8 0 q9 (0 : Int32) = some e10 ∧
            ∃ h11, xm_sto h8 0 q9 (0 : Int32) (e10 + (1 : Int32)) = some h11 ∧
            P (some (.int e6)) h11))))) :
    xm_L K sX9_takes kX9_takes 0 [some (.ref a0), some (.int x1), some (.int x2), none] [] h P :=
  xm_run (fun _ _ h => h) oX9_takes 30 0 0 0 [some (.ref a0), some (.int x1), some (.int x2), none] [] h H
set_option maxRecDepth 100000 in
theorem eX9_takes {K K' : Nat} (hK : K < K') {h : xm_H} {P : Option Value → xm_H → Prop} {a0 : Nat} {x1 : Int32} {x2 : Int32} (hr : ∃ fs, h[a0]? = some (.inr (9, fs))) (H :
    xm_Call K sX9_isOne 9 [.ref a0, .int x1] h (xm_pi fun c2 h1 =>
      (if c2 = 0 then
        P (some (.int (-1 : Int32))) h1
      else
        xm_Call K sX9_in 99 [.int x2, .int (0 : Int32), .int (3 : Int32)] h1 (xm_pi fun c4 h3 =>
          (if c4 = 0 then
            P (some (.int (-1 : Int32))) h3
          else
            ∃ q5, xm_fld h3 a0 9 5 = some (.ref q5) ∧ /- habitOf -/
            ∃ e6, xm_ld xm_st h3 0 q5 x1 = some e6 ∧
            ∃ q7, xm_fld h3 a0 9 5 = some (.ref q7) ∧ /- habitOf -/
            ∃ h8, xm_sto h3 0 q7 x1 x2 = some h8 ∧
            ∃ q9, xm_fld h8 a0 9 44 = some (.ref q9) ∧ /- ledOf -/
            ∃ e10, xm_ld xm_st h8 0 q9 (0 : Int32) = some e10 ∧
            ∃ h11, xm_sto h8 0 q9 (0 : Int32) (e10 + (1 : Int32)) = some h11 ∧
            P (some (.int e6)) h11))))) :
    xm_Call K' sX9_takes 9 [.ref a0, .int x1, .int x2] h P :=
  xm_call_of (C := kX9_takes) hK (by decide +kernel) rfl (Nat.le_of_ble_eq_true rfl) (Or.inr ⟨a0, hr.choose, rfl, hr.choose_spec⟩) (xX9_takes_0 H)

def kX9_hears : List xm_I := [
  i_0 0 (.aload_n 0) 1 none,
  i_0 1 (.iload_n 1) 1 none,
  i_m 2 (.invokevirtual 156) 3 none 1 9 [1141, 1143, 37, 117, 1144] 0 sX9_isOne,
  i_j 5 (.ifCond .eq 12) 3 none 9,
  i_0 8 (.iload_n 2) 1 none,
  i_v 9 (.iconst 0) 1 none 0 [],
  i_v 10 (.iconst 1) 1 none 1 [],
  i_m 11 (.invokestatic 128) 3 none 3 99 [1106, 1107, 117, 1108] 0 sX9_in,
  i_j 14 (.ifCond .ne 5) 3 none 11,
  i_v 17 (.iconst (-1)) 1 none (-1) [],
  i_0 18 (.ireturn) 1 none,
  i_0 19 (.aload_n 0) 1 none,
  i_f 20 (.getfield 25) 3 none 9 7 [932] 1,
  i_0 23 (.iload_n 1) 1 none,
  i_0 24 (.iaload) 1 none,
  i_0 25 (.istore_n 3) 1 none,
  i_0 26 (.aload_n 0) 1 none,
  i_f 27 (.getfield 25) 3 none 9 7 [932] 1,
  i_0 30 (.iload_n 1) 1 none,
  i_0 31 (.iload_n 2) 1 none,
  i_0 32 (.iastore) 1 none,
  i_0 33 (.aload_n 0) 1 none,
  i_f 34 (.getfield 93) 3 none 9 44 [969] 1,
  i_v 37 (.iconst 1) 1 none 1 [],
  i_0 38 (.dup2) 1 none,
  i_0 39 (.iaload) 1 none,
  i_0 40 (.iload_n 2) 1 none,
  i_0 41 (.iadd) 1 none,
  i_0 42 (.iastore) 1 none,
  i_0 43 (.iload_n 3) 1 none,
  i_0 44 (.ireturn) 1 none]
set_option maxRecDepth 100000 in
theorem oX9_hears : xm_ok sX9_hears sX9_hears.1.cls kX9_hears = true := by decide +kernel
set_option maxRecDepth 100000 in
set_option maxHeartbeats 4000000 in
theorem xX9_hears_0 {K : Nat} {h : xm_H} {P : Option Value → xm_H → Prop} {a0 : Nat} {x1 : Int32} {x2 : Int32} (H :
    xm_Call K sX9_isOne 9 [.ref a0, .int x1] h (xm_pi fun c2 h1 =>
      (if c2 = 0 then
        P (some (.int (-1 : Int32))) h1
      else
        xm_Call K sX9_in 99 [.int x2, .int (0 : Int32), .int (1 : Int32)] h1 (xm_pi fun c4 h3 =>
          (if c4 = 0 then
            P (some (.int (-1 : Int32))) h3
          else
            ∃ q5, xm_fld h3 a0 9 7 = some (.ref q5) ∧ /- heardOf -/
            ∃ e6, xm_ld xm_st h3 0 q5 x1 = some e6 ∧
            ∃ q7, xm_fld h3 a0 9 7 = some (.ref q7) ∧ /- heardOf -/
            ∃ h8, xm_sto h3 0 q7 x1 x2 = some h8 ∧
            ∃ q9, xm_fld h8 a0 9 44 = some (.ref q9) ∧ /- ledOf -/
            ∃ e10, xm_ld xm_st h8 0 q9 (1 : Int32) = some e10 ∧
            ∃ h11, xm_sto h8 0 q9 (1 : Int32) (e10 + x2) = some h11 ∧
            P (some (.int e6)) h11))))) :
    xm_L K sX9_hears kX9_hears 0 [some (.ref a0), some (.int x1), some (.int x2), none] [] h P :=
  xm_run (fun _ _ h => h) oX9_hears 30 0 0 0 [some (.ref a0), some (.int x1), some (.int x2), none] [] h H
set_option maxRecDepth 100000 in
theorem eX9_hears {K K' : Nat} (hK : K < K') {h : xm_H} {P : Option Value → xm_H → Prop} {a0 : Nat} {x1 : Int32} {x2 : Int32} (hr : ∃ fs, h[a0]? = some (.inr (9, fs))) (H :
    xm_Call K sX9_isOne 9 [.ref a0, .int x1] h (xm_pi fun c2 h1 =>
      (if c2 = 0 then
        P (some (.int (-1 : Int32))) h1
      else
        xm_Call K sX9_in 99 [.int x2, .int (0 : Int32), .int (1 : Int32)] h1 (xm_pi fun c4 h3 =>
          (if c4 = 0 then
            P (some (.int (-1 : Int32))) h3
          else
            ∃ q5, xm_fld h3 a0 9 7 = some (.ref q5) ∧ /- heardOf -/
            ∃ e6, xm_ld xm_st h3 0 q5 x1 = some e6 ∧
            ∃ q7, xm_fld h3 a0 9 7 = some (.ref q7) ∧ /- heardOf -/
            ∃ h8, xm_sto h3 0 q7 x1 x2 = some h8 ∧
            ∃ q9, xm_fld h8 a0 9 44 = some (.ref q9) ∧ /- ledOf -/
            ∃ e10, xm_ld xm_st h8 0 q9 (1 : Int32) = some e10 ∧
            ∃ h11, xm_sto h8 0 q9 (1 : Int32) (e10 + x2) = some h11 ∧
            P (some (.int e6)) h11))))) :
    xm_Call K' sX9_hears 9 [.ref a0, .int x1, .int x2] h P :=
  xm_call_of (C := kX9_hears) hK (by decide +kernel) rfl (Nat.le_of_ble_eq_true rfl) (Or.inr ⟨a0, hr.choose, rfl, hr.choose_spec⟩) (xX9_hears_0 H)

def kX9_year : List xm_I := [
  i_0 0 (.aload_n 0) 1 none,
  i_m 1 (.invokevirtual 267) 3 none 0 9 [1227, 1229, 53, 117, 1230] 0 sX9_layNow,
  i_0 4 (.aload_n 0) 1 none,
  i_v 5 (.iconst 1) 1 none 1 [],
  i_m 6 (.invokevirtual 338) 3 none 1 9 [1369, 1371, 76, 117, 1372] 0 sX9_goYears,
  i_v 9 (.iconst 0) 1 none 0 [],
  i_0 10 (.istore_n 1) 1 none,
  i_0 11 (.iload_n 1) 1 (some [true, true]),
  i_0 12 (.aload_n 0) 1 none,
  i_f 13 (.getfield 125) 3 none 9 1 [926] 0,
  i_j 16 (.if_icmp .ge 33) 3 none 29,
  i_0 19 (.aload_n 0) 1 none,
  i_f 20 (.getfield 13) 3 none 9 3 [928] 1,
  i_0 23 (.iload_n 1) 1 none,
  i_0 24 (.aload_n 0) 1 none,
  i_f 25 (.getfield 81) 3 none 9 33 [958] 1,
  i_0 28 (.iload_n 1) 1 none,
  i_0 29 (.iaload) 1 none,
  i_0 30 (.iastore) 1 none,
  i_0 31 (.aload_n 0) 1 none,
  i_f 32 (.getfield 16) 3 none 9 4 [929] 1,
  i_0 35 (.iload_n 1) 1 none,
  i_0 36 (.aload_n 0) 1 none,
  i_f 37 (.getfield 84) 3 none 9 34 [959] 1,
  i_0 40 (.iload_n 1) 1 none,
  i_0 41 (.iaload) 1 none,
  i_0 42 (.iastore) 1 none,
  i_v 43 (.iinc 1 1) 3 none 1 [],
  i_j 46 (.goto (-35)) 3 none 7,
  i_0 49 (.aload_n 0) 1 none,
  i_f 50 (.getfield 34) 3 none 9 10 [935] 1,
  i_v 53 (.iconst 0) 1 none 0 [],
  i_0 54 (.aload_n 0) 1 none,
  i_f 55 (.getfield 240) 3 none 9 37 [962] 0,
  i_0 58 (.iastore) 1 none,
  i_0 59 (.aload_n 0) 1 none,
  i_f 60 (.getfield 93) 3 none 9 44 [969] 1,
  i_v 63 (.iconst 2) 1 none 2 [],
  i_0 64 (.dup2) 1 none,
  i_0 65 (.iaload) 1 none,
  i_v 66 (.iconst 1) 1 none 1 [],
  i_0 67 (.iadd) 1 none,
  i_0 68 (.iastore) 1 none,
  i_0 69 (.aload_n 0) 1 none,
  i_f 70 (.getfield 93) 3 none 9 44 [969] 1,
  i_v 73 (.iconst 3) 1 none 3 [],
  i_0 74 (.dup2) 1 none,
  i_0 75 (.iaload) 1 none,
  i_0 76 (.aload_n 0) 1 none,
  i_f 77 (.getfield 329) 3 none 9 42 [967] 0,
  i_0 80 (.iadd) 1 none,
  i_0 81 (.iastore) 1 none,
  i_0 82 (.aload_n 0) 1 none,
  i_f 83 (.getfield 93) 3 none 9 44 [969] 1,
  i_v 86 (.iconst 4) 1 none 4 [],
  i_0 87 (.dup2) 1 none,
  i_0 88 (.iaload) 1 none,
  i_0 89 (.aload_n 0) 1 none,
  i_f 90 (.getfield 332) 3 none 9 43 [968] 0,
  i_0 93 (.iadd) 1 none,
  i_0 94 (.iastore) 1 none,
  i_0 95 (.aload_n 0) 1 none,
  i_f 96 (.getfield 329) 3 none 9 42 [967] 0,
  i_0 99 (.ireturn) 1 none]
set_option maxRecDepth 100000 in
theorem oX9_year : xm_ok sX9_year sX9_year.1.cls kX9_year = true := by decide +kernel
set_option maxRecDepth 100000 in
set_option maxHeartbeats 4000000 in
theorem xX9_year_0 {K : Nat} {h : xm_H} {P : Option Value → xm_H → Prop} {a0 : Nat} (H :
    xm_Call K sX9_layNow 9 [.ref a0] h (xm_pv fun h1 =>
      xm_Call K sX9_goYears 9 [.ref a0, .int (1 : Int32)] h1 (xm_pv fun h2 =>
        xm_L K sX9_year kX9_year 7 [some (.ref a0), some (.int (0 : Int32))] [] h2 P))) :
    xm_L K sX9_year kX9_year 0 [some (.ref a0), none] [] h P :=
  xm_run (fun _ _ h => h) oX9_year 8 0 0 0 [some (.ref a0), none] [] h H
set_option maxRecDepth 100000 in
theorem eX9_year {K K' : Nat} (hK : K < K') {h : xm_H} {P : Option Value → xm_H → Prop} {a0 : Nat} (hr : ∃ fs, h[a0]? = some (.inr (9, fs))) (H :
    xm_Call K sX9_layNow 9 [.ref a0] h (xm_pv fun h1 =>
      xm_Call K sX9_goYears 9 [.ref a0, .int (1 : Int32)] h1 (xm_pv fun h2 =>
        xm_L K sX9_year kX9_year 7 [some (.ref a0), some (.int (0 : Int32))] [] h2 P))) :
    xm_Call K' sX9_year 9 [.ref a0] h P :=
  xm_call_of (C := kX9_year) hK (by decide +kernel) rfl (Nat.le_of_ble_eq_true rfl) (Or.inr ⟨a0, hr.choose, rfl, hr.choose_spec⟩) (xX9_year_0 H)

set_option maxRecDepth 100000 in
set_option maxHeartbeats 4000000 in
theorem xX9_year_7 {K : Nat} {h : xm_H} {P : Option Value → xm_H → Prop} {a0 : Nat} {x1 : Int32} (H :
    ∃ f1, xm_fld h a0 9 1 = some (.int f1) ∧ /- many -/
    (if x1 < f1 then
      ∃ q2, xm_fld h a0 9 3 = some (.ref q2) ∧ /- purseOf -/
      ∃ q3, xm_fld h a0 9 33 = some (.ref q3) ∧ /- purse1 -/
      ∃ e4, xm_ld xm_st h 0 q3 x1 = some e4 ∧
      ∃ h5, xm_sto h 0 q2 x1 e4 = some h5 ∧
      ∃ q6, xm_fld h5 a0 9 4 = some (.ref q6) ∧ /- ageOf -/
      ∃ q7, xm_fld h5 a0 9 34 = some (.ref q7) ∧ /- age1 -/
      ∃ e8, xm_ld xm_st h5 0 q7 x1 = some e8 ∧
      ∃ h9, xm_sto h5 0 q6 x1 e8 = some h9 ∧
      xm_L K sX9_year kX9_year 7 [some (.ref a0), some (.int (x1 + (1 : Int32)))] [] h9 P
    else
      ∃ q10, xm_fld h a0 9 10 = some (.ref q10) ∧ /- pass -/
      ∃ f11, xm_fld h a0 9 37 = some (.int f11) ∧ /- year1 -/
      ∃ h12, xm_sto h 0 q10 (0 : Int32) f11 = some h12 ∧
      ∃ q13, xm_fld h12 a0 9 44 = some (.ref q13) ∧ /- ledOf -/
      ∃ e14, xm_ld xm_st h12 0 q13 (2 : Int32) = some e14 ∧
      ∃ h15, xm_sto h12 0 q13 (2 : Int32) (e14 + (1 : Int32)) = some h15 ∧
      ∃ q16, xm_fld h15 a0 9 44 = some (.ref q16) ∧ /- ledOf -/
      ∃ e17, xm_ld xm_st h15 0 q16 (3 : Int32) = some e17 ∧
      ∃ f18, xm_fld h15 a0 9 42 = some (.int f18) ∧ /- paid1 -/
      ∃ h19, xm_sto h15 0 q16 (3 : Int32) (e17 + f18) = some h19 ∧
      ∃ q20, xm_fld h19 a0 9 44 = some (.ref q20) ∧ /- ledOf -/
      ∃ e21, xm_ld xm_st h19 0 q20 (4 : Int32) = some e21 ∧
      ∃ f22, xm_fld h19 a0 9 43 = some (.int f22) ∧ /- lacking1 -/
      ∃ h23, xm_sto h19 0 q20 (4 : Int32) (e21 + f22) = some h23 ∧
      ∃ f24, xm_fld h23 a0 9 42 = some (.int f24) ∧ /- paid1 -/
      P (some (.int f24)) h23)) :
    xm_L K sX9_year kX9_year 7 [some (.ref a0), some (.int x1)] [] h P :=
  xm_run (fun _ _ h => h) oX9_year 40 7 0 0 [some (.ref a0), some (.int x1)] [] h H

def kX9_gives : List xm_I := [
  i_0 0 (.aload_n 0) 1 none,
  i_0 1 (.iload_n 1) 1 none,
  i_m 2 (.invokevirtual 156) 3 none 1 9 [1141, 1143, 37, 117, 1144] 0 sX9_isOne,
  i_j 5 (.ifCond .eq 27) 3 none 16,
  i_0 8 (.aload_n 0) 1 none,
  i_0 9 (.iload_n 2) 1 none,
  i_m 10 (.invokevirtual 156) 3 none 1 9 [1141, 1143, 37, 117, 1144] 0 sX9_isOne,
  i_j 13 (.ifCond .eq 19) 3 none 16,
  i_0 16 (.iload_n 1) 1 none,
  i_0 17 (.iload_n 2) 1 none,
  i_j 18 (.if_icmp .eq 14) 3 none 16,
  i_0 21 (.iload_n 3) 1 none,
  i_v 22 (.iconst 1) 1 none 1 [],
  i_v 23 (.sipush 9999) 3 none 9999 [],
  i_m 26 (.invokestatic 128) 3 none 3 99 [1106, 1107, 117, 1108] 0 sX9_in,
  i_j 29 (.ifCond .ne 5) 3 none 18,
  i_v 32 (.iconst (-1)) 1 none (-1) [],
  i_0 33 (.ireturn) 1 none,
  i_0 34 (.aload_n 0) 1 none,
  i_f 35 (.getfield 13) 3 none 9 3 [928] 1,
  i_0 38 (.iload_n 1) 1 none,
  i_0 39 (.iaload) 1 none,
  i_0 40 (.iload_n 3) 1 none,
  i_j 41 (.if_icmp .lt 17) 3 none 32,
  i_0 44 (.aload_n 0) 1 none,
  i_f 45 (.getfield 13) 3 none 9 3 [928] 1,
  i_0 48 (.iload_n 2) 1 none,
  i_0 49 (.iaload) 1 none,
  i_0 50 (.iload_n 3) 1 none,
  i_0 51 (.iadd) 1 none,
  i_v 52 (.sipush 9999) 3 none 9999 [],
  i_j 55 (.if_icmp .le 6) 3 none 34,
  i_v 58 (.bipush (-5)) 2 none (-5) [],
  i_0 60 (.ireturn) 1 none,
  i_0 61 (.aload_n 0) 1 none,
  i_f 62 (.getfield 13) 3 none 9 3 [928] 1,
  i_0 65 (.iload_n 1) 1 none,
  i_0 66 (.dup2) 1 none,
  i_0 67 (.iaload) 1 none,
  i_0 68 (.iload_n 3) 1 none,
  i_0 69 (.isub) 1 none,
  i_0 70 (.iastore) 1 none,
  i_0 71 (.aload_n 0) 1 none,
  i_f 72 (.getfield 13) 3 none 9 3 [928] 1,
  i_0 75 (.iload_n 2) 1 none,
  i_0 76 (.dup2) 1 none,
  i_0 77 (.iaload) 1 none,
  i_0 78 (.iload_n 3) 1 none,
  i_0 79 (.iadd) 1 none,
  i_0 80 (.iastore) 1 none,
  i_0 81 (.aload_n 0) 1 none,
  i_f 82 (.getfield 93) 3 none 9 44 [969] 1,
  i_v 85 (.iconst 5) 1 none 5 [],
  i_0 86 (.dup2) 1 none,
  i_0 87 (.iaload) 1 none,
  i_0 88 (.iload_n 3) 1 none,
  i_0 89 (.iadd) 1 none,
  i_0 90 (.iastore) 1 none,
  i_0 91 (.aload_n 0) 1 none,
  i_f 92 (.getfield 13) 3 none 9 3 [928] 1,
  i_0 95 (.iload_n 1) 1 none,
  i_0 96 (.iaload) 1 none,
  i_0 97 (.ireturn) 1 none]
set_option maxRecDepth 100000 in
theorem oX9_gives : xm_ok sX9_gives sX9_gives.1.cls kX9_gives = true := by decide +kernel
set_option maxRecDepth 100000 in
set_option maxHeartbeats 4000000 in
theorem xX9_gives_0 {K : Nat} {h : xm_H} {P : Option Value → xm_H → Prop} {a0 : Nat} {x1 : Int32} {x2 : Int32} {x3 : Int32} (H :
    xm_Call K sX9_isOne 9 [.ref a0, .int x1] h (xm_pi fun c2 h1 =>
      (if c2 = 0 then
        P (some (.int (-1 : Int32))) h1
      else
        xm_Call K sX9_isOne 9 [.ref a0, .int x2] h1 (xm_pi fun c4 h3 =>
          (if c4 = 0 then
            P (some (.int (-1 : Int32))) h3
          else
            (if x1 = x2 then
              P (some (.int (-1 : Int32))) h3
            else
              xm_Call K sX9_in 99 [.int x3, .int (1 : Int32), .int (9999 : Int32)] h3 (xm_pi fun c6 h5 =>
                (if c6 = 0 then
                  P (some (.int (-1 : Int32))) h5
                else
                  ∃ q7, xm_fld h5 a0 9 3 = some (.ref q7) ∧ /- purseOf -/
                  ∃ e8, xm_ld xm_st h5 0 q7 x1 = some e8 ∧
                  (if e8 < x3 then
                    P (some (.int (-5 : Int32))) h5
                  else
                    ∃ q9, xm_fld h5 a0 9 3 = some (.ref q9) ∧ /- purseOf -/
                    ∃ e10, xm_ld xm_st h5 0 q9 x2 = some e10 ∧
                    (if (9999 : Int32) < (e10 + x3) then
                      P (some (.int (-5 : Int32))) h5
                    else
                      ∃ q11, xm_fld h5 a0 9 3 = some (.ref q11) ∧ /- purseOf -/
                      ∃ e12, xm_ld xm_st h5 0 q11 x1 = some e12 ∧
                      ∃ h13, xm_sto h5 0 q11 x1 (e12 - x3) = some h13 ∧
                      ∃ q14, xm_fld h13 a0 9 3 = some (.ref q14) ∧ /- purseOf -/
                      ∃ e15, xm_ld xm_st h13 0 q14 x2 = some e15 ∧
                      ∃ h16, xm_sto h13 0 q14 x2 (e15 + x3) = some h16 ∧
                      ∃ q17, xm_fld h16 a0 9 44 = some (.ref q17) ∧ /- ledOf -/
                      ∃ e18, xm_ld xm_st h16 0 q17 (5 : Int32) = some e18 ∧
                      ∃ h19, xm_sto h16 0 q17 (5 : Int32) (e18 + x3) = some h19 ∧
                      ∃ q20, xm_fld h19 a0 9 3 = some (.ref q20) ∧ /- purseOf -/
                      ∃ e21, xm_ld xm_st h19 0 q20 x1 = some e21 ∧
                      P (some (.int e21)) h19)))))))))) :
    xm_L K sX9_gives kX9_gives 0 [some (.ref a0), some (.int x1), some (.int x2), some (.int x3)] [] h P :=
  xm_run (fun _ _ h => h) oX9_gives 60 0 0 0 [some (.ref a0), some (.int x1), some (.int x2), some (.int x3)] [] h H
set_option maxRecDepth 100000 in
theorem eX9_gives {K K' : Nat} (hK : K < K') {h : xm_H} {P : Option Value → xm_H → Prop} {a0 : Nat} {x1 : Int32} {x2 : Int32} {x3 : Int32} (hr : ∃ fs, h[a0]? = some (.inr (9, fs))) (H :
    xm_Call K sX9_isOne 9 [.ref a0, .int x1] h (xm_pi fun c2 h1 =>
      (if c2 = 0 then
        P (some (.int (-1 : Int32))) h1
      else
        xm_Call K sX9_isOne 9 [.ref a0, .int x2] h1 (xm_pi fun c4 h3 =>
          (if c4 = 0 then
            P (some (.int (-1 : Int32))) h3
          else
            (if x1 = x2 then
              P (some (.int (-1 : Int32))) h3
            else
              xm_Call K sX9_in 99 [.int x3, .int (1 : Int32), .int (9999 : Int32)] h3 (xm_pi fun c6 h5 =>
                (if c6 = 0 then
                  P (some (.int (-1 : Int32))) h5
                else
                  ∃ q7, xm_fld h5 a0 9 3 = some (.ref q7) ∧ /- purseOf -/
                  ∃ e8, xm_ld xm_st h5 0 q7 x1 = some e8 ∧
                  (if e8 < x3 then
                    P (some (.int (-5 : Int32))) h5
                  else
                    ∃ q9, xm_fld h5 a0 9 3 = some (.ref q9) ∧ /- purseOf -/
                    ∃ e10, xm_ld xm_st h5 0 q9 x2 = some e10 ∧
                    (if (9999 : Int32) < (e10 + x3) then
                      P (some (.int (-5 : Int32))) h5
                    else
                      ∃ q11, xm_fld h5 a0 9 3 = some (.ref q11) ∧ /- purseOf -/
                      ∃ e12, xm_ld xm_st h5 0 q11 x1 = some e12 ∧
                      ∃ h13, xm_sto h5 0 q11 x1 (e12 - x3) = some h13 ∧
                      ∃ q14, xm_fld h13 a0 9 3 = some (.ref q14) ∧ /- purseOf -/
                      ∃ e15, xm_ld xm_st h13 0 q14 x2 = some e15 ∧
                      ∃ h16, xm_sto h13 0 q14 x2 (e15 + x3) = some h16 ∧
                      ∃ q17, xm_fld h16 a0 9 44 = some (.ref q17) ∧ /- ledOf -/
                      ∃ e18, xm_ld xm_st h16 0 q17 (5 : Int32) = some e18 ∧
                      ∃ h19, xm_sto h16 0 q17 (5 : Int32) (e18 + x3) = some h19 ∧
                      ∃ q20, xm_fld h19 a0 9 3 = some (.ref q20) ∧ /- purseOf -/
                      ∃ e21, xm_ld xm_st h19 0 q20 x1 = some e21 ∧
                      P (some (.int e21)) h19)))))))))) :
    xm_Call K' sX9_gives 9 [.ref a0, .int x1, .int x2, .int x3] h P :=
  xm_call_of (C := kX9_gives) hK (by decide +kernel) rfl (Nat.le_of_ble_eq_true rfl) (Or.inr ⟨a0, hr.choose, rfl, hr.choose_spec⟩) (xX9_gives_0 H)

def kX9_led : List xm_I := [
  i_0 0 (.iload_n 1) 1 none,
  i_v 1 (.iconst 0) 1 none 0 [],
  i_v 2 (.iconst 5) 1 none 5 [],
  i_m 3 (.invokestatic 128) 3 none 3 99 [1106, 1107, 117, 1108] 0 sX9_in,
  i_j 6 (.ifCond .eq 12) 3 none 10,
  i_0 9 (.aload_n 0) 1 none,
  i_f 10 (.getfield 93) 3 none 9 44 [969] 1,
  i_0 13 (.iload_n 1) 1 none,
  i_0 14 (.iaload) 1 none,
  i_j 15 (.goto 4) 3 none 11,
  i_v 18 (.iconst (-1)) 1 none (-1) [],
  i_0 19 (.ireturn) 1 none]
set_option maxRecDepth 100000 in
theorem oX9_led : xm_ok sX9_led sX9_led.1.cls kX9_led = true := by decide +kernel
set_option maxRecDepth 100000 in
set_option maxHeartbeats 4000000 in
theorem xX9_led_0 {K : Nat} {h : xm_H} {P : Option Value → xm_H → Prop} {a0 : Nat} {x1 : Int32} (H :
    xm_Call K sX9_in 99 [.int x1, .int (0 : Int32), .int (5 : Int32)] h (xm_pi fun c2 h1 =>
      (if c2 = 0 then
        P (some (.int (-1 : Int32))) h1
      else
        ∃ q3, xm_fld h1 a0 9 44 = some (.ref q3) ∧ /- ledOf -/
        ∃ e4, xm_ld xm_st h1 0 q3 x1 = some e4 ∧
        P (some (.int e4)) h1))) :
    xm_L K sX9_led kX9_led 0 [some (.ref a0), some (.int x1)] [] h P :=
  xm_run (fun _ _ h => h) oX9_led 12 0 0 0 [some (.ref a0), some (.int x1)] [] h H
set_option maxRecDepth 100000 in
theorem eX9_led {K K' : Nat} (hK : K < K') {h : xm_H} {P : Option Value → xm_H → Prop} {a0 : Nat} {x1 : Int32} (hr : ∃ fs, h[a0]? = some (.inr (9, fs))) (H :
    xm_Call K sX9_in 99 [.int x1, .int (0 : Int32), .int (5 : Int32)] h (xm_pi fun c2 h1 =>
      (if c2 = 0 then
        P (some (.int (-1 : Int32))) h1
      else
        ∃ q3, xm_fld h1 a0 9 44 = some (.ref q3) ∧ /- ledOf -/
        ∃ e4, xm_ld xm_st h1 0 q3 x1 = some e4 ∧
        P (some (.int e4)) h1))) :
    xm_Call K' sX9_led 9 [.ref a0, .int x1] h P :=
  xm_call_of (C := kX9_led) hK (by decide +kernel) rfl (Nat.le_of_ble_eq_true rfl) (Or.inr ⟨a0, hr.choose, rfl, hr.choose_spec⟩) (xX9_led_0 H)

def kX9_image : List xm_I := [
  i_0 0 (.aload_n 0) 1 none,
  i_v 1 (.iconst 1) 1 none 1 [],
  i_f 2 (.putfield 387) 3 none 9 45 [970] 2,
  i_0 5 (.aload_n 0) 1 none,
  i_0 6 (.aload_n 0) 1 none,
  i_f 7 (.getfield 125) 3 none 9 1 [926] 0,
  i_f 10 (.putfield 390) 3 none 9 46 [971] 0,
  i_0 13 (.aload_n 0) 1 none,
  i_0 14 (.aload_n 0) 1 none,
  i_f 15 (.getfield 34) 3 none 9 10 [935] 1,
  i_v 18 (.iconst 0) 1 none 0 [],
  i_0 19 (.iaload) 1 none,
  i_f 20 (.putfield 393) 3 none 9 47 [972] 0,
  i_v 23 (.iconst 0) 1 none 0 [],
  i_0 24 (.istore_n 1) 1 none,
  i_0 25 (.iload_n 1) 1 (some [true, true]),
  i_0 26 (.aload_n 0) 1 none,
  i_f 27 (.getfield 125) 3 none 9 1 [926] 0,
  i_j 30 (.if_icmp .ge 71) 3 none 67,
  i_0 33 (.aload_n 0) 1 none,
  i_f 34 (.getfield 96) 3 none 9 48 [973] 1,
  i_v 37 (.iconst 4) 1 none 4 [],
  i_0 38 (.iload_n 1) 1 none,
  i_0 39 (.imul) 1 none,
  i_0 40 (.aload_n 0) 1 none,
  i_f 41 (.getfield 13) 3 none 9 3 [928] 1,
  i_0 44 (.iload_n 1) 1 none,
  i_0 45 (.iaload) 1 none,
  i_0 46 (.iastore) 1 none,
  i_0 47 (.aload_n 0) 1 none,
  i_f 48 (.getfield 96) 3 none 9 48 [973] 1,
  i_v 51 (.iconst 4) 1 none 4 [],
  i_0 52 (.iload_n 1) 1 none,
  i_0 53 (.imul) 1 none,
  i_v 54 (.iconst 1) 1 none 1 [],
  i_0 55 (.iadd) 1 none,
  i_0 56 (.aload_n 0) 1 none,
  i_f 57 (.getfield 16) 3 none 9 4 [929] 1,
  i_0 60 (.iload_n 1) 1 none,
  i_0 61 (.iaload) 1 none,
  i_0 62 (.iastore) 1 none,
  i_0 63 (.aload_n 0) 1 none,
  i_f 64 (.getfield 96) 3 none 9 48 [973] 1,
  i_v 67 (.iconst 4) 1 none 4 [],
  i_0 68 (.iload_n 1) 1 none,
  i_0 69 (.imul) 1 none,
  i_v 70 (.iconst 2) 1 none 2 [],
  i_0 71 (.iadd) 1 none,
  i_0 72 (.aload_n 0) 1 none,
  i_f 73 (.getfield 19) 3 none 9 5 [930] 1,
  i_0 76 (.iload_n 1) 1 none,
  i_0 77 (.iaload) 1 none,
  i_0 78 (.iastore) 1 none,
  i_0 79 (.aload_n 0) 1 none,
  i_f 80 (.getfield 96) 3 none 9 48 [973] 1,
  i_v 83 (.iconst 4) 1 none 4 [],
  i_0 84 (.iload_n 1) 1 none,
  i_0 85 (.imul) 1 none,
  i_v 86 (.iconst 3) 1 none 3 [],
  i_0 87 (.iadd) 1 none,
  i_0 88 (.aload_n 0) 1 none,
  i_f 89 (.getfield 25) 3 none 9 7 [932] 1,
  i_0 92 (.iload_n 1) 1 none,
  i_0 93 (.iaload) 1 none,
  i_0 94 (.iastore) 1 none,
  i_v 95 (.iinc 1 1) 3 none 1 [],
  i_j 98 (.goto (-73)) 3 none 15,
  i_v 101 (.iconst 0) 1 none 0 [],
  i_0 102 (.istore_n 1) 1 none,
  i_0 103 (.iload_n 1) 1 (some [true, true]),
  i_v 104 (.bipush 6) 2 none 6 [],
  i_j 106 (.if_icmp .ge 21) 3 none 82,
  i_0 109 (.aload_n 0) 1 none,
  i_f 110 (.getfield 99) 3 none 9 49 [974] 1,
  i_0 113 (.iload_n 1) 1 none,
  i_0 114 (.aload_n 0) 1 none,
  i_f 115 (.getfield 93) 3 none 9 44 [969] 1,
  i_0 118 (.iload_n 1) 1 none,
  i_0 119 (.iaload) 1 none,
  i_0 120 (.iastore) 1 none,
  i_v 121 (.iinc 1 1) 3 none 1 [],
  i_j 124 (.goto (-21)) 3 none 69,
  i_0 127 (.aload_n 0) 1 none,
  i_f 128 (.getfield 93) 3 none 9 44 [969] 1,
  i_v 131 (.iconst 2) 1 none 2 [],
  i_0 132 (.iaload) 1 none,
  i_0 133 (.ireturn) 1 none]
set_option maxRecDepth 100000 in
theorem oX9_image : xm_ok sX9_image sX9_image.1.cls kX9_image = true := by decide +kernel
set_option maxRecDepth 100000 in
set_option maxHeartbeats 4000000 in
theorem xX9_image_0 {K : Nat} {h : xm_H} {P : Option Value → xm_H → Prop} {a0 : Nat} (H :
    ∃ h1, xm_put h a0 9 45 (.int (1 : Int32)) = some h1 ∧ /- hasImage -/
    ∃ f2, xm_fld h1 a0 9 1 = some (.int f2) ∧ /- many -/
    ∃ h3, xm_put h1 a0 9 46 (.int f2) = some h3 ∧ /- keptMany -/
    ∃ q4, xm_fld h3 a0 9 10 = some (.ref q4) ∧ /- pass -/
    ∃ e5, xm_ld xm_st h3 0 q4 (0 : Int32) = some e5 ∧
    ∃ h6, xm_put h3 a0 9 47 (.int e5) = some h6 ∧ /- keptYear -/
    xm_L K sX9_image kX9_image 15 [some (.ref a0), some (.int (0 : Int32))] [] h6 P) :
    xm_L K sX9_image kX9_image 0 [some (.ref a0), none] [] h P :=
  xm_run (fun _ _ h => h) oX9_image 16 0 0 0 [some (.ref a0), none] [] h H
set_option maxRecDepth 100000 in
theorem eX9_image {K K' : Nat} (hK : K < K') {h : xm_H} {P : Option Value → xm_H → Prop} {a0 : Nat} (hr : ∃ fs, h[a0]? = some (.inr (9, fs))) (H :
    ∃ h1, xm_put h a0 9 45 (.int (1 : Int32)) = some h1 ∧ /- hasImage -/
    ∃ f2, xm_fld h1 a0 9 1 = some (.int f2) ∧ /- many -/
    ∃ h3, xm_put h1 a0 9 46 (.int f2) = some h3 ∧ /- keptMany -/
    ∃ q4, xm_fld h3 a0 9 10 = some (.ref q4) ∧ /- pass -/
    ∃ e5, xm_ld xm_st h3 0 q4 (0 : Int32) = some e5 ∧
    ∃ h6, xm_put h3 a0 9 47 (.int e5) = some h6 ∧ /- keptYear -/
    xm_L K sX9_image kX9_image 15 [some (.ref a0), some (.int (0 : Int32))] [] h6 P) :
    xm_Call K' sX9_image 9 [.ref a0] h P :=
  xm_call_of (C := kX9_image) hK (by decide +kernel) rfl (Nat.le_of_ble_eq_true rfl) (Or.inr ⟨a0, hr.choose, rfl, hr.choose_spec⟩) (xX9_image_0 H)

set_option maxRecDepth 100000 in
set_option maxHeartbeats 4000000 in
theorem xX9_image_15 {K : Nat} {h : xm_H} {P : Option Value → xm_H → Prop} {a0 : Nat} {x1 : Int32} (H :
    ∃ f1, xm_fld h a0 9 1 = some (.int f1) ∧ /- many -/
    (if x1 < f1 then
      ∃ q2, xm_fld h a0 9 48 = some (.ref q2) ∧ /- keptOnes -/
      ∃ q3, xm_fld h a0 9 3 = some (.ref q3) ∧ /- purseOf -/
      ∃ e4, xm_ld xm_st h 0 q3 x1 = some e4 ∧
      ∃ h5, xm_sto h 0 q2 ((4 : Int32) * x1) e4 = some h5 ∧
      ∃ q6, xm_fld h5 a0 9 48 = some (.ref q6) ∧ /- keptOnes -/
      ∃ q7, xm_fld h5 a0 9 4 = some (.ref q7) ∧ /- ageOf -/
      ∃ e8, xm_ld xm_st h5 0 q7 x1 = some e8 ∧
      ∃ h9, xm_sto h5 0 q6 (((4 : Int32) * x1) + (1 : Int32)) e8 = some h9 ∧
      ∃ q10, xm_fld h9 a0 9 48 = some (.ref q10) ∧ /- keptOnes -/
      ∃ q11, xm_fld h9 a0 9 5 = some (.ref q11) ∧ /- habitOf -/
      ∃ e12, xm_ld xm_st h9 0 q11 x1 = some e12 ∧
      ∃ h13, xm_sto h9 0 q10 (((4 : Int32) * x1) + (2 : Int32)) e12 = some h13 ∧
      ∃ q14, xm_fld h13 a0 9 48 = some (.ref q14) ∧ /- keptOnes -/
      ∃ q15, xm_fld h13 a0 9 7 = some (.ref q15) ∧ /- heardOf -/
      ∃ e16, xm_ld xm_st h13 0 q15 x1 = some e16 ∧
      ∃ h17, xm_sto h13 0 q14 (((4 : Int32) * x1) + (3 : Int32)) e16 = some h17 ∧
      xm_L K sX9_image kX9_image 15 [some (.ref a0), some (.int (x1 + (1 : Int32)))] [] h17 P
    else
      xm_L K sX9_image kX9_image 69 [some (.ref a0), some (.int (0 : Int32))] [] h P)) :
    xm_L K sX9_image kX9_image 15 [some (.ref a0), some (.int x1)] [] h P :=
  xm_run (fun _ _ h => h) oX9_image 53 15 0 0 [some (.ref a0), some (.int x1)] [] h H

set_option maxRecDepth 100000 in
set_option maxHeartbeats 4000000 in
theorem xX9_image_69 {K : Nat} {h : xm_H} {P : Option Value → xm_H → Prop} {a0 : Nat} {x1 : Int32} (H :
    (if x1 < (6 : Int32) then
      ∃ q1, xm_fld h a0 9 49 = some (.ref q1) ∧ /- keptLed -/
      ∃ q2, xm_fld h a0 9 44 = some (.ref q2) ∧ /- ledOf -/
      ∃ e3, xm_ld xm_st h 0 q2 x1 = some e3 ∧
      ∃ h4, xm_sto h 0 q1 x1 e3 = some h4 ∧
      xm_L K sX9_image kX9_image 69 [some (.ref a0), some (.int (x1 + (1 : Int32)))] [] h4 P
    else
      ∃ q5, xm_fld h a0 9 44 = some (.ref q5) ∧ /- ledOf -/
      ∃ e6, xm_ld xm_st h 0 q5 (2 : Int32) = some e6 ∧
      P (some (.int e6)) h)) :
    xm_L K sX9_image kX9_image 69 [some (.ref a0), some (.int x1)] [] h P :=
  xm_run (fun _ _ h => h) oX9_image 14 69 0 0 [some (.ref a0), some (.int x1)] [] h H

def kX9_back : List xm_I := [
  i_0 0 (.aload_n 0) 1 none,
  i_f 1 (.getfield 387) 3 none 9 45 [970] 0,
  i_j 4 (.ifCond .ne 6) 3 none 5,
  i_v 7 (.bipush (-5)) 2 none (-5) [],
  i_0 9 (.ireturn) 1 none,
  i_0 10 (.aload_n 0) 1 none,
  i_f 11 (.getfield 34) 3 none 9 10 [935] 1,
  i_v 14 (.iconst 0) 1 none 0 [],
  i_0 15 (.aload_n 0) 1 none,
  i_f 16 (.getfield 393) 3 none 9 47 [972] 0,
  i_0 19 (.iastore) 1 none,
  i_v 20 (.iconst 0) 1 none 0 [],
  i_0 21 (.istore_n 1) 1 none,
  i_0 22 (.iload_n 1) 1 (some [true, true]),
  i_0 23 (.aload_n 0) 1 none,
  i_f 24 (.getfield 390) 3 none 9 46 [971] 0,
  i_j 27 (.if_icmp .ge 71) 3 none 65,
  i_0 30 (.aload_n 0) 1 none,
  i_f 31 (.getfield 13) 3 none 9 3 [928] 1,
  i_0 34 (.iload_n 1) 1 none,
  i_0 35 (.aload_n 0) 1 none,
  i_f 36 (.getfield 96) 3 none 9 48 [973] 1,
  i_v 39 (.iconst 4) 1 none 4 [],
  i_0 40 (.iload_n 1) 1 none,
  i_0 41 (.imul) 1 none,
  i_0 42 (.iaload) 1 none,
  i_0 43 (.iastore) 1 none,
  i_0 44 (.aload_n 0) 1 none,
  i_f 45 (.getfield 16) 3 none 9 4 [929] 1,
  i_0 48 (.iload_n 1) 1 none,
  i_0 49 (.aload_n 0) 1 none,
  i_f 50 (.getfield 96) 3 none 9 48 [973] 1,
  i_v 53 (.iconst 4) 1 none 4 [],
  i_0 54 (.iload_n 1) 1 none,
  i_0 55 (.imul) 1 none,
  i_v 56 (.iconst 1) 1 none 1 [],
  i_0 57 (.iadd) 1 none,
  i_0 58 (.iaload) 1 none,
  i_0 59 (.iastore) 1 none,
  i_0 60 (.aload_n 0) 1 none,
  i_f 61 (.getfield 19) 3 none 9 5 [930] 1,
  i_0 64 (.iload_n 1) 1 none,
  i_0 65 (.aload_n 0) 1 none,
  i_f 66 (.getfield 96) 3 none 9 48 [973] 1,
  i_v 69 (.iconst 4) 1 none 4 [],
  i_0 70 (.iload_n 1) 1 none,
  i_0 71 (.imul) 1 none,
  i_v 72 (.iconst 2) 1 none 2 [],
  i_0 73 (.iadd) 1 none,
  i_0 74 (.iaload) 1 none,
  i_0 75 (.iastore) 1 none,
  i_0 76 (.aload_n 0) 1 none,
  i_f 77 (.getfield 25) 3 none 9 7 [932] 1,
  i_0 80 (.iload_n 1) 1 none,
  i_0 81 (.aload_n 0) 1 none,
  i_f 82 (.getfield 96) 3 none 9 48 [973] 1,
  i_v 85 (.iconst 4) 1 none 4 [],
  i_0 86 (.iload_n 1) 1 none,
  i_0 87 (.imul) 1 none,
  i_v 88 (.iconst 3) 1 none 3 [],
  i_0 89 (.iadd) 1 none,
  i_0 90 (.iaload) 1 none,
  i_0 91 (.iastore) 1 none,
  i_v 92 (.iinc 1 1) 3 none 1 [],
  i_j 95 (.goto (-73)) 3 none 13,
  i_v 98 (.iconst 0) 1 none 0 [],
  i_0 99 (.istore_n 1) 1 none,
  i_0 100 (.iload_n 1) 1 (some [true, true]),
  i_v 101 (.bipush 6) 2 none 6 [],
  i_j 103 (.if_icmp .ge 21) 3 none 80,
  i_0 106 (.aload_n 0) 1 none,
  i_f 107 (.getfield 93) 3 none 9 44 [969] 1,
  i_0 110 (.iload_n 1) 1 none,
  i_0 111 (.aload_n 0) 1 none,
  i_f 112 (.getfield 99) 3 none 9 49 [974] 1,
  i_0 115 (.iload_n 1) 1 none,
  i_0 116 (.iaload) 1 none,
  i_0 117 (.iastore) 1 none,
  i_v 118 (.iinc 1 1) 3 none 1 [],
  i_j 121 (.goto (-21)) 3 none 67,
  i_0 124 (.aload_n 0) 1 none,
  i_f 125 (.getfield 93) 3 none 9 44 [969] 1,
  i_v 128 (.iconst 2) 1 none 2 [],
  i_0 129 (.iaload) 1 none,
  i_0 130 (.ireturn) 1 none]
set_option maxRecDepth 100000 in
theorem oX9_back : xm_ok sX9_back sX9_back.1.cls kX9_back = true := by decide +kernel
set_option maxRecDepth 100000 in
set_option maxHeartbeats 4000000 in
theorem xX9_back_0 {K : Nat} {h : xm_H} {P : Option Value → xm_H → Prop} {a0 : Nat} (H :
    ∃ f1, xm_fld h a0 9 45 = some (.int f1) ∧ /- hasImage -/
    (if f1 = 0 then
      P (some (.int (-5 : Int32))) h
    else
      ∃ q2, xm_fld h a0 9 10 = some (.ref q2) ∧ /- pass -/
      ∃ f3, xm_fld h a0 9 47 = some (.int f3) ∧ /- keptYear -/
      ∃ h4, xm_sto h 0 q2 (0 : Int32) f3 = some h4 ∧
      xm_L K sX9_back kX9_back 13 [some (.ref a0), some (.int (0 : Int32))] [] h4 P)) :
    xm_L K sX9_back kX9_back 0 [some (.ref a0), none] [] h P :=
  xm_run (fun _ _ h => h) oX9_back 12 0 0 0 [some (.ref a0), none] [] h H
set_option maxRecDepth 100000 in
theorem eX9_back {K K' : Nat} (hK : K < K') {h : xm_H} {P : Option Value → xm_H → Prop} {a0 : Nat} (hr : ∃ fs, h[a0]? = some (.inr (9, fs))) (H :
    ∃ f1, xm_fld h a0 9 45 = some (.int f1) ∧ /- hasImage -/
    (if f1 = 0 then
      P (some (.int (-5 : Int32))) h
    else
      ∃ q2, xm_fld h a0 9 10 = some (.ref q2) ∧ /- pass -/
      ∃ f3, xm_fld h a0 9 47 = some (.int f3) ∧ /- keptYear -/
      ∃ h4, xm_sto h 0 q2 (0 : Int32) f3 = some h4 ∧
      xm_L K sX9_back kX9_back 13 [some (.ref a0), some (.int (0 : Int32))] [] h4 P)) :
    xm_Call K' sX9_back 9 [.ref a0] h P :=
  xm_call_of (C := kX9_back) hK (by decide +kernel) rfl (Nat.le_of_ble_eq_true rfl) (Or.inr ⟨a0, hr.choose, rfl, hr.choose_spec⟩) (xX9_back_0 H)

set_option maxRecDepth 100000 in
set_option maxHeartbeats 4000000 in
theorem xX9_back_13 {K : Nat} {h : xm_H} {P : Option Value → xm_H → Prop} {a0 : Nat} {x1 : Int32} (H :
    ∃ f1, xm_fld h a0 9 46 = some (.int f1) ∧ /- keptMany -/
    (if x1 < f1 then
      ∃ q2, xm_fld h a0 9 3 = some (.ref q2) ∧ /- purseOf -/
      ∃ q3, xm_fld h a0 9 48 = some (.ref q3) ∧ /- keptOnes -/
      ∃ e4, xm_ld xm_st h 0 q3 ((4 : Int32) * x1) = some e4 ∧
      ∃ h5, xm_sto h 0 q2 x1 e4 = some h5 ∧
      ∃ q6, xm_fld h5 a0 9 4 = some (.ref q6) ∧ /- ageOf -/
      ∃ q7, xm_fld h5 a0 9 48 = some (.ref q7) ∧ /- keptOnes -/
      ∃ e8, xm_ld xm_st h5 0 q7 (((4 : Int32) * x1) + (1 : Int32)) = some e8 ∧
      ∃ h9, xm_sto h5 0 q6 x1 e8 = some h9 ∧
      ∃ q10, xm_fld h9 a0 9 5 = some (.ref q10) ∧ /- habitOf -/
      ∃ q11, xm_fld h9 a0 9 48 = some (.ref q11) ∧ /- keptOnes -/
      ∃ e12, xm_ld xm_st h9 0 q11 (((4 : Int32) * x1) + (2 : Int32)) = some e12 ∧
      ∃ h13, xm_sto h9 0 q10 x1 e12 = some h13 ∧
      ∃ q14, xm_fld h13 a0 9 7 = some (.ref q14) ∧ /- heardOf -/
      ∃ q15, xm_fld h13 a0 9 48 = some (.ref q15) ∧ /- keptOnes -/
      ∃ e16, xm_ld xm_st h13 0 q15 (((4 : Int32) * x1) + (3 : Int32)) = some e16 ∧
      ∃ h17, xm_sto h13 0 q14 x1 e16 = some h17 ∧
      xm_L K sX9_back kX9_back 13 [some (.ref a0), some (.int (x1 + (1 : Int32)))] [] h17 P
    else
      xm_L K sX9_back kX9_back 67 [some (.ref a0), some (.int (0 : Int32))] [] h P)) :
    xm_L K sX9_back kX9_back 13 [some (.ref a0), some (.int x1)] [] h P :=
  xm_run (fun _ _ h => h) oX9_back 53 13 0 0 [some (.ref a0), some (.int x1)] [] h H

set_option maxRecDepth 100000 in
set_option maxHeartbeats 4000000 in
theorem xX9_back_67 {K : Nat} {h : xm_H} {P : Option Value → xm_H → Prop} {a0 : Nat} {x1 : Int32} (H :
    (if x1 < (6 : Int32) then
      ∃ q1, xm_fld h a0 9 44 = some (.ref q1) ∧ /- ledOf -/
      ∃ q2, xm_fld h a0 9 49 = some (.ref q2) ∧ /- keptLed -/
      ∃ e3, xm_ld xm_st h 0 q2 x1 = some e3 ∧
      ∃ h4, xm_sto h 0 q1 x1 e3 = some h4 ∧
      xm_L K sX9_back kX9_back 67 [some (.ref a0), some (.int (x1 + (1 : Int32)))] [] h4 P
    else
      ∃ q5, xm_fld h a0 9 44 = some (.ref q5) ∧ /- ledOf -/
      ∃ e6, xm_ld xm_st h 0 q5 (2 : Int32) = some e6 ∧
      P (some (.int e6)) h)) :
    xm_L K sX9_back kX9_back 67 [some (.ref a0), some (.int x1)] [] h P :=
  xm_run (fun _ _ h => h) oX9_back 14 67 0 0 [some (.ref a0), some (.int x1)] [] h H

def kX9_assessedMany : List xm_I := [
  i_0 0 (.aload_n 0) 1 none,
  i_m 1 (.invokevirtual 267) 3 none 0 9 [1227, 1229, 53, 117, 1230] 0 sX9_layNow,
  i_0 4 (.aload_n 0) 1 none,
  i_m 5 (.invokevirtual 285) 3 none 0 9 [1270, 1272, 62, 117, 1273] 0 sX9_assess,
  i_0 8 (.aload_n 0) 1 none,
  i_m 9 (.invokevirtual 326) 3 none 0 9 [1361, 1363, 75, 117, 1364] 0 sX9_assessedBits,
  i_m 12 (.invokestatic 320) 3 none 1 99 [1354, 1355, 117, 1356] 0 sX9_bitsOf,
  i_0 15 (.ireturn) 1 none]
set_option maxRecDepth 100000 in
theorem oX9_assessedMany : xm_ok sX9_assessedMany sX9_assessedMany.1.cls kX9_assessedMany = true := by decide +kernel
set_option maxRecDepth 100000 in
set_option maxHeartbeats 4000000 in
theorem xX9_assessedMany_0 {K : Nat} {h : xm_H} {P : Option Value → xm_H → Prop} {a0 : Nat} (H :
    xm_Call K sX9_layNow 9 [.ref a0] h (xm_pv fun h1 =>
      xm_Call K sX9_assess 9 [.ref a0] h1 (xm_pv fun h2 =>
        xm_Call K sX9_assessedBits 9 [.ref a0] h2 (xm_pi fun c4 h3 =>
          xm_Call K sX9_bitsOf 99 [.int c4] h3 (xm_pi fun c6 h5 =>
            P (some (.int c6)) h5))))) :
    xm_L K sX9_assessedMany kX9_assessedMany 0 [some (.ref a0)] [] h P :=
  xm_run (fun _ _ h => h) oX9_assessedMany 9 0 0 0 [some (.ref a0)] [] h H
set_option maxRecDepth 100000 in
theorem eX9_assessedMany {K K' : Nat} (hK : K < K') {h : xm_H} {P : Option Value → xm_H → Prop} {a0 : Nat} (hr : ∃ fs, h[a0]? = some (.inr (9, fs))) (H :
    xm_Call K sX9_layNow 9 [.ref a0] h (xm_pv fun h1 =>
      xm_Call K sX9_assess 9 [.ref a0] h1 (xm_pv fun h2 =>
        xm_Call K sX9_assessedBits 9 [.ref a0] h2 (xm_pi fun c4 h3 =>
          xm_Call K sX9_bitsOf 99 [.int c4] h3 (xm_pi fun c6 h5 =>
            P (some (.int c6)) h5))))) :
    xm_Call K' sX9_assessedMany 9 [.ref a0] h P :=
  xm_call_of (C := kX9_assessedMany) hK (by decide +kernel) rfl (Nat.le_of_ble_eq_true rfl) (Or.inr ⟨a0, hr.choose, rfl, hr.choose_spec⟩) (xX9_assessedMany_0 H)

def kX9_isBody : List xm_I := [
  i_0 0 (.iload_n 1) 1 none,
  i_v 1 (.iconst 0) 1 none 0 [],
  i_0 2 (.aload_n 0) 1 none,
  i_f 3 (.getfield 396) 3 none 9 50 [975] 0,
  i_v 6 (.iconst 1) 1 none 1 [],
  i_0 7 (.isub) 1 none,
  i_m 8 (.invokestatic 128) 3 none 3 99 [1106, 1107, 117, 1108] 0 sX9_in,
  i_0 11 (.ireturn) 1 none]
set_option maxRecDepth 100000 in
theorem oX9_isBody : xm_ok sX9_isBody sX9_isBody.1.cls kX9_isBody = true := by decide +kernel
set_option maxRecDepth 100000 in
set_option maxHeartbeats 4000000 in
theorem xX9_isBody_0 {K : Nat} {h : xm_H} {P : Option Value → xm_H → Prop} {a0 : Nat} {x1 : Int32} (H :
    ∃ f1, xm_fld h a0 9 50 = some (.int f1) ∧ /- bodies -/
    xm_Call K sX9_in 99 [.int x1, .int (0 : Int32), .int (f1 - (1 : Int32))] h (xm_pi fun c3 h2 =>
      (if c3 = 0 ∨ c3 = 1 then P (some (.int c3)) h2 else False))) :
    xm_L K sX9_isBody kX9_isBody 0 [some (.ref a0), some (.int x1)] [] h P :=
  xm_run (fun _ _ h => h) oX9_isBody 9 0 0 0 [some (.ref a0), some (.int x1)] [] h H
set_option maxRecDepth 100000 in
theorem eX9_isBody {K K' : Nat} (hK : K < K') {h : xm_H} {P : Option Value → xm_H → Prop} {a0 : Nat} {x1 : Int32} (hr : ∃ fs, h[a0]? = some (.inr (9, fs))) (H :
    ∃ f1, xm_fld h a0 9 50 = some (.int f1) ∧ /- bodies -/
    xm_Call K sX9_in 99 [.int x1, .int (0 : Int32), .int (f1 - (1 : Int32))] h (xm_pi fun c3 h2 =>
      (if c3 = 0 ∨ c3 = 1 then P (some (.int c3)) h2 else False))) :
    xm_Call K' sX9_isBody 9 [.ref a0, .int x1] h P :=
  xm_call_of (C := kX9_isBody) hK (by decide +kernel) rfl (Nat.le_of_ble_eq_true rfl) (Or.inr ⟨a0, hr.choose, rfl, hr.choose_spec⟩) (xX9_isBody_0 H)

def kX9_ran : List xm_I := [
  i_0 0 (.aload_n 0) 1 none,
  i_f 1 (.getfield 399) 3 none 9 52 [977] 0,
  i_v 4 (.bipush 24) 2 none 24 [],
  i_j 6 (.if_icmp .ge 13) 3 none 10,
  i_0 9 (.aload_n 0) 1 none,
  i_f 10 (.getfield 105) 3 none 9 53 [978] 1,
  i_0 13 (.aload_n 0) 1 none,
  i_f 14 (.getfield 399) 3 none 9 52 [977] 0,
  i_0 17 (.iload_n 1) 1 none,
  i_0 18 (.iastore) 1 none,
  i_0 19 (.aload_n 0) 1 none,
  i_0 20 (.dup) 1 none,
  i_f 21 (.getfield 399) 3 none 9 52 [977] 0,
  i_v 24 (.iconst 1) 1 none 1 [],
  i_0 25 (.iadd) 1 none,
  i_f 26 (.putfield 399) 3 none 9 52 [977] 0,
  i_0 29 (.return_) 1 none]
set_option maxRecDepth 100000 in
theorem oX9_ran : xm_ok sX9_ran sX9_ran.1.cls kX9_ran = true := by decide +kernel
set_option maxRecDepth 100000 in
set_option maxHeartbeats 4000000 in
theorem xX9_ran_0 {K : Nat} {h : xm_H} {P : Option Value → xm_H → Prop} {a0 : Nat} {x1 : Int32} (H :
    ∃ f1, xm_fld h a0 9 52 = some (.int f1) ∧ /- traces -/
    (if f1 < (24 : Int32) then
      ∃ q2, xm_fld h a0 9 53 = some (.ref q2) ∧ /- traced -/
      ∃ f3, xm_fld h a0 9 52 = some (.int f3) ∧ /- traces -/
      ∃ h4, xm_sto h 0 q2 f3 x1 = some h4 ∧
      ∃ f5, xm_fld h4 a0 9 52 = some (.int f5) ∧ /- traces -/
      ∃ h6, xm_put h4 a0 9 52 (.int (f5 + (1 : Int32))) = some h6 ∧ /- traces -/
      P none h6
    else
      ∃ f7, xm_fld h a0 9 52 = some (.int f7) ∧ /- traces -/
      ∃ h8, xm_put h a0 9 52 (.int (f7 + (1 : Int32))) = some h8 ∧ /- traces -/
      P none h8)) :
    xm_L K sX9_ran kX9_ran 0 [some (.ref a0), some (.int x1)] [] h P :=
  xm_run (fun _ _ h => h) oX9_ran 18 0 0 0 [some (.ref a0), some (.int x1)] [] h H
set_option maxRecDepth 100000 in
theorem eX9_ran {K K' : Nat} (hK : K < K') {h : xm_H} {P : Option Value → xm_H → Prop} {a0 : Nat} {x1 : Int32} (hr : ∃ fs, h[a0]? = some (.inr (9, fs))) (H :
    ∃ f1, xm_fld h a0 9 52 = some (.int f1) ∧ /- traces -/
    (if f1 < (24 : Int32) then
      ∃ q2, xm_fld h a0 9 53 = some (.ref q2) ∧ /- traced -/
      ∃ f3, xm_fld h a0 9 52 = some (.int f3) ∧ /- traces -/
      ∃ h4, xm_sto h 0 q2 f3 x1 = some h4 ∧
      ∃ f5, xm_fld h4 a0 9 52 = some (.int f5) ∧ /- traces -/
      ∃ h6, xm_put h4 a0 9 52 (.int (f5 + (1 : Int32))) = some h6 ∧ /- traces -/
      P none h6
    else
      ∃ f7, xm_fld h a0 9 52 = some (.int f7) ∧ /- traces -/
      ∃ h8, xm_put h a0 9 52 (.int (f7 + (1 : Int32))) = some h8 ∧ /- traces -/
      P none h8)) :
    xm_Call K' sX9_ran 9 [.ref a0, .int x1] h P :=
  xm_call_of (C := kX9_ran) hK (by decide +kernel) rfl (Nat.le_of_ble_eq_true rfl) (Or.inr ⟨a0, hr.choose, rfl, hr.choose_spec⟩) (xX9_ran_0 H)

def kX9_trace : List xm_I := [
  i_0 0 (.iload_n 1) 1 none,
  i_j 1 (.ifCond .lt 26) 3 none 14,
  i_0 4 (.iload_n 1) 1 none,
  i_0 5 (.aload_n 0) 1 none,
  i_f 6 (.getfield 399) 3 none 9 52 [977] 0,
  i_j 9 (.if_icmp .ge 18) 3 none 14,
  i_0 12 (.iload_n 1) 1 none,
  i_v 13 (.bipush 24) 2 none 24 [],
  i_j 15 (.if_icmp .ge 12) 3 none 14,
  i_0 18 (.aload_n 0) 1 none,
  i_f 19 (.getfield 105) 3 none 9 53 [978] 1,
  i_0 22 (.iload_n 1) 1 none,
  i_0 23 (.iaload) 1 none,
  i_j 24 (.goto 4) 3 none 15,
  i_v 27 (.iconst (-1)) 1 none (-1) [],
  i_0 28 (.ireturn) 1 none]
set_option maxRecDepth 100000 in
theorem oX9_trace : xm_ok sX9_trace sX9_trace.1.cls kX9_trace = true := by decide +kernel
set_option maxRecDepth 100000 in
set_option maxHeartbeats 4000000 in
theorem xX9_trace_0 {K : Nat} {h : xm_H} {P : Option Value → xm_H → Prop} {a0 : Nat} {x1 : Int32} (H :
    (if x1 < 0 then
      P (some (.int (-1 : Int32))) h
    else
      ∃ f1, xm_fld h a0 9 52 = some (.int f1) ∧ /- traces -/
      (if x1 < f1 then
        (if x1 < (24 : Int32) then
          ∃ q2, xm_fld h a0 9 53 = some (.ref q2) ∧ /- traced -/
          ∃ e3, xm_ld xm_st h 0 q2 x1 = some e3 ∧
          P (some (.int e3)) h
        else
          P (some (.int (-1 : Int32))) h)
      else
        P (some (.int (-1 : Int32))) h))) :
    xm_L K sX9_trace kX9_trace 0 [some (.ref a0), some (.int x1)] [] h P :=
  xm_run (fun _ _ h => h) oX9_trace 16 0 0 0 [some (.ref a0), some (.int x1)] [] h H
set_option maxRecDepth 100000 in
theorem eX9_trace {K K' : Nat} (hK : K < K') {h : xm_H} {P : Option Value → xm_H → Prop} {a0 : Nat} {x1 : Int32} (hr : ∃ fs, h[a0]? = some (.inr (9, fs))) (H :
    (if x1 < 0 then
      P (some (.int (-1 : Int32))) h
    else
      ∃ f1, xm_fld h a0 9 52 = some (.int f1) ∧ /- traces -/
      (if x1 < f1 then
        (if x1 < (24 : Int32) then
          ∃ q2, xm_fld h a0 9 53 = some (.ref q2) ∧ /- traced -/
          ∃ e3, xm_ld xm_st h 0 q2 x1 = some e3 ∧
          P (some (.int e3)) h
        else
          P (some (.int (-1 : Int32))) h)
      else
        P (some (.int (-1 : Int32))) h))) :
    xm_Call K' sX9_trace 9 [.ref a0, .int x1] h P :=
  xm_call_of (C := kX9_trace) hK (by decide +kernel) rfl (Nat.le_of_ble_eq_true rfl) (Or.inr ⟨a0, hr.choose, rfl, hr.choose_spec⟩) (xX9_trace_0 H)

def kX9_body : List xm_I := [
  i_0 0 (.iload_n 1) 1 none,
  i_v 1 (.iconst 0) 1 none 0 [],
  i_v 2 (.bipush 7) 2 none 7 [],
  i_m 4 (.invokestatic 128) 3 none 3 99 [1106, 1107, 117, 1108] 0 sX9_in,
  i_j 7 (.ifCond .ne 5) 3 none 7,
  i_v 10 (.iconst (-1)) 1 none (-1) [],
  i_0 11 (.ireturn) 1 none,
  i_0 12 (.aload_n 0) 1 none,
  i_f 13 (.getfield 396) 3 none 9 50 [975] 0,
  i_v 16 (.bipush 50) 2 none 50 [],
  i_j 18 (.if_icmp .ne 6) 3 none 13,
  i_v 21 (.bipush (-3)) 2 none (-3) [],
  i_0 23 (.ireturn) 1 none,
  i_0 24 (.aload_n 0) 1 none,
  i_f 25 (.getfield 102) 3 none 9 51 [976] 1,
  i_0 28 (.aload_n 0) 1 none,
  i_f 29 (.getfield 396) 3 none 9 50 [975] 0,
  i_0 32 (.iload_n 1) 1 none,
  i_0 33 (.iastore) 1 none,
  i_0 34 (.aload_n 0) 1 none,
  i_0 35 (.dup) 1 none,
  i_f 36 (.getfield 396) 3 none 9 50 [975] 0,
  i_v 39 (.iconst 1) 1 none 1 [],
  i_0 40 (.iadd) 1 none,
  i_f 41 (.putfield 396) 3 none 9 50 [975] 0,
  i_0 44 (.aload_n 0) 1 none,
  i_f 45 (.getfield 396) 3 none 9 50 [975] 0,
  i_v 48 (.iconst 1) 1 none 1 [],
  i_0 49 (.isub) 1 none,
  i_0 50 (.ireturn) 1 none]
set_option maxRecDepth 100000 in
theorem oX9_body : xm_ok sX9_body sX9_body.1.cls kX9_body = true := by decide +kernel
set_option maxRecDepth 100000 in
set_option maxHeartbeats 4000000 in
theorem xX9_body_0 {K : Nat} {h : xm_H} {P : Option Value → xm_H → Prop} {a0 : Nat} {x1 : Int32} (H :
    xm_Call K sX9_in 99 [.int x1, .int (0 : Int32), .int (7 : Int32)] h (xm_pi fun c2 h1 =>
      (if c2 = 0 then
        P (some (.int (-1 : Int32))) h1
      else
        ∃ f3, xm_fld h1 a0 9 50 = some (.int f3) ∧ /- bodies -/
        (if f3 = (50 : Int32) then
          P (some (.int (-3 : Int32))) h1
        else
          ∃ q4, xm_fld h1 a0 9 51 = some (.ref q4) ∧ /- kind -/
          ∃ f5, xm_fld h1 a0 9 50 = some (.int f5) ∧ /- bodies -/
          ∃ h6, xm_sto h1 0 q4 f5 x1 = some h6 ∧
          ∃ f7, xm_fld h6 a0 9 50 = some (.int f7) ∧ /- bodies -/
          ∃ h8, xm_put h6 a0 9 50 (.int (f7 + (1 : Int32))) = some h8 ∧ /- bodies -/
          ∃ f9, xm_fld h8 a0 9 50 = some (.int f9) ∧ /- bodies -/
          P (some (.int (f9 - (1 : Int32)))) h8)))) :
    xm_L K sX9_body kX9_body 0 [some (.ref a0), some (.int x1)] [] h P :=
  xm_run (fun _ _ h => h) oX9_body 27 0 0 0 [some (.ref a0), some (.int x1)] [] h H
set_option maxRecDepth 100000 in
theorem eX9_body {K K' : Nat} (hK : K < K') {h : xm_H} {P : Option Value → xm_H → Prop} {a0 : Nat} {x1 : Int32} (hr : ∃ fs, h[a0]? = some (.inr (9, fs))) (H :
    xm_Call K sX9_in 99 [.int x1, .int (0 : Int32), .int (7 : Int32)] h (xm_pi fun c2 h1 =>
      (if c2 = 0 then
        P (some (.int (-1 : Int32))) h1
      else
        ∃ f3, xm_fld h1 a0 9 50 = some (.int f3) ∧ /- bodies -/
        (if f3 = (50 : Int32) then
          P (some (.int (-3 : Int32))) h1
        else
          ∃ q4, xm_fld h1 a0 9 51 = some (.ref q4) ∧ /- kind -/
          ∃ f5, xm_fld h1 a0 9 50 = some (.int f5) ∧ /- bodies -/
          ∃ h6, xm_sto h1 0 q4 f5 x1 = some h6 ∧
          ∃ f7, xm_fld h6 a0 9 50 = some (.int f7) ∧ /- bodies -/
          ∃ h8, xm_put h6 a0 9 50 (.int (f7 + (1 : Int32))) = some h8 ∧ /- bodies -/
          ∃ f9, xm_fld h8 a0 9 50 = some (.int f9) ∧ /- bodies -/
          P (some (.int (f9 - (1 : Int32)))) h8)))) :
    xm_Call K' sX9_body 9 [.ref a0, .int x1] h P :=
  xm_call_of (C := kX9_body) hK (by decide +kernel) rfl (Nat.le_of_ble_eq_true rfl) (Or.inr ⟨a0, hr.choose, rfl, hr.choose_spec⟩) (xX9_body_0 H)

def kX9_isUnder : List xm_I := [
  i_0 0 (.iload_n 1) 1 none,
  i_j 1 (.ifCond .eq 55) 3 none 32,
  i_0 4 (.iload_n 0) 1 none,
  i_0 5 (.iload_n 1) 1 none,
  i_j 6 (.if_icmp .eq 50) 3 none 32,
  i_0 9 (.iload_n 1) 1 none,
  i_v 10 (.iconst 1) 1 none 1 [],
  i_j 11 (.if_icmp .ne 8) 3 none 11,
  i_0 14 (.iload_n 0) 1 none,
  i_v 15 (.iconst 4) 1 none 4 [],
  i_j 16 (.if_icmp .eq 40) 3 none 32,
  i_0 19 (.iload_n 1) 1 none,
  i_v 20 (.iconst 2) 1 none 2 [],
  i_j 21 (.if_icmp .ne 13) 3 none 20,
  i_0 24 (.iload_n 0) 1 none,
  i_v 25 (.iconst 3) 1 none 3 [],
  i_j 26 (.if_icmp .eq 30) 3 none 32,
  i_0 29 (.iload_n 0) 1 none,
  i_v 30 (.iconst 5) 1 none 5 [],
  i_j 31 (.if_icmp .eq 25) 3 none 32,
  i_0 34 (.iload_n 1) 1 none,
  i_v 35 (.iconst 3) 1 none 3 [],
  i_j 36 (.if_icmp .ne 8) 3 none 26,
  i_0 39 (.iload_n 0) 1 none,
  i_v 40 (.iconst 5) 1 none 5 [],
  i_j 41 (.if_icmp .eq 15) 3 none 32,
  i_0 44 (.iload_n 1) 1 none,
  i_v 45 (.bipush 6) 2 none 6 [],
  i_j 47 (.if_icmp .ne 13) 3 none 34,
  i_0 50 (.iload_n 0) 1 none,
  i_v 51 (.bipush 7) 2 none 7 [],
  i_j 53 (.if_icmp .ne 7) 3 none 34,
  i_v 56 (.iconst 1) 1 none 1 [],
  i_j 57 (.goto 4) 3 none 35,
  i_v 60 (.iconst 0) 1 none 0 [],
  i_0 61 (.ireturn) 1 none]
set_option maxRecDepth 100000 in
theorem oX9_isUnder : xm_ok sX9_isUnder sX9_isUnder.1.cls kX9_isUnder = true := by decide +kernel
set_option maxRecDepth 100000 in
set_option maxHeartbeats 4000000 in
theorem xX9_isUnder_0 {K : Nat} {h : xm_H} {P : Option Value → xm_H → Prop} {x0 : Int32} {x1 : Int32} (H :
    (if x1 = 0 then
      P (some (.int (1 : Int32))) h
    else
      (if x0 = x1 then
        P (some (.int (1 : Int32))) h
      else
        (if x1 = (1 : Int32) then
          (if x0 = (4 : Int32) then
            P (some (.int (1 : Int32))) h
          else
            (if x1 = (2 : Int32) then
              (if x0 = (3 : Int32) then
                P (some (.int (1 : Int32))) h
              else
                (if x0 = (5 : Int32) then
                  P (some (.int (1 : Int32))) h
                else
                  (if x1 = (3 : Int32) then
                    (if x0 = (5 : Int32) then
                      P (some (.int (1 : Int32))) h
                    else
                      (if x1 = (6 : Int32) then
                        (if x0 = (7 : Int32) then
                          P (some (.int (1 : Int32))) h
                        else
                          P (some (.int (0 : Int32))) h)
                      else
                        P (some (.int (0 : Int32))) h))
                  else
                    (if x1 = (6 : Int32) then
                      (if x0 = (7 : Int32) then
                        P (some (.int (1 : Int32))) h
                      else
                        P (some (.int (0 : Int32))) h)
                    else
                      P (some (.int (0 : Int32))) h))))
            else
              (if x1 = (3 : Int32) then
                (if x0 = (5 : Int32) then
                  P (some (.int (1 : Int32))) h
                else
                  (if x1 = (6 : Int32) then
                    (if x0 = (7 : Int32) then
                      P (some (.int (1 : Int32))) h
                    else
                      P (some (.int (0 : Int32))) h)
                  else
                    P (some (.int (0 : Int32))) h))
              else
                (if x1 = (6 : Int32) then
                  (if x0 = (7 : Int32) then
                    P (some (.int (1 : Int32))) h
                  else
                    P (some (.int (0 : Int32))) h)
                else
                  P (some (.int (0 : Int32))) h))))
        else
          (if x1 = (2 : Int32) then
            (if x0 = (3 : Int32) then
              P (some (.int (1 : Int32))) h
            else
              (if x0 = (5 : Int32) then
                P (some (.int (1 : Int32))) h
              else
                (if x1 = (3 : Int32) then
                  (if x0 = (5 : Int32) then
                    P (some (.int (1 : Int32))) h
                  else
                    (if x1 = (6 : Int32) then
                      (if x0 = (7 : Int32) then
                        P (some (.int (1 : Int32))) h
                      else
                        P (some (.int (0 : Int32))) h)
                    else
                      P (some (.int (0 : Int32))) h))
                else
                  (if x1 = (6 : Int32) then
                    (if x0 = (7 : Int32) then
                      P (some (.int (1 : Int32))) h
                    else
                      P (some (.int (0 : Int32))) h)
                  else
                    P (some (.int (0 : Int32))) h))))
          else
            (if x1 = (3 : Int32) then
              (if x0 = (5 : Int32) then
                P (some (.int (1 : Int32))) h
              else
                (if x1 = (6 : Int32) then
                  (if x0 = (7 : Int32) then
                    P (some (.int (1 : Int32))) h
                  else
                    P (some (.int (0 : Int32))) h)
                else
                  P (some (.int (0 : Int32))) h))
            else
              (if x1 = (6 : Int32) then
                (if x0 = (7 : Int32) then
                  P (some (.int (1 : Int32))) h
                else
                  P (some (.int (0 : Int32))) h)
              else
                P (some (.int (0 : Int32))) h))))))) :
    xm_L K sX9_isUnder kX9_isUnder 0 [some (.int x0), some (.int x1)] [] h P :=
  xm_run (fun _ _ h => h) oX9_isUnder 36 0 0 0 [some (.int x0), some (.int x1)] [] h H
set_option maxRecDepth 100000 in
theorem eX9_isUnder {K K' : Nat} (hK : K < K') {h : xm_H} {P : Option Value → xm_H → Prop} {x0 : Int32} {x1 : Int32} (H :
    (if x1 = 0 then
      P (some (.int (1 : Int32))) h
    else
      (if x0 = x1 then
        P (some (.int (1 : Int32))) h
      else
        (if x1 = (1 : Int32) then
          (if x0 = (4 : Int32) then
            P (some (.int (1 : Int32))) h
          else
            (if x1 = (2 : Int32) then
              (if x0 = (3 : Int32) then
                P (some (.int (1 : Int32))) h
              else
                (if x0 = (5 : Int32) then
                  P (some (.int (1 : Int32))) h
                else
                  (if x1 = (3 : Int32) then
                    (if x0 = (5 : Int32) then
                      P (some (.int (1 : Int32))) h
                    else
                      (if x1 = (6 : Int32) then
                        (if x0 = (7 : Int32) then
                          P (some (.int (1 : Int32))) h
                        else
                          P (some (.int (0 : Int32))) h)
                      else
                        P (some (.int (0 : Int32))) h))
                  else
                    (if x1 = (6 : Int32) then
                      (if x0 = (7 : Int32) then
                        P (some (.int (1 : Int32))) h
                      else
                        P (some (.int (0 : Int32))) h)
                    else
                      P (some (.int (0 : Int32))) h))))
            else
              (if x1 = (3 : Int32) then
                (if x0 = (5 : Int32) then
                  P (some (.int (1 : Int32))) h
                else
                  (if x1 = (6 : Int32) then
                    (if x0 = (7 : Int32) then
                      P (some (.int (1 : Int32))) h
                    else
                      P (some (.int (0 : Int32))) h)
                  else
                    P (some (.int (0 : Int32))) h))
              else
                (if x1 = (6 : Int32) then
                  (if x0 = (7 : Int32) then
                    P (some (.int (1 : Int32))) h
                  else
                    P (some (.int (0 : Int32))) h)
                else
                  P (some (.int (0 : Int32))) h))))
        else
          (if x1 = (2 : Int32) then
            (if x0 = (3 : Int32) then
              P (some (.int (1 : Int32))) h
            else
              (if x0 = (5 : Int32) then
                P (some (.int (1 : Int32))) h
              else
                (if x1 = (3 : Int32) then
                  (if x0 = (5 : Int32) then
                    P (some (.int (1 : Int32))) h
                  else
                    (if x1 = (6 : Int32) then
                      (if x0 = (7 : Int32) then
                        P (some (.int (1 : Int32))) h
                      else
                        P (some (.int (0 : Int32))) h)
                    else
                      P (some (.int (0 : Int32))) h))
                else
                  (if x1 = (6 : Int32) then
                    (if x0 = (7 : Int32) then
                      P (some (.int (1 : Int32))) h
                    else
                      P (some (.int (0 : Int32))) h)
                  else
                    P (some (.int (0 : Int32))) h))))
          else
            (if x1 = (3 : Int32) then
              (if x0 = (5 : Int32) then
                P (some (.int (1 : Int32))) h
              else
                (if x1 = (6 : Int32) then
                  (if x0 = (7 : Int32) then
                    P (some (.int (1 : Int32))) h
                  else
                    P (some (.int (0 : Int32))) h)
                else
                  P (some (.int (0 : Int32))) h))
            else
              (if x1 = (6 : Int32) then
                (if x0 = (7 : Int32) then
                  P (some (.int (1 : Int32))) h
                else
                  P (some (.int (0 : Int32))) h)
              else
                P (some (.int (0 : Int32))) h))))))) :
    xm_Call K' sX9_isUnder 99 [.int x0, .int x1] h P :=
  xm_call_of (C := kX9_isUnder) hK (by decide +kernel) rfl (Nat.le_of_ble_eq_true rfl) (Or.inl rfl) (xX9_isUnder_0 H)

def kX9_plainSays : List xm_I := [
  i_0 0 (.aload_n 0) 1 none,
  i_v 1 (.iconst 1) 1 none 1 [],
  i_m 2 (.invokevirtual 402) 3 none 1 9 [1513, 1515, 94, 117, 1516] 0 sX9_ran,
  i_0 5 (.iload_n 2) 1 none,
  i_0 6 (.iload_n 1) 1 none,
  i_0 7 (.iadd) 1 none,
  i_0 8 (.ireturn) 1 none]
set_option maxRecDepth 100000 in
theorem oX9_plainSays : xm_ok sX9_plainSays sX9_plainSays.1.cls kX9_plainSays = true := by decide +kernel
set_option maxRecDepth 100000 in
set_option maxHeartbeats 4000000 in
theorem xX9_plainSays_0 {K : Nat} {h : xm_H} {P : Option Value → xm_H → Prop} {a0 : Nat} {x1 : Int32} {x2 : Int32} (H :
    xm_Call K sX9_ran 9 [.ref a0, .int (1 : Int32)] h (xm_pv fun h1 =>
      P (some (.int (x2 + x1))) h1)) :
    xm_L K sX9_plainSays kX9_plainSays 0 [some (.ref a0), some (.int x1), some (.int x2)] [] h P :=
  xm_run (fun _ _ h => h) oX9_plainSays 8 0 0 0 [some (.ref a0), some (.int x1), some (.int x2)] [] h H
set_option maxRecDepth 100000 in
theorem eX9_plainSays {K K' : Nat} (hK : K < K') {h : xm_H} {P : Option Value → xm_H → Prop} {a0 : Nat} {x1 : Int32} {x2 : Int32} (hr : ∃ fs, h[a0]? = some (.inr (9, fs))) (H :
    xm_Call K sX9_ran 9 [.ref a0, .int (1 : Int32)] h (xm_pv fun h1 =>
      P (some (.int (x2 + x1))) h1)) :
    xm_Call K' sX9_plainSays 9 [.ref a0, .int x1, .int x2] h P :=
  xm_call_of (C := kX9_plainSays) hK (by decide +kernel) rfl (Nat.le_of_ble_eq_true rfl) (Or.inr ⟨a0, hr.choose, rfl, hr.choose_spec⟩) (xX9_plainSays_0 H)

