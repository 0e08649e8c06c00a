def kX9_nightSays : List xm_I := [
  i_0 0 (.aload_n 0) 1 none,
  i_v 1 (.bipush 70) 2 none 70 [],
  i_m 3 (.invokevirtual 402) 3 none 1 9 [1513, 1515, 94, 117, 1516] 0 sX9_ran,
  i_0 6 (.aload_n 0) 1 none,
  i_0 7 (.iload_n 1) 1 none,
  i_0 8 (.iload_n 2) 1 none,
  i_m 9 (.invokevirtual 405) 3 none 2 9 [1517, 1519, 95, 117, 1520] 0 sX9_plainSays,
  i_v 12 (.iconst 2) 1 none 2 [],
  i_0 13 (.imul) 1 none,
  i_0 14 (.ireturn) 1 none]
set_option maxRecDepth 100000 in
theorem oX9_nightSays : xm_ok sX9_nightSays sX9_nightSays.1.cls kX9_nightSays = true := by decide +kernel
set_option maxRecDepth 100000 in
set_option maxHeartbeats 4000000 in
theorem xX9_nightSays_0 {K : Nat} {h : xm_H} {P : Option Value → xm_H → Prop} {a0 : Nat} {x1 : Int32} {x2 : Int32} (H :
    xm_Call K sX9_ran 9 [.ref a0, .int (70 : Int32)] h (xm_pv fun h1 =>
      xm_Call K sX9_plainSays 9 [.ref a0, .int x1, .int x2] h1 (xm_pi fun c3 h2 =>
        P (some (.int (c3 * (2 : Int32)))) h2))) :
    xm_L K sX9_nightSays kX9_nightSays 0 [some (.ref a0), some (.int x1), some (.int x2)] [] h P :=
  xm_run (fun _ _ h => h) oX9_nightSays 11 0 0 0 [some (.ref a0), some (.int x1), some (.int x2)] [] h H
set_option maxRecDepth 100000 in
theorem eX9_nightSays {K K' : Nat} (hK : K < K') {h : xm_H} {P : Option Value → xm_H → Prop} {a0 : Nat} {x1 : Int32} {x2 : Int32} (hr : ∃ fs, h[a0]? = some (.inr (9, fs))) (H :
    xm_Call K sX9_ran 9 [.ref a0, .int (70 : Int32)] h (xm_pv fun h1 =>
      xm_Call K sX9_plainSays 9 [.ref a0, .int x1, .int x2] h1 (xm_pi fun c3 h2 =>
        P (some (.int (c3 * (2 : Int32)))) h2))) :
    xm_Call K' sX9_nightSays 9 [.ref a0, .int x1, .int x2] h P :=
  xm_call_of (C := kX9_nightSays) hK (by decide +kernel) rfl (Nat.le_of_ble_eq_true rfl) (Or.inr ⟨a0, hr.choose, rfl, hr.choose_spec⟩) (xX9_nightSays_0 H)

def kX9_saying : List xm_I := [
  i_0 0 (.aload_n 0) 1 none,
  i_f 1 (.getfield 102) 3 none 9 51 [976] 1,
  i_0 4 (.iload_n 1) 1 none,
  i_0 5 (.iaload) 1 none,
  i_v 6 (.iconst 1) 1 none 1 [],
  i_m 7 (.invokestatic 408) 3 none 2 99 [1510, 1511, 117, 1512] 0 sX9_isUnder,
  i_j 10 (.ifCond .eq 18) 3 none 17,
  i_0 13 (.aload_n 0) 1 none,
  i_v 14 (.bipush 20) 2 none 20 [],
  i_m 16 (.invokevirtual 402) 3 none 1 9 [1513, 1515, 94, 117, 1516] 0 sX9_ran,
  i_0 19 (.aload_n 0) 1 none,
  i_0 20 (.iload_n 1) 1 none,
  i_0 21 (.iload_n 2) 1 none,
  i_m 22 (.invokevirtual 405) 3 none 2 9 [1517, 1519, 95, 117, 1520] 0 sX9_plainSays,
  i_v 25 (.iconst 3) 1 none 3 [],
  i_0 26 (.iadd) 1 none,
  i_0 27 (.ireturn) 1 none,
  i_0 28 (.aload_n 0) 1 none,
  i_f 29 (.getfield 102) 3 none 9 51 [976] 1,
  i_0 32 (.iload_n 1) 1 none,
  i_0 33 (.iaload) 1 none,
  i_v 34 (.bipush 7) 2 none 7 [],
  i_j 36 (.if_icmp .ne 18) 3 none 33,
  i_0 39 (.aload_n 0) 1 none,
  i_v 40 (.bipush 81) 2 none 81 [],
  i_m 42 (.invokevirtual 402) 3 none 1 9 [1513, 1515, 94, 117, 1516] 0 sX9_ran,
  i_0 45 (.aload_n 0) 1 none,
  i_0 46 (.iload_n 1) 1 none,
  i_0 47 (.iload_n 2) 1 none,
  i_m 48 (.invokevirtual 411) 3 none 2 9 [1521, 1523, 96, 117, 1524] 0 sX9_nightSays,
  i_v 51 (.iconst 1) 1 none 1 [],
  i_0 52 (.isub) 1 none,
  i_0 53 (.ireturn) 1 none,
  i_0 54 (.aload_n 0) 1 none,
  i_f 55 (.getfield 102) 3 none 9 51 [976] 1,
  i_0 58 (.iload_n 1) 1 none,
  i_0 59 (.iaload) 1 none,
  i_v 60 (.bipush 6) 2 none 6 [],
  i_j 62 (.if_icmp .ne 12) 3 none 44,
  i_0 65 (.aload_n 0) 1 none,
  i_0 66 (.iload_n 1) 1 none,
  i_0 67 (.iload_n 2) 1 none,
  i_m 68 (.invokevirtual 411) 3 none 2 9 [1521, 1523, 96, 117, 1524] 0 sX9_nightSays,
  i_j 71 (.goto 9) 3 none 48,
  i_0 74 (.aload_n 0) 1 none,
  i_0 75 (.iload_n 1) 1 none,
  i_0 76 (.iload_n 2) 1 none,
  i_m 77 (.invokevirtual 405) 3 none 2 9 [1517, 1519, 95, 117, 1520] 0 sX9_plainSays,
  i_0 80 (.ireturn) 1 none]
set_option maxRecDepth 100000 in
theorem oX9_saying : xm_ok sX9_saying sX9_saying.1.cls kX9_saying = true := by decide +kernel
set_option maxRecDepth 100000 in
set_option maxHeartbeats 4000000 in
theorem xX9_saying_0 {K : Nat} {h : xm_H} {P : Option Value → xm_H → Prop} {a0 : Nat} {x1 : Int32} {x2 : Int32} (H :
    ∃ q1, xm_fld h a0 9 51 = some (.ref q1) ∧ /- kind -/
    ∃ e2, xm_ld xm_st h 0 q1 x1 = some e2 ∧
    xm_Call K sX9_isUnder 99 [.int e2, .int (1 : Int32)] h (xm_pi fun c4 h3 =>
      (if c4 = 0 then
        ∃ q5, xm_fld h3 a0 9 51 = some (.ref q5) ∧ /- kind -/
        ∃ e6, xm_ld xm_st h3 0 q5 x1 = some e6 ∧
        (if e6 = (7 : Int32) then
          xm_Call K sX9_ran 9 [.ref a0, .int (81 : Int32)] h3 (xm_pv fun h7 =>
            xm_Call K sX9_nightSays 9 [.ref a0, .int x1, .int x2] h7 (xm_pi fun c9 h8 =>
              P (some (.int (c9 - (1 : Int32)))) h8))
        else
          ∃ q10, xm_fld h3 a0 9 51 = some (.ref q10) ∧ /- kind -/
          ∃ e11, xm_ld xm_st h3 0 q10 x1 = some e11 ∧
          (if e11 = (6 : Int32) then
            xm_Call K sX9_nightSays 9 [.ref a0, .int x1, .int x2] h3 (xm_pi fun c13 h12 =>
              P (some (.int c13)) h12)
          else
            xm_Call K sX9_plainSays 9 [.ref a0, .int x1, .int x2] h3 (xm_pi fun c15 h14 =>
              P (some (.int c15)) h14)))
      else
        xm_Call K sX9_ran 9 [.ref a0, .int (20 : Int32)] h3 (xm_pv fun h16 =>
          xm_Call K sX9_plainSays 9 [.ref a0, .int x1, .int x2] h16 (xm_pi fun c18 h17 =>
            P (some (.int (c18 + (3 : Int32)))) h17))))) :
    xm_L K sX9_saying kX9_saying 0 [some (.ref a0), some (.int x1), some (.int x2)] [] h P :=
  xm_run (fun _ _ h => h) oX9_saying 26 0 0 0 [some (.ref a0), some (.int x1), some (.int x2)] [] h H
set_option maxRecDepth 100000 in
theorem eX9_saying {K K' : Nat} (hK : K < K') {h : xm_H} {P : Option Value → xm_H → Prop} {a0 : Nat} {x1 : Int32} {x2 : Int32} (hr : ∃ fs, h[a0]? = some (.inr (9, fs))) (H :
    ∃ q1, xm_fld h a0 9 51 = some (.ref q1) ∧ /- kind -/
    ∃ e2, xm_ld xm_st h 0 q1 x1 = some e2 ∧
    xm_Call K sX9_isUnder 99 [.int e2, .int (1 : Int32)] h (xm_pi fun c4 h3 =>
      (if c4 = 0 then
        ∃ q5, xm_fld h3 a0 9 51 = some (.ref q5) ∧ /- kind -/
        ∃ e6, xm_ld xm_st h3 0 q5 x1 = some e6 ∧
        (if e6 = (7 : Int32) then
          xm_Call K sX9_ran 9 [.ref a0, .int (81 : Int32)] h3 (xm_pv fun h7 =>
            xm_Call K sX9_nightSays 9 [.ref a0, .int x1, .int x2] h7 (xm_pi fun c9 h8 =>
              P (some (.int (c9 - (1 : Int32)))) h8))
        else
          ∃ q10, xm_fld h3 a0 9 51 = some (.ref q10) ∧ /- kind -/
          ∃ e11, xm_ld xm_st h3 0 q10 x1 = some e11 ∧
          (if e11 = (6 : Int32) then
            xm_Call K sX9_nightSays 9 [.ref a0, .int x1, .int x2] h3 (xm_pi fun c13 h12 =>
              P (some (.int c13)) h12)
          else
            xm_Call K sX9_plainSays 9 [.ref a0, .int x1, .int x2] h3 (xm_pi fun c15 h14 =>
              P (some (.int c15)) h14)))
      else
        xm_Call K sX9_ran 9 [.ref a0, .int (20 : Int32)] h3 (xm_pv fun h16 =>
          xm_Call K sX9_plainSays 9 [.ref a0, .int x1, .int x2] h16 (xm_pi fun c18 h17 =>
            P (some (.int (c18 + (3 : Int32)))) h17))))) :
    xm_Call K' sX9_saying 9 [.ref a0, .int x1, .int x2] h P :=
  xm_call_of (C := kX9_saying) hK (by decide +kernel) rfl (Nat.le_of_ble_eq_true rfl) (Or.inr ⟨a0, hr.choose, rfl, hr.choose_spec⟩) (xX9_saying_0 H)

def kX9_plainCounts : List xm_I := [
  i_0 0 (.aload_n 0) 1 none,
  i_v 1 (.bipush 10) 2 none 10 [],
  i_m 3 (.invokevirtual 402) 3 none 1 9 [1513, 1515, 94, 117, 1516] 0 sX9_ran,
  i_0 6 (.aload_n 0) 1 none,
  i_0 7 (.iload_n 1) 1 none,
  i_0 8 (.iload_n 2) 1 none,
  i_m 9 (.invokevirtual 414) 3 none 2 9 [1506, 1508, 93, 117, 1509] 0 sX9_saying,
  i_v 12 (.iconst 2) 1 none 2 [],
  i_0 13 (.imul) 1 none,
  i_0 14 (.ireturn) 1 none]
set_option maxRecDepth 100000 in
theorem oX9_plainCounts : xm_ok sX9_plainCounts sX9_plainCounts.1.cls kX9_plainCounts = true := by decide +kernel
set_option maxRecDepth 100000 in
set_option maxHeartbeats 4000000 in
theorem xX9_plainCounts_0 {K : Nat} {h : xm_H} {P : Option Value → xm_H → Prop} {a0 : Nat} {x1 : Int32} {x2 : Int32} (H :
    xm_Call K sX9_ran 9 [.ref a0, .int (10 : Int32)] h (xm_pv fun h1 =>
      xm_Call K sX9_saying 9 [.ref a0, .int x1, .int x2] h1 (xm_pi fun c3 h2 =>
        P (some (.int (c3 * (2 : Int32)))) h2))) :
    xm_L K sX9_plainCounts kX9_plainCounts 0 [some (.ref a0), some (.int x1), some (.int x2)] [] h P :=
  xm_run (fun _ _ h => h) oX9_plainCounts 11 0 0 0 [some (.ref a0), some (.int x1), some (.int x2)] [] h H
set_option maxRecDepth 100000 in
theorem eX9_plainCounts {K K' : Nat} (hK : K < K') {h : xm_H} {P : Option Value → xm_H → Prop} {a0 : Nat} {x1 : Int32} {x2 : Int32} (hr : ∃ fs, h[a0]? = some (.inr (9, fs))) (H :
    xm_Call K sX9_ran 9 [.ref a0, .int (10 : Int32)] h (xm_pv fun h1 =>
      xm_Call K sX9_saying 9 [.ref a0, .int x1, .int x2] h1 (xm_pi fun c3 h2 =>
        P (some (.int (c3 * (2 : Int32)))) h2))) :
    xm_Call K' sX9_plainCounts 9 [.ref a0, .int x1, .int x2] h P :=
  xm_call_of (C := kX9_plainCounts) hK (by decide +kernel) rfl (Nat.le_of_ble_eq_true rfl) (Or.inr ⟨a0, hr.choose, rfl, hr.choose_spec⟩) (xX9_plainCounts_0 H)

def kX9_sighCounts : List xm_I := [
  i_0 0 (.aload_n 0) 1 none,
  i_v 1 (.bipush 30) 2 none 30 [],
  i_m 3 (.invokevirtual 402) 3 none 1 9 [1513, 1515, 94, 117, 1516] 0 sX9_ran,
  i_0 6 (.aload_n 0) 1 none,
  i_0 7 (.iload_n 1) 1 none,
  i_0 8 (.iload_n 2) 1 none,
  i_m 9 (.invokevirtual 417) 3 none 2 9 [1533, 1535, 99, 117, 1536] 0 sX9_plainCounts,
  i_0 12 (.ineg) 1 none,
  i_0 13 (.ireturn) 1 none]
set_option maxRecDepth 100000 in
theorem oX9_sighCounts : xm_ok sX9_sighCounts sX9_sighCounts.1.cls kX9_sighCounts = true := by decide +kernel
set_option maxRecDepth 100000 in
set_option maxHeartbeats 4000000 in
theorem xX9_sighCounts_0 {K : Nat} {h : xm_H} {P : Option Value → xm_H → Prop} {a0 : Nat} {x1 : Int32} {x2 : Int32} (H :
    xm_Call K sX9_ran 9 [.ref a0, .int (30 : Int32)] h (xm_pv fun h1 =>
      xm_Call K sX9_plainCounts 9 [.ref a0, .int x1, .int x2] h1 (xm_pi fun c3 h2 =>
        P (some (.int (-c3))) h2))) :
    xm_L K sX9_sighCounts kX9_sighCounts 0 [some (.ref a0), some (.int x1), some (.int x2)] [] h P :=
  xm_run (fun _ _ h => h) oX9_sighCounts 10 0 0 0 [some (.ref a0), some (.int x1), some (.int x2)] [] h H
set_option maxRecDepth 100000 in
theorem eX9_sighCounts {K K' : Nat} (hK : K < K') {h : xm_H} {P : Option Value → xm_H → Prop} {a0 : Nat} {x1 : Int32} {x2 : Int32} (hr : ∃ fs, h[a0]? = some (.inr (9, fs))) (H :
    xm_Call K sX9_ran 9 [.ref a0, .int (30 : Int32)] h (xm_pv fun h1 =>
      xm_Call K sX9_plainCounts 9 [.ref a0, .int x1, .int x2] h1 (xm_pi fun c3 h2 =>
        P (some (.int (-c3))) h2))) :
    xm_Call K' sX9_sighCounts 9 [.ref a0, .int x1, .int x2] h P :=
  xm_call_of (C := kX9_sighCounts) hK (by decide +kernel) rfl (Nat.le_of_ble_eq_true rfl) (Or.inr ⟨a0, hr.choose, rfl, hr.choose_spec⟩) (xX9_sighCounts_0 H)

def kX9_counting : List xm_I := [
  i_0 0 (.aload_n 0) 1 none,
  i_f 1 (.getfield 102) 3 none 9 51 [976] 1,
  i_0 4 (.iload_n 1) 1 none,
  i_0 5 (.iaload) 1 none,
  i_v 6 (.iconst 3) 1 none 3 [],
  i_m 7 (.invokestatic 408) 3 none 2 99 [1510, 1511, 117, 1512] 0 sX9_isUnder,
  i_j 10 (.ifCond .eq 18) 3 none 17,
  i_0 13 (.aload_n 0) 1 none,
  i_v 14 (.bipush 41) 2 none 41 [],
  i_m 16 (.invokevirtual 402) 3 none 1 9 [1513, 1515, 94, 117, 1516] 0 sX9_ran,
  i_0 19 (.aload_n 0) 1 none,
  i_0 20 (.iload_n 1) 1 none,
  i_0 21 (.iload_n 2) 1 none,
  i_v 22 (.iconst 1) 1 none 1 [],
  i_0 23 (.iadd) 1 none,
  i_m 24 (.invokevirtual 420) 3 none 2 9 [1529, 1531, 98, 117, 1532] 0 sX9_sighCounts,
  i_0 27 (.ireturn) 1 none,
  i_0 28 (.aload_n 0) 1 none,
  i_f 29 (.getfield 102) 3 none 9 51 [976] 1,
  i_0 32 (.iload_n 1) 1 none,
  i_0 33 (.iaload) 1 none,
  i_v 34 (.bipush 7) 2 none 7 [],
  i_j 36 (.if_icmp .ne 25) 3 none 38,
  i_0 39 (.aload_n 0) 1 none,
  i_v 40 (.bipush 80) 2 none 80 [],
  i_m 42 (.invokevirtual 402) 3 none 1 9 [1513, 1515, 94, 117, 1516] 0 sX9_ran,
  i_0 45 (.aload_n 0) 1 none,
  i_0 46 (.iload_n 1) 1 none,
  i_0 47 (.iload_n 2) 1 none,
  i_m 48 (.invokevirtual 417) 3 none 2 9 [1533, 1535, 99, 117, 1536] 0 sX9_plainCounts,
  i_0 51 (.istore_n 3) 1 none,
  i_0 52 (.iload_n 3) 1 none,
  i_0 53 (.aload_n 0) 1 none,
  i_0 54 (.iload_n 1) 1 none,
  i_v 55 (.iconst 2) 1 none 2 [],
  i_m 56 (.invokevirtual 423) 3 none 2 9 [1537, 1539, 100, 117, 1540] 0 sX9_going,
  i_0 59 (.iadd) 1 none,
  i_0 60 (.ireturn) 1 none,
  i_0 61 (.aload_n 0) 1 none,
  i_f 62 (.getfield 102) 3 none 9 51 [976] 1,
  i_0 65 (.iload_n 1) 1 none,
  i_0 66 (.iaload) 1 none,
  i_v 67 (.iconst 2) 1 none 2 [],
  i_j 68 (.if_icmp .ne 12) 3 none 49,
  i_0 71 (.aload_n 0) 1 none,
  i_0 72 (.iload_n 1) 1 none,
  i_0 73 (.iload_n 2) 1 none,
  i_m 74 (.invokevirtual 420) 3 none 2 9 [1529, 1531, 98, 117, 1532] 0 sX9_sighCounts,
  i_j 77 (.goto 9) 3 none 53,
  i_0 80 (.aload_n 0) 1 none,
  i_0 81 (.iload_n 1) 1 none,
  i_0 82 (.iload_n 2) 1 none,
  i_m 83 (.invokevirtual 417) 3 none 2 9 [1533, 1535, 99, 117, 1536] 0 sX9_plainCounts,
  i_0 86 (.ireturn) 1 none]
set_option maxRecDepth 100000 in
theorem oX9_counting : xm_ok sX9_counting sX9_counting.1.cls kX9_counting = true := by decide +kernel
set_option maxRecDepth 100000 in
set_option maxHeartbeats 4000000 in
theorem xX9_counting_0 {K : Nat} {h : xm_H} {P : Option Value → xm_H → Prop} {a0 : Nat} {x1 : Int32} {x2 : Int32} (H :
    ∃ q1, xm_fld h a0 9 51 = some (.ref q1) ∧ /- kind -/
    ∃ e2, xm_ld xm_st h 0 q1 x1 = some e2 ∧
    xm_Call K sX9_isUnder 99 [.int e2, .int (3 : Int32)] h (xm_pi fun c4 h3 =>
      (if c4 = 0 then
        ∃ q5, xm_fld h3 a0 9 51 = some (.ref q5) ∧ /- kind -/
        ∃ e6, xm_ld xm_st h3 0 q5 x1 = some e6 ∧
        (if e6 = (7 : Int32) then
          xm_Call K sX9_ran 9 [.ref a0, .int (80 : Int32)] h3 (xm_pv fun h7 =>
            xm_Call K sX9_plainCounts 9 [.ref a0, .int x1, .int x2] h7 (xm_pi fun c9 h8 =>
              xm_Call K sX9_going 9 [.ref a0, .int x1, .int (2 : Int32)] h8 (xm_pi fun c11 h10 =>
                P (some (.int (c9 + c11))) h10)))
        else
          ∃ q12, xm_fld h3 a0 9 51 = some (.ref q12) ∧ /- kind -/
          ∃ e13, xm_ld xm_st h3 0 q12 x1 = some e13 ∧
          (if e13 = (2 : Int32) then
            xm_Call K sX9_sighCounts 9 [.ref a0, .int x1, .int x2] h3 (xm_pi fun c15 h14 =>
              P (some (.int c15)) h14)
          else
            xm_Call K sX9_plainCounts 9 [.ref a0, .int x1, .int x2] h3 (xm_pi fun c17 h16 =>
              P (some (.int c17)) h16)))
      else
        xm_Call K sX9_ran 9 [.ref a0, .int (41 : Int32)] h3 (xm_pv fun h18 =>
          xm_Call K sX9_sighCounts 9 [.ref a0, .int x1, .int (x2 + (1 : Int32))] h18 (xm_pi fun c20 h19 =>
            P (some (.int c20)) h19))))) :
    xm_L K sX9_counting kX9_counting 0 [some (.ref a0), some (.int x1), some (.int x2), none] [] h P :=
  xm_run (fun _ _ h => h) oX9_counting 29 0 0 0 [some (.ref a0), some (.int x1), some (.int x2), none] [] h H
set_option maxRecDepth 100000 in
theorem eX9_counting {K K' : Nat} (hK : K < K') {h : xm_H} {P : Option Value → xm_H → Prop} {a0 : Nat} {x1 : Int32} {x2 : Int32} (hr : ∃ fs, h[a0]? = some (.inr (9, fs))) (H :
    ∃ q1, xm_fld h a0 9 51 = some (.ref q1) ∧ /- kind -/
    ∃ e2, xm_ld xm_st h 0 q1 x1 = some e2 ∧
    xm_Call K sX9_isUnder 99 [.int e2, .int (3 : Int32)] h (xm_pi fun c4 h3 =>
      (if c4 = 0 then
        ∃ q5, xm_fld h3 a0 9 51 = some (.ref q5) ∧ /- kind -/
        ∃ e6, xm_ld xm_st h3 0 q5 x1 = some e6 ∧
        (if e6 = (7 : Int32) then
          xm_Call K sX9_ran 9 [.ref a0, .int (80 : Int32)] h3 (xm_pv fun h7 =>
            xm_Call K sX9_plainCounts 9 [.ref a0, .int x1, .int x2] h7 (xm_pi fun c9 h8 =>
              xm_Call K sX9_going 9 [.ref a0, .int x1, .int (2 : Int32)] h8 (xm_pi fun c11 h10 =>
                P (some (.int (c9 + c11))) h10)))
        else
          ∃ q12, xm_fld h3 a0 9 51 = some (.ref q12) ∧ /- kind -/
          ∃ e13, xm_ld xm_st h3 0 q12 x1 = some e13 ∧
          (if e13 = (2 : Int32) then
            xm_Call K sX9_sighCounts 9 [.ref a0, .int x1, .int x2] h3 (xm_pi fun c15 h14 =>
              P (some (.int c15)) h14)
          else
            xm_Call K sX9_plainCounts 9 [.ref a0, .int x1, .int x2] h3 (xm_pi fun c17 h16 =>
              P (some (.int c17)) h16)))
      else
        xm_Call K sX9_ran 9 [.ref a0, .int (41 : Int32)] h3 (xm_pv fun h18 =>
          xm_Call K sX9_sighCounts 9 [.ref a0, .int x1, .int (x2 + (1 : Int32))] h18 (xm_pi fun c20 h19 =>
            P (some (.int c20)) h19))))) :
    xm_Call K' sX9_counting 9 [.ref a0, .int x1, .int x2] h P :=
  xm_call_of (C := kX9_counting) hK (by decide +kernel) rfl (Nat.le_of_ble_eq_true rfl) (Or.inr ⟨a0, hr.choose, rfl, hr.choose_spec⟩) (xX9_counting_0 H)

def kX9_plainGoes : List xm_I := [
  i_0 0 (.aload_n 0) 1 none,
  i_v 1 (.bipush 11) 2 none 11 [],
  i_m 3 (.invokevirtual 402) 3 none 1 9 [1513, 1515, 94, 117, 1516] 0 sX9_ran,
  i_0 6 (.iload_n 2) 1 none,
  i_0 7 (.iload_n 1) 1 none,
  i_0 8 (.ixor) 1 none,
  i_0 9 (.ireturn) 1 none]
set_option maxRecDepth 100000 in
theorem oX9_plainGoes : xm_ok sX9_plainGoes sX9_plainGoes.1.cls kX9_plainGoes = true := by decide +kernel
set_option maxRecDepth 100000 in
set_option maxHeartbeats 4000000 in
theorem xX9_plainGoes_0 {K : Nat} {h : xm_H} {P : Option Value → xm_H → Prop} {a0 : Nat} {x1 : Int32} {x2 : Int32} (H :
    xm_Call K sX9_ran 9 [.ref a0, .int (11 : Int32)] h (xm_pv fun h1 =>
      P (some (.int (x2 ^^^ x1))) h1)) :
    xm_L K sX9_plainGoes kX9_plainGoes 0 [some (.ref a0), some (.int x1), some (.int x2)] [] h P :=
  xm_run (fun _ _ h => h) oX9_plainGoes 8 0 0 0 [some (.ref a0), some (.int x1), some (.int x2)] [] h H
set_option maxRecDepth 100000 in
theorem eX9_plainGoes {K K' : Nat} (hK : K < K') {h : xm_H} {P : Option Value → xm_H → Prop} {a0 : Nat} {x1 : Int32} {x2 : Int32} (hr : ∃ fs, h[a0]? = some (.inr (9, fs))) (H :
    xm_Call K sX9_ran 9 [.ref a0, .int (11 : Int32)] h (xm_pv fun h1 =>
      P (some (.int (x2 ^^^ x1))) h1)) :
    xm_Call K' sX9_plainGoes 9 [.ref a0, .int x1, .int x2] h P :=
  xm_call_of (C := kX9_plainGoes) hK (by decide +kernel) rfl (Nat.le_of_ble_eq_true rfl) (Or.inr ⟨a0, hr.choose, rfl, hr.choose_spec⟩) (xX9_plainGoes_0 H)

def kX9_sleepGoes : List xm_I := [
  i_0 0 (.aload_n 0) 1 none,
  i_v 1 (.bipush 40) 2 none 40 [],
  i_m 3 (.invokevirtual 402) 3 none 1 9 [1513, 1515, 94, 117, 1516] 0 sX9_ran,
  i_0 6 (.aload_n 0) 1 none,
  i_0 7 (.iload_n 1) 1 none,
  i_0 8 (.iload_n 2) 1 none,
  i_m 9 (.invokevirtual 426) 3 none 2 9 [1545, 1547, 102, 117, 1548] 0 sX9_plainGoes,
  i_v 12 (.iconst 3) 1 none 3 [],
  i_0 13 (.imul) 1 none,
  i_0 14 (.ireturn) 1 none]
set_option maxRecDepth 100000 in
theorem oX9_sleepGoes : xm_ok sX9_sleepGoes sX9_sleepGoes.1.cls kX9_sleepGoes = true := by decide +kernel
set_option maxRecDepth 100000 in
set_option maxHeartbeats 4000000 in
theorem xX9_sleepGoes_0 {K : Nat} {h : xm_H} {P : Option Value → xm_H → Prop} {a0 : Nat} {x1 : Int32} {x2 : Int32} (H :
    xm_Call K sX9_ran 9 [.ref a0, .int (40 : Int32)] h (xm_pv fun h1 =>
      xm_Call K sX9_plainGoes 9 [.ref a0, .int x1, .int x2] h1 (xm_pi fun c3 h2 =>
        P (some (.int (c3 * (3 : Int32)))) h2))) :
    xm_L K sX9_sleepGoes kX9_sleepGoes 0 [some (.ref a0), some (.int x1), some (.int x2)] [] h P :=
  xm_run (fun _ _ h => h) oX9_sleepGoes 11 0 0 0 [some (.ref a0), some (.int x1), some (.int x2)] [] h H
set_option maxRecDepth 100000 in
theorem eX9_sleepGoes {K K' : Nat} (hK : K < K') {h : xm_H} {P : Option Value → xm_H → Prop} {a0 : Nat} {x1 : Int32} {x2 : Int32} (hr : ∃ fs, h[a0]? = some (.inr (9, fs))) (H :
    xm_Call K sX9_ran 9 [.ref a0, .int (40 : Int32)] h (xm_pv fun h1 =>
      xm_Call K sX9_plainGoes 9 [.ref a0, .int x1, .int x2] h1 (xm_pi fun c3 h2 =>
        P (some (.int (c3 * (3 : Int32)))) h2))) :
    xm_Call K' sX9_sleepGoes 9 [.ref a0, .int x1, .int x2] h P :=
  xm_call_of (C := kX9_sleepGoes) hK (by decide +kernel) rfl (Nat.le_of_ble_eq_true rfl) (Or.inr ⟨a0, hr.choose, rfl, hr.choose_spec⟩) (xX9_sleepGoes_0 H)

def kX9_going : List xm_I := [
  i_0 0 (.aload_n 0) 1 none,
  i_f 1 (.getfield 102) 3 none 9 51 [976] 1,
  i_0 4 (.iload_n 1) 1 none,
  i_0 5 (.iaload) 1 none,
  i_v 6 (.iconst 5) 1 none 5 [],
  i_j 7 (.if_icmp .ne 25) 3 none 21,
  i_0 10 (.aload_n 0) 1 none,
  i_v 11 (.bipush 60) 2 none 60 [],
  i_m 13 (.invokevirtual 402) 3 none 1 9 [1513, 1515, 94, 117, 1516] 0 sX9_ran,
  i_0 16 (.aload_n 0) 1 none,
  i_0 17 (.iload_n 1) 1 none,
  i_0 18 (.iload_n 2) 1 none,
  i_m 19 (.invokevirtual 429) 3 none 2 9 [1541, 1543, 101, 117, 1544] 0 sX9_sleepGoes,
  i_0 22 (.istore_n 3) 1 none,
  i_0 23 (.iload_n 3) 1 none,
  i_0 24 (.aload_n 0) 1 none,
  i_0 25 (.iload_n 1) 1 none,
  i_v 26 (.iconst 2) 1 none 2 [],
  i_m 27 (.invokevirtual 414) 3 none 2 9 [1506, 1508, 93, 117, 1509] 0 sX9_saying,
  i_0 30 (.isub) 1 none,
  i_0 31 (.ireturn) 1 none,
  i_0 32 (.aload_n 0) 1 none,
  i_f 33 (.getfield 102) 3 none 9 51 [976] 1,
  i_0 36 (.iload_n 1) 1 none,
  i_0 37 (.iaload) 1 none,
  i_v 38 (.iconst 3) 1 none 3 [],
  i_j 39 (.if_icmp .ne 12) 3 none 32,
  i_0 42 (.aload_n 0) 1 none,
  i_0 43 (.iload_n 1) 1 none,
  i_0 44 (.iload_n 2) 1 none,
  i_m 45 (.invokevirtual 429) 3 none 2 9 [1541, 1543, 101, 117, 1544] 0 sX9_sleepGoes,
  i_j 48 (.goto 9) 3 none 36,
  i_0 51 (.aload_n 0) 1 none,
  i_0 52 (.iload_n 1) 1 none,
  i_0 53 (.iload_n 2) 1 none,
  i_m 54 (.invokevirtual 426) 3 none 2 9 [1545, 1547, 102, 117, 1548] 0 sX9_plainGoes,
  i_0 57 (.ireturn) 1 none]
set_option maxRecDepth 100000 in
theorem oX9_going : xm_ok sX9_going sX9_going.1.cls kX9_going = true := by decide +kernel
set_option maxRecDepth 100000 in
set_option maxHeartbeats 4000000 in
theorem xX9_going_0 {K : Nat} {h : xm_H} {P : Option Value → xm_H → Prop} {a0 : Nat} {x1 : Int32} {x2 : Int32} (H :
    ∃ q1, xm_fld h a0 9 51 = some (.ref q1) ∧ /- kind -/
    ∃ e2, xm_ld xm_st h 0 q1 x1 = some e2 ∧
    (if e2 = (5 : Int32) then
      xm_Call K sX9_ran 9 [.ref a0, .int (60 : Int32)] h (xm_pv fun h3 =>
        xm_Call K sX9_sleepGoes 9 [.ref a0, .int x1, .int x2] h3 (xm_pi fun c5 h4 =>
          xm_Call K sX9_saying 9 [.ref a0, .int x1, .int (2 : Int32)] h4 (xm_pi fun c7 h6 =>
            P (some (.int (c5 - c7))) h6)))
    else
      ∃ q8, xm_fld h a0 9 51 = some (.ref q8) ∧ /- kind -/
      ∃ e9, xm_ld xm_st h 0 q8 x1 = some e9 ∧
      (if e9 = (3 : Int32) then
        xm_Call K sX9_sleepGoes 9 [.ref a0, .int x1, .int x2] h (xm_pi fun c11 h10 =>
          P (some (.int c11)) h10)
      else
        xm_Call K sX9_plainGoes 9 [.ref a0, .int x1, .int x2] h (xm_pi fun c13 h12 =>
          P (some (.int c13)) h12)))) :
    xm_L K sX9_going kX9_going 0 [some (.ref a0), some (.int x1), some (.int x2), none] [] h P :=
  xm_run (fun _ _ h => h) oX9_going 22 0 0 0 [some (.ref a0), some (.int x1), some (.int x2), none] [] h H
set_option maxRecDepth 100000 in
theorem eX9_going {K K' : Nat} (hK : K < K') {h : xm_H} {P : Option Value → xm_H → Prop} {a0 : Nat} {x1 : Int32} {x2 : Int32} (hr : ∃ fs, h[a0]? = some (.inr (9, fs))) (H :
    ∃ q1, xm_fld h a0 9 51 = some (.ref q1) ∧ /- kind -/
    ∃ e2, xm_ld xm_st h 0 q1 x1 = some e2 ∧
    (if e2 = (5 : Int32) then
      xm_Call K sX9_ran 9 [.ref a0, .int (60 : Int32)] h (xm_pv fun h3 =>
        xm_Call K sX9_sleepGoes 9 [.ref a0, .int x1, .int x2] h3 (xm_pi fun c5 h4 =>
          xm_Call K sX9_saying 9 [.ref a0, .int x1, .int (2 : Int32)] h4 (xm_pi fun c7 h6 =>
            P (some (.int (c5 - c7))) h6)))
    else
      ∃ q8, xm_fld h a0 9 51 = some (.ref q8) ∧ /- kind -/
      ∃ e9, xm_ld xm_st h 0 q8 x1 = some e9 ∧
      (if e9 = (3 : Int32) then
        xm_Call K sX9_sleepGoes 9 [.ref a0, .int x1, .int x2] h (xm_pi fun c11 h10 =>
          P (some (.int c11)) h10)
      else
        xm_Call K sX9_plainGoes 9 [.ref a0, .int x1, .int x2] h (xm_pi fun c13 h12 =>
          P (some (.int c13)) h12)))) :
    xm_Call K' sX9_going 9 [.ref a0, .int x1, .int x2] h P :=
  xm_call_of (C := kX9_going) hK (by decide +kernel) rfl (Nat.le_of_ble_eq_true rfl) (Or.inr ⟨a0, hr.choose, rfl, hr.choose_spec⟩) (xX9_going_0 H)

def kX9_plainTells : List xm_I := [
  i_0 0 (.aload_n 0) 1 none,
  i_v 1 (.iconst 2) 1 none 2 [],
  i_m 2 (.invokevirtual 402) 3 none 1 9 [1513, 1515, 94, 117, 1516] 0 sX9_ran,
  i_0 5 (.aload_n 0) 1 none,
  i_0 6 (.iload_n 1) 1 none,
  i_0 7 (.iload_n 2) 1 none,
  i_m 8 (.invokevirtual 432) 3 none 2 9 [1525, 1527, 97, 117, 1528] 0 sX9_counting,
  i_0 11 (.istore_n 3) 1 none,
  i_0 12 (.iload_n 3) 1 none,
  i_0 13 (.aload_n 0) 1 none,
  i_0 14 (.iload_n 1) 1 none,
  i_v 15 (.iconst 1) 1 none 1 [],
  i_m 16 (.invokevirtual 423) 3 none 2 9 [1537, 1539, 100, 117, 1540] 0 sX9_going,
  i_0 19 (.isub) 1 none,
  i_0 20 (.ireturn) 1 none]
set_option maxRecDepth 100000 in
theorem oX9_plainTells : xm_ok sX9_plainTells sX9_plainTells.1.cls kX9_plainTells = true := by decide +kernel
set_option maxRecDepth 100000 in
set_option maxHeartbeats 4000000 in
theorem xX9_plainTells_0 {K : Nat} {h : xm_H} {P : Option Value → xm_H → Prop} {a0 : Nat} {x1 : Int32} {x2 : Int32} (H :
    xm_Call K sX9_ran 9 [.ref a0, .int (2 : Int32)] h (xm_pv fun h1 =>
      xm_Call K sX9_counting 9 [.ref a0, .int x1, .int x2] h1 (xm_pi fun c3 h2 =>
        xm_Call K sX9_going 9 [.ref a0, .int x1, .int (1 : Int32)] h2 (xm_pi fun c5 h4 =>
          P (some (.int (c3 - c5))) h4)))) :
    xm_L K sX9_plainTells kX9_plainTells 0 [some (.ref a0), some (.int x1), some (.int x2), none] [] h P :=
  xm_run (fun _ _ h => h) oX9_plainTells 16 0 0 0 [some (.ref a0), some (.int x1), some (.int x2), none] [] h H
set_option maxRecDepth 100000 in
theorem eX9_plainTells {K K' : Nat} (hK : K < K') {h : xm_H} {P : Option Value → xm_H → Prop} {a0 : Nat} {x1 : Int32} {x2 : Int32} (hr : ∃ fs, h[a0]? = some (.inr (9, fs))) (H :
    xm_Call K sX9_ran 9 [.ref a0, .int (2 : Int32)] h (xm_pv fun h1 =>
      xm_Call K sX9_counting 9 [.ref a0, .int x1, .int x2] h1 (xm_pi fun c3 h2 =>
        xm_Call K sX9_going 9 [.ref a0, .int x1, .int (1 : Int32)] h2 (xm_pi fun c5 h4 =>
          P (some (.int (c3 - c5))) h4)))) :
    xm_Call K' sX9_plainTells 9 [.ref a0, .int x1, .int x2] h P :=
  xm_call_of (C := kX9_plainTells) hK (by decide +kernel) rfl (Nat.le_of_ble_eq_true rfl) (Or.inr ⟨a0, hr.choose, rfl, hr.choose_spec⟩) (xX9_plainTells_0 H)

def kX9_telling : List xm_I := [
  i_0 0 (.aload_n 0) 1 none,
  i_f 1 (.getfield 102) 3 none 9 51 [976] 1,
  i_0 4 (.iload_n 1) 1 none,
  i_0 5 (.iaload) 1 none,
  i_v 6 (.iconst 4) 1 none 4 [],
  i_j 7 (.if_icmp .ne 18) 3 none 16,
  i_0 10 (.aload_n 0) 1 none,
  i_v 11 (.bipush 50) 2 none 50 [],
  i_m 13 (.invokevirtual 402) 3 none 1 9 [1513, 1515, 94, 117, 1516] 0 sX9_ran,
  i_0 16 (.aload_n 0) 1 none,
  i_0 17 (.iload_n 1) 1 none,
  i_0 18 (.iload_n 2) 1 none,
  i_m 19 (.invokevirtual 435) 3 none 2 9 [1553, 1555, 104, 117, 1556] 0 sX9_plainTells,
  i_v 22 (.iconst 5) 1 none 5 [],
  i_0 23 (.ixor) 1 none,
  i_0 24 (.ireturn) 1 none,
  i_0 25 (.aload_n 0) 1 none,
  i_f 26 (.getfield 102) 3 none 9 51 [976] 1,
  i_0 29 (.iload_n 1) 1 none,
  i_0 30 (.iaload) 1 none,
  i_v 31 (.iconst 5) 1 none 5 [],
  i_j 32 (.if_icmp .ne 18) 3 none 32,
  i_0 35 (.aload_n 0) 1 none,
  i_v 36 (.bipush 61) 2 none 61 [],
  i_m 38 (.invokevirtual 402) 3 none 1 9 [1513, 1515, 94, 117, 1516] 0 sX9_ran,
  i_0 41 (.aload_n 0) 1 none,
  i_0 42 (.iload_n 1) 1 none,
  i_0 43 (.iload_n 2) 1 none,
  i_m 44 (.invokevirtual 435) 3 none 2 9 [1553, 1555, 104, 117, 1556] 0 sX9_plainTells,
  i_v 47 (.iconst 1) 1 none 1 [],
  i_0 48 (.iadd) 1 none,
  i_0 49 (.ireturn) 1 none,
  i_0 50 (.aload_n 0) 1 none,
  i_0 51 (.iload_n 1) 1 none,
  i_0 52 (.iload_n 2) 1 none,
  i_m 53 (.invokevirtual 435) 3 none 2 9 [1553, 1555, 104, 117, 1556] 0 sX9_plainTells,
  i_0 56 (.ireturn) 1 none]
set_option maxRecDepth 100000 in
theorem oX9_telling : xm_ok sX9_telling sX9_telling.1.cls kX9_telling = true := by decide +kernel
set_option maxRecDepth 100000 in
set_option maxHeartbeats 4000000 in
theorem xX9_telling_0 {K : Nat} {h : xm_H} {P : Option Value → xm_H → Prop} {a0 : Nat} {x1 : Int32} {x2 : Int32} (H :
    ∃ q1, xm_fld h a0 9 51 = some (.ref q1) ∧ /- kind -/
    ∃ e2, xm_ld xm_st h 0 q1 x1 = some e2 ∧
    (if e2 = (4 : Int32) then
      xm_Call K sX9_ran 9 [.ref a0, .int (50 : Int32)] h (xm_pv fun h3 =>
        xm_Call K sX9_plainTells 9 [.ref a0, .int x1, .int x2] h3 (xm_pi fun c5 h4 =>
          P (some (.int (c5 ^^^ (5 : Int32)))) h4))
    else
      ∃ q6, xm_fld h a0 9 51 = some (.ref q6) ∧ /- kind -/
      ∃ e7, xm_ld xm_st h 0 q6 x1 = some e7 ∧
      (if e7 = (5 : Int32) then
        xm_Call K sX9_ran 9 [.ref a0, .int (61 : Int32)] h (xm_pv fun h8 =>
          xm_Call K sX9_plainTells 9 [.ref a0, .int x1, .int x2] h8 (xm_pi fun c10 h9 =>
            P (some (.int (c10 + (1 : Int32)))) h9))
      else
        xm_Call K sX9_plainTells 9 [.ref a0, .int x1, .int x2] h (xm_pi fun c12 h11 =>
          P (some (.int c12)) h11)))) :
    xm_L K sX9_telling kX9_telling 0 [some (.ref a0), some (.int x1), some (.int x2)] [] h P :=
  xm_run (fun _ _ h => h) oX9_telling 23 0 0 0 [some (.ref a0), some (.int x1), some (.int x2)] [] h H
set_option maxRecDepth 100000 in
theorem eX9_telling {K K' : Nat} (hK : K < K') {h : xm_H} {P : Option Value → xm_H → Prop} {a0 : Nat} {x1 : Int32} {x2 : Int32} (hr : ∃ fs, h[a0]? = some (.inr (9, fs))) (H :
    ∃ q1, xm_fld h a0 9 51 = some (.ref q1) ∧ /- kind -/
    ∃ e2, xm_ld xm_st h 0 q1 x1 = some e2 ∧
    (if e2 = (4 : Int32) then
      xm_Call K sX9_ran 9 [.ref a0, .int (50 : Int32)] h (xm_pv fun h3 =>
        xm_Call K sX9_plainTells 9 [.ref a0, .int x1, .int x2] h3 (xm_pi fun c5 h4 =>
          P (some (.int (c5 ^^^ (5 : Int32)))) h4))
    else
      ∃ q6, xm_fld h a0 9 51 = some (.ref q6) ∧ /- kind -/
      ∃ e7, xm_ld xm_st h 0 q6 x1 = some e7 ∧
      (if e7 = (5 : Int32) then
        xm_Call K sX9_ran 9 [.ref a0, .int (61 : Int32)] h (xm_pv fun h8 =>
          xm_Call K sX9_plainTells 9 [.ref a0, .int x1, .int x2] h8 (xm_pi fun c10 h9 =>
            P (some (.int (c10 + (1 : Int32)))) h9))
      else
        xm_Call K sX9_plainTells 9 [.ref a0, .int x1, .int x2] h (xm_pi fun c12 h11 =>
          P (some (.int c12)) h11)))) :
    xm_Call K' sX9_telling 9 [.ref a0, .int x1, .int x2] h P :=
  xm_call_of (C := kX9_telling) hK (by decide +kernel) rfl (Nat.le_of_ble_eq_true rfl) (Or.inr ⟨a0, hr.choose, rfl, hr.choose_spec⟩) (xX9_telling_0 H)

def kX9_act : List xm_I := [
  i_0 0 (.aload_n 0) 1 none,
  i_v 1 (.iconst 0) 1 none 0 [],
  i_f 2 (.putfield 399) 3 none 9 52 [977] 0,
  i_0 5 (.aload_n 0) 1 none,
  i_0 6 (.iload_n 1) 1 none,
  i_m 7 (.invokevirtual 438) 3 none 1 9 [1502, 1504, 92, 117, 1505] 0 sX9_isBody,
  i_j 10 (.ifCond .eq 12) 3 none 12,
  i_0 13 (.iload_n 2) 1 none,
  i_v 14 (.iconst 0) 1 none 0 [],
  i_v 15 (.iconst 3) 1 none 3 [],
  i_m 16 (.invokestatic 128) 3 none 3 99 [1106, 1107, 117, 1108] 0 sX9_in,
  i_j 19 (.ifCond .ne 5) 3 none 14,
  i_v 22 (.iconst 0) 1 none 0 [],
  i_0 23 (.ireturn) 1 none,
  i_0 24 (.iload_n 2) 1 none,
  i_j 25 (.ifCond .ne 12) 3 none 21,
  i_0 28 (.aload_n 0) 1 none,
  i_0 29 (.iload_n 1) 1 none,
  i_0 30 (.iload_n 3) 1 none,
  i_m 31 (.invokevirtual 414) 3 none 2 9 [1506, 1508, 93, 117, 1509] 0 sX9_saying,
  i_j 34 (.goto 37) 3 none 41,
  i_0 37 (.iload_n 2) 1 none,
  i_v 38 (.iconst 1) 1 none 1 [],
  i_j 39 (.if_icmp .ne 12) 3 none 29,
  i_0 42 (.aload_n 0) 1 none,
  i_0 43 (.iload_n 1) 1 none,
  i_0 44 (.iload_n 3) 1 none,
  i_m 45 (.invokevirtual 432) 3 none 2 9 [1525, 1527, 97, 117, 1528] 0 sX9_counting,
  i_j 48 (.goto 23) 3 none 41,
  i_0 51 (.iload_n 2) 1 none,
  i_v 52 (.iconst 2) 1 none 2 [],
  i_j 53 (.if_icmp .ne 12) 3 none 37,
  i_0 56 (.aload_n 0) 1 none,
  i_0 57 (.iload_n 1) 1 none,
  i_0 58 (.iload_n 3) 1 none,
  i_m 59 (.invokevirtual 423) 3 none 2 9 [1537, 1539, 100, 117, 1540] 0 sX9_going,
  i_j 62 (.goto 9) 3 none 41,
  i_0 65 (.aload_n 0) 1 none,
  i_0 66 (.iload_n 1) 1 none,
  i_0 67 (.iload_n 3) 1 none,
  i_m 68 (.invokevirtual 441) 3 none 2 9 [1549, 1551, 103, 117, 1552] 0 sX9_telling,
  i_0 71 (.ireturn) 1 none]
set_option maxRecDepth 100000 in
theorem oX9_act : xm_ok sX9_act sX9_act.1.cls kX9_act = true := by decide +kernel
set_option maxRecDepth 100000 in
set_option maxHeartbeats 4000000 in
theorem xX9_act_0 {K : Nat} {h : xm_H} {P : Option Value → xm_H → Prop} {a0 : Nat} {x1 : Int32} {x2 : Int32} {x3 : Int32} (H :
    ∃ h1, xm_put h a0 9 52 (.int (0 : Int32)) = some h1 ∧ /- traces -/
    xm_Call K sX9_isBody 9 [.ref a0, .int x1] h1 (xm_pi fun c3 h2 =>
      (if c3 = 0 then
        P (some (.int (0 : Int32))) h2
      else
        xm_Call K sX9_in 99 [.int x2, .int (0 : Int32), .int (3 : Int32)] h2 (xm_pi fun c5 h4 =>
          (if c5 = 0 then
            P (some (.int (0 : Int32))) h4
          else
            (if x2 = 0 then
              xm_Call K sX9_saying 9 [.ref a0, .int x1, .int x3] h4 (xm_pi fun c7 h6 =>
                P (some (.int c7)) h6)
            else
              (if x2 = (1 : Int32) then
                xm_Call K sX9_counting 9 [.ref a0, .int x1, .int x3] h4 (xm_pi fun c9 h8 =>
                  P (some (.int c9)) h8)
              else
                (if x2 = (2 : Int32) then
                  xm_Call K sX9_going 9 [.ref a0, .int x1, .int x3] h4 (xm_pi fun c11 h10 =>
                    P (some (.int c11)) h10)
                else
                  xm_Call K sX9_telling 9 [.ref a0, .int x1, .int x3] h4 (xm_pi fun c13 h12 =>
                    P (some (.int c13)) h12))))))))) :
    xm_L K sX9_act kX9_act 0 [some (.ref a0), some (.int x1), some (.int x2), some (.int x3)] [] h P :=
  xm_run (fun _ _ h => h) oX9_act 27 0 0 0 [some (.ref a0), some (.int x1), some (.int x2), some (.int x3)] [] h H
set_option maxRecDepth 100000 in
theorem eX9_act {K K' : Nat} (hK : K < K') {h : xm_H} {P : Option Value → xm_H → Prop} {a0 : Nat} {x1 : Int32} {x2 : Int32} {x3 : Int32} (hr : ∃ fs, h[a0]? = some (.inr (9, fs))) (H :
    ∃ h1, xm_put h a0 9 52 (.int (0 : Int32)) = some h1 ∧ /- traces -/
    xm_Call K sX9_isBody 9 [.ref a0, .int x1] h1 (xm_pi fun c3 h2 =>
      (if c3 = 0 then
        P (some (.int (0 : Int32))) h2
      else
        xm_Call K sX9_in 99 [.int x2, .int (0 : Int32), .int (3 : Int32)] h2 (xm_pi fun c5 h4 =>
          (if c5 = 0 then
            P (some (.int (0 : Int32))) h4
          else
            (if x2 = 0 then
              xm_Call K sX9_saying 9 [.ref a0, .int x1, .int x3] h4 (xm_pi fun c7 h6 =>
                P (some (.int c7)) h6)
            else
              (if x2 = (1 : Int32) then
                xm_Call K sX9_counting 9 [.ref a0, .int x1, .int x3] h4 (xm_pi fun c9 h8 =>
                  P (some (.int c9)) h8)
              else
                (if x2 = (2 : Int32) then
                  xm_Call K sX9_going 9 [.ref a0, .int x1, .int x3] h4 (xm_pi fun c11 h10 =>
                    P (some (.int c11)) h10)
                else
                  xm_Call K sX9_telling 9 [.ref a0, .int x1, .int x3] h4 (xm_pi fun c13 h12 =>
                    P (some (.int c13)) h12))))))))) :
    xm_Call K' sX9_act 9 [.ref a0, .int x1, .int x2, .int x3] h P :=
  xm_call_of (C := kX9_act) hK (by decide +kernel) rfl (Nat.le_of_ble_eq_true rfl) (Or.inr ⟨a0, hr.choose, rfl, hr.choose_spec⟩) (xX9_act_0 H)

def kX9_count : List xm_I := [
  i_0 0 (.iload_n 1) 1 none,
  i_s 1 (.tableswitch 69 0 5 #[39, 44, 49, 54, 59, 64]) 39 none 20 [(0, 2), (1, 5), (2, 8), (3, 11), (4, 14), (5, 17)],
  i_0 40 (.aload_n 0) 1 none,
  i_f 41 (.getfield 125) 3 none 9 1 [926] 0,
  i_0 44 (.ireturn) 1 none,
  i_0 45 (.aload_n 0) 1 none,
  i_m 46 (.invokevirtual 444) 3 none 0 9 [1561, 1563, 105, 117, 1564] 0 sX9_assessedMany,
  i_0 49 (.ireturn) 1 none,
  i_0 50 (.aload_n 0) 1 none,
  i_f 51 (.getfield 169) 3 none 9 18 [943] 0,
  i_0 54 (.ireturn) 1 none,
  i_0 55 (.aload_n 0) 1 none,
  i_f 56 (.getfield 149) 3 none 9 11 [936] 0,
  i_0 59 (.ireturn) 1 none,
  i_0 60 (.aload_n 0) 1 none,
  i_f 61 (.getfield 396) 3 none 9 50 [975] 0,
  i_0 64 (.ireturn) 1 none,
  i_0 65 (.aload_n 0) 1 none,
  i_f 66 (.getfield 399) 3 none 9 52 [977] 0,
  i_0 69 (.ireturn) 1 none,
  i_v 70 (.iconst (-1)) 1 none (-1) [],
  i_0 71 (.ireturn) 1 none]
set_option maxRecDepth 100000 in
theorem oX9_count : xm_ok sX9_count sX9_count.1.cls kX9_count = true := by decide +kernel
set_option maxRecDepth 100000 in
set_option maxHeartbeats 4000000 in
theorem xX9_count_0 {K : Nat} {h : xm_H} {P : Option Value → xm_H → Prop} {a0 : Nat} {x1 : Int32} (H :
    (if x1 = 0 then
      ∃ f1, xm_fld h a0 9 1 = some (.int f1) ∧ /- many -/
      P (some (.int f1)) h
    else
    (if x1 = 1 then
      xm_Call K sX9_assessedMany 9 [.ref a0] h (xm_pi fun c3 h2 =>
        P (some (.int c3)) h2)
    else
    (if x1 = 2 then
      ∃ f4, xm_fld h a0 9 18 = some (.int f4) ∧ /- taped -/
      P (some (.int f4)) h
    else
    (if x1 = 3 then
      ∃ f5, xm_fld h a0 9 11 = some (.int f5) ∧ /- doneMany -/
      P (some (.int f5)) h
    else
    (if x1 = 4 then
      ∃ f6, xm_fld h a0 9 50 = some (.int f6) ∧ /- bodies -/
      P (some (.int f6)) h
    else
    (if x1 = 5 then
      ∃ f7, xm_fld h a0 9 52 = some (.int f7) ∧ /- traces -/
      P (some (.int f7)) h
    else
    P (some (.int (-1 : Int32))) h))))))) :
    xm_L K sX9_count kX9_count 0 [some (.ref a0), some (.int x1)] [] h P :=
  xm_run (fun _ _ h => h) oX9_count 6 0 0 0 [some (.ref a0), some (.int x1)] [] h H
set_option maxRecDepth 100000 in
theorem eX9_count {K K' : Nat} (hK : K < K') {h : xm_H} {P : Option Value → xm_H → Prop} {a0 : Nat} {x1 : Int32} (hr : ∃ fs, h[a0]? = some (.inr (9, fs))) (H :
    (if x1 = 0 then
      ∃ f1, xm_fld h a0 9 1 = some (.int f1) ∧ /- many -/
      P (some (.int f1)) h
    else
    (if x1 = 1 then
      xm_Call K sX9_assessedMany 9 [.ref a0] h (xm_pi fun c3 h2 =>
        P (some (.int c3)) h2)
    else
    (if x1 = 2 then
      ∃ f4, xm_fld h a0 9 18 = some (.int f4) ∧ /- taped -/
      P (some (.int f4)) h
    else
    (if x1 = 3 then
      ∃ f5, xm_fld h a0 9 11 = some (.int f5) ∧ /- doneMany -/
      P (some (.int f5)) h
    else
    (if x1 = 4 then
      ∃ f6, xm_fld h a0 9 50 = some (.int f6) ∧ /- bodies -/
      P (some (.int f6)) h
    else
    (if x1 = 5 then
      ∃ f7, xm_fld h a0 9 52 = some (.int f7) ∧ /- traces -/
      P (some (.int f7)) h
    else
    P (some (.int (-1 : Int32))) h))))))) :
    xm_Call K' sX9_count 9 [.ref a0, .int x1] h P :=
  xm_call_of (C := kX9_count) hK (by decide +kernel) rfl (Nat.le_of_ble_eq_true rfl) (Or.inr ⟨a0, hr.choose, rfl, hr.choose_spec⟩) (xX9_count_0 H)

def kX9_isShelf : List xm_I := [
  i_0 0 (.iload_n 0) 1 none,
  i_v 1 (.iconst 0) 1 none 0 [],
  i_v 2 (.iconst 5) 1 none 5 [],
  i_m 3 (.invokestatic 128) 3 none 3 99 [1106, 1107, 117, 1108] 0 sX9_in,
  i_0 6 (.ireturn) 1 none]
set_option maxRecDepth 100000 in
theorem oX9_isShelf : xm_ok sX9_isShelf sX9_isShelf.1.cls kX9_isShelf = true := by decide +kernel
set_option maxRecDepth 100000 in
set_option maxHeartbeats 4000000 in
theorem xX9_isShelf_0 {K : Nat} {h : xm_H} {P : Option Value → xm_H → Prop} {x0 : Int32} (H :
    xm_Call K sX9_in 99 [.int x0, .int (0 : Int32), .int (5 : Int32)] h (xm_pi fun c2 h1 =>
      (if c2 = 0 ∨ c2 = 1 then P (some (.int c2)) h1 else False))) :
    xm_L K sX9_isShelf kX9_isShelf 0 [some (.int x0)] [] h P :=
  xm_run (fun _ _ h => h) oX9_isShelf 6 0 0 0 [some (.int x0)] [] h H
set_option maxRecDepth 100000 in
theorem eX9_isShelf {K K' : Nat} (hK : K < K') {h : xm_H} {P : Option Value → xm_H → Prop} {x0 : Int32} (H :
    xm_Call K sX9_in 99 [.int x0, .int (0 : Int32), .int (5 : Int32)] h (xm_pi fun c2 h1 =>
      (if c2 = 0 ∨ c2 = 1 then P (some (.int c2)) h1 else False))) :
    xm_Call K' sX9_isShelf 99 [.int x0] h P :=
  xm_call_of (C := kX9_isShelf) hK (by decide +kernel) rfl (Nat.le_of_ble_eq_true rfl) (Or.inl rfl) (xX9_isShelf_0 H)

def kX9_keep : List xm_I := [
  i_0 0 (.iload_n 1) 1 none,
  i_m 1 (.invokestatic 136) 3 none 1 99 [1117, 1118, 117, 1119] 0 sX9_isShelf,
  i_j 4 (.ifCond .eq 16) 3 none 10,
  i_0 7 (.iload_n 2) 1 none,
  i_v 8 (.iconst (-1)) 1 none (-1) [],
  i_j 9 (.if_icmp .eq 13) 3 none 12,
  i_0 12 (.aload_n 0) 1 none,
  i_0 13 (.iload_n 2) 1 none,
  i_m 14 (.invokevirtual 438) 3 none 1 9 [1502, 1504, 92, 117, 1505] 0 sX9_isBody,
  i_j 17 (.ifCond .ne 5) 3 none 12,
  i_v 20 (.iconst (-1)) 1 none (-1) [],
  i_0 21 (.ireturn) 1 none,
  i_0 22 (.aload_n 0) 1 none,
  i_f 23 (.getfield 108) 3 none 9 54 [979] 1,
  i_0 26 (.iload_n 1) 1 none,
  i_0 27 (.iload_n 2) 1 none,
  i_0 28 (.iastore) 1 none,
  i_v 29 (.iconst 1) 1 none 1 [],
  i_0 30 (.ireturn) 1 none]
set_option maxRecDepth 100000 in
theorem oX9_keep : xm_ok sX9_keep sX9_keep.1.cls kX9_keep = true := by decide +kernel
set_option maxRecDepth 100000 in
set_option maxHeartbeats 4000000 in
theorem xX9_keep_0 {K : Nat} {h : xm_H} {P : Option Value → xm_H → Prop} {a0 : Nat} {x1 : Int32} {x2 : Int32} (H :
    xm_Call K sX9_isShelf 99 [.int x1] h (xm_pi fun c2 h1 =>
      (if c2 = 0 then
        P (some (.int (-1 : Int32))) h1
      else
        (if x2 = (-1 : Int32) then
          ∃ q3, xm_fld h1 a0 9 54 = some (.ref q3) ∧ /- holds -/
          ∃ h4, xm_sto h1 0 q3 x1 x2 = some h4 ∧
          P (some (.int (1 : Int32))) h4
        else
          xm_Call K sX9_isBody 9 [.ref a0, .int x2] h1 (xm_pi fun c6 h5 =>
            (if c6 = 0 then
              P (some (.int (-1 : Int32))) h5
            else
              ∃ q7, xm_fld h5 a0 9 54 = some (.ref q7) ∧ /- holds -/
              ∃ h8, xm_sto h5 0 q7 x1 x2 = some h8 ∧
              P (some (.int (1 : Int32))) h8)))))) :
    xm_L K sX9_keep kX9_keep 0 [some (.ref a0), some (.int x1), some (.int x2)] [] h P :=
  xm_run (fun _ _ h => h) oX9_keep 18 0 0 0 [some (.ref a0), some (.int x1), some (.int x2)] [] h H
set_option maxRecDepth 100000 in
theorem eX9_keep {K K' : Nat} (hK : K < K') {h : xm_H} {P : Option Value → xm_H → Prop} {a0 : Nat} {x1 : Int32} {x2 : Int32} (hr : ∃ fs, h[a0]? = some (.inr (9, fs))) (H :
    xm_Call K sX9_isShelf 99 [.int x1] h (xm_pi fun c2 h1 =>
      (if c2 = 0 then
        P (some (.int (-1 : Int32))) h1
      else
        (if x2 = (-1 : Int32) then
          ∃ q3, xm_fld h1 a0 9 54 = some (.ref q3) ∧ /- holds -/
          ∃ h4, xm_sto h1 0 q3 x1 x2 = some h4 ∧
          P (some (.int (1 : Int32))) h4
        else
          xm_Call K sX9_isBody 9 [.ref a0, .int x2] h1 (xm_pi fun c6 h5 =>
            (if c6 = 0 then
              P (some (.int (-1 : Int32))) h5
            else
              ∃ q7, xm_fld h5 a0 9 54 = some (.ref q7) ∧ /- holds -/
              ∃ h8, xm_sto h5 0 q7 x1 x2 = some h8 ∧
              P (some (.int (1 : Int32))) h8)))))) :
    xm_Call K' sX9_keep 9 [.ref a0, .int x1, .int x2] h P :=
  xm_call_of (C := kX9_keep) hK (by decide +kernel) rfl (Nat.le_of_ble_eq_true rfl) (Or.inr ⟨a0, hr.choose, rfl, hr.choose_spec⟩) (xX9_keep_0 H)

def kX9_row : List xm_I := [
  i_0 0 (.iload_n 1) 1 none,
  i_m 1 (.invokestatic 136) 3 none 1 99 [1117, 1118, 117, 1119] 0 sX9_isShelf,
  i_j 4 (.ifCond .eq 18) 3 none 11,
  i_0 7 (.iload_n 2) 1 none,
  i_v 8 (.iconst 0) 1 none 0 [],
  i_v 9 (.iconst 4) 1 none 4 [],
  i_m 10 (.invokestatic 128) 3 none 3 99 [1106, 1107, 117, 1108] 0 sX9_in,
  i_j 13 (.ifCond .eq 9) 3 none 11,
  i_0 16 (.iload_n 3) 1 none,
  i_v 17 (.bipush 60) 2 none 60 [],
  i_j 19 (.if_icmp .le 5) 3 none 13,
  i_v 22 (.iconst (-1)) 1 none (-1) [],
  i_0 23 (.ireturn) 1 none,
  i_0 24 (.iload_n 3) 1 none,
  i_j 25 (.ifCond .ge 6) 3 none 17,
  i_v 28 (.bipush (-14)) 2 none (-14) [],
  i_0 30 (.ireturn) 1 none,
  i_0 31 (.aload_n 0) 1 none,
  i_f 32 (.getfield 108) 3 none 9 54 [979] 1,
  i_0 35 (.iload_n 1) 1 none,
  i_v 36 (.bipush (-2)) 2 none (-2) [],
  i_0 38 (.iload_n 2) 1 none,
  i_0 39 (.isub) 1 none,
  i_0 40 (.iastore) 1 none,
  i_0 41 (.aload_n 0) 1 none,
  i_f 42 (.getfield 111) 3 none 9 55 [980] 1,
  i_0 45 (.iload_n 1) 1 none,
  i_0 46 (.iload_n 3) 1 none,
  i_0 47 (.iastore) 1 none,
  i_v 48 (.bipush 60) 2 none 60 [],
  i_0 50 (.iload_n 1) 1 none,
  i_0 51 (.imul) 1 none,
  i_0 52 (.istore 4) 2 none,
  i_0 54 (.iload 4) 2 (some [true, true, false, false, true]),
  i_v 56 (.bipush 60) 2 none 60 [],
  i_0 58 (.iload_n 1) 1 none,
  i_0 59 (.imul) 1 none,
  i_v 60 (.bipush 60) 2 none 60 [],
  i_0 62 (.iadd) 1 none,
  i_j 63 (.if_icmp .ge 17) 3 none 47,
  i_0 66 (.aload_n 0) 1 none,
  i_f 67 (.getfield 114) 3 none 9 56 [981] 1,
  i_0 70 (.iload 4) 2 none,
  i_w 72 (.lconst 0) 1 none 0 [],
  i_0 73 (.lastore) 1 none,
  i_v 74 (.iinc 4 1) 3 none 1 [],
  i_j 77 (.goto (-23)) 3 none 33,
  i_v 80 (.iconst 1) 1 none 1 [],
  i_0 81 (.ireturn) 1 none]
set_option maxRecDepth 100000 in
theorem oX9_row : xm_ok sX9_row sX9_row.1.cls kX9_row = true := by decide +kernel
set_option maxRecDepth 100000 in
set_option maxHeartbeats 4000000 in
theorem xX9_row_0 {K : Nat} {h : xm_H} {P : Option Value → xm_H → Prop} {a0 : Nat} {x1 : Int32} {x2 : Int32} {x3 : Int32} (H :
    xm_Call K sX9_isShelf 99 [.int x1] h (xm_pi fun c2 h1 =>
      (if c2 = 0 then
        P (some (.int (-1 : Int32))) h1
      else
        xm_Call K sX9_in 99 [.int x2, .int (0 : Int32), .int (4 : Int32)] h1 (xm_pi fun c4 h3 =>
          (if c4 = 0 then
            P (some (.int (-1 : Int32))) h3
          else
            (if (60 : Int32) < x3 then
              P (some (.int (-1 : Int32))) h3
            else
              (if x3 < 0 then
                P (some (.int (-14 : Int32))) h3
              else
                ∃ q5, xm_fld h3 a0 9 54 = some (.ref q5) ∧ /- holds -/
                ∃ h6, xm_sto h3 0 q5 x1 ((-2 : Int32) - x2) = some h6 ∧
                ∃ q7, xm_fld h6 a0 9 55 = some (.ref q7) ∧ /- size -/
                ∃ h8, xm_sto h6 0 q7 x1 x3 = some h8 ∧
                xm_L K sX9_row kX9_row 33 [some (.ref a0), some (.int x1), none, none, some (.int ((60 : Int32) * x1))] [] h8 P))))))) :
    xm_L K sX9_row kX9_row 0 [some (.ref a0), some (.int x1), some (.int x2), some (.int x3), none] [] h P :=
  xm_run (fun _ _ h => h) oX9_row 30 0 0 0 [some (.ref a0), some (.int x1), some (.int x2), some (.int x3), none] [] h H
set_option maxRecDepth 100000 in
theorem eX9_row {K K' : Nat} (hK : K < K') {h : xm_H} {P : Option Value → xm_H → Prop} {a0 : Nat} {x1 : Int32} {x2 : Int32} {x3 : Int32} (hr : ∃ fs, h[a0]? = some (.inr (9, fs))) (H :
    xm_Call K sX9_isShelf 99 [.int x1] h (xm_pi fun c2 h1 =>
      (if c2 = 0 then
        P (some (.int (-1 : Int32))) h1
      else
        xm_Call K sX9_in 99 [.int x2, .int (0 : Int32), .int (4 : Int32)] h1 (xm_pi fun c4 h3 =>
          (if c4 = 0 then
            P (some (.int (-1 : Int32))) h3
          else
            (if (60 : Int32) < x3 then
              P (some (.int (-1 : Int32))) h3
            else
              (if x3 < 0 then
                P (some (.int (-14 : Int32))) h3
              else
                ∃ q5, xm_fld h3 a0 9 54 = some (.ref q5) ∧ /- holds -/
                ∃ h6, xm_sto h3 0 q5 x1 ((-2 : Int32) - x2) = some h6 ∧
                ∃ q7, xm_fld h6 a0 9 55 = some (.ref q7) ∧ /- size -/
                ∃ h8, xm_sto h6 0 q7 x1 x3 = some h8 ∧
                xm_L K sX9_row kX9_row 33 [some (.ref a0), some (.int x1), none, none, some (.int ((60 : Int32) * x1))] [] h8 P))))))) :
    xm_Call K' sX9_row 9 [.ref a0, .int x1, .int x2, .int x3] h P :=
  xm_call_of (C := kX9_row) hK (by decide +kernel) rfl (Nat.le_of_ble_eq_true rfl) (Or.inr ⟨a0, hr.choose, rfl, hr.choose_spec⟩) (xX9_row_0 H)

set_option maxRecDepth 100000 in
set_option maxHeartbeats 4000000 in
theorem xX9_row_33 {K : Nat} {h : xm_H} {P : Option Value → xm_H → Prop} {a0 : Nat} {x1 : Int32} {x4 : Int32} (H :
    (if x4 < (((60 : Int32) * x1) + (60 : Int32)) then
      ∃ q1, xm_fld h a0 9 56 = some (.ref q1) ∧ /- elements -/
      ∃ h2, xm_stoL h q1 x4 (0 : Int64) = some h2 ∧
      xm_L K sX9_row kX9_row 33 [some (.ref a0), some (.int x1), none, none, some (.int (x4 + (1 : Int32)))] [] h2 P
    else
      P (some (.int (1 : Int32))) h)) :
    xm_L K sX9_row kX9_row 33 [some (.ref a0), some (.int x1), none, none, some (.int x4)] [] h P :=
  xm_run (fun _ _ h => h) oX9_row 15 33 0 0 [some (.ref a0), some (.int x1), none, none, some (.int x4)] [] h H

def kX9_whyNoPlace : List xm_I := [
  i_0 0 (.iload_n 1) 1 none,
  i_m 1 (.invokestatic 136) 3 none 1 99 [1117, 1118, 117, 1119] 0 sX9_isShelf,
  i_j 4 (.ifCond .ne 5) 3 none 5,
  i_v 7 (.iconst (-1)) 1 none (-1) [],
  i_0 8 (.ireturn) 1 none,
  i_0 9 (.aload_n 0) 1 none,
  i_f 10 (.getfield 108) 3 none 9 54 [979] 1,
  i_0 13 (.iload_n 1) 1 none,
  i_0 14 (.iaload) 1 none,
  i_v 15 (.iconst (-1)) 1 none (-1) [],
  i_j 16 (.if_icmp .ne 6) 3 none 13,
  i_v 19 (.bipush (-11)) 2 none (-11) [],
  i_0 21 (.ireturn) 1 none,
  i_0 22 (.aload_n 0) 1 none,
  i_f 23 (.getfield 108) 3 none 9 54 [979] 1,
  i_0 26 (.iload_n 1) 1 none,
  i_0 27 (.iaload) 1 none,
  i_j 28 (.ifCond .lt 6) 3 none 20,
  i_v 31 (.bipush (-12)) 2 none (-12) [],
  i_0 33 (.ireturn) 1 none,
  i_0 34 (.iload_n 2) 1 none,
  i_v 35 (.iconst 0) 1 none 0 [],
  i_0 36 (.aload_n 0) 1 none,
  i_f 37 (.getfield 111) 3 none 9 55 [980] 1,
  i_0 40 (.iload_n 1) 1 none,
  i_0 41 (.iaload) 1 none,
  i_v 42 (.iconst 1) 1 none 1 [],
  i_0 43 (.isub) 1 none,
  i_m 44 (.invokestatic 128) 3 none 3 99 [1106, 1107, 117, 1108] 0 sX9_in,
  i_j 47 (.ifCond .eq 7) 3 none 32,
  i_v 50 (.iconst 0) 1 none 0 [],
  i_j 51 (.goto 5) 3 none 33,
  i_v 54 (.bipush (-13)) 2 none (-13) [],
  i_0 56 (.ireturn) 1 none]
set_option maxRecDepth 100000 in
theorem oX9_whyNoPlace : xm_ok sX9_whyNoPlace sX9_whyNoPlace.1.cls kX9_whyNoPlace = true := by decide +kernel
set_option maxRecDepth 100000 in
set_option maxHeartbeats 4000000 in
theorem xX9_whyNoPlace_0 {K : Nat} {h : xm_H} {P : Option Value → xm_H → Prop} {a0 : Nat} {x1 : Int32} {x2 : Int32} (H :
    xm_Call K sX9_isShelf 99 [.int x1] h (xm_pi fun c2 h1 =>
      (if c2 = 0 then
        P (some (.int (-1 : Int32))) h1
      else
        ∃ q3, xm_fld h1 a0 9 54 = some (.ref q3) ∧ /- holds -/
        ∃ e4, xm_ld xm_st h1 0 q3 x1 = some e4 ∧
        (if e4 = (-1 : Int32) then
          P (some (.int (-11 : Int32))) h1
        else
          ∃ q5, xm_fld h1 a0 9 54 = some (.ref q5) ∧ /- holds -/
          ∃ e6, xm_ld xm_st h1 0 q5 x1 = some e6 ∧
          (if e6 < 0 then
            ∃ q7, xm_fld h1 a0 9 55 = some (.ref q7) ∧ /- size -/
            ∃ e8, xm_ld xm_st h1 0 q7 x1 = some e8 ∧
            xm_Call K sX9_in 99 [.int x2, .int (0 : Int32), .int (e8 - (1 : Int32))] h1 (xm_pi fun c10 h9 =>
              (if c10 = 0 then
                P (some (.int (-13 : Int32))) h9
              else
                P (some (.int (0 : Int32))) h9))
          else
            P (some (.int (-12 : Int32))) h1))))) :
    xm_L K sX9_whyNoPlace kX9_whyNoPlace 0 [some (.ref a0), some (.int x1), some (.int x2)] [] h P :=
  xm_run (fun _ _ h => h) oX9_whyNoPlace 28 0 0 0 [some (.ref a0), some (.int x1), some (.int x2)] [] h H
set_option maxRecDepth 100000 in
theorem eX9_whyNoPlace {K K' : Nat} (hK : K < K') {h : xm_H} {P : Option Value → xm_H → Prop} {a0 : Nat} {x1 : Int32} {x2 : Int32} (hr : ∃ fs, h[a0]? = some (.inr (9, fs))) (H :
    xm_Call K sX9_isShelf 99 [.int x1] h (xm_pi fun c2 h1 =>
      (if c2 = 0 then
        P (some (.int (-1 : Int32))) h1
      else
        ∃ q3, xm_fld h1 a0 9 54 = some (.ref q3) ∧ /- holds -/
        ∃ e4, xm_ld xm_st h1 0 q3 x1 = some e4 ∧
        (if e4 = (-1 : Int32) then
          P (some (.int (-11 : Int32))) h1
        else
          ∃ q5, xm_fld h1 a0 9 54 = some (.ref q5) ∧ /- holds -/
          ∃ e6, xm_ld xm_st h1 0 q5 x1 = some e6 ∧
          (if e6 < 0 then
            ∃ q7, xm_fld h1 a0 9 55 = some (.ref q7) ∧ /- size -/
            ∃ e8, xm_ld xm_st h1 0 q7 x1 = some e8 ∧
            xm_Call K sX9_in 99 [.int x2, .int (0 : Int32), .int (e8 - (1 : Int32))] h1 (xm_pi fun c10 h9 =>
              (if c10 = 0 then
                P (some (.int (-13 : Int32))) h9
              else
                P (some (.int (0 : Int32))) h9))
          else
            P (some (.int (-12 : Int32))) h1))))) :
    xm_Call K' sX9_whyNoPlace 9 [.ref a0, .int x1, .int x2] h P :=
  xm_call_of (C := kX9_whyNoPlace) hK (by decide +kernel) rfl (Nat.le_of_ble_eq_true rfl) (Or.inr ⟨a0, hr.choose, rfl, hr.choose_spec⟩) (xX9_whyNoPlace_0 H)

def kX9_element : List xm_I := [
  i_0 0 (.aload_n 0) 1 none,
  i_0 1 (.iload_n 1) 1 none,
  i_0 2 (.iload_n 2) 1 none,
  i_m 3 (.invokevirtual 447) 3 none 2 9 [1577, 1579, 106, 117, 1580] 0 sX9_whyNoPlace,
  i_j 6 (.ifCond .ge 9) 3 none 7,
  i_w 9 (.ldc2_w 452) 3 none (-9223372036854775808) [1585],
  i_j 12 (.goto 14) 3 none 15,
  i_0 15 (.aload_n 0) 1 none,
  i_f 16 (.getfield 114) 3 none 9 56 [981] 1,
  i_v 19 (.bipush 60) 2 none 60 [],
  i_0 21 (.iload_n 1) 1 none,
  i_0 22 (.imul) 1 none,
  i_0 23 (.iload_n 2) 1 none,
  i_0 24 (.iadd) 1 none,
  i_0 25 (.laload) 1 none,
  i_0 26 (.lreturn) 1 none]
set_option maxRecDepth 100000 in
theorem oX9_element : xm_ok sX9_element sX9_element.1.cls kX9_element = true := by decide +kernel
set_option maxRecDepth 100000 in
set_option maxHeartbeats 4000000 in
theorem xX9_element_0 {K : Nat} {h : xm_H} {P : Option Value → xm_H → Prop} {a0 : Nat} {x1 : Int32} {x2 : Int32} (H :
    xm_Call K sX9_whyNoPlace 9 [.ref a0, .int x1, .int x2] h (xm_pi fun c2 h1 =>
      (if c2 < 0 then
        P (some (.long (-9223372036854775808 : Int64))) h1
      else
        ∃ q3, xm_fld h1 a0 9 56 = some (.ref q3) ∧ /- elements -/
        ∃ e4, xm_ldL h1 q3 (((60 : Int32) * x1) + x2) = some e4 ∧
        P (some (.long e4)) h1))) :
    xm_L K sX9_element kX9_element 0 [some (.ref a0), some (.int x1), some (.int x2)] [] h P :=
  xm_run (fun _ _ h => h) oX9_element 15 0 0 0 [some (.ref a0), some (.int x1), some (.int x2)] [] h H
set_option maxRecDepth 100000 in
theorem eX9_element {K K' : Nat} (hK : K < K') {h : xm_H} {P : Option Value → xm_H → Prop} {a0 : Nat} {x1 : Int32} {x2 : Int32} (hr : ∃ fs, h[a0]? = some (.inr (9, fs))) (H :
    xm_Call K sX9_whyNoPlace 9 [.ref a0, .int x1, .int x2] h (xm_pi fun c2 h1 =>
      (if c2 < 0 then
        P (some (.long (-9223372036854775808 : Int64))) h1
      else
        ∃ q3, xm_fld h1 a0 9 56 = some (.ref q3) ∧ /- elements -/
        ∃ e4, xm_ldL h1 q3 (((60 : Int32) * x1) + x2) = some e4 ∧
        P (some (.long e4)) h1))) :
    xm_Call K' sX9_element 9 [.ref a0, .int x1, .int x2] h P :=
  xm_call_of (C := kX9_element) hK (by decide +kernel) rfl (Nat.le_of_ble_eq_true rfl) (Or.inr ⟨a0, hr.choose, rfl, hr.choose_spec⟩) (xX9_element_0 H)

def kX9_shift : List xm_I := [
  i_0 0 (.iload_n 1) 1 none,
  i_m 1 (.invokestatic 136) 3 none 1 99 [1117, 1118, 117, 1119] 0 sX9_isShelf,
  i_j 4 (.ifCond .eq 10) 3 none 6,
  i_0 7 (.iload_n 3) 1 none,
  i_m 8 (.invokestatic 136) 3 none 1 99 [1117, 1118, 117, 1119] 0 sX9_isShelf,
  i_j 11 (.ifCond .ne 5) 3 none 8,
  i_v 14 (.iconst (-1)) 1 none (-1) [],
  i_0 15 (.ireturn) 1 none,
  i_0 16 (.aload_n 0) 1 none,
  i_f 17 (.getfield 108) 3 none 9 54 [979] 1,
  i_0 20 (.iload_n 1) 1 none,
  i_0 21 (.iaload) 1 none,
  i_v 22 (.iconst (-1)) 1 none (-1) [],
  i_j 23 (.if_icmp .eq 13) 3 none 20,
  i_0 26 (.aload_n 0) 1 none,
  i_f 27 (.getfield 108) 3 none 9 54 [979] 1,
  i_0 30 (.iload_n 3) 1 none,
  i_0 31 (.iaload) 1 none,
  i_v 32 (.iconst (-1)) 1 none (-1) [],
  i_j 33 (.if_icmp .ne 6) 3 none 22,
  i_v 36 (.bipush (-11)) 2 none (-11) [],
  i_0 38 (.ireturn) 1 none,
  i_0 39 (.aload_n 0) 1 none,
  i_f 40 (.getfield 108) 3 none 9 54 [979] 1,
  i_0 43 (.iload_n 1) 1 none,
  i_0 44 (.iaload) 1 none,
  i_j 45 (.ifCond .ge 18) 3 none 36,
  i_0 48 (.aload_n 0) 1 none,
  i_f 49 (.getfield 108) 3 none 9 54 [979] 1,
  i_0 52 (.iload_n 1) 1 none,
  i_0 53 (.iaload) 1 none,
  i_0 54 (.aload_n 0) 1 none,
  i_f 55 (.getfield 108) 3 none 9 54 [979] 1,
  i_0 58 (.iload_n 3) 1 none,
  i_0 59 (.iaload) 1 none,
  i_j 60 (.if_icmp .eq 6) 3 none 38,
  i_v 63 (.bipush (-12)) 2 none (-12) [],
  i_0 65 (.ireturn) 1 none,
  i_0 66 (.iload 5) 2 none,
  i_j 68 (.ifCond .lt 39) 3 none 60,
  i_0 71 (.iload_n 2) 1 none,
  i_j 72 (.ifCond .lt 35) 3 none 60,
  i_0 75 (.iload 4) 2 none,
  i_j 77 (.ifCond .lt 30) 3 none 60,
  i_0 80 (.iload_n 2) 1 none,
  i_0 81 (.aload_n 0) 1 none,
  i_f 82 (.getfield 111) 3 none 9 55 [980] 1,
  i_0 85 (.iload_n 1) 1 none,
  i_0 86 (.iaload) 1 none,
  i_0 87 (.iload 5) 2 none,
  i_0 89 (.isub) 1 none,
  i_j 90 (.if_icmp .gt 17) 3 none 60,
  i_0 93 (.iload 4) 2 none,
  i_0 95 (.aload_n 0) 1 none,
  i_f 96 (.getfield 111) 3 none 9 55 [980] 1,
  i_0 99 (.iload_n 3) 1 none,
  i_0 100 (.iaload) 1 none,
  i_0 101 (.iload 5) 2 none,
  i_0 103 (.isub) 1 none,
  i_j 104 (.if_icmp .le 6) 3 none 62,
  i_v 107 (.bipush (-13)) 2 none (-13) [],
  i_0 109 (.ireturn) 1 none,
  i_v 110 (.iconst 0) 1 none 0 [],
  i_0 111 (.istore 6) 2 none,
  i_0 113 (.iload 6) 2 (some [true, true, true, true, true, true, true]),
  i_0 115 (.iload 5) 2 none,
  i_j 117 (.if_icmp .ge 30) 3 none 83,
  i_0 120 (.aload_n 0) 1 none,
  i_f 121 (.getfield 118) 3 none 9 57 [982] 1,
  i_0 124 (.iload 6) 2 none,
  i_0 126 (.aload_n 0) 1 none,
  i_f 127 (.getfield 114) 3 none 9 56 [981] 1,
  i_v 130 (.bipush 60) 2 none 60 [],
  i_0 132 (.iload_n 1) 1 none,
  i_0 133 (.imul) 1 none,
  i_0 134 (.iload_n 2) 1 none,
  i_0 135 (.iadd) 1 none,
  i_0 136 (.iload 6) 2 none,
  i_0 138 (.iadd) 1 none,
  i_0 139 (.laload) 1 none,
  i_0 140 (.lastore) 1 none,
  i_v 141 (.iinc 6 1) 3 none 1 [],
  i_j 144 (.goto (-31)) 3 none 64,
  i_v 147 (.iconst 0) 1 none 0 [],
  i_0 148 (.istore 6) 2 none,
  i_0 150 (.iload 6) 2 (some [true, false, false, true, true, true, true]),
  i_0 152 (.iload 5) 2 none,
  i_j 154 (.if_icmp .ge 31) 3 none 104,
  i_0 157 (.aload_n 0) 1 none,
  i_f 158 (.getfield 114) 3 none 9 56 [981] 1,
  i_v 161 (.bipush 60) 2 none 60 [],
  i_0 163 (.iload_n 3) 1 none,
  i_0 164 (.imul) 1 none,
  i_0 165 (.iload 4) 2 none,
  i_0 167 (.iadd) 1 none,
  i_0 168 (.iload 6) 2 none,
  i_0 170 (.iadd) 1 none,
  i_0 171 (.aload_n 0) 1 none,
  i_f 172 (.getfield 118) 3 none 9 57 [982] 1,
  i_0 175 (.iload 6) 2 none,
  i_0 177 (.laload) 1 none,
  i_0 178 (.lastore) 1 none,
  i_v 179 (.iinc 6 1) 3 none 1 [],
  i_j 182 (.goto (-32)) 3 none 85,
  i_0 185 (.iload 5) 2 none,
  i_0 187 (.ireturn) 1 none]
set_option maxRecDepth 100000 in
theorem oX9_shift : xm_ok sX9_shift sX9_shift.1.cls kX9_shift = true := by decide +kernel
set_option maxRecDepth 100000 in
set_option maxHeartbeats 4000000 in
theorem xX9_shift_0 {K : Nat} {h : xm_H} {P : Option Value → xm_H → Prop} {a0 : Nat} {x1 : Int32} {x2 : Int32} {x3 : Int32} {x4 : Int32} {x5 : Int32} (H :
    xm_Call K sX9_isShelf 99 [.int x1] h (xm_pi fun c2 h1 =>
      (if c2 = 0 then
        P (some (.int (-1 : Int32))) h1
      else
        xm_Call K sX9_isShelf 99 [.int x3] h1 (xm_pi fun c4 h3 =>
          (if c4 = 0 then
            P (some (.int (-1 : Int32))) h3
          else
            ∃ q5, xm_fld h3 a0 9 54 = some (.ref q5) ∧ /- holds -/
            ∃ e6, xm_ld xm_st h3 0 q5 x1 = some e6 ∧
            (if e6 = (-1 : Int32) then
              P (some (.int (-11 : Int32))) h3
            else
              ∃ q7, xm_fld h3 a0 9 54 = some (.ref q7) ∧ /- holds -/
              ∃ e8, xm_ld xm_st h3 0 q7 x3 = some e8 ∧
              (if e8 = (-1 : Int32) then
                P (some (.int (-11 : Int32))) h3
              else
                ∃ q9, xm_fld h3 a0 9 54 = some (.ref q9) ∧ /- holds -/
                ∃ e10, xm_ld xm_st h3 0 q9 x1 = some e10 ∧
                (if e10 < 0 then
                  ∃ q11, xm_fld h3 a0 9 54 = some (.ref q11) ∧ /- holds -/
                  ∃ e12, xm_ld xm_st h3 0 q11 x1 = some e12 ∧
                  ∃ q13, xm_fld h3 a0 9 54 = some (.ref q13) ∧ /- holds -/
                  ∃ e14, xm_ld xm_st h3 0 q13 x3 = some e14 ∧
                  (if e12 = e14 then
                    (if x5 < 0 then
                      P (some (.int (-13 : Int32))) h3
                    else
                      (if x2 < 0 then
                        P (some (.int (-13 : Int32))) h3
                      else
                        (if x4 < 0 then
                          P (some (.int (-13 : Int32))) h3
                        else
                          ∃ q15, xm_fld h3 a0 9 55 = some (.ref q15) ∧ /- size -/
                          ∃ e16, xm_ld xm_st h3 0 q15 x1 = some e16 ∧
                          (if (e16 - x5) < x2 then
                            P (some (.int (-13 : Int32))) h3
                          else
                            ∃ q17, xm_fld h3 a0 9 55 = some (.ref q17) ∧ /- size -/
                            ∃ e18, xm_ld xm_st h3 0 q17 x3 = some e18 ∧
                            (if (e18 - x5) < x4 then
                              P (some (.int (-13 : Int32))) h3
                            else
                              xm_L K sX9_shift kX9_shift 64 [some (.ref a0), some (.int x1), some (.int x2), some (.int x3), some (.int x4), some (.int x5), some (.int (0 : Int32))] [] h3 P)))))
                  else
                    P (some (.int (-12 : Int32))) h3)
                else
                  P (some (.int (-12 : Int32))) h3)))))))) :
    xm_L K sX9_shift kX9_shift 0 [some (.ref a0), some (.int x1), some (.int x2), some (.int x3), some (.int x4), some (.int x5), none] [] h P :=
  xm_run (fun _ _ h => h) oX9_shift 57 0 0 0 [some (.ref a0), some (.int x1), some (.int x2), some (.int x3), some (.int x4), some (.int x5), none] [] h H
set_option maxRecDepth 100000 in
theorem eX9_shift {K K' : Nat} (hK : K < K') {h : xm_H} {P : Option Value → xm_H → Prop} {a0 : Nat} {x1 : Int32} {x2 : Int32} {x3 : Int32} {x4 : Int32} {x5 : Int32} (hr : ∃ fs, h[a0]? = some (.inr (9, fs))) (H :
    xm_Call K sX9_isShelf 99 [.int x1] h (xm_pi fun c2 h1 =>
      (if c2 = 0 then
        P (some (.int (-1 : Int32))) h1
      else
        xm_Call K sX9_isShelf 99 [.int x3] h1 (xm_pi fun c4 h3 =>
          (if c4 = 0 then
            P (some (.int (-1 : Int32))) h3
          else
            ∃ q5, xm_fld h3 a0 9 54 = some (.ref q5) ∧ /- holds -/
            ∃ e6, xm_ld xm_st h3 0 q5 x1 = some e6 ∧
            (if e6 = (-1 : Int32) then
              P (some (.int (-11 : Int32))) h3
            else
              ∃ q7, xm_fld h3 a0 9 54 = some (.ref q7) ∧ /- holds -/
              ∃ e8, xm_ld xm_st h3 0 q7 x3 = some e8 ∧
              (if e8 = (-1 : Int32) then
                P (some (.int (-11 : Int32))) h3
              else
                ∃ q9, xm_fld h3 a0 9 54 = some (.ref q9) ∧ /- holds -/
                ∃ e10, xm_ld xm_st h3 0 q9 x1 = some e10 ∧
                (if e10 < 0 then
                  ∃ q11, xm_fld h3 a0 9 54 = some (.ref q11) ∧ /- holds -/
                  ∃ e12, xm_ld xm_st h3 0 q11 x1 = some e12 ∧
                  ∃ q13, xm_fld h3 a0 9 54 = some (.ref q13) ∧ /- holds -/
                  ∃ e14, xm_ld xm_st h3 0 q13 x3 = some e14 ∧
                  (if e12 = e14 then
                    (if x5 < 0 then
                      P (some (.int (-13 : Int32))) h3
                    else
                      (if x2 < 0 then
                        P (some (.int (-13 : Int32))) h3
                      else
                        (if x4 < 0 then
                          P (some (.int (-13 : Int32))) h3
                        else
                          ∃ q15, xm_fld h3 a0 9 55 = some (.ref q15) ∧ /- size -/
                          ∃ e16, xm_ld xm_st h3 0 q15 x1 = some e16 ∧
                          (if (e16 - x5) < x2 then
                            P (some (.int (-13 : Int32))) h3
                          else
                            ∃ q17, xm_fld h3 a0 9 55 = some (.ref q17) ∧ /- size -/
                            ∃ e18, xm_ld xm_st h3 0 q17 x3 = some e18 ∧
                            (if (e18 - x5) < x4 then
                              P (some (.int (-13 : Int32))) h3
                            else
                              xm_L K sX9_shift kX9_shift 64 [some (.ref a0), some (.int x1), some (.int x2), some (.int x3), some (.int x4), some (.int x5), some (.int (0 : Int32))] [] h3 P)))))
                  else
                    P (some (.int (-12 : Int32))) h3)
                else
                  P (some (.int (-12 : Int32))) h3)))))))) :
    xm_Call K' sX9_shift 9 [.ref a0, .int x1, .int x2, .int x3, .int x4, .int x5] h P :=
  xm_call_of (C := kX9_shift) hK (by decide +kernel) rfl (Nat.le_of_ble_eq_true rfl) (Or.inr ⟨a0, hr.choose, rfl, hr.choose_spec⟩) (xX9_shift_0 H)

set_option maxRecDepth 100000 in
set_option maxHeartbeats 4000000 in
theorem xX9_shift_64 {K : Nat} {h : xm_H} {P : Option Value → xm_H → Prop} {a0 : Nat} {x1 : Int32} {x2 : Int32} {x3 : Int32} {x4 : Int32} {x5 : Int32} {x6 : Int32} (H :
    (if x6 < x5 then
      ∃ q1, xm_fld h a0 9 57 = some (.ref q1) ∧ /- shifted -/
      ∃ q2, xm_fld h a0 9 56 = some (.ref q2) ∧ /- elements -/
      ∃ e3, xm_ldL h q2 ((((60 : Int32) * x1) + x2) + x6) = some e3 ∧
      ∃ h4, xm_stoL h q1 x6 e3 = some h4 ∧
      xm_L K sX9_shift kX9_shift 64 [some (.ref a0), some (.int x1), some (.int x2), some (.int x3), some (.int x4), some (.int x5), some (.int (x6 + (1 : Int32)))] [] h4 P
    else
      xm_L K sX9_shift kX9_shift 85 [some (.ref a0), none, none, some (.int x3), some (.int x4), some (.int x5), some (.int (0 : Int32))] [] h P)) :
    xm_L K sX9_shift kX9_shift 64 [some (.ref a0), some (.int x1), some (.int x2), some (.int x3), some (.int x4), some (.int x5), some (.int x6)] [] h P :=
  xm_run (fun _ _ h => h) oX9_shift 20 64 0 0 [some (.ref a0), some (.int x1), some (.int x2), some (.int x3), some (.int x4), some (.int x5), some (.int x6)] [] h H

set_option maxRecDepth 100000 in
set_option maxHeartbeats 4000000 in
theorem xX9_shift_85 {K : Nat} {h : xm_H} {P : Option Value → xm_H → Prop} {a0 : Nat} {x3 : Int32} {x4 : Int32} {x5 : Int32} {x6 : Int32} (H :
    (if x6 < x5 then
      ∃ q1, xm_fld h a0 9 56 = some (.ref q1) ∧ /- elements -/
      ∃ q2, xm_fld h a0 9 57 = some (.ref q2) ∧ /- shifted -/
      ∃ e3, xm_ldL h q2 x6 = some e3 ∧
      ∃ h4, xm_stoL h q1 ((((60 : Int32) * x3) + x4) + x6) e3 = some h4 ∧
      xm_L K sX9_shift kX9_shift 85 [some (.ref a0), none, none, some (.int x3), some (.int x4), some (.int x5), some (.int (x6 + (1 : Int32)))] [] h4 P
    else
      P (some (.int x5)) h)) :
    xm_L K sX9_shift kX9_shift 85 [some (.ref a0), none, none, some (.int x3), some (.int x4), some (.int x5), some (.int x6)] [] h P :=
  xm_run (fun _ _ h => h) oX9_shift 20 85 0 0 [some (.ref a0), none, none, some (.int x3), some (.int x4), some (.int x5), some (.int x6)] [] h H

def kX9_taken : List xm_I := [
  i_0 0 (.iload_n 1) 1 none,
  i_m 1 (.invokestatic 136) 3 none 1 99 [1117, 1118, 117, 1119] 0 sX9_isShelf,
  i_j 4 (.ifCond .eq 13) 3 none 8,
  i_0 7 (.iload_n 2) 1 none,
  i_v 8 (.iconst 0) 1 none 0 [],
  i_v 9 (.bipush 7) 2 none 7 [],
  i_m 11 (.invokestatic 128) 3 none 3 99 [1106, 1107, 117, 1108] 0 sX9_in,
  i_j 14 (.ifCond .ne 5) 3 none 10,
  i_v 17 (.iconst (-1)) 1 none (-1) [],
  i_0 18 (.ireturn) 1 none,
  i_0 19 (.aload_n 0) 1 none,
  i_f 20 (.getfield 108) 3 none 9 54 [979] 1,
  i_0 23 (.iload_n 1) 1 none,
  i_0 24 (.iaload) 1 none,
  i_v 25 (.iconst (-1)) 1 none (-1) [],
  i_j 26 (.if_icmp .ne 6) 3 none 18,
  i_v 29 (.bipush (-11)) 2 none (-11) [],
  i_0 31 (.ireturn) 1 none,
  i_0 32 (.aload_n 0) 1 none,
  i_f 33 (.getfield 108) 3 none 9 54 [979] 1,
  i_0 36 (.iload_n 1) 1 none,
  i_0 37 (.iaload) 1 none,
  i_j 38 (.ifCond .lt 35) 3 none 41,
  i_0 41 (.aload_n 0) 1 none,
  i_f 42 (.getfield 102) 3 none 9 51 [976] 1,
  i_0 45 (.aload_n 0) 1 none,
  i_f 46 (.getfield 108) 3 none 9 54 [979] 1,
  i_0 49 (.iload_n 1) 1 none,
  i_0 50 (.iaload) 1 none,
  i_0 51 (.iaload) 1 none,
  i_0 52 (.iload_n 2) 1 none,
  i_m 53 (.invokestatic 408) 3 none 2 99 [1510, 1511, 117, 1512] 0 sX9_isUnder,
  i_j 56 (.ifCond .eq 17) 3 none 41,
  i_0 59 (.aload_n 0) 1 none,
  i_f 60 (.getfield 102) 3 none 9 51 [976] 1,
  i_0 63 (.aload_n 0) 1 none,
  i_f 64 (.getfield 108) 3 none 9 54 [979] 1,
  i_0 67 (.iload_n 1) 1 none,
  i_0 68 (.iaload) 1 none,
  i_0 69 (.iaload) 1 none,
  i_j 70 (.goto 5) 3 none 42,
  i_v 73 (.bipush (-12)) 2 none (-12) [],
  i_0 75 (.ireturn) 1 none]
set_option maxRecDepth 100000 in
theorem oX9_taken : xm_ok sX9_taken sX9_taken.1.cls kX9_taken = true := by decide +kernel
set_option maxRecDepth 100000 in
set_option maxHeartbeats 4000000 in
theorem xX9_taken_0 {K : Nat} {h : xm_H} {P : Option Value → xm_H → Prop} {a0 : Nat} {x1 : Int32} {x2 : Int32} (H :
    xm_Call K sX9_isShelf 99 [.int x1] h (xm_pi fun c2 h1 =>
      (if c2 = 0 then
        P (some (.int (-1 : Int32))) h1
      else
        xm_Call K sX9_in 99 [.int x2, .int (0 : Int32), .int (7 : Int32)] h1 (xm_pi fun c4 h3 =>
          (if c4 = 0 then
            P (some (.int (-1 : Int32))) h3
          else
            ∃ q5, xm_fld h3 a0 9 54 = some (.ref q5) ∧ /- holds -/
            ∃ e6, xm_ld xm_st h3 0 q5 x1 = some e6 ∧
            (if e6 = (-1 : Int32) then
              P (some (.int (-11 : Int32))) h3
            else
              ∃ q7, xm_fld h3 a0 9 54 = some (.ref q7) ∧ /- holds -/
              ∃ e8, xm_ld xm_st h3 0 q7 x1 = some e8 ∧
              (if e8 < 0 then
                P (some (.int (-12 : Int32))) h3
              else
                ∃ q9, xm_fld h3 a0 9 51 = some (.ref q9) ∧ /- kind -/
                ∃ q10, xm_fld h3 a0 9 54 = some (.ref q10) ∧ /- holds -/
                ∃ e11, xm_ld xm_st h3 0 q10 x1 = some e11 ∧
                ∃ e12, xm_ld xm_st h3 0 q9 e11 = some e12 ∧
                xm_Call K sX9_isUnder 99 [.int e12, .int x2] h3 (xm_pi fun c14 h13 =>
                  (if c14 = 0 then
                    P (some (.int (-12 : Int32))) h13
                  else
                    ∃ q15, xm_fld h13 a0 9 51 = some (.ref q15) ∧ /- kind -/
                    ∃ q16, xm_fld h13 a0 9 54 = some (.ref q16) ∧ /- holds -/
                    ∃ e17, xm_ld xm_st h13 0 q16 x1 = some e17 ∧
                    ∃ e18, xm_ld xm_st h13 0 q15 e17 = some e18 ∧
                    P (some (.int e18)) h13))))))))) :
    xm_L K sX9_taken kX9_taken 0 [some (.ref a0), some (.int x1), some (.int x2)] [] h P :=
  xm_run (fun _ _ h => h) oX9_taken 39 0 0 0 [some (.ref a0), some (.int x1), some (.int x2)] [] h H
set_option maxRecDepth 100000 in
theorem eX9_taken {K K' : Nat} (hK : K < K') {h : xm_H} {P : Option Value → xm_H → Prop} {a0 : Nat} {x1 : Int32} {x2 : Int32} (hr : ∃ fs, h[a0]? = some (.inr (9, fs))) (H :
    xm_Call K sX9_isShelf 99 [.int x1] h (xm_pi fun c2 h1 =>
      (if c2 = 0 then
        P (some (.int (-1 : Int32))) h1
      else
        xm_Call K sX9_in 99 [.int x2, .int (0 : Int32), .int (7 : Int32)] h1 (xm_pi fun c4 h3 =>
          (if c4 = 0 then
            P (some (.int (-1 : Int32))) h3
          else
            ∃ q5, xm_fld h3 a0 9 54 = some (.ref q5) ∧ /- holds -/
            ∃ e6, xm_ld xm_st h3 0 q5 x1 = some e6 ∧
            (if e6 = (-1 : Int32) then
              P (some (.int (-11 : Int32))) h3
            else
              ∃ q7, xm_fld h3 a0 9 54 = some (.ref q7) ∧ /- holds -/
              ∃ e8, xm_ld xm_st h3 0 q7 x1 = some e8 ∧
              (if e8 < 0 then
                P (some (.int (-12 : Int32))) h3
              else
                ∃ q9, xm_fld h3 a0 9 51 = some (.ref q9) ∧ /- kind -/
                ∃ q10, xm_fld h3 a0 9 54 = some (.ref q10) ∧ /- holds -/
                ∃ e11, xm_ld xm_st h3 0 q10 x1 = some e11 ∧
                ∃ e12, xm_ld xm_st h3 0 q9 e11 = some e12 ∧
                xm_Call K sX9_isUnder 99 [.int e12, .int x2] h3 (xm_pi fun c14 h13 =>
                  (if c14 = 0 then
                    P (some (.int (-12 : Int32))) h13
                  else
                    ∃ q15, xm_fld h13 a0 9 51 = some (.ref q15) ∧ /- kind -/
                    ∃ q16, xm_fld h13 a0 9 54 = some (.ref q16) ∧ /- holds -/
                    ∃ e17, xm_ld xm_st h13 0 q16 x1 = some e17 ∧
                    ∃ e18, xm_ld xm_st h13 0 q15 e17 = some e18 ∧
                    P (some (.int e18)) h13))))))))) :
    xm_Call K' sX9_taken 9 [.ref a0, .int x1, .int x2] h P :=
  xm_call_of (C := kX9_taken) hK (by decide +kernel) rfl (Nat.le_of_ble_eq_true rfl) (Or.inr ⟨a0, hr.choose, rfl, hr.choose_spec⟩) (xX9_taken_0 H)

