def kX8_fittingSnows : List xm_I := [
  i_0 0 (.aload_n 0) 1 none,
  i_f 1 (.getfield 16) 3 none 8 1 [329] 1,
  i_0 4 (.aload_n 0) 1 none,
  i_f 5 (.getfield 10) 3 none 8 0 [328] 1,
  i_m 8 (.invokevirtual 182) 3 none 1 7 [595, 596, 597, 109, 598] 0 sX7_copy,
  i_v 11 (.iconst 0) 1 none 0 [],
  i_0 12 (.istore_n 2) 1 none,
  i_v 13 (.iconst 0) 1 none 0 [],
  i_0 14 (.istore_n 3) 1 none,
  i_0 15 (.iload_n 3) 1 (some [true, true, true, true]),
  i_v 16 (.bipush 100) 2 none 100 [],
  i_j 18 (.if_icmp .ge 44) 3 none 31,
  i_0 21 (.aload_n 0) 1 none,
  i_f 22 (.getfield 16) 3 none 8 1 [329] 1,
  i_0 25 (.iload_n 3) 1 none,
  i_m 26 (.invokevirtual 267) 3 none 1 7 [711, 712, 713, 109, 714] 0 sX7_setSnow,
  i_0 29 (.aload_n 0) 1 none,
  i_f 30 (.getfield 22) 3 none 8 2 [330] 1,
  i_0 33 (.aload_n 0) 1 none,
  i_f 34 (.getfield 16) 3 none 8 1 [329] 1,
  i_m 37 (.invokevirtual 163) 3 none 1 4 [546, 547, 548, 110, 549] 0 sX4_reckon,
  i_0 40 (.aload_n 0) 1 none,
  i_m 41 (.invokevirtual 264) 3 none 0 8 [703, 705, 19, 108, 706] 0 sX8_isAllSo,
  i_j 44 (.ifCond .eq 12) 3 none 29,
  i_0 47 (.iload_n 1) 1 none,
  i_j 48 (.ifCond .eq 5) 3 none 28,
  i_0 51 (.iload_n 3) 1 none,
  i_0 52 (.ireturn) 1 none,
  i_v 53 (.iinc 2 1) 3 none 1 [],
  i_v 56 (.iinc 3 1) 3 none 1 [],
  i_j 59 (.goto (-44)) 3 none 9,
  i_0 62 (.iload_n 1) 1 none,
  i_j 63 (.ifCond .eq 8) 3 none 35,
  i_v 66 (.bipush (-2)) 2 none (-2) [],
  i_j 68 (.goto 4) 3 none 36,
  i_0 71 (.iload_n 2) 1 none,
  i_0 72 (.ireturn) 1 none]
set_option maxRecDepth 100000 in
theorem oX8_fittingSnows : xm_ok sX8_fittingSnows sX8_fittingSnows.1.cls kX8_fittingSnows = true := by decide +kernel
set_option maxRecDepth 100000 in
set_option maxHeartbeats 4000000 in
theorem xX8_fittingSnows_0 {K : Nat} {h : xm_H} {P : Option Value → xm_H → Prop} {a0 : Nat} {x1 : Int32} (H :
    ∃ q1, xm_fld h a0 8 1 = some (.ref q1) ∧ /- thought -/
    ∃ q2, xm_fld h a0 8 0 = some (.ref q2) ∧ /- now -/
    xm_Call K sX7_copy 7 [.ref q1, .ref q2] h (xm_pv fun h3 =>
      xm_L K sX8_fittingSnows kX8_fittingSnows 9 [some (.ref a0), some (.int x1), some (.int (0 : Int32)), some (.int (0 : Int32))] [] h3 P)) :
    xm_L K sX8_fittingSnows kX8_fittingSnows 0 [some (.ref a0), some (.int x1), none, none] [] h P :=
  xm_run (fun _ _ h => h) oX8_fittingSnows 10 0 0 0 [some (.ref a0), some (.int x1), none, none] [] h H
set_option maxRecDepth 100000 in
theorem eX8_fittingSnows {K K' : Nat} (hK : K < K') {h : xm_H} {P : Option Value → xm_H → Prop} {a0 : Nat} {x1 : Int32} (hr : ∃ fs, h[a0]? = some (.inr (8, fs))) (H :
    ∃ q1, xm_fld h a0 8 1 = some (.ref q1) ∧ /- thought -/
    ∃ q2, xm_fld h a0 8 0 = some (.ref q2) ∧ /- now -/
    xm_Call K sX7_copy 7 [.ref q1, .ref q2] h (xm_pv fun h3 =>
      xm_L K sX8_fittingSnows kX8_fittingSnows 9 [some (.ref a0), some (.int x1), some (.int (0 : Int32)), some (.int (0 : Int32))] [] h3 P)) :
    xm_Call K' sX8_fittingSnows 8 [.ref a0, .int x1] h P :=
  xm_call_of (C := kX8_fittingSnows) hK (by decide +kernel) rfl (Nat.le_of_ble_eq_true rfl) (Or.inr ⟨a0, hr.choose, rfl, hr.choose_spec⟩) (xX8_fittingSnows_0 H)

set_option maxRecDepth 100000 in
set_option maxHeartbeats 4000000 in
theorem xX8_fittingSnows_9 {K : Nat} {h : xm_H} {P : Option Value → xm_H → Prop} {a0 : Nat} {x1 : Int32} {x2 : Int32} {x3 : Int32} (H :
    (if x3 < (100 : Int32) then
      ∃ q1, xm_fld h a0 8 1 = some (.ref q1) ∧ /- thought -/
      xm_Call K sX7_setSnow 7 [.ref q1, .int x3] h (xm_pv fun h2 =>
        ∃ q3, xm_fld h2 a0 8 2 = some (.ref q3) ∧ /- reckoner -/
        ∃ q4, xm_fld h2 a0 8 1 = some (.ref q4) ∧ /- thought -/
        xm_Call K sX4_reckon 4 [.ref q3, .ref q4] h2 (xm_pv fun h5 =>
          xm_Call K sX8_isAllSo 8 [.ref a0] h5 (xm_pi fun c7 h6 =>
            (if c7 = 0 then
              xm_L K sX8_fittingSnows kX8_fittingSnows 9 [some (.ref a0), some (.int x1), some (.int x2), some (.int (x3 + (1 : Int32)))] [] h6 P
            else
              (if x1 = 0 then
                xm_L K sX8_fittingSnows kX8_fittingSnows 9 [some (.ref a0), some (.int x1), some (.int (x2 + (1 : Int32))), some (.int (x3 + (1 : Int32)))] [] h6 P
              else
                P (some (.int x3)) h6)))))
    else
      (if x1 = 0 then
        P (some (.int x2)) h
      else
        P (some (.int (-2 : Int32))) h))) :
    xm_L K sX8_fittingSnows kX8_fittingSnows 9 [some (.ref a0), some (.int x1), some (.int x2), some (.int x3)] [] h P :=
  xm_run (fun _ _ h => h) oX8_fittingSnows 21 9 0 0 [some (.ref a0), some (.int x1), some (.int x2), some (.int x3)] [] h H

def kX8_fittingEars : List xm_I := [
  i_0 0 (.aload_n 0) 1 none,
  i_f 1 (.getfield 22) 3 none 8 2 [330] 1,
  i_0 4 (.aload_n 0) 1 none,
  i_f 5 (.getfield 10) 3 none 8 0 [328] 1,
  i_m 8 (.invokevirtual 270) 3 none 1 4 [719, 551, 552, 110, 553] 0 sX4_weigh,
  i_v 11 (.iconst 0) 1 none 0 [],
  i_0 12 (.istore_n 2) 1 none,
  i_v 13 (.iconst 0) 1 none 0 [],
  i_0 14 (.istore_n 3) 1 none,
  i_0 15 (.iload_n 3) 1 (some [true, true, true, true]),
  i_v 16 (.iconst 1) 1 none 1 [],
  i_0 17 (.aload_n 0) 1 none,
  i_f 18 (.getfield 10) 3 none 8 0 [328] 1,
  i_f 21 (.getfield 89) 3 none 7 1 [140] 0,
  i_0 24 (.ishl) 1 none,
  i_j 25 (.if_icmp .ge 37) 3 none 32,
  i_0 28 (.aload_n 0) 1 none,
  i_f 29 (.getfield 22) 3 none 8 2 [330] 1,
  i_0 32 (.aload_n 0) 1 none,
  i_f 33 (.getfield 10) 3 none 8 0 [328] 1,
  i_0 36 (.iload_n 3) 1 none,
  i_m 37 (.invokevirtual 273) 3 none 2 4 [720, 563, 564, 110, 565] 0 sX4_shareOut,
  i_0 40 (.aload_n 0) 1 none,
  i_m 41 (.invokevirtual 264) 3 none 0 8 [703, 705, 19, 108, 706] 0 sX8_isAllSo,
  i_j 44 (.ifCond .eq 12) 3 none 30,
  i_0 47 (.iload_n 1) 1 none,
  i_j 48 (.ifCond .eq 5) 3 none 29,
  i_0 51 (.iload_n 3) 1 none,
  i_0 52 (.ireturn) 1 none,
  i_v 53 (.iinc 2 1) 3 none 1 [],
  i_v 56 (.iinc 3 1) 3 none 1 [],
  i_j 59 (.goto (-44)) 3 none 9,
  i_0 62 (.iload_n 1) 1 none,
  i_j 63 (.ifCond .eq 8) 3 none 36,
  i_v 66 (.bipush (-2)) 2 none (-2) [],
  i_j 68 (.goto 4) 3 none 37,
  i_0 71 (.iload_n 2) 1 none,
  i_0 72 (.ireturn) 1 none]
set_option maxRecDepth 100000 in
theorem oX8_fittingEars : xm_ok sX8_fittingEars sX8_fittingEars.1.cls kX8_fittingEars = true := by decide +kernel
set_option maxRecDepth 100000 in
set_option maxHeartbeats 4000000 in
theorem xX8_fittingEars_0 {K : Nat} {h : xm_H} {P : Option Value → xm_H → Prop} {a0 : Nat} {x1 : Int32} (H :
    ∃ q1, xm_fld h a0 8 2 = some (.ref q1) ∧ /- reckoner -/
    ∃ q2, xm_fld h a0 8 0 = some (.ref q2) ∧ /- now -/
    xm_Call K sX4_weigh 4 [.ref q1, .ref q2] h (xm_pv fun h3 =>
      xm_L K sX8_fittingEars kX8_fittingEars 9 [some (.ref a0), some (.int x1), some (.int (0 : Int32)), some (.int (0 : Int32))] [] h3 P)) :
    xm_L K sX8_fittingEars kX8_fittingEars 0 [some (.ref a0), some (.int x1), none, none] [] h P :=
  xm_run (fun _ _ h => h) oX8_fittingEars 10 0 0 0 [some (.ref a0), some (.int x1), none, none] [] h H
set_option maxRecDepth 100000 in
theorem eX8_fittingEars {K K' : Nat} (hK : K < K') {h : xm_H} {P : Option Value → xm_H → Prop} {a0 : Nat} {x1 : Int32} (hr : ∃ fs, h[a0]? = some (.inr (8, fs))) (H :
    ∃ q1, xm_fld h a0 8 2 = some (.ref q1) ∧ /- reckoner -/
    ∃ q2, xm_fld h a0 8 0 = some (.ref q2) ∧ /- now -/
    xm_Call K sX4_weigh 4 [.ref q1, .ref q2] h (xm_pv fun h3 =>
      xm_L K sX8_fittingEars kX8_fittingEars 9 [some (.ref a0), some (.int x1), some (.int (0 : Int32)), some (.int (0 : Int32))] [] h3 P)) :
    xm_Call K' sX8_fittingEars 8 [.ref a0, .int x1] h P :=
  xm_call_of (C := kX8_fittingEars) hK (by decide +kernel) rfl (Nat.le_of_ble_eq_true rfl) (Or.inr ⟨a0, hr.choose, rfl, hr.choose_spec⟩) (xX8_fittingEars_0 H)

set_option maxRecDepth 100000 in
set_option maxHeartbeats 4000000 in
theorem xX8_fittingEars_9 {K : Nat} {h : xm_H} {P : Option Value → xm_H → Prop} {a0 : Nat} {x1 : Int32} {x2 : Int32} {x3 : Int32} (H :
    ∃ q1, xm_fld h a0 8 0 = some (.ref q1) ∧ /- now -/
    ∃ f2, xm_fld h q1 7 1 = some (.int f2) ∧ /- people -/
    (if x3 < ((1 : Int32) <<< (f2 &&& 31)) then
      ∃ q3, xm_fld h a0 8 2 = some (.ref q3) ∧ /- reckoner -/
      ∃ q4, xm_fld h a0 8 0 = some (.ref q4) ∧ /- now -/
      xm_Call K sX4_shareOut 4 [.ref q3, .ref q4, .int x3] h (xm_pv fun h5 =>
        xm_Call K sX8_isAllSo 8 [.ref a0] h5 (xm_pi fun c7 h6 =>
          (if c7 = 0 then
            xm_L K sX8_fittingEars kX8_fittingEars 9 [some (.ref a0), some (.int x1), some (.int x2), some (.int (x3 + (1 : Int32)))] [] h6 P
          else
            (if x1 = 0 then
              xm_L K sX8_fittingEars kX8_fittingEars 9 [some (.ref a0), some (.int x1), some (.int (x2 + (1 : Int32))), some (.int (x3 + (1 : Int32)))] [] h6 P
            else
              P (some (.int x3)) h6))))
    else
      (if x1 = 0 then
        P (some (.int x2)) h
      else
        P (some (.int (-2 : Int32))) h))) :
    xm_L K sX8_fittingEars kX8_fittingEars 9 [some (.ref a0), some (.int x1), some (.int x2), some (.int x3)] [] h P :=
  xm_run (fun _ _ h => h) oX8_fittingEars 22 9 0 0 [some (.ref a0), some (.int x1), some (.int x2), some (.int x3)] [] h H

def kX8_said : List xm_I := [
  i_0 0 (.iload_n 1) 1 none,
  i_s 1 (.tableswitch 42 0 2 #[27, 32, 37]) 27 none 11 [(0, 2), (1, 5), (2, 8)],
  i_0 28 (.aload_n 0) 1 none,
  i_m 29 (.invokevirtual 277) 3 none 0 8 [725, 727, 22, 108, 728] 0 sX8_leastSaid,
  i_0 32 (.ireturn) 1 none,
  i_0 33 (.aload_n 0) 1 none,
  i_m 34 (.invokevirtual 280) 3 none 0 8 [739, 741, 24, 108, 742] 0 sX8_dearest,
  i_0 37 (.ireturn) 1 none,
  i_0 38 (.aload_n 0) 1 none,
  i_m 39 (.invokevirtual 283) 3 none 0 8 [743, 745, 25, 108, 746] 0 sX8_alike,
  i_0 42 (.ireturn) 1 none,
  i_v 43 (.iconst (-1)) 1 none (-1) [],
  i_0 44 (.ireturn) 1 none]
set_option maxRecDepth 100000 in
theorem oX8_said : xm_ok sX8_said sX8_said.1.cls kX8_said = true := by decide +kernel
set_option maxRecDepth 100000 in
set_option maxHeartbeats 4000000 in
theorem xX8_said_0 {K : Nat} {h : xm_H} {P : Option Value → xm_H → Prop} {a0 : Nat} {x1 : Int32} (H :
    (if x1 = 0 then
      xm_Call K sX8_leastSaid 8 [.ref a0] h (xm_pi fun c2 h1 =>
        P (some (.int c2)) h1)
    else
    (if x1 = 1 then
      xm_Call K sX8_dearest 8 [.ref a0] h (xm_pi fun c4 h3 =>
        P (some (.int c4)) h3)
    else
    (if x1 = 2 then
      xm_Call K sX8_alike 8 [.ref a0] h (xm_pi fun c6 h5 =>
        P (some (.int c6)) h5)
    else
    P (some (.int (-1 : Int32))) h)))) :
    xm_L K sX8_said kX8_said 0 [some (.ref a0), some (.int x1)] [] h P :=
  xm_run (fun _ _ h => h) oX8_said 6 0 0 0 [some (.ref a0), some (.int x1)] [] h H
set_option maxRecDepth 100000 in
theorem eX8_said {K K' : Nat} (hK : K < K') {h : xm_H} {P : Option Value → xm_H → Prop} {a0 : Nat} {x1 : Int32} (hr : ∃ fs, h[a0]? = some (.inr (8, fs))) (H :
    (if x1 = 0 then
      xm_Call K sX8_leastSaid 8 [.ref a0] h (xm_pi fun c2 h1 =>
        P (some (.int c2)) h1)
    else
    (if x1 = 1 then
      xm_Call K sX8_dearest 8 [.ref a0] h (xm_pi fun c4 h3 =>
        P (some (.int c4)) h3)
    else
    (if x1 = 2 then
      xm_Call K sX8_alike 8 [.ref a0] h (xm_pi fun c6 h5 =>
        P (some (.int c6)) h5)
    else
    P (some (.int (-1 : Int32))) h)))) :
    xm_Call K' sX8_said 8 [.ref a0, .int x1] h P :=
  xm_call_of (C := kX8_said) hK (by decide +kernel) rfl (Nat.le_of_ble_eq_true rfl) (Or.inr ⟨a0, hr.choose, rfl, hr.choose_spec⟩) (xX8_said_0 H)

def kX8_leastSaid : List xm_I := [
  i_0 0 (.aload_n 0) 1 none,
  i_f 1 (.getfield 10) 3 none 8 0 [328] 1,
  i_f 4 (.getfield 89) 3 none 7 1 [140] 0,
  i_0 7 (.istore_n 1) 1 none,
  i_v 8 (.iconst 0) 1 none 0 [],
  i_0 9 (.istore_n 2) 1 none,
  i_0 10 (.iload_n 2) 1 (some [true, true, true, false]),
  i_v 11 (.iconst 1) 1 none 1 [],
  i_0 12 (.aload_n 0) 1 none,
  i_f 13 (.getfield 10) 3 none 8 0 [328] 1,
  i_f 16 (.getfield 89) 3 none 7 1 [140] 0,
  i_0 19 (.ishl) 1 none,
  i_j 20 (.if_icmp .ge 51) 3 none 37,
  i_0 23 (.iload_n 2) 1 none,
  i_m 24 (.invokestatic 286) 3 none 1 99 [729, 730, 120, 731] 0 sJ6_bitCount_0f7a4,
  i_0 27 (.istore_n 3) 1 none,
  i_0 28 (.iload_n 3) 1 none,
  i_0 29 (.iload_n 1) 1 none,
  i_j 30 (.if_icmp .ge 35) 3 none 35,
  i_0 33 (.aload_n 0) 1 none,
  i_0 34 (.iload_n 2) 1 none,
  i_m 35 (.invokevirtual 291) 3 none 1 8 [735, 737, 23, 108, 738] 0 sX8_thinkSilent,
  i_0 38 (.aload_n 0) 1 none,
  i_f 39 (.getfield 22) 3 none 8 2 [330] 1,
  i_0 42 (.aload_n 0) 1 none,
  i_f 43 (.getfield 16) 3 none 8 1 [329] 1,
  i_m 46 (.invokevirtual 163) 3 none 1 4 [546, 547, 548, 110, 549] 0 sX4_reckon,
  i_0 49 (.aload_n 0) 1 none,
  i_f 50 (.getfield 22) 3 none 8 2 [330] 1,
  i_f 53 (.getfield 294) 3 none 4 8 [183] 0,
  i_j 56 (.ifCond .ne 7) 3 none 33,
  i_0 59 (.iload_n 3) 1 none,
  i_j 60 (.goto 4) 3 none 34,
  i_0 63 (.iload_n 1) 1 none,
  i_0 64 (.istore_n 1) 1 none,
  i_v 65 (.iinc 2 1) 3 none 1 [],
  i_j 68 (.goto (-58)) 3 none 6,
  i_0 71 (.iload_n 1) 1 none,
  i_0 72 (.ireturn) 1 none]
set_option maxRecDepth 100000 in
theorem oX8_leastSaid : xm_ok sX8_leastSaid sX8_leastSaid.1.cls kX8_leastSaid = true := by decide +kernel
set_option maxRecDepth 100000 in
set_option maxHeartbeats 4000000 in
theorem xX8_leastSaid_0 {K : Nat} {h : xm_H} {P : Option Value → xm_H → Prop} {a0 : Nat} (H :
    ∃ q1, xm_fld h a0 8 0 = some (.ref q1) ∧ /- now -/
    ∃ f2, xm_fld h q1 7 1 = some (.int f2) ∧ /- people -/
    xm_L K sX8_leastSaid kX8_leastSaid 6 [some (.ref a0), some (.int f2), some (.int (0 : Int32)), none] [] h P) :
    xm_L K sX8_leastSaid kX8_leastSaid 0 [some (.ref a0), none, none, none] [] h P :=
  xm_run (fun _ _ h => h) oX8_leastSaid 7 0 0 0 [some (.ref a0), none, none, none] [] h H
set_option maxRecDepth 100000 in
theorem eX8_leastSaid {K K' : Nat} (hK : K < K') {h : xm_H} {P : Option Value → xm_H → Prop} {a0 : Nat} (hr : ∃ fs, h[a0]? = some (.inr (8, fs))) (H :
    ∃ q1, xm_fld h a0 8 0 = some (.ref q1) ∧ /- now -/
    ∃ f2, xm_fld h q1 7 1 = some (.int f2) ∧ /- people -/
    xm_L K sX8_leastSaid kX8_leastSaid 6 [some (.ref a0), some (.int f2), some (.int (0 : Int32)), none] [] h P) :
    xm_Call K' sX8_leastSaid 8 [.ref a0] h P :=
  xm_call_of (C := kX8_leastSaid) hK (by decide +kernel) rfl (Nat.le_of_ble_eq_true rfl) (Or.inr ⟨a0, hr.choose, rfl, hr.choose_spec⟩) (xX8_leastSaid_0 H)

set_option maxRecDepth 100000 in
set_option maxHeartbeats 4000000 in
theorem xX8_leastSaid_6 {K : Nat} {h : xm_H} {P : Option Value → xm_H → Prop} {a0 : Nat} {x1 : Int32} {x2 : Int32} (H :
    ∃ q1, xm_fld h a0 8 0 = some (.ref q1) ∧ /- now -/
    ∃ f2, xm_fld h q1 7 1 = some (.int f2) ∧ /- people -/
    (if x2 < ((1 : Int32) <<< (f2 &&& 31)) then
      xm_Call K sJ6_bitCount_0f7a4 99 [.int x2] h (xm_pi fun c4 h3 =>
        (if c4 < x1 then
          xm_Call K sX8_thinkSilent 8 [.ref a0, .int x2] h3 (xm_pv fun h5 =>
            ∃ q6, xm_fld h5 a0 8 2 = some (.ref q6) ∧ /- reckoner -/
            ∃ q7, xm_fld h5 a0 8 1 = some (.ref q7) ∧ /- thought -/
            xm_Call K sX4_reckon 4 [.ref q6, .ref q7] h5 (xm_pv fun h8 =>
              ∃ q9, xm_fld h8 a0 8 2 = some (.ref q9) ∧ /- reckoner -/
              ∃ f10, xm_fld h8 q9 4 8 = some (.int f10) ∧ /- total -/
              (if f10 = 0 then
                xm_L K sX8_leastSaid kX8_leastSaid 6 [some (.ref a0), some (.int c4), some (.int (x2 + (1 : Int32))), none] [] h8 P
              else
                xm_L K sX8_leastSaid kX8_leastSaid 6 [some (.ref a0), some (.int x1), some (.int (x2 + (1 : Int32))), none] [] h8 P)))
        else
          xm_L K sX8_leastSaid kX8_leastSaid 6 [some (.ref a0), some (.int x1), some (.int (x2 + (1 : Int32))), none] [] h3 P))
    else
      P (some (.int x1)) h)) :
    xm_L K sX8_leastSaid kX8_leastSaid 6 [some (.ref a0), some (.int x1), some (.int x2), none] [] h P :=
  xm_run (fun _ _ h => h) oX8_leastSaid 31 6 0 0 [some (.ref a0), some (.int x1), some (.int x2), none] [] h H

def kX8_thinkSilent : List xm_I := [
  i_0 0 (.aload_n 0) 1 none,
  i_f 1 (.getfield 16) 3 none 8 1 [329] 1,
  i_0 4 (.aload_n 0) 1 none,
  i_f 5 (.getfield 10) 3 none 8 0 [328] 1,
  i_m 8 (.invokevirtual 182) 3 none 1 7 [595, 596, 597, 109, 598] 0 sX7_copy,
  i_v 11 (.iconst 0) 1 none 0 [],
  i_0 12 (.istore_n 2) 1 none,
  i_0 13 (.iload_n 2) 1 (some [true, true, true]),
  i_0 14 (.aload_n 0) 1 none,
  i_f 15 (.getfield 10) 3 none 8 0 [328] 1,
  i_f 18 (.getfield 89) 3 none 7 1 [140] 0,
  i_j 21 (.if_icmp .ge 28) 3 none 27,
  i_0 24 (.iload_n 1) 1 none,
  i_0 25 (.iload_n 2) 1 none,
  i_0 26 (.ishr) 1 none,
  i_v 27 (.iconst 1) 1 none 1 [],
  i_0 28 (.iand) 1 none,
  i_v 29 (.iconst 1) 1 none 1 [],
  i_j 30 (.if_icmp .ne 13) 3 none 25,
  i_0 33 (.aload_n 0) 1 none,
  i_f 34 (.getfield 16) 3 none 8 1 [329] 1,
  i_0 37 (.iload_n 2) 1 none,
  i_v 38 (.iconst 3) 1 none 3 [],
  i_v 39 (.iconst 0) 1 none 0 [],
  i_m 40 (.invokevirtual 185) 3 none 3 7 [600, 385, 386, 109, 387] 0 sX7_set,
  i_v 43 (.iinc 2 1) 3 none 1 [],
  i_j 46 (.goto (-33)) 3 none 7,
  i_0 49 (.return_) 1 none]
set_option maxRecDepth 100000 in
theorem oX8_thinkSilent : xm_ok sX8_thinkSilent sX8_thinkSilent.1.cls kX8_thinkSilent = true := by decide +kernel
set_option maxRecDepth 100000 in
set_option maxHeartbeats 4000000 in
theorem xX8_thinkSilent_0 {K : Nat} {h : xm_H} {P : Option Value → xm_H → Prop} {a0 : Nat} {x1 : Int32} (H :
    ∃ q1, xm_fld h a0 8 1 = some (.ref q1) ∧ /- thought -/
    ∃ q2, xm_fld h a0 8 0 = some (.ref q2) ∧ /- now -/
    xm_Call K sX7_copy 7 [.ref q1, .ref q2] h (xm_pv fun h3 =>
      xm_L K sX8_thinkSilent kX8_thinkSilent 7 [some (.ref a0), some (.int x1), some (.int (0 : Int32))] [] h3 P)) :
    xm_L K sX8_thinkSilent kX8_thinkSilent 0 [some (.ref a0), some (.int x1), none] [] h P :=
  xm_run (fun _ _ h => h) oX8_thinkSilent 8 0 0 0 [some (.ref a0), some (.int x1), none] [] h H
set_option maxRecDepth 100000 in
theorem eX8_thinkSilent {K K' : Nat} (hK : K < K') {h : xm_H} {P : Option Value → xm_H → Prop} {a0 : Nat} {x1 : Int32} (hr : ∃ fs, h[a0]? = some (.inr (8, fs))) (H :
    ∃ q1, xm_fld h a0 8 1 = some (.ref q1) ∧ /- thought -/
    ∃ q2, xm_fld h a0 8 0 = some (.ref q2) ∧ /- now -/
    xm_Call K sX7_copy 7 [.ref q1, .ref q2] h (xm_pv fun h3 =>
      xm_L K sX8_thinkSilent kX8_thinkSilent 7 [some (.ref a0), some (.int x1), some (.int (0 : Int32))] [] h3 P)) :
    xm_Call K' sX8_thinkSilent 8 [.ref a0, .int x1] h P :=
  xm_call_of (C := kX8_thinkSilent) hK (by decide +kernel) rfl (Nat.le_of_ble_eq_true rfl) (Or.inr ⟨a0, hr.choose, rfl, hr.choose_spec⟩) (xX8_thinkSilent_0 H)

set_option maxRecDepth 100000 in
set_option maxHeartbeats 4000000 in
theorem xX8_thinkSilent_7 {K : Nat} {h : xm_H} {P : Option Value → xm_H → Prop} {a0 : Nat} {x1 : Int32} {x2 : Int32} (H :
    ∃ q1, xm_fld h a0 8 0 = some (.ref q1) ∧ /- now -/
    ∃ f2, xm_fld h q1 7 1 = some (.int f2) ∧ /- people -/
    (if x2 < f2 then
      (if ((x1 >>> (x2 &&& 31)) &&& (1 : Int32)) = (1 : Int32) then
        ∃ q3, xm_fld h a0 8 1 = some (.ref q3) ∧ /- thought -/
        xm_Call K sX7_set 7 [.ref q3, .int x2, .int (3 : Int32), .int (0 : Int32)] h (xm_pv fun h4 =>
          xm_L K sX8_thinkSilent kX8_thinkSilent 7 [some (.ref a0), some (.int x1), some (.int (x2 + (1 : Int32)))] [] h4 P)
      else
        xm_L K sX8_thinkSilent kX8_thinkSilent 7 [some (.ref a0), some (.int x1), some (.int (x2 + (1 : Int32)))] [] h P)
    else
      P none h)) :
    xm_L K sX8_thinkSilent kX8_thinkSilent 7 [some (.ref a0), some (.int x1), some (.int x2)] [] h P :=
  xm_run (fun _ _ h => h) oX8_thinkSilent 21 7 0 0 [some (.ref a0), some (.int x1), some (.int x2)] [] h H

def kX8_dearest : List xm_I := [
  i_0 0 (.aload_n 0) 1 none,
  i_f 1 (.getfield 22) 3 none 8 2 [330] 1,
  i_0 4 (.aload_n 0) 1 none,
  i_f 5 (.getfield 10) 3 none 8 0 [328] 1,
  i_m 8 (.invokevirtual 163) 3 none 1 4 [546, 547, 548, 110, 549] 0 sX4_reckon,
  i_v 11 (.bipush (-2)) 2 none (-2) [],
  i_0 13 (.istore_n 1) 1 none,
  i_v 14 (.iconst 0) 1 none 0 [],
  i_0 15 (.istore_n 2) 1 none,
  i_v 16 (.iconst 0) 1 none 0 [],
  i_0 17 (.istore_n 3) 1 none,
  i_0 18 (.iload_n 3) 1 (some [true, true, true, true]),
  i_0 19 (.aload_n 0) 1 none,
  i_f 20 (.getfield 10) 3 none 8 0 [328] 1,
  i_f 23 (.getfield 89) 3 none 7 1 [140] 0,
  i_j 26 (.if_icmp .ge 34) 3 none 33,
  i_0 29 (.aload_n 0) 1 none,
  i_f 30 (.getfield 22) 3 none 8 2 [330] 1,
  i_f 33 (.getfield 172) 3 none 4 4 [177] 1,
  i_0 36 (.iload_n 3) 1 none,
  i_0 37 (.iaload) 1 none,
  i_0 38 (.iload_n 2) 1 none,
  i_j 39 (.if_icmp .le 15) 3 none 31,
  i_0 42 (.iload_n 3) 1 none,
  i_0 43 (.istore_n 1) 1 none,
  i_0 44 (.aload_n 0) 1 none,
  i_f 45 (.getfield 22) 3 none 8 2 [330] 1,
  i_f 48 (.getfield 172) 3 none 4 4 [177] 1,
  i_0 51 (.iload_n 3) 1 none,
  i_0 52 (.iaload) 1 none,
  i_0 53 (.istore_n 2) 1 none,
  i_v 54 (.iinc 3 1) 3 none 1 [],
  i_j 57 (.goto (-39)) 3 none 11,
  i_0 60 (.iload_n 1) 1 none,
  i_0 61 (.ireturn) 1 none]
set_option maxRecDepth 100000 in
theorem oX8_dearest : xm_ok sX8_dearest sX8_dearest.1.cls kX8_dearest = true := by decide +kernel
set_option maxRecDepth 100000 in
set_option maxHeartbeats 4000000 in
theorem xX8_dearest_0 {K : Nat} {h : xm_H} {P : Option Value → xm_H → Prop} {a0 : Nat} (H :
    ∃ q1, xm_fld h a0 8 2 = some (.ref q1) ∧ /- reckoner -/
    ∃ q2, xm_fld h a0 8 0 = some (.ref q2) ∧ /- now -/
    xm_Call K sX4_reckon 4 [.ref q1, .ref q2] h (xm_pv fun h3 =>
      xm_L K sX8_dearest kX8_dearest 11 [some (.ref a0), some (.int (-2 : Int32)), some (.int (0 : Int32)), some (.int (0 : Int32))] [] h3 P)) :
    xm_L K sX8_dearest kX8_dearest 0 [some (.ref a0), none, none, none] [] h P :=
  xm_run (fun _ _ h => h) oX8_dearest 12 0 0 0 [some (.ref a0), none, none, none] [] h H
set_option maxRecDepth 100000 in
theorem eX8_dearest {K K' : Nat} (hK : K < K') {h : xm_H} {P : Option Value → xm_H → Prop} {a0 : Nat} (hr : ∃ fs, h[a0]? = some (.inr (8, fs))) (H :
    ∃ q1, xm_fld h a0 8 2 = some (.ref q1) ∧ /- reckoner -/
    ∃ q2, xm_fld h a0 8 0 = some (.ref q2) ∧ /- now -/
    xm_Call K sX4_reckon 4 [.ref q1, .ref q2] h (xm_pv fun h3 =>
      xm_L K sX8_dearest kX8_dearest 11 [some (.ref a0), some (.int (-2 : Int32)), some (.int (0 : Int32)), some (.int (0 : Int32))] [] h3 P)) :
    xm_Call K' sX8_dearest 8 [.ref a0] h P :=
  xm_call_of (C := kX8_dearest) hK (by decide +kernel) rfl (Nat.le_of_ble_eq_true rfl) (Or.inr ⟨a0, hr.choose, rfl, hr.choose_spec⟩) (xX8_dearest_0 H)

set_option maxRecDepth 100000 in
set_option maxHeartbeats 4000000 in
theorem xX8_dearest_11 {K : Nat} {h : xm_H} {P : Option Value → xm_H → Prop} {a0 : Nat} {x1 : Int32} {x2 : Int32} {x3 : Int32} (H :
    ∃ q1, xm_fld h a0 8 0 = some (.ref q1) ∧ /- now -/
    ∃ f2, xm_fld h q1 7 1 = some (.int f2) ∧ /- people -/
    (if x3 < f2 then
      ∃ q3, xm_fld h a0 8 2 = some (.ref q3) ∧ /- reckoner -/
      ∃ q4, xm_fld h q3 4 4 = some (.ref q4) ∧ /- shares -/
      ∃ e5, xm_ld xm_st h 0 q4 x3 = some e5 ∧
      (if x2 < e5 then
        ∃ q6, xm_fld h a0 8 2 = some (.ref q6) ∧ /- reckoner -/
        ∃ q7, xm_fld h q6 4 4 = some (.ref q7) ∧ /- shares -/
        ∃ e8, xm_ld xm_st h 0 q7 x3 = some e8 ∧
        xm_L K sX8_dearest kX8_dearest 11 [some (.ref a0), some (.int x3), some (.int e8), some (.int (x3 + (1 : Int32)))] [] h P
      else
        xm_L K sX8_dearest kX8_dearest 11 [some (.ref a0), some (.int x1), some (.int x2), some (.int (x3 + (1 : Int32)))] [] h P)
    else
      P (some (.int x1)) h)) :
    xm_L K sX8_dearest kX8_dearest 11 [some (.ref a0), some (.int x1), some (.int x2), some (.int x3)] [] h P :=
  xm_run (fun _ _ h => h) oX8_dearest 23 11 0 0 [some (.ref a0), some (.int x1), some (.int x2), some (.int x3)] [] h H

def kX8_alike : List xm_I := [
  i_0 0 (.aload_n 0) 1 none,
  i_f 1 (.getfield 22) 3 none 8 2 [330] 1,
  i_0 4 (.aload_n 0) 1 none,
  i_f 5 (.getfield 10) 3 none 8 0 [328] 1,
  i_m 8 (.invokevirtual 163) 3 none 1 4 [546, 547, 548, 110, 549] 0 sX4_reckon,
  i_v 11 (.iconst 0) 1 none 0 [],
  i_0 12 (.istore_n 1) 1 none,
  i_v 13 (.iconst 0) 1 none 0 [],
  i_0 14 (.istore_n 2) 1 none,
  i_0 15 (.iload_n 2) 1 (some [true, true, true, false, false]),
  i_0 16 (.aload_n 0) 1 none,
  i_f 17 (.getfield 10) 3 none 8 0 [328] 1,
  i_f 20 (.getfield 89) 3 none 7 1 [140] 0,
  i_j 23 (.if_icmp .ge 83) 3 none 56,
  i_0 26 (.iload_n 2) 1 none,
  i_v 27 (.iconst 1) 1 none 1 [],
  i_0 28 (.iadd) 1 none,
  i_0 29 (.istore_n 3) 1 none,
  i_0 30 (.iload_n 3) 1 (some [true, true, true, true, false]),
  i_0 31 (.aload_n 0) 1 none,
  i_f 32 (.getfield 10) 3 none 8 0 [328] 1,
  i_f 35 (.getfield 89) 3 none 7 1 [140] 0,
  i_j 38 (.if_icmp .ge 62) 3 none 54,
  i_0 41 (.aload_n 0) 1 none,
  i_f 42 (.getfield 22) 3 none 8 2 [330] 1,
  i_f 45 (.getfield 172) 3 none 4 4 [177] 1,
  i_0 48 (.iload_n 2) 1 none,
  i_0 49 (.iaload) 1 none,
  i_0 50 (.aload_n 0) 1 none,
  i_f 51 (.getfield 22) 3 none 8 2 [330] 1,
  i_f 54 (.getfield 172) 3 none 4 4 [177] 1,
  i_0 57 (.iload_n 3) 1 none,
  i_0 58 (.iaload) 1 none,
  i_j 59 (.if_icmp .ne 7) 3 none 36,
  i_v 62 (.iconst 1) 1 none 1 [],
  i_j 63 (.goto 4) 3 none 37,
  i_v 66 (.iconst 0) 1 none 0 [],
  i_0 67 (.istore 4) 2 none,
  i_0 69 (.iload_n 1) 1 none,
  i_0 70 (.iload 4) 2 none,
  i_j 72 (.ifCond .eq 19) 3 none 49,
  i_0 75 (.aload_n 0) 1 none,
  i_f 76 (.getfield 22) 3 none 8 2 [330] 1,
  i_f 79 (.getfield 172) 3 none 4 4 [177] 1,
  i_0 82 (.iload_n 2) 1 none,
  i_0 83 (.iaload) 1 none,
  i_j 84 (.ifCond .le 7) 3 none 49,
  i_v 87 (.iconst 1) 1 none 1 [],
  i_j 88 (.goto 4) 3 none 50,
  i_v 91 (.iconst 0) 1 none 0 [],
  i_0 92 (.iadd) 1 none,
  i_0 93 (.istore_n 1) 1 none,
  i_v 94 (.iinc 3 1) 3 none 1 [],
  i_j 97 (.goto (-67)) 3 none 18,
  i_v 100 (.iinc 2 1) 3 none 1 [],
  i_j 103 (.goto (-88)) 3 none 9,
  i_0 106 (.iload_n 1) 1 none,
  i_0 107 (.ireturn) 1 none]
set_option maxRecDepth 100000 in
theorem oX8_alike : xm_ok sX8_alike sX8_alike.1.cls kX8_alike = true := by decide +kernel
set_option maxRecDepth 100000 in
set_option maxHeartbeats 4000000 in
theorem xX8_alike_0 {K : Nat} {h : xm_H} {P : Option Value → xm_H → Prop} {a0 : Nat} (H :
    ∃ q1, xm_fld h a0 8 2 = some (.ref q1) ∧ /- reckoner -/
    ∃ q2, xm_fld h a0 8 0 = some (.ref q2) ∧ /- now -/
    xm_Call K sX4_reckon 4 [.ref q1, .ref q2] h (xm_pv fun h3 =>
      xm_L K sX8_alike kX8_alike 9 [some (.ref a0), some (.int (0 : Int32)), some (.int (0 : Int32)), none, none] [] h3 P)) :
    xm_L K sX8_alike kX8_alike 0 [some (.ref a0), none, none, none, none] [] h P :=
  xm_run (fun _ _ h => h) oX8_alike 10 0 0 0 [some (.ref a0), none, none, none, none] [] h H
set_option maxRecDepth 100000 in
theorem eX8_alike {K K' : Nat} (hK : K < K') {h : xm_H} {P : Option Value → xm_H → Prop} {a0 : Nat} (hr : ∃ fs, h[a0]? = some (.inr (8, fs))) (H :
    ∃ q1, xm_fld h a0 8 2 = some (.ref q1) ∧ /- reckoner -/
    ∃ q2, xm_fld h a0 8 0 = some (.ref q2) ∧ /- now -/
    xm_Call K sX4_reckon 4 [.ref q1, .ref q2] h (xm_pv fun h3 =>
      xm_L K sX8_alike kX8_alike 9 [some (.ref a0), some (.int (0 : Int32)), some (.int (0 : Int32)), none, none] [] h3 P)) :
    xm_Call K' sX8_alike 8 [.ref a0] h P :=
  xm_call_of (C := kX8_alike) hK (by decide +kernel) rfl (Nat.le_of_ble_eq_true rfl) (Or.inr ⟨a0, hr.choose, rfl, hr.choose_spec⟩) (xX8_alike_0 H)

set_option maxRecDepth 100000 in
set_option maxHeartbeats 4000000 in
theorem xX8_alike_9 {K : Nat} {h : xm_H} {P : Option Value → xm_H → Prop} {a0 : Nat} {x1 : Int32} {x2 : Int32} (H :
    ∃ q1, xm_fld h a0 8 0 = some (.ref q1) ∧ /- now -/
    ∃ f2, xm_fld h q1 7 1 = some (.int f2) ∧ /- people -/
    (if x2 < f2 then
      xm_L K sX8_alike kX8_alike 18 [some (.ref a0), some (.int x1), some (.int x2), some (.int (x2 + (1 : Int32))), none] [] h P
    else
      P (some (.int x1)) h)) :
    xm_L K sX8_alike kX8_alike 9 [some (.ref a0), some (.int x1), some (.int x2), none, none] [] h P :=
  xm_run (fun _ _ h => h) oX8_alike 10 9 0 0 [some (.ref a0), some (.int x1), some (.int x2), none, none] [] h H

set_option maxRecDepth 100000 in
set_option maxHeartbeats 4000000 in
theorem xX8_alike_18 {K : Nat} {h : xm_H} {P : Option Value → xm_H → Prop} {a0 : Nat} {x1 : Int32} {x2 : Int32} {x3 : Int32} (H :
    ∃ q1, xm_fld h a0 8 0 = some (.ref q1) ∧ /- now -/
    ∃ f2, xm_fld h q1 7 1 = some (.int f2) ∧ /- people -/
    (if x3 < f2 then
      ∃ q3, xm_fld h a0 8 2 = some (.ref q3) ∧ /- reckoner -/
      ∃ q4, xm_fld h q3 4 4 = some (.ref q4) ∧ /- shares -/
      ∃ e5, xm_ld xm_st h 0 q4 x2 = some e5 ∧
      ∃ q6, xm_fld h a0 8 2 = some (.ref q6) ∧ /- reckoner -/
      ∃ q7, xm_fld h q6 4 4 = some (.ref q7) ∧ /- shares -/
      ∃ e8, xm_ld xm_st h 0 q7 x3 = some e8 ∧
      (if e5 = e8 then
        ∃ q9, xm_fld h a0 8 2 = some (.ref q9) ∧ /- reckoner -/
        ∃ q10, xm_fld h q9 4 4 = some (.ref q10) ∧ /- shares -/
        ∃ e11, xm_ld xm_st h 0 q10 x2 = some e11 ∧
        (if 0 < e11 then
          xm_L K sX8_alike kX8_alike 18 [some (.ref a0), some (.int (x1 + (1 : Int32))), some (.int x2), some (.int (x3 + (1 : Int32))), none] [] h P
        else
          xm_L K sX8_alike kX8_alike 18 [some (.ref a0), some (.int (x1 + (0 : Int32))), some (.int x2), some (.int (x3 + (1 : Int32))), none] [] h P)
      else
        xm_L K sX8_alike kX8_alike 18 [some (.ref a0), some (.int (x1 + (0 : Int32))), some (.int x2), some (.int (x3 + (1 : Int32))), none] [] h P)
    else
      xm_L K sX8_alike kX8_alike 9 [some (.ref a0), some (.int x1), some (.int (x2 + (1 : Int32))), none, none] [] h P)) :
    xm_L K sX8_alike kX8_alike 18 [some (.ref a0), some (.int x1), some (.int x2), some (.int x3), none] [] h P :=
  xm_run (fun _ _ h => h) oX8_alike 35 18 0 0 [some (.ref a0), some (.int x1), some (.int x2), some (.int x3), none] [] h H

def kX8_byTurns : List xm_I := [
  i_0 0 (.aload_n 0) 1 none,
  i_f 1 (.getfield 10) 3 none 8 0 [328] 1,
  i_0 4 (.iload_n 1) 1 none,
  i_m 5 (.invokevirtual 152) 3 none 1 7 [500, 501, 502, 109, 503] 0 sX7_has,
  i_j 8 (.ifCond .eq 22) 3 none 16,
  i_0 11 (.iload_n 2) 1 none,
  i_v 12 (.iconst 1) 1 none 1 [],
  i_j 13 (.if_icmp .lt 17) 3 none 16,
  i_0 16 (.iload_n 2) 1 none,
  i_v 17 (.iconst 3) 1 none 3 [],
  i_j 18 (.if_icmp .gt 12) 3 none 16,
  i_0 21 (.iload_n 3) 1 none,
  i_j 22 (.ifCond .eq 10) 3 none 18,
  i_0 25 (.iload_n 3) 1 none,
  i_v 26 (.iconst 1) 1 none 1 [],
  i_j 27 (.if_icmp .eq 5) 3 none 18,
  i_v 30 (.iconst (-1)) 1 none (-1) [],
  i_0 31 (.ireturn) 1 none,
  i_0 32 (.aload_n 0) 1 none,
  i_f 33 (.getfield 22) 3 none 8 2 [330] 1,
  i_0 36 (.aload_n 0) 1 none,
  i_f 37 (.getfield 10) 3 none 8 0 [328] 1,
  i_m 40 (.invokevirtual 270) 3 none 1 4 [719, 551, 552, 110, 553] 0 sX4_weigh,
  i_0 43 (.aload_n 0) 1 none,
  i_f 44 (.getfield 10) 3 none 8 0 [328] 1,
  i_m 47 (.invokevirtual 297) 3 none 0 7 [751, 558, 559, 109, 560] 0 sX7_ears,
  i_0 50 (.istore 4) 2 none,
  i_v 52 (.bipush 8) 2 none 8 [],
  i_0 54 (.istore 5) 2 none,
  i_0 56 (.aload_n 0) 1 none,
  i_0 57 (.iload_n 1) 1 none,
  i_0 58 (.iload_n 2) 1 none,
  i_v 59 (.iconst 1) 1 none 1 [],
  i_0 60 (.isub) 1 none,
  i_0 61 (.iload 4) 2 none,
  i_v 63 (.iconst 0) 1 none 0 [],
  i_m 64 (.invokevirtual 300) 3 none 4 8 [752, 754, 26, 108, 755] 0 sX8_shareBehind,
  i_0 67 (.istore 6) 2 none,
  i_v 69 (.iconst 0) 1 none 0 [],
  i_0 70 (.istore 7) 2 none,
  i_0 72 (.iload 7) 2 (some [true, true, true, true, true, true, true, true, false]),
  i_0 74 (.aload_n 0) 1 none,
  i_f 75 (.getfield 10) 3 none 8 0 [328] 1,
  i_f 78 (.getfield 89) 3 none 7 1 [140] 0,
  i_j 81 (.if_icmp .ge 42) 3 none 67,
  i_0 84 (.aload_n 0) 1 none,
  i_0 85 (.iload_n 1) 1 none,
  i_0 86 (.iload_n 2) 1 none,
  i_v 87 (.iconst 1) 1 none 1 [],
  i_0 88 (.isub) 1 none,
  i_0 89 (.iload 4) 2 none,
  i_v 91 (.iconst 1) 1 none 1 [],
  i_0 92 (.iload 7) 2 none,
  i_0 94 (.ishl) 1 none,
  i_0 95 (.ixor) 1 none,
  i_v 96 (.iconst 0) 1 none 0 [],
  i_m 97 (.invokevirtual 300) 3 none 4 8 [752, 754, 26, 108, 755] 0 sX8_shareBehind,
  i_0 100 (.istore 8) 2 none,
  i_0 102 (.iload 8) 2 none,
  i_0 104 (.iload 6) 2 none,
  i_j 106 (.if_icmp .le 11) 3 none 65,
  i_0 109 (.iload 7) 2 none,
  i_0 111 (.istore 5) 2 none,
  i_0 113 (.iload 8) 2 none,
  i_0 115 (.istore 6) 2 none,
  i_v 117 (.iinc 7 1) 3 none 1 [],
  i_j 120 (.goto (-48)) 3 none 40,
  i_0 123 (.iload_n 3) 1 none,
  i_j 124 (.ifCond .ne 8) 3 none 71,
  i_0 127 (.iload 6) 2 none,
  i_j 129 (.goto 5) 3 none 72,
  i_0 132 (.iload 5) 2 none,
  i_0 134 (.ireturn) 1 none]
set_option maxRecDepth 100000 in
theorem oX8_byTurns : xm_ok sX8_byTurns sX8_byTurns.1.cls kX8_byTurns = true := by decide +kernel
set_option maxRecDepth 100000 in
set_option maxHeartbeats 4000000 in
theorem xX8_byTurns_0 {K : Nat} {h : xm_H} {P : Option Value → xm_H → Prop} {a0 : Nat} {x1 : Int32} {x2 : Int32} {x3 : Int32} (H :
    ∃ q1, xm_fld h a0 8 0 = some (.ref q1) ∧ /- now -/
    xm_Call K sX7_has 7 [.ref q1, .int x1] h (xm_pi fun c3 h2 =>
      (if c3 = 0 then
        P (some (.int (-1 : Int32))) h2
      else
        (if x2 < (1 : Int32) then
          P (some (.int (-1 : Int32))) h2
        else
          (if (3 : Int32) < x2 then
            P (some (.int (-1 : Int32))) h2
          else
            (if x3 = 0 then
              ∃ q4, xm_fld h2 a0 8 2 = some (.ref q4) ∧ /- reckoner -/
              ∃ q5, xm_fld h2 a0 8 0 = some (.ref q5) ∧ /- now -/
              xm_Call K sX4_weigh 4 [.ref q4, .ref q5] h2 (xm_pv fun h6 =>
                ∃ q7, xm_fld h6 a0 8 0 = some (.ref q7) ∧ /- now -/
                xm_Call K sX7_ears 7 [.ref q7] h6 (xm_pi fun c9 h8 =>
                  xm_Call K sX8_shareBehind 8 [.ref a0, .int x1, .int (x2 - (1 : Int32)), .int c9, .int (0 : Int32)] h8 (xm_pi fun c11 h10 =>
                    xm_L K sX8_byTurns kX8_byTurns 40 [some (.ref a0), some (.int x1), some (.int x2), some (.int x3), some (.int c9), some (.int (8 : Int32)), some (.int c11), some (.int (0 : Int32)), none] [] h10 P)))
            else
              (if x3 = (1 : Int32) then
                ∃ q12, xm_fld h2 a0 8 2 = some (.ref q12) ∧ /- reckoner -/
                ∃ q13, xm_fld h2 a0 8 0 = some (.ref q13) ∧ /- now -/
                xm_Call K sX4_weigh 4 [.ref q12, .ref q13] h2 (xm_pv fun h14 =>
                  ∃ q15, xm_fld h14 a0 8 0 = some (.ref q15) ∧ /- now -/
                  xm_Call K sX7_ears 7 [.ref q15] h14 (xm_pi fun c17 h16 =>
                    xm_Call K sX8_shareBehind 8 [.ref a0, .int x1, .int (x2 - (1 : Int32)), .int c17, .int (0 : Int32)] h16 (xm_pi fun c19 h18 =>
                      xm_L K sX8_byTurns kX8_byTurns 40 [some (.ref a0), some (.int x1), some (.int x2), some (.int x3), some (.int c17), some (.int (8 : Int32)), some (.int c19), some (.int (0 : Int32)), none] [] h18 P)))
              else
                P (some (.int (-1 : Int32))) h2))))))) :
    xm_L K sX8_byTurns kX8_byTurns 0 [some (.ref a0), some (.int x1), some (.int x2), some (.int x3), none, none, none, none, none] [] h P :=
  xm_run (fun _ _ h => h) oX8_byTurns 39 0 0 0 [some (.ref a0), some (.int x1), some (.int x2), some (.int x3), none, none, none, none, none] [] h H
set_option maxRecDepth 100000 in
theorem eX8_byTurns {K K' : Nat} (hK : K < K') {h : xm_H} {P : Option Value → xm_H → Prop} {a0 : Nat} {x1 : Int32} {x2 : Int32} {x3 : Int32} (hr : ∃ fs, h[a0]? = some (.inr (8, fs))) (H :
    ∃ q1, xm_fld h a0 8 0 = some (.ref q1) ∧ /- now -/
    xm_Call K sX7_has 7 [.ref q1, .int x1] h (xm_pi fun c3 h2 =>
      (if c3 = 0 then
        P (some (.int (-1 : Int32))) h2
      else
        (if x2 < (1 : Int32) then
          P (some (.int (-1 : Int32))) h2
        else
          (if (3 : Int32) < x2 then
            P (some (.int (-1 : Int32))) h2
          else
            (if x3 = 0 then
              ∃ q4, xm_fld h2 a0 8 2 = some (.ref q4) ∧ /- reckoner -/
              ∃ q5, xm_fld h2 a0 8 0 = some (.ref q5) ∧ /- now -/
              xm_Call K sX4_weigh 4 [.ref q4, .ref q5] h2 (xm_pv fun h6 =>
                ∃ q7, xm_fld h6 a0 8 0 = some (.ref q7) ∧ /- now -/
                xm_Call K sX7_ears 7 [.ref q7] h6 (xm_pi fun c9 h8 =>
                  xm_Call K sX8_shareBehind 8 [.ref a0, .int x1, .int (x2 - (1 : Int32)), .int c9, .int (0 : Int32)] h8 (xm_pi fun c11 h10 =>
                    xm_L K sX8_byTurns kX8_byTurns 40 [some (.ref a0), some (.int x1), some (.int x2), some (.int x3), some (.int c9), some (.int (8 : Int32)), some (.int c11), some (.int (0 : Int32)), none] [] h10 P)))
            else
              (if x3 = (1 : Int32) then
                ∃ q12, xm_fld h2 a0 8 2 = some (.ref q12) ∧ /- reckoner -/
                ∃ q13, xm_fld h2 a0 8 0 = some (.ref q13) ∧ /- now -/
                xm_Call K sX4_weigh 4 [.ref q12, .ref q13] h2 (xm_pv fun h14 =>
                  ∃ q15, xm_fld h14 a0 8 0 = some (.ref q15) ∧ /- now -/
                  xm_Call K sX7_ears 7 [.ref q15] h14 (xm_pi fun c17 h16 =>
                    xm_Call K sX8_shareBehind 8 [.ref a0, .int x1, .int (x2 - (1 : Int32)), .int c17, .int (0 : Int32)] h16 (xm_pi fun c19 h18 =>
                      xm_L K sX8_byTurns kX8_byTurns 40 [some (.ref a0), some (.int x1), some (.int x2), some (.int x3), some (.int c17), some (.int (8 : Int32)), some (.int c19), some (.int (0 : Int32)), none] [] h18 P)))
              else
                P (some (.int (-1 : Int32))) h2))))))) :
    xm_Call K' sX8_byTurns 8 [.ref a0, .int x1, .int x2, .int x3] h P :=
  xm_call_of (C := kX8_byTurns) hK (by decide +kernel) rfl (Nat.le_of_ble_eq_true rfl) (Or.inr ⟨a0, hr.choose, rfl, hr.choose_spec⟩) (xX8_byTurns_0 H)

set_option maxRecDepth 100000 in
set_option maxHeartbeats 4000000 in
theorem xX8_byTurns_40 {K : Nat} {h : xm_H} {P : Option Value → xm_H → Prop} {a0 : Nat} {x1 : Int32} {x2 : Int32} {x3 : Int32} {x4 : Int32} {x5 : Int32} {x6 : Int32} {x7 : Int32} (H :
    ∃ q1, xm_fld h a0 8 0 = some (.ref q1) ∧ /- now -/
    ∃ f2, xm_fld h q1 7 1 = some (.int f2) ∧ /- people -/
    (if x7 < f2 then
      xm_Call K sX8_shareBehind 8 [.ref a0, .int x1, .int (x2 - (1 : Int32)), .int (x4 ^^^ ((1 : Int32) <<< (x7 &&& 31))), .int (0 : Int32)] h (xm_pi fun c4 h3 =>
        (if x6 < c4 then
          xm_L K sX8_byTurns kX8_byTurns 40 [some (.ref a0), some (.int x1), some (.int x2), some (.int x3), some (.int x4), some (.int x7), some (.int c4), some (.int (x7 + (1 : Int32))), none] [] h3 P
        else
          xm_L K sX8_byTurns kX8_byTurns 40 [some (.ref a0), some (.int x1), some (.int x2), some (.int x3), some (.int x4), some (.int x5), some (.int x6), some (.int (x7 + (1 : Int32))), none] [] h3 P))
    else
      (if x3 = 0 then
        P (some (.int x6)) h
      else
        P (some (.int x5)) h))) :
    xm_L K sX8_byTurns kX8_byTurns 40 [some (.ref a0), some (.int x1), some (.int x2), some (.int x3), some (.int x4), some (.int x5), some (.int x6), some (.int x7), none] [] h P :=
  xm_run (fun _ _ h => h) oX8_byTurns 28 40 0 0 [some (.ref a0), some (.int x1), some (.int x2), some (.int x3), some (.int x4), some (.int x5), some (.int x6), some (.int x7), none] [] h H

def kX8_shareBehind : List xm_I := [
  i_0 0 (.iload_n 2) 1 none,
  i_j 1 (.ifCond .gt 24) 3 none 13,
  i_0 4 (.aload_n 0) 1 none,
  i_f 5 (.getfield 22) 3 none 8 2 [330] 1,
  i_0 8 (.aload_n 0) 1 none,
  i_f 9 (.getfield 10) 3 none 8 0 [328] 1,
  i_0 12 (.iload_n 3) 1 none,
  i_m 13 (.invokevirtual 273) 3 none 2 4 [720, 563, 564, 110, 565] 0 sX4_shareOut,
  i_0 16 (.aload_n 0) 1 none,
  i_f 17 (.getfield 22) 3 none 8 2 [330] 1,
  i_0 20 (.iload_n 1) 1 none,
  i_m 21 (.invokevirtual 304) 3 none 1 4 [756, 584, 585, 110, 586] 0 sX4_shareOf,
  i_0 24 (.ireturn) 1 none,
  i_0 25 (.aload_n 0) 1 none,
  i_0 26 (.iload_n 1) 1 none,
  i_0 27 (.iload_n 2) 1 none,
  i_v 28 (.iconst 1) 1 none 1 [],
  i_0 29 (.isub) 1 none,
  i_0 30 (.iload_n 3) 1 none,
  i_0 31 (.iload 4) 2 none,
  i_j 33 (.ifCond .ne 7) 3 none 23,
  i_v 36 (.iconst 1) 1 none 1 [],
  i_j 37 (.goto 4) 3 none 24,
  i_v 40 (.iconst 0) 1 none 0 [],
  i_m 41 (.invokevirtual 300) 3 none 4 8 [752, 754, 26, 108, 755] 0 sX8_shareBehind,
  i_0 44 (.istore 5) 2 none,
  i_v 46 (.iconst 0) 1 none 0 [],
  i_0 47 (.istore 6) 2 none,
  i_0 49 (.iload 6) 2 (some [true, true, true, true, true, true, true, false]),
  i_0 51 (.aload_n 0) 1 none,
  i_f 52 (.getfield 10) 3 none 8 0 [328] 1,
  i_f 55 (.getfield 89) 3 none 7 1 [140] 0,
  i_j 58 (.if_icmp .ge 59) 3 none 62,
  i_0 61 (.aload_n 0) 1 none,
  i_0 62 (.iload_n 1) 1 none,
  i_0 63 (.iload_n 2) 1 none,
  i_v 64 (.iconst 1) 1 none 1 [],
  i_0 65 (.isub) 1 none,
  i_0 66 (.iload_n 3) 1 none,
  i_v 67 (.iconst 1) 1 none 1 [],
  i_0 68 (.iload 6) 2 none,
  i_0 70 (.ishl) 1 none,
  i_0 71 (.ixor) 1 none,
  i_0 72 (.iload 4) 2 none,
  i_j 74 (.ifCond .ne 7) 3 none 47,
  i_v 77 (.iconst 1) 1 none 1 [],
  i_j 78 (.goto 4) 3 none 48,
  i_v 81 (.iconst 0) 1 none 0 [],
  i_m 82 (.invokevirtual 300) 3 none 4 8 [752, 754, 26, 108, 755] 0 sX8_shareBehind,
  i_0 85 (.istore 7) 2 none,
  i_0 87 (.iload 4) 2 none,
  i_j 89 (.ifCond .eq 13) 3 none 56,
  i_0 92 (.iload 5) 2 none,
  i_0 94 (.iload 7) 2 none,
  i_m 96 (.invokestatic 307) 3 none 2 99 [757, 493, 119, 494] 0 sJ9_max_7cf53,
  i_j 99 (.goto 10) 3 none 59,
  i_0 102 (.iload 5) 2 none,
  i_0 104 (.iload 7) 2 none,
  i_m 106 (.invokestatic 312) 3 none 2 99 [758, 490, 119, 491] 0 sJ9_min_7cf53,
  i_0 109 (.istore 5) 2 none,
  i_v 111 (.iinc 6 1) 3 none 1 [],
  i_j 114 (.goto (-65)) 3 none 28,
  i_0 117 (.iload 5) 2 none,
  i_0 119 (.ireturn) 1 none]
set_option maxRecDepth 100000 in
theorem oX8_shareBehind : xm_ok sX8_shareBehind sX8_shareBehind.1.cls kX8_shareBehind = true := by decide +kernel
set_option maxRecDepth 100000 in
set_option maxHeartbeats 4000000 in
theorem xX8_shareBehind_0 {K : Nat} {h : xm_H} {P : Option Value → xm_H → Prop} {a0 : Nat} {x1 : Int32} {x2 : Int32} {x3 : Int32} {x4 : Int32} (H :
    (if 0 < x2 then
      (if x4 = 0 then
        xm_Call K sX8_shareBehind 8 [.ref a0, .int x1, .int (x2 - (1 : Int32)), .int x3, .int (1 : Int32)] h (xm_pi fun c2 h1 =>
          xm_L K sX8_shareBehind kX8_shareBehind 28 [some (.ref a0), some (.int x1), some (.int x2), some (.int x3), some (.int x4), some (.int c2), some (.int (0 : Int32)), none] [] h1 P)
      else
        xm_Call K sX8_shareBehind 8 [.ref a0, .int x1, .int (x2 - (1 : Int32)), .int x3, .int (0 : Int32)] h (xm_pi fun c4 h3 =>
          xm_L K sX8_shareBehind kX8_shareBehind 28 [some (.ref a0), some (.int x1), some (.int x2), some (.int x3), some (.int x4), some (.int c4), some (.int (0 : Int32)), none] [] h3 P))
    else
      ∃ q5, xm_fld h a0 8 2 = some (.ref q5) ∧ /- reckoner -/
      ∃ q6, xm_fld h a0 8 0 = some (.ref q6) ∧ /- now -/
      xm_Call K sX4_shareOut 4 [.ref q5, .ref q6, .int x3] h (xm_pv fun h7 =>
        ∃ q8, xm_fld h7 a0 8 2 = some (.ref q8) ∧ /- reckoner -/
        xm_Call K sX4_shareOf 4 [.ref q8, .int x1] h7 (xm_pi fun c10 h9 =>
          P (some (.int c10)) h9)))) :
    xm_L K sX8_shareBehind kX8_shareBehind 0 [some (.ref a0), some (.int x1), some (.int x2), some (.int x3), some (.int x4), none, none, none] [] h P :=
  xm_run (fun _ _ h => h) oX8_shareBehind 17 0 0 0 [some (.ref a0), some (.int x1), some (.int x2), some (.int x3), some (.int x4), none, none, none] [] h H
set_option maxRecDepth 100000 in
theorem eX8_shareBehind {K K' : Nat} (hK : K < K') {h : xm_H} {P : Option Value → xm_H → Prop} {a0 : Nat} {x1 : Int32} {x2 : Int32} {x3 : Int32} {x4 : Int32} (hr : ∃ fs, h[a0]? = some (.inr (8, fs))) (H :
    (if 0 < x2 then
      (if x4 = 0 then
        xm_Call K sX8_shareBehind 8 [.ref a0, .int x1, .int (x2 - (1 : Int32)), .int x3, .int (1 : Int32)] h (xm_pi fun c2 h1 =>
          xm_L K sX8_shareBehind kX8_shareBehind 28 [some (.ref a0), some (.int x1), some (.int x2), some (.int x3), some (.int x4), some (.int c2), some (.int (0 : Int32)), none] [] h1 P)
      else
        xm_Call K sX8_shareBehind 8 [.ref a0, .int x1, .int (x2 - (1 : Int32)), .int x3, .int (0 : Int32)] h (xm_pi fun c4 h3 =>
          xm_L K sX8_shareBehind kX8_shareBehind 28 [some (.ref a0), some (.int x1), some (.int x2), some (.int x3), some (.int x4), some (.int c4), some (.int (0 : Int32)), none] [] h3 P))
    else
      ∃ q5, xm_fld h a0 8 2 = some (.ref q5) ∧ /- reckoner -/
      ∃ q6, xm_fld h a0 8 0 = some (.ref q6) ∧ /- now -/
      xm_Call K sX4_shareOut 4 [.ref q5, .ref q6, .int x3] h (xm_pv fun h7 =>
        ∃ q8, xm_fld h7 a0 8 2 = some (.ref q8) ∧ /- reckoner -/
        xm_Call K sX4_shareOf 4 [.ref q8, .int x1] h7 (xm_pi fun c10 h9 =>
          P (some (.int c10)) h9)))) :
    xm_Call K' sX8_shareBehind 8 [.ref a0, .int x1, .int x2, .int x3, .int x4] h P :=
  xm_call_of (C := kX8_shareBehind) hK (by decide +kernel) rfl (Nat.le_of_ble_eq_true rfl) (Or.inr ⟨a0, hr.choose, rfl, hr.choose_spec⟩) (xX8_shareBehind_0 H)

set_option maxRecDepth 100000 in
set_option maxHeartbeats 4000000 in
theorem xX8_shareBehind_28 {K : Nat} {h : xm_H} {P : Option Value → xm_H → Prop} {a0 : Nat} {x1 : Int32} {x2 : Int32} {x3 : Int32} {x4 : Int32} {x5 : Int32} {x6 : Int32} (H :
    ∃ q1, xm_fld h a0 8 0 = some (.ref q1) ∧ /- now -/
    ∃ f2, xm_fld h q1 7 1 = some (.int f2) ∧ /- people -/
    (if x6 < f2 then
      (if x4 = 0 then
        xm_Call K sX8_shareBehind 8 [.ref a0, .int x1, .int (x2 - (1 : Int32)), .int (x3 ^^^ ((1 : Int32) <<< (x6 &&& 31))), .int (1 : Int32)] h (xm_pi fun c4 h3 =>
          (if x4 = 0 then
            xm_Call K sJ9_min_7cf53 99 [.int x5, .int c4] h3 (xm_pi fun c6 h5 =>
              xm_L K sX8_shareBehind kX8_shareBehind 28 [some (.ref a0), some (.int x1), some (.int x2), some (.int x3), some (.int x4), some (.int c6), some (.int (x6 + (1 : Int32))), none] [] h5 P)
          else
            xm_Call K sJ9_max_7cf53 99 [.int x5, .int c4] h3 (xm_pi fun c8 h7 =>
              xm_L K sX8_shareBehind kX8_shareBehind 28 [some (.ref a0), some (.int x1), some (.int x2), some (.int x3), some (.int x4), some (.int c8), some (.int (x6 + (1 : Int32))), none] [] h7 P)))
      else
        xm_Call K sX8_shareBehind 8 [.ref a0, .int x1, .int (x2 - (1 : Int32)), .int (x3 ^^^ ((1 : Int32) <<< (x6 &&& 31))), .int (0 : Int32)] h (xm_pi fun c10 h9 =>
          (if x4 = 0 then
            xm_Call K sJ9_min_7cf53 99 [.int x5, .int c10] h9 (xm_pi fun c12 h11 =>
              xm_L K sX8_shareBehind kX8_shareBehind 28 [some (.ref a0), some (.int x1), some (.int x2), some (.int x3), some (.int x4), some (.int c12), some (.int (x6 + (1 : Int32))), none] [] h11 P)
          else
            xm_Call K sJ9_max_7cf53 99 [.int x5, .int c10] h9 (xm_pi fun c14 h13 =>
              xm_L K sX8_shareBehind kX8_shareBehind 28 [some (.ref a0), some (.int x1), some (.int x2), some (.int x3), some (.int x4), some (.int c14), some (.int (x6 + (1 : Int32))), none] [] h13 P))))
    else
      P (some (.int x5)) h)) :
    xm_L K sX8_shareBehind kX8_shareBehind 28 [some (.ref a0), some (.int x1), some (.int x2), some (.int x3), some (.int x4), some (.int x5), some (.int x6), none] [] h P :=
  xm_run (fun _ _ h => h) oX8_shareBehind 31 28 0 0 [some (.ref a0), some (.int x1), some (.int x2), some (.int x3), some (.int x4), some (.int x5), some (.int x6), none] [] h H

def kX8_drawn : List xm_I := [
  i_0 0 (.iload_n 2) 1 none,
  i_v 1 (.sipush 10000) 3 none 10000 [],
  i_0 4 (.idiv) 1 none,
  i_0 5 (.istore 4) 2 none,
  i_0 7 (.iload_n 2) 1 none,
  i_v 8 (.bipush 100) 2 none 100 [],
  i_0 10 (.idiv) 1 none,
  i_v 11 (.bipush 100) 2 none 100 [],
  i_0 13 (.irem) 1 none,
  i_0 14 (.istore 5) 2 none,
  i_0 16 (.iload_n 2) 1 none,
  i_v 17 (.bipush 100) 2 none 100 [],
  i_0 19 (.irem) 1 none,
  i_0 20 (.istore 6) 2 none,
  i_0 22 (.iload 4) 2 none,
  i_v 24 (.iconst 1) 1 none 1 [],
  i_j 25 (.if_icmp .lt 39) 3 none 33,
  i_0 28 (.iload 4) 2 none,
  i_v 30 (.bipush 30) 2 none 30 [],
  i_j 32 (.if_icmp .gt 32) 3 none 33,
  i_0 35 (.iload 5) 2 none,
  i_v 37 (.iconst 1) 1 none 1 [],
  i_j 38 (.if_icmp .lt 26) 3 none 33,
  i_0 41 (.iload 5) 2 none,
  i_v 43 (.bipush 40) 2 none 40 [],
  i_j 45 (.if_icmp .gt 19) 3 none 33,
  i_0 48 (.iload 6) 2 none,
  i_j 50 (.ifCond .lt 14) 3 none 33,
  i_0 53 (.iload 6) 2 none,
  i_v 55 (.bipush 12) 2 none 12 [],
  i_j 57 (.if_icmp .gt 7) 3 none 33,
  i_v 60 (.iconst 1) 1 none 1 [],
  i_j 61 (.goto 4) 3 none 34,
  i_v 64 (.iconst 0) 1 none 0 [],
  i_0 65 (.istore 7) 2 none,
  i_0 67 (.iload 7) 2 none,
  i_j 69 (.ifCond .eq 19) 3 none 45,
  i_0 72 (.iload_n 3) 1 none,
  i_v 73 (.iconst (-1)) 1 none (-1) [],
  i_j 74 (.if_icmp .eq 16) 3 none 47,
  i_0 77 (.aload_n 0) 1 none,
  i_f 78 (.getfield 10) 3 none 8 0 [328] 1,
  i_0 81 (.iload_n 3) 1 none,
  i_m 82 (.invokevirtual 152) 3 none 1 7 [500, 501, 502, 109, 503] 0 sX7_has,
  i_j 85 (.ifCond .ne 5) 3 none 47,
  i_v 88 (.iconst (-1)) 1 none (-1) [],
  i_0 89 (.ireturn) 1 none,
  i_0 90 (.iload_n 1) 1 none,
  i_0 91 (.istore 8) 2 none,
  i_v 93 (.iconst 0) 1 none 0 [],
  i_0 94 (.istore 9) 2 none,
  i_v 96 (.iconst 0) 1 none 0 [],
  i_0 97 (.istore 10) 2 none,
  i_0 99 (.iload 10) 2 (some [true, false, false, true, true, true, true, false, true, true, true, false]),
  i_0 101 (.iload 4) 2 none,
  i_j 103 (.if_icmp .ge 111) 3 none 109,
  i_0 106 (.aload_n 0) 1 none,
  i_f 107 (.getfield 16) 3 none 8 1 [329] 1,
  i_0 110 (.aload_n 0) 1 none,
  i_f 111 (.getfield 10) 3 none 8 0 [328] 1,
  i_m 114 (.invokevirtual 182) 3 none 1 7 [595, 596, 597, 109, 598] 0 sX7_copy,
  i_v 117 (.iconst 0) 1 none 0 [],
  i_0 118 (.istore 11) 2 none,
  i_0 120 (.iload 11) 2 (some [true, false, false, true, true, true, true, false, true, true, true, true]),
  i_0 122 (.iload 5) 2 none,
  i_j 124 (.if_icmp .ge 61) 3 none 94,
  i_0 127 (.iload 8) 2 none,
  i_v 129 (.ldc_w 315) 3 none 1103515245 [763],
  i_0 132 (.imul) 1 none,
  i_v 133 (.sipush 12345) 3 none 12345 [],
  i_0 136 (.iadd) 1 none,
  i_0 137 (.istore 8) 2 none,
  i_0 139 (.aload_n 0) 1 none,
  i_0 140 (.iload 8) 2 none,
  i_0 142 (.iload 6) 2 none,
  i_m 144 (.invokevirtual 316) 3 none 2 8 [764, 766, 27, 108, 767] 0 sX8_stir,
  i_0 147 (.aload_n 0) 1 none,
  i_f 148 (.getfield 22) 3 none 8 2 [330] 1,
  i_0 151 (.aload_n 0) 1 none,
  i_f 152 (.getfield 16) 3 none 8 1 [329] 1,
  i_m 155 (.invokevirtual 229) 3 none 1 4 [659, 660, 661, 110, 662] 0 sX4_endYear,
  i_0 158 (.iload 9) 2 none,
  i_0 160 (.iload_n 3) 1 none,
  i_v 161 (.iconst (-1)) 1 none (-1) [],
  i_j 162 (.if_icmp .ne 13) 3 none 89,
  i_0 165 (.aload_n 0) 1 none,
  i_f 166 (.getfield 22) 3 none 8 2 [330] 1,
  i_f 169 (.getfield 169) 3 none 4 9 [185] 0,
  i_j 172 (.goto 4) 3 none 90,
  i_v 175 (.iconst 0) 1 none 0 [],
  i_0 176 (.iadd) 1 none,
  i_0 177 (.istore 9) 2 none,
  i_v 179 (.iinc 11 1) 3 none 1 [],
  i_j 182 (.goto (-62)) 3 none 63,
  i_0 185 (.iload 9) 2 none,
  i_0 187 (.iload_n 3) 1 none,
  i_v 188 (.iconst (-1)) 1 none (-1) [],
  i_j 189 (.if_icmp .ne 7) 3 none 100,
  i_v 192 (.iconst 0) 1 none 0 [],
  i_j 193 (.goto 12) 3 none 105,
  i_0 196 (.aload_n 0) 1 none,
  i_f 197 (.getfield 16) 3 none 8 1 [329] 1,
  i_0 200 (.iload_n 3) 1 none,
  i_v 201 (.iconst 1) 1 none 1 [],
  i_m 202 (.invokevirtual 188) 3 none 2 7 [605, 509, 510, 109, 511] 0 sX7_get,
  i_0 205 (.iadd) 1 none,
  i_0 206 (.istore 9) 2 none,
  i_v 208 (.iinc 10 1) 3 none 1 [],
  i_j 211 (.goto (-112)) 3 none 53,
  i_0 214 (.iload 9) 2 none,
  i_0 216 (.ireturn) 1 none]
set_option maxRecDepth 100000 in
theorem oX8_drawn : xm_ok sX8_drawn sX8_drawn.1.cls kX8_drawn = true := by decide +kernel
set_option maxRecDepth 100000 in
set_option maxHeartbeats 4000000 in
theorem xX8_drawn_0 {K : Nat} {h : xm_H} {P : Option Value → xm_H → Prop} {a0 : Nat} {x1 : Int32} {x2 : Int32} {x3 : Int32} (H :
    ¬ (10000 : Int32) = 0 ∧
    ¬ (100 : Int32) = 0 ∧
    ¬ (100 : Int32) = 0 ∧
    ¬ (100 : Int32) = 0 ∧
    (if (x2 / (10000 : Int32)) < (1 : Int32) then
      P (some (.int (-1 : Int32))) h
    else
      (if (30 : Int32) < (x2 / (10000 : Int32)) then
        P (some (.int (-1 : Int32))) h
      else
        (if ((x2 / (100 : Int32)) - (x2 / (100 : Int32)) / (100 : Int32) * (100 : Int32)) < (1 : Int32) then
          P (some (.int (-1 : Int32))) h
        else
          (if (40 : Int32) < ((x2 / (100 : Int32)) - (x2 / (100 : Int32)) / (100 : Int32) * (100 : Int32)) then
            P (some (.int (-1 : Int32))) h
          else
            (if (x2 - x2 / (100 : Int32) * (100 : Int32)) < 0 then
              P (some (.int (-1 : Int32))) h
            else
              (if (12 : Int32) < (x2 - x2 / (100 : Int32) * (100 : Int32)) then
                P (some (.int (-1 : Int32))) h
              else
                (if x3 = (-1 : Int32) then
                  xm_L K sX8_drawn kX8_drawn 53 [some (.ref a0), none, none, some (.int x3), some (.int (x2 / (10000 : Int32))), some (.int ((x2 / (100 : Int32)) - (x2 / (100 : Int32)) / (100 : Int32) * (100 : Int32))), some (.int (x2 - x2 / (100 : Int32) * (100 : Int32))), none, some (.int x1), some (.int (0 : Int32)), some (.int (0 : Int32)), none] [] h P
                else
                  ∃ q1, xm_fld h a0 8 0 = some (.ref q1) ∧ /- now -/
                  xm_Call K sX7_has 7 [.ref q1, .int x3] h (xm_pi fun c3 h2 =>
                    (if c3 = 0 then
                      P (some (.int (-1 : Int32))) h2
                    else
                      xm_L K sX8_drawn kX8_drawn 53 [some (.ref a0), none, none, some (.int x3), some (.int (x2 / (10000 : Int32))), some (.int ((x2 / (100 : Int32)) - (x2 / (100 : Int32)) / (100 : Int32) * (100 : Int32))), some (.int (x2 - x2 / (100 : Int32) * (100 : Int32))), none, some (.int x1), some (.int (0 : Int32)), some (.int (0 : Int32)), none] [] h2 P)))))))))) :
    xm_L K sX8_drawn kX8_drawn 0 [some (.ref a0), some (.int x1), some (.int x2), some (.int x3), none, none, none, none, none, none, none, none] [] h P :=
  xm_run (fun _ _ h => h) oX8_drawn 51 0 0 0 [some (.ref a0), some (.int x1), some (.int x2), some (.int x3), none, none, none, none, none, none, none, none] [] h H
set_option maxRecDepth 100000 in
theorem eX8_drawn {K K' : Nat} (hK : K < K') {h : xm_H} {P : Option Value → xm_H → Prop} {a0 : Nat} {x1 : Int32} {x2 : Int32} {x3 : Int32} (hr : ∃ fs, h[a0]? = some (.inr (8, fs))) (H :
    ¬ (10000 : Int32) = 0 ∧
    ¬ (100 : Int32) = 0 ∧
    ¬ (100 : Int32) = 0 ∧
    ¬ (100 : Int32) = 0 ∧
    (if (x2 / (10000 : Int32)) < (1 : Int32) then
      P (some (.int (-1 : Int32))) h
    else
      (if (30 : Int32) < (x2 / (10000 : Int32)) then
        P (some (.int (-1 : Int32))) h
      else
        (if ((x2 / (100 : Int32)) - (x2 / (100 : Int32)) / (100 : Int32) * (100 : Int32)) < (1 : Int32) then
          P (some (.int (-1 : Int32))) h
        else
          (if (40 : Int32) < ((x2 / (100 : Int32)) - (x2 / (100 : Int32)) / (100 : Int32) * (100 : Int32)) then
            P (some (.int (-1 : Int32))) h
          else
            (if (x2 - x2 / (100 : Int32) * (100 : Int32)) < 0 then
              P (some (.int (-1 : Int32))) h
            else
              (if (12 : Int32) < (x2 - x2 / (100 : Int32) * (100 : Int32)) then
                P (some (.int (-1 : Int32))) h
              else
                (if x3 = (-1 : Int32) then
                  xm_L K sX8_drawn kX8_drawn 53 [some (.ref a0), none, none, some (.int x3), some (.int (x2 / (10000 : Int32))), some (.int ((x2 / (100 : Int32)) - (x2 / (100 : Int32)) / (100 : Int32) * (100 : Int32))), some (.int (x2 - x2 / (100 : Int32) * (100 : Int32))), none, some (.int x1), some (.int (0 : Int32)), some (.int (0 : Int32)), none] [] h P
                else
                  ∃ q1, xm_fld h a0 8 0 = some (.ref q1) ∧ /- now -/
                  xm_Call K sX7_has 7 [.ref q1, .int x3] h (xm_pi fun c3 h2 =>
                    (if c3 = 0 then
                      P (some (.int (-1 : Int32))) h2
                    else
                      xm_L K sX8_drawn kX8_drawn 53 [some (.ref a0), none, none, some (.int x3), some (.int (x2 / (10000 : Int32))), some (.int ((x2 / (100 : Int32)) - (x2 / (100 : Int32)) / (100 : Int32) * (100 : Int32))), some (.int (x2 - x2 / (100 : Int32) * (100 : Int32))), none, some (.int x1), some (.int (0 : Int32)), some (.int (0 : Int32)), none] [] h2 P)))))))))) :
    xm_Call K' sX8_drawn 8 [.ref a0, .int x1, .int x2, .int x3] h P :=
  xm_call_of (C := kX8_drawn) hK (by decide +kernel) rfl (Nat.le_of_ble_eq_true rfl) (Or.inr ⟨a0, hr.choose, rfl, hr.choose_spec⟩) (xX8_drawn_0 H)

set_option maxRecDepth 100000 in
set_option maxHeartbeats 4000000 in
theorem xX8_drawn_53 {K : Nat} {h : xm_H} {P : Option Value → xm_H → Prop} {a0 : Nat} {x3 : Int32} {x4 : Int32} {x5 : Int32} {x6 : Int32} {x8 : Int32} {x9 : Int32} {x10 : Int32} (H :
    (if x10 < x4 then
      ∃ q1, xm_fld h a0 8 1 = some (.ref q1) ∧ /- thought -/
      ∃ q2, xm_fld h a0 8 0 = some (.ref q2) ∧ /- now -/
      xm_Call K sX7_copy 7 [.ref q1, .ref q2] h (xm_pv fun h3 =>
        xm_L K sX8_drawn kX8_drawn 63 [some (.ref a0), none, none, some (.int x3), some (.int x4), some (.int x5), some (.int x6), none, some (.int x8), some (.int x9), some (.int x10), some (.int (0 : Int32))] [] h3 P)
    else
      P (some (.int x9)) h)) :
    xm_L K sX8_drawn kX8_drawn 53 [some (.ref a0), none, none, some (.int x3), some (.int x4), some (.int x5), some (.int x6), none, some (.int x8), some (.int x9), some (.int x10), none] [] h P :=
  xm_run (fun _ _ h => h) oX8_drawn 11 53 0 0 [some (.ref a0), none, none, some (.int x3), some (.int x4), some (.int x5), some (.int x6), none, some (.int x8), some (.int x9), some (.int x10), none] [] h H

set_option maxRecDepth 100000 in
set_option maxHeartbeats 4000000 in
theorem xX8_drawn_63 {K : Nat} {h : xm_H} {P : Option Value → xm_H → Prop} {a0 : Nat} {x3 : Int32} {x4 : Int32} {x5 : Int32} {x6 : Int32} {x8 : Int32} {x9 : Int32} {x10 : Int32} {x11 : Int32} (H :
    (if x11 < x5 then
      xm_Call K sX8_stir 8 [.ref a0, .int ((x8 * (1103515245 : Int32)) + (12345 : Int32)), .int x6] h (xm_pv fun h1 =>
        ∃ q2, xm_fld h1 a0 8 2 = some (.ref q2) ∧ /- reckoner -/
        ∃ q3, xm_fld h1 a0 8 1 = some (.ref q3) ∧ /- thought -/
        xm_Call K sX4_endYear 4 [.ref q2, .ref q3] h1 (xm_pv fun h4 =>
          (if x3 = (-1 : Int32) then
            ∃ q5, xm_fld h4 a0 8 2 = some (.ref q5) ∧ /- reckoner -/
            ∃ f6, xm_fld h4 q5 4 9 = some (.int f6) ∧ /- paid -/
            xm_L K sX8_drawn kX8_drawn 63 [some (.ref a0), none, none, some (.int x3), some (.int x4), some (.int x5), some (.int x6), none, some (.int ((x8 * (1103515245 : Int32)) + (12345 : Int32))), some (.int (x9 + f6)), some (.int x10), some (.int (x11 + (1 : Int32)))] [] h4 P
          else
            xm_L K sX8_drawn kX8_drawn 63 [some (.ref a0), none, none, some (.int x3), some (.int x4), some (.int x5), some (.int x6), none, some (.int ((x8 * (1103515245 : Int32)) + (12345 : Int32))), some (.int (x9 + (0 : Int32))), some (.int x10), some (.int (x11 + (1 : Int32)))] [] h4 P)))
    else
      (if x3 = (-1 : Int32) then
        xm_L K sX8_drawn kX8_drawn 53 [some (.ref a0), none, none, some (.int x3), some (.int x4), some (.int x5), some (.int x6), none, some (.int x8), some (.int (x9 + (0 : Int32))), some (.int (x10 + (1 : Int32))), none] [] h P
      else
        ∃ q7, xm_fld h a0 8 1 = some (.ref q7) ∧ /- thought -/
        xm_Call K sX7_get 7 [.ref q7, .int x3, .int (1 : Int32)] h (xm_pi fun c9 h8 =>
          xm_L K sX8_drawn kX8_drawn 53 [some (.ref a0), none, none, some (.int x3), some (.int x4), some (.int x5), some (.int x6), none, some (.int x8), some (.int (x9 + c9)), some (.int (x10 + (1 : Int32))), none] [] h8 P)))) :
    xm_L K sX8_drawn kX8_drawn 63 [some (.ref a0), none, none, some (.int x3), some (.int x4), some (.int x5), some (.int x6), none, some (.int x8), some (.int x9), some (.int x10), some (.int x11)] [] h P :=
  xm_run (fun _ _ h => h) oX8_drawn 31 63 0 0 [some (.ref a0), none, none, some (.int x3), some (.int x4), some (.int x5), some (.int x6), none, some (.int x8), some (.int x9), some (.int x10), some (.int x11)] [] h H

def kX8_stir : List xm_I := [
  i_0 0 (.aload_n 0) 1 none,
  i_f 1 (.getfield 16) 3 none 8 1 [329] 1,
  i_0 4 (.iload_n 1) 1 none,
  i_v 5 (.bipush 8) 2 none 8 [],
  i_0 7 (.iushr) 1 none,
  i_v 8 (.bipush 100) 2 none 100 [],
  i_0 10 (.irem) 1 none,
  i_m 11 (.invokevirtual 267) 3 none 1 7 [711, 712, 713, 109, 714] 0 sX7_setSnow,
  i_0 14 (.aload_n 0) 1 none,
  i_f 15 (.getfield 16) 3 none 8 1 [329] 1,
  i_f 18 (.getfield 89) 3 none 7 1 [140] 0,
  i_j 21 (.ifCond .le 40) 3 none 35,
  i_0 24 (.iload_n 1) 1 none,
  i_v 25 (.bipush 24) 2 none 24 [],
  i_0 27 (.iushr) 1 none,
  i_v 28 (.bipush 12) 2 none 12 [],
  i_0 30 (.irem) 1 none,
  i_0 31 (.iload_n 2) 1 none,
  i_j 32 (.if_icmp .ge 29) 3 none 35,
  i_0 35 (.aload_n 0) 1 none,
  i_f 36 (.getfield 16) 3 none 8 1 [329] 1,
  i_0 39 (.iload_n 1) 1 none,
  i_v 40 (.bipush 16) 2 none 16 [],
  i_0 42 (.iushr) 1 none,
  i_0 43 (.aload_n 0) 1 none,
  i_f 44 (.getfield 16) 3 none 8 1 [329] 1,
  i_f 47 (.getfield 89) 3 none 7 1 [140] 0,
  i_0 50 (.irem) 1 none,
  i_v 51 (.iconst 3) 1 none 3 [],
  i_0 52 (.iload_n 1) 1 none,
  i_v 53 (.bipush 20) 2 none 20 [],
  i_0 55 (.iushr) 1 none,
  i_v 56 (.iconst 4) 1 none 4 [],
  i_0 57 (.irem) 1 none,
  i_m 58 (.invokevirtual 185) 3 none 3 7 [600, 385, 386, 109, 387] 0 sX7_set,
  i_0 61 (.return_) 1 none]
set_option maxRecDepth 100000 in
theorem oX8_stir : xm_ok sX8_stir sX8_stir.1.cls kX8_stir = true := by decide +kernel
set_option maxRecDepth 100000 in
set_option maxHeartbeats 4000000 in
theorem xX8_stir_0 {K : Nat} {h : xm_H} {P : Option Value → xm_H → Prop} {a0 : Nat} {x1 : Int32} {x2 : Int32} (H :
    ∃ q1, xm_fld h a0 8 1 = some (.ref q1) ∧ /- thought -/
    ¬ (100 : Int32) = 0 ∧
    xm_Call K sX7_setSnow 7 [.ref q1, .int ((((Int32.toUInt32 x1) >>> ((Int32.toUInt32 (8 : Int32)) &&& Int32.toUInt32 31)).toInt32) - (((Int32.toUInt32 x1) >>> ((Int32.toUInt32 (8 : Int32)) &&& Int32.toUInt32 31)).toInt32) / (100 : Int32) * (100 : Int32))] h (xm_pv fun h2 =>
      ∃ q3, xm_fld h2 a0 8 1 = some (.ref q3) ∧ /- thought -/
      ∃ f4, xm_fld h2 q3 7 1 = some (.int f4) ∧ /- people -/
      (if 0 < f4 then
        ¬ (12 : Int32) = 0 ∧
        (if ((((Int32.toUInt32 x1) >>> ((Int32.toUInt32 (24 : Int32)) &&& Int32.toUInt32 31)).toInt32) - (((Int32.toUInt32 x1) >>> ((Int32.toUInt32 (24 : Int32)) &&& Int32.toUInt32 31)).toInt32) / (12 : Int32) * (12 : Int32)) < x2 then
          ∃ q5, xm_fld h2 a0 8 1 = some (.ref q5) ∧ /- thought -/
          ∃ q6, xm_fld h2 a0 8 1 = some (.ref q6) ∧ /- thought -/
          ∃ f7, xm_fld h2 q6 7 1 = some (.int f7) ∧ /- people -/
          ¬ f7 = 0 ∧
          ¬ (4 : Int32) = 0 ∧
          xm_Call K sX7_set 7 [.ref q5, .int ((((Int32.toUInt32 x1) >>> ((Int32.toUInt32 (16 : Int32)) &&& Int32.toUInt32 31)).toInt32) - (((Int32.toUInt32 x1) >>> ((Int32.toUInt32 (16 : Int32)) &&& Int32.toUInt32 31)).toInt32) / f7 * f7), .int (3 : Int32), .int ((((Int32.toUInt32 x1) >>> ((Int32.toUInt32 (20 : Int32)) &&& Int32.toUInt32 31)).toInt32) - (((Int32.toUInt32 x1) >>> ((Int32.toUInt32 (20 : Int32)) &&& Int32.toUInt32 31)).toInt32) / (4 : Int32) * (4 : Int32))] h2 (xm_pv fun h8 =>
            P none h8)
        else
          P none h2)
      else
        P none h2))) :
    xm_L K sX8_stir kX8_stir 0 [some (.ref a0), some (.int x1), some (.int x2)] [] h P :=
  xm_run (fun _ _ h => h) oX8_stir 37 0 0 0 [some (.ref a0), some (.int x1), some (.int x2)] [] h H
set_option maxRecDepth 100000 in
theorem eX8_stir {K K' : Nat} (hK : K < K') {h : xm_H} {P : Option Value → xm_H → Prop} {a0 : Nat} {x1 : Int32} {x2 : Int32} (hr : ∃ fs, h[a0]? = some (.inr (8, fs))) (H :
    ∃ q1, xm_fld h a0 8 1 = some (.ref q1) ∧ /- thought -/
    ¬ (100 : Int32) = 0 ∧
    xm_Call K sX7_setSnow 7 [.ref q1, .int ((((Int32.toUInt32 x1) >>> ((Int32.toUInt32 (8 : Int32)) &&& Int32.toUInt32 31)).toInt32) - (((Int32.toUInt32 x1) >>> ((Int32.toUInt32 (8 : Int32)) &&& Int32.toUInt32 31)).toInt32) / (100 : Int32) * (100 : Int32))] h (xm_pv fun h2 =>
      ∃ q3, xm_fld h2 a0 8 1 = some (.ref q3) ∧ /- thought -/
      ∃ f4, xm_fld h2 q3 7 1 = some (.int f4) ∧ /- people -/
      (if 0 < f4 then
        ¬ (12 : Int32) = 0 ∧
        (if ((((Int32.toUInt32 x1) >>> ((Int32.toUInt32 (24 : Int32)) &&& Int32.toUInt32 31)).toInt32) - (((Int32.toUInt32 x1) >>> ((Int32.toUInt32 (24 : Int32)) &&& Int32.toUInt32 31)).toInt32) / (12 : Int32) * (12 : Int32)) < x2 then
          ∃ q5, xm_fld h2 a0 8 1 = some (.ref q5) ∧ /- thought -/
          ∃ q6, xm_fld h2 a0 8 1 = some (.ref q6) ∧ /- thought -/
          ∃ f7, xm_fld h2 q6 7 1 = some (.int f7) ∧ /- people -/
          ¬ f7 = 0 ∧
          ¬ (4 : Int32) = 0 ∧
          xm_Call K sX7_set 7 [.ref q5, .int ((((Int32.toUInt32 x1) >>> ((Int32.toUInt32 (16 : Int32)) &&& Int32.toUInt32 31)).toInt32) - (((Int32.toUInt32 x1) >>> ((Int32.toUInt32 (16 : Int32)) &&& Int32.toUInt32 31)).toInt32) / f7 * f7), .int (3 : Int32), .int ((((Int32.toUInt32 x1) >>> ((Int32.toUInt32 (20 : Int32)) &&& Int32.toUInt32 31)).toInt32) - (((Int32.toUInt32 x1) >>> ((Int32.toUInt32 (20 : Int32)) &&& Int32.toUInt32 31)).toInt32) / (4 : Int32) * (4 : Int32))] h2 (xm_pv fun h8 =>
            P none h8)
        else
          P none h2)
      else
        P none h2))) :
    xm_Call K' sX8_stir 8 [.ref a0, .int x1, .int x2] h P :=
  xm_call_of (C := kX8_stir) hK (by decide +kernel) rfl (Nat.le_of_ble_eq_true rfl) (Or.inr ⟨a0, hr.choose, rfl, hr.choose_spec⟩) (xX8_stir_0 H)

def kX8_takes : List xm_I := [
  i_0 0 (.aload_n 0) 1 none,
  i_f 1 (.getfield 10) 3 none 8 0 [328] 1,
  i_0 4 (.iload_n 1) 1 none,
  i_m 5 (.invokevirtual 152) 3 none 1 7 [500, 501, 502, 109, 503] 0 sX7_has,
  i_j 8 (.ifCond .eq 11) 3 none 9,
  i_v 11 (.iconst 3) 1 none 3 [],
  i_0 12 (.iload_n 2) 1 none,
  i_m 13 (.invokestatic 78) 3 none 2 99 [372, 373, 108, 374] 0 sX8_isWithin,
  i_j 16 (.ifCond .ne 5) 3 none 11,
  i_v 19 (.iconst (-1)) 1 none (-1) [],
  i_0 20 (.ireturn) 1 none,
  i_0 21 (.aload_n 0) 1 none,
  i_f 22 (.getfield 10) 3 none 8 0 [328] 1,
  i_0 25 (.iload_n 1) 1 none,
  i_v 26 (.iconst 3) 1 none 3 [],
  i_m 27 (.invokevirtual 188) 3 none 2 7 [605, 509, 510, 109, 511] 0 sX7_get,
  i_0 30 (.istore_n 3) 1 none,
  i_0 31 (.aload_n 0) 1 none,
  i_f 32 (.getfield 10) 3 none 8 0 [328] 1,
  i_0 35 (.iload_n 1) 1 none,
  i_v 36 (.iconst 3) 1 none 3 [],
  i_0 37 (.iload_n 2) 1 none,
  i_m 38 (.invokevirtual 185) 3 none 3 7 [600, 385, 386, 109, 387] 0 sX7_set,
  i_0 41 (.aload_n 0) 1 none,
  i_f 42 (.getfield 40) 3 none 8 5 [333] 1,
  i_v 45 (.iconst 0) 1 none 0 [],
  i_0 46 (.dup2) 1 none,
  i_0 47 (.iaload) 1 none,
  i_v 48 (.iconst 1) 1 none 1 [],
  i_0 49 (.iadd) 1 none,
  i_0 50 (.iastore) 1 none,
  i_0 51 (.iload_n 3) 1 none,
  i_0 52 (.ireturn) 1 none]
set_option maxRecDepth 100000 in
theorem oX8_takes : xm_ok sX8_takes sX8_takes.1.cls kX8_takes = true := by decide +kernel
set_option maxRecDepth 100000 in
set_option maxHeartbeats 4000000 in
theorem xX8_takes_0 {K : Nat} {h : xm_H} {P : Option Value → xm_H → Prop} {a0 : Nat} {x1 : Int32} {x2 : Int32} (H :
    ∃ q1, xm_fld h a0 8 0 = some (.ref q1) ∧ /- now -/
    xm_Call K sX7_has 7 [.ref q1, .int x1] h (xm_pi fun c3 h2 =>
      (if c3 = 0 then
        P (some (.int (-1 : Int32))) h2
      else
        xm_Call K sX8_isWithin 99 [.int (3 : Int32), .int x2] h2 (xm_pi fun c5 h4 =>
          (if c5 = 0 then
            P (some (.int (-1 : Int32))) h4
          else
            ∃ q6, xm_fld h4 a0 8 0 = some (.ref q6) ∧ /- now -/
            xm_Call K sX7_get 7 [.ref q6, .int x1, .int (3 : Int32)] h4 (xm_pi fun c8 h7 =>
              ∃ q9, xm_fld h7 a0 8 0 = some (.ref q9) ∧ /- now -/
              xm_Call K sX7_set 7 [.ref q9, .int x1, .int (3 : Int32), .int x2] h7 (xm_pv fun h10 =>
                ∃ q11, xm_fld h10 a0 8 5 = some (.ref q11) ∧ /- ledger -/
                ∃ e12, xm_ld xm_st h10 0 q11 (0 : Int32) = some e12 ∧
                ∃ h13, xm_sto h10 0 q11 (0 : Int32) (e12 + (1 : Int32)) = some h13 ∧
                P (some (.int c8)) h13))))))) :
    xm_L K sX8_takes kX8_takes 0 [some (.ref a0), some (.int x1), some (.int x2), none] [] h P :=
  xm_run (fun _ _ h => h) oX8_takes 32 0 0 0 [some (.ref a0), some (.int x1), some (.int x2), none] [] h H
set_option maxRecDepth 100000 in
theorem eX8_takes {K K' : Nat} (hK : K < K') {h : xm_H} {P : Option Value → xm_H → Prop} {a0 : Nat} {x1 : Int32} {x2 : Int32} (hr : ∃ fs, h[a0]? = some (.inr (8, fs))) (H :
    ∃ q1, xm_fld h a0 8 0 = some (.ref q1) ∧ /- now -/
    xm_Call K sX7_has 7 [.ref q1, .int x1] h (xm_pi fun c3 h2 =>
      (if c3 = 0 then
        P (some (.int (-1 : Int32))) h2
      else
        xm_Call K sX8_isWithin 99 [.int (3 : Int32), .int x2] h2 (xm_pi fun c5 h4 =>
          (if c5 = 0 then
            P (some (.int (-1 : Int32))) h4
          else
            ∃ q6, xm_fld h4 a0 8 0 = some (.ref q6) ∧ /- now -/
            xm_Call K sX7_get 7 [.ref q6, .int x1, .int (3 : Int32)] h4 (xm_pi fun c8 h7 =>
              ∃ q9, xm_fld h7 a0 8 0 = some (.ref q9) ∧ /- now -/
              xm_Call K sX7_set 7 [.ref q9, .int x1, .int (3 : Int32), .int x2] h7 (xm_pv fun h10 =>
                ∃ q11, xm_fld h10 a0 8 5 = some (.ref q11) ∧ /- ledger -/
                ∃ e12, xm_ld xm_st h10 0 q11 (0 : Int32) = some e12 ∧
                ∃ h13, xm_sto h10 0 q11 (0 : Int32) (e12 + (1 : Int32)) = some h13 ∧
                P (some (.int c8)) h13))))))) :
    xm_Call K' sX8_takes 8 [.ref a0, .int x1, .int x2] h P :=
  xm_call_of (C := kX8_takes) hK (by decide +kernel) rfl (Nat.le_of_ble_eq_true rfl) (Or.inr ⟨a0, hr.choose, rfl, hr.choose_spec⟩) (xX8_takes_0 H)

def kX8_hears : List xm_I := [
  i_0 0 (.aload_n 0) 1 none,
  i_f 1 (.getfield 10) 3 none 8 0 [328] 1,
  i_0 4 (.iload_n 1) 1 none,
  i_m 5 (.invokevirtual 152) 3 none 1 7 [500, 501, 502, 109, 503] 0 sX7_has,
  i_j 8 (.ifCond .eq 11) 3 none 9,
  i_v 11 (.iconst 5) 1 none 5 [],
  i_0 12 (.iload_n 2) 1 none,
  i_m 13 (.invokestatic 78) 3 none 2 99 [372, 373, 108, 374] 0 sX8_isWithin,
  i_j 16 (.ifCond .ne 5) 3 none 11,
  i_v 19 (.iconst (-1)) 1 none (-1) [],
  i_0 20 (.ireturn) 1 none,
  i_0 21 (.aload_n 0) 1 none,
  i_f 22 (.getfield 10) 3 none 8 0 [328] 1,
  i_0 25 (.iload_n 1) 1 none,
  i_v 26 (.iconst 5) 1 none 5 [],
  i_m 27 (.invokevirtual 188) 3 none 2 7 [605, 509, 510, 109, 511] 0 sX7_get,
  i_0 30 (.istore_n 3) 1 none,
  i_0 31 (.aload_n 0) 1 none,
  i_f 32 (.getfield 10) 3 none 8 0 [328] 1,
  i_0 35 (.iload_n 1) 1 none,
  i_v 36 (.iconst 5) 1 none 5 [],
  i_0 37 (.iload_n 2) 1 none,
  i_m 38 (.invokevirtual 185) 3 none 3 7 [600, 385, 386, 109, 387] 0 sX7_set,
  i_0 41 (.aload_n 0) 1 none,
  i_f 42 (.getfield 40) 3 none 8 5 [333] 1,
  i_v 45 (.iconst 1) 1 none 1 [],
  i_0 46 (.dup2) 1 none,
  i_0 47 (.iaload) 1 none,
  i_0 48 (.iload_n 2) 1 none,
  i_0 49 (.iadd) 1 none,
  i_0 50 (.iastore) 1 none,
  i_0 51 (.iload_n 3) 1 none,
  i_0 52 (.ireturn) 1 none]
set_option maxRecDepth 100000 in
theorem oX8_hears : xm_ok sX8_hears sX8_hears.1.cls kX8_hears = true := by decide +kernel
set_option maxRecDepth 100000 in
set_option maxHeartbeats 4000000 in
theorem xX8_hears_0 {K : Nat} {h : xm_H} {P : Option Value → xm_H → Prop} {a0 : Nat} {x1 : Int32} {x2 : Int32} (H :
    ∃ q1, xm_fld h a0 8 0 = some (.ref q1) ∧ /- now -/
    xm_Call K sX7_has 7 [.ref q1, .int x1] h (xm_pi fun c3 h2 =>
      (if c3 = 0 then
        P (some (.int (-1 : Int32))) h2
      else
        xm_Call K sX8_isWithin 99 [.int (5 : Int32), .int x2] h2 (xm_pi fun c5 h4 =>
          (if c5 = 0 then
            P (some (.int (-1 : Int32))) h4
          else
            ∃ q6, xm_fld h4 a0 8 0 = some (.ref q6) ∧ /- now -/
            xm_Call K sX7_get 7 [.ref q6, .int x1, .int (5 : Int32)] h4 (xm_pi fun c8 h7 =>
              ∃ q9, xm_fld h7 a0 8 0 = some (.ref q9) ∧ /- now -/
              xm_Call K sX7_set 7 [.ref q9, .int x1, .int (5 : Int32), .int x2] h7 (xm_pv fun h10 =>
                ∃ q11, xm_fld h10 a0 8 5 = some (.ref q11) ∧ /- ledger -/
                ∃ e12, xm_ld xm_st h10 0 q11 (1 : Int32) = some e12 ∧
                ∃ h13, xm_sto h10 0 q11 (1 : Int32) (e12 + x2) = some h13 ∧
                P (some (.int c8)) h13))))))) :
    xm_L K sX8_hears kX8_hears 0 [some (.ref a0), some (.int x1), some (.int x2), none] [] h P :=
  xm_run (fun _ _ h => h) oX8_hears 32 0 0 0 [some (.ref a0), some (.int x1), some (.int x2), none] [] h H
set_option maxRecDepth 100000 in
theorem eX8_hears {K K' : Nat} (hK : K < K') {h : xm_H} {P : Option Value → xm_H → Prop} {a0 : Nat} {x1 : Int32} {x2 : Int32} (hr : ∃ fs, h[a0]? = some (.inr (8, fs))) (H :
    ∃ q1, xm_fld h a0 8 0 = some (.ref q1) ∧ /- now -/
    xm_Call K sX7_has 7 [.ref q1, .int x1] h (xm_pi fun c3 h2 =>
      (if c3 = 0 then
        P (some (.int (-1 : Int32))) h2
      else
        xm_Call K sX8_isWithin 99 [.int (5 : Int32), .int x2] h2 (xm_pi fun c5 h4 =>
          (if c5 = 0 then
            P (some (.int (-1 : Int32))) h4
          else
            ∃ q6, xm_fld h4 a0 8 0 = some (.ref q6) ∧ /- now -/
            xm_Call K sX7_get 7 [.ref q6, .int x1, .int (5 : Int32)] h4 (xm_pi fun c8 h7 =>
              ∃ q9, xm_fld h7 a0 8 0 = some (.ref q9) ∧ /- now -/
              xm_Call K sX7_set 7 [.ref q9, .int x1, .int (5 : Int32), .int x2] h7 (xm_pv fun h10 =>
                ∃ q11, xm_fld h10 a0 8 5 = some (.ref q11) ∧ /- ledger -/
                ∃ e12, xm_ld xm_st h10 0 q11 (1 : Int32) = some e12 ∧
                ∃ h13, xm_sto h10 0 q11 (1 : Int32) (e12 + x2) = some h13 ∧
                P (some (.int c8)) h13))))))) :
    xm_Call K' sX8_hears 8 [.ref a0, .int x1, .int x2] h P :=
  xm_call_of (C := kX8_hears) hK (by decide +kernel) rfl (Nat.le_of_ble_eq_true rfl) (Or.inr ⟨a0, hr.choose, rfl, hr.choose_spec⟩) (xX8_hears_0 H)

def kX8_year : List xm_I := [
  i_0 0 (.aload_n 0) 1 none,
  i_f 1 (.getfield 22) 3 none 8 2 [330] 1,
  i_0 4 (.aload_n 0) 1 none,
  i_f 5 (.getfield 10) 3 none 8 0 [328] 1,
  i_m 8 (.invokevirtual 229) 3 none 1 4 [659, 660, 661, 110, 662] 0 sX4_endYear,
  i_0 11 (.aload_n 0) 1 none,
  i_f 12 (.getfield 40) 3 none 8 5 [333] 1,
  i_v 15 (.iconst 2) 1 none 2 [],
  i_0 16 (.dup2) 1 none,
  i_0 17 (.iaload) 1 none,
  i_v 18 (.iconst 1) 1 none 1 [],
  i_0 19 (.iadd) 1 none,
  i_0 20 (.iastore) 1 none,
  i_0 21 (.aload_n 0) 1 none,
  i_f 22 (.getfield 40) 3 none 8 5 [333] 1,
  i_v 25 (.iconst 3) 1 none 3 [],
  i_0 26 (.dup2) 1 none,
  i_0 27 (.iaload) 1 none,
  i_0 28 (.aload_n 0) 1 none,
  i_f 29 (.getfield 22) 3 none 8 2 [330] 1,
  i_f 32 (.getfield 169) 3 none 4 9 [185] 0,
  i_0 35 (.iadd) 1 none,
  i_0 36 (.iastore) 1 none,
  i_0 37 (.aload_n 0) 1 none,
  i_f 38 (.getfield 40) 3 none 8 5 [333] 1,
  i_v 41 (.iconst 4) 1 none 4 [],
  i_0 42 (.dup2) 1 none,
  i_0 43 (.iaload) 1 none,
  i_0 44 (.aload_n 0) 1 none,
  i_f 45 (.getfield 22) 3 none 8 2 [330] 1,
  i_f 48 (.getfield 232) 3 none 4 10 [187] 0,
  i_0 51 (.iadd) 1 none,
  i_0 52 (.iastore) 1 none,
  i_0 53 (.aload_n 0) 1 none,
  i_f 54 (.getfield 22) 3 none 8 2 [330] 1,
  i_f 57 (.getfield 169) 3 none 4 9 [185] 0,
  i_0 60 (.ireturn) 1 none]
set_option maxRecDepth 100000 in
theorem oX8_year : xm_ok sX8_year sX8_year.1.cls kX8_year = true := by decide +kernel
set_option maxRecDepth 100000 in
set_option maxHeartbeats 4000000 in
theorem xX8_year_0 {K : Nat} {h : xm_H} {P : Option Value → xm_H → Prop} {a0 : Nat} (H :
    ∃ q1, xm_fld h a0 8 2 = some (.ref q1) ∧ /- reckoner -/
    ∃ q2, xm_fld h a0 8 0 = some (.ref q2) ∧ /- now -/
    xm_Call K sX4_endYear 4 [.ref q1, .ref q2] h (xm_pv fun h3 =>
      ∃ q4, xm_fld h3 a0 8 5 = some (.ref q4) ∧ /- ledger -/
      ∃ e5, xm_ld xm_st h3 0 q4 (2 : Int32) = some e5 ∧
      ∃ h6, xm_sto h3 0 q4 (2 : Int32) (e5 + (1 : Int32)) = some h6 ∧
      ∃ q7, xm_fld h6 a0 8 5 = some (.ref q7) ∧ /- ledger -/
      ∃ e8, xm_ld xm_st h6 0 q7 (3 : Int32) = some e8 ∧
      ∃ q9, xm_fld h6 a0 8 2 = some (.ref q9) ∧ /- reckoner -/
      ∃ f10, xm_fld h6 q9 4 9 = some (.int f10) ∧ /- paid -/
      ∃ h11, xm_sto h6 0 q7 (3 : Int32) (e8 + f10) = some h11 ∧
      ∃ q12, xm_fld h11 a0 8 5 = some (.ref q12) ∧ /- ledger -/
      ∃ e13, xm_ld xm_st h11 0 q12 (4 : Int32) = some e13 ∧
      ∃ q14, xm_fld h11 a0 8 2 = some (.ref q14) ∧ /- reckoner -/
      ∃ f15, xm_fld h11 q14 4 10 = some (.int f15) ∧ /- lacking -/
      ∃ h16, xm_sto h11 0 q12 (4 : Int32) (e13 + f15) = some h16 ∧
      ∃ q17, xm_fld h16 a0 8 2 = some (.ref q17) ∧ /- reckoner -/
      ∃ f18, xm_fld h16 q17 4 9 = some (.int f18) ∧ /- paid -/
      P (some (.int f18)) h16)) :
    xm_L K sX8_year kX8_year 0 [some (.ref a0)] [] h P :=
  xm_run (fun _ _ h => h) oX8_year 38 0 0 0 [some (.ref a0)] [] h H
set_option maxRecDepth 100000 in
theorem eX8_year {K K' : Nat} (hK : K < K') {h : xm_H} {P : Option Value → xm_H → Prop} {a0 : Nat} (hr : ∃ fs, h[a0]? = some (.inr (8, fs))) (H :
    ∃ q1, xm_fld h a0 8 2 = some (.ref q1) ∧ /- reckoner -/
    ∃ q2, xm_fld h a0 8 0 = some (.ref q2) ∧ /- now -/
    xm_Call K sX4_endYear 4 [.ref q1, .ref q2] h (xm_pv fun h3 =>
      ∃ q4, xm_fld h3 a0 8 5 = some (.ref q4) ∧ /- ledger -/
      ∃ e5, xm_ld xm_st h3 0 q4 (2 : Int32) = some e5 ∧
      ∃ h6, xm_sto h3 0 q4 (2 : Int32) (e5 + (1 : Int32)) = some h6 ∧
      ∃ q7, xm_fld h6 a0 8 5 = some (.ref q7) ∧ /- ledger -/
      ∃ e8, xm_ld xm_st h6 0 q7 (3 : Int32) = some e8 ∧
      ∃ q9, xm_fld h6 a0 8 2 = some (.ref q9) ∧ /- reckoner -/
      ∃ f10, xm_fld h6 q9 4 9 = some (.int f10) ∧ /- paid -/
      ∃ h11, xm_sto h6 0 q7 (3 : Int32) (e8 + f10) = some h11 ∧
      ∃ q12, xm_fld h11 a0 8 5 = some (.ref q12) ∧ /- ledger -/
      ∃ e13, xm_ld xm_st h11 0 q12 (4 : Int32) = some e13 ∧
      ∃ q14, xm_fld h11 a0 8 2 = some (.ref q14) ∧ /- reckoner -/
      ∃ f15, xm_fld h11 q14 4 10 = some (.int f15) ∧ /- lacking -/
      ∃ h16, xm_sto h11 0 q12 (4 : Int32) (e13 + f15) = some h16 ∧
      ∃ q17, xm_fld h16 a0 8 2 = some (.ref q17) ∧ /- reckoner -/
      ∃ f18, xm_fld h16 q17 4 9 = some (.int f18) ∧ /- paid -/
      P (some (.int f18)) h16)) :
    xm_Call K' sX8_year 8 [.ref a0] h P :=
  xm_call_of (C := kX8_year) hK (by decide +kernel) rfl (Nat.le_of_ble_eq_true rfl) (Or.inr ⟨a0, hr.choose, rfl, hr.choose_spec⟩) (xX8_year_0 H)

def kX8_gives : List xm_I := [
  i_0 0 (.aload_n 0) 1 none,
  i_f 1 (.getfield 10) 3 none 8 0 [328] 1,
  i_0 4 (.iload_n 1) 1 none,
  i_m 5 (.invokevirtual 152) 3 none 1 7 [500, 501, 502, 109, 503] 0 sX7_has,
  i_j 8 (.ifCond .eq 33) 3 none 21,
  i_0 11 (.aload_n 0) 1 none,
  i_f 12 (.getfield 10) 3 none 8 0 [328] 1,
  i_0 15 (.iload_n 2) 1 none,
  i_m 16 (.invokevirtual 152) 3 none 1 7 [500, 501, 502, 109, 503] 0 sX7_has,
  i_j 19 (.ifCond .eq 22) 3 none 21,
  i_0 22 (.iload_n 1) 1 none,
  i_0 23 (.iload_n 2) 1 none,
  i_j 24 (.if_icmp .eq 17) 3 none 21,
  i_0 27 (.iload_n 3) 1 none,
  i_v 28 (.iconst 1) 1 none 1 [],
  i_j 29 (.if_icmp .lt 12) 3 none 21,
  i_0 32 (.iload_n 3) 1 none,
  i_f 33 (.getstatic 213) 3 none 1 0 [377] 0,
  i_v 36 (.iconst 1) 1 none 1 [],
  i_0 37 (.iaload) 1 none,
  i_j 38 (.if_icmp .le 5) 3 none 23,
  i_v 41 (.iconst (-1)) 1 none (-1) [],
  i_0 42 (.ireturn) 1 none,
  i_0 43 (.aload_n 0) 1 none,
  i_f 44 (.getfield 10) 3 none 8 0 [328] 1,
  i_0 47 (.iload_n 1) 1 none,
  i_v 48 (.iconst 1) 1 none 1 [],
  i_m 49 (.invokevirtual 188) 3 none 2 7 [605, 509, 510, 109, 511] 0 sX7_get,
  i_0 52 (.iload_n 3) 1 none,
  i_0 53 (.isub) 1 none,
  i_0 54 (.istore 4) 2 none,
  i_0 56 (.aload_n 0) 1 none,
  i_f 57 (.getfield 10) 3 none 8 0 [328] 1,
  i_0 60 (.iload_n 2) 1 none,
  i_v 61 (.iconst 1) 1 none 1 [],
  i_m 62 (.invokevirtual 188) 3 none 2 7 [605, 509, 510, 109, 511] 0 sX7_get,
  i_0 65 (.iload_n 3) 1 none,
  i_0 66 (.iadd) 1 none,
  i_0 67 (.istore 5) 2 none,
  i_0 69 (.iload 4) 2 none,
  i_j 71 (.ifCond .lt 13) 3 none 46,
  i_0 74 (.iload 5) 2 none,
  i_f 76 (.getstatic 213) 3 none 1 0 [377] 0,
  i_v 79 (.iconst 1) 1 none 1 [],
  i_0 80 (.iaload) 1 none,
  i_j 81 (.if_icmp .le 6) 3 none 48,
  i_v 84 (.bipush (-5)) 2 none (-5) [],
  i_0 86 (.ireturn) 1 none,
  i_0 87 (.aload_n 0) 1 none,
  i_f 88 (.getfield 10) 3 none 8 0 [328] 1,
  i_0 91 (.iload_n 1) 1 none,
  i_v 92 (.iconst 1) 1 none 1 [],
  i_0 93 (.iload 4) 2 none,
  i_m 95 (.invokevirtual 185) 3 none 3 7 [600, 385, 386, 109, 387] 0 sX7_set,
  i_0 98 (.aload_n 0) 1 none,
  i_f 99 (.getfield 10) 3 none 8 0 [328] 1,
  i_0 102 (.iload_n 2) 1 none,
  i_v 103 (.iconst 1) 1 none 1 [],
  i_0 104 (.iload 5) 2 none,
  i_m 106 (.invokevirtual 185) 3 none 3 7 [600, 385, 386, 109, 387] 0 sX7_set,
  i_0 109 (.aload_n 0) 1 none,
  i_f 110 (.getfield 40) 3 none 8 5 [333] 1,
  i_v 113 (.iconst 5) 1 none 5 [],
  i_0 114 (.dup2) 1 none,
  i_0 115 (.iaload) 1 none,
  i_0 116 (.iload_n 3) 1 none,
  i_0 117 (.iadd) 1 none,
  i_0 118 (.iastore) 1 none,
  i_0 119 (.iload 4) 2 none,
  i_0 121 (.ireturn) 1 none]
set_option maxRecDepth 100000 in
theorem oX8_gives : xm_ok sX8_gives sX8_gives.1.cls kX8_gives = true := by decide +kernel
set_option maxRecDepth 100000 in
set_option maxHeartbeats 4000000 in
theorem xX8_gives_0 {K : Nat} {h : xm_H} {P : Option Value → xm_H → Prop} {a0 : Nat} {x1 : Int32} {x2 : Int32} {x3 : Int32} (H :
    ∃ q1, xm_fld h a0 8 0 = some (.ref q1) ∧ /- now -/
    xm_Call K sX7_has 7 [.ref q1, .int x1] h (xm_pi fun c3 h2 =>
      (if c3 = 0 then
        P (some (.int (-1 : Int32))) h2
      else
        ∃ q4, xm_fld h2 a0 8 0 = some (.ref q4) ∧ /- now -/
        xm_Call K sX7_has 7 [.ref q4, .int x2] h2 (xm_pi fun c6 h5 =>
          (if c6 = 0 then
            P (some (.int (-1 : Int32))) h5
          else
            (if x1 = x2 then
              P (some (.int (-1 : Int32))) h5
            else
              (if x3 < (1 : Int32) then
                P (some (.int (-1 : Int32))) h5
              else
                ∃ e7, xm_ld xm_st h5 0 (1000 + 1) (1 : Int32) = some e7 ∧
                (if e7 < x3 then
                  P (some (.int (-1 : Int32))) h5
                else
                  ∃ q8, xm_fld h5 a0 8 0 = some (.ref q8) ∧ /- now -/
                  xm_Call K sX7_get 7 [.ref q8, .int x1, .int (1 : Int32)] h5 (xm_pi fun c10 h9 =>
                    ∃ q11, xm_fld h9 a0 8 0 = some (.ref q11) ∧ /- now -/
                    xm_Call K sX7_get 7 [.ref q11, .int x2, .int (1 : Int32)] h9 (xm_pi fun c13 h12 =>
                      (if (c10 - x3) < 0 then
                        P (some (.int (-5 : Int32))) h12
                      else
                        ∃ e14, xm_ld xm_st h12 0 (1000 + 1) (1 : Int32) = some e14 ∧
                        (if e14 < (c13 + x3) then
                          P (some (.int (-5 : Int32))) h12
                        else
                          ∃ q15, xm_fld h12 a0 8 0 = some (.ref q15) ∧ /- now -/
                          xm_Call K sX7_set 7 [.ref q15, .int x1, .int (1 : Int32), .int (c10 - x3)] h12 (xm_pv fun h16 =>
                            ∃ q17, xm_fld h16 a0 8 0 = some (.ref q17) ∧ /- now -/
                            xm_Call K sX7_set 7 [.ref q17, .int x2, .int (1 : Int32), .int (c13 + x3)] h16 (xm_pv fun h18 =>
                              ∃ q19, xm_fld h18 a0 8 5 = some (.ref q19) ∧ /- ledger -/
                              ∃ e20, xm_ld xm_st h18 0 q19 (5 : Int32) = some e20 ∧
                              ∃ h21, xm_sto h18 0 q19 (5 : Int32) (e20 + x3) = some h21 ∧
                              P (some (.int (c10 - x3))) h21)))))))))))))) :
    xm_L K sX8_gives kX8_gives 0 [some (.ref a0), some (.int x1), some (.int x2), some (.int x3), none, none] [] h P :=
  xm_run (fun _ _ h => h) oX8_gives 67 0 0 0 [some (.ref a0), some (.int x1), some (.int x2), some (.int x3), none, none] [] h H
set_option maxRecDepth 100000 in
theorem eX8_gives {K K' : Nat} (hK : K < K') {h : xm_H} {P : Option Value → xm_H → Prop} {a0 : Nat} {x1 : Int32} {x2 : Int32} {x3 : Int32} (hr : ∃ fs, h[a0]? = some (.inr (8, fs))) (H :
    ∃ q1, xm_fld h a0 8 0 = some (.ref q1) ∧ /- now -/
    xm_Call K sX7_has 7 [.ref q1, .int x1] h (xm_pi fun c3 h2 =>
      (if c3 = 0 then
        P (some (.int (-1 : Int32))) h2
      else
        ∃ q4, xm_fld h2 a0 8 0 = some (.ref q4) ∧ /- now -/
        xm_Call K sX7_has 7 [.ref q4, .int x2] h2 (xm_pi fun c6 h5 =>
          (if c6 = 0 then
            P (some (.int (-1 : Int32))) h5
          else
            (if x1 = x2 then
              P (some (.int (-1 : Int32))) h5
            else
              (if x3 < (1 : Int32) then
                P (some (.int (-1 : Int32))) h5
              else
                ∃ e7, xm_ld xm_st h5 0 (1000 + 1) (1 : Int32) = some e7 ∧
                (if e7 < x3 then
                  P (some (.int (-1 : Int32))) h5
                else
                  ∃ q8, xm_fld h5 a0 8 0 = some (.ref q8) ∧ /- now -/
                  xm_Call K sX7_get 7 [.ref q8, .int x1, .int (1 : Int32)] h5 (xm_pi fun c10 h9 =>
                    ∃ q11, xm_fld h9 a0 8 0 = some (.ref q11) ∧ /- now -/
                    xm_Call K sX7_get 7 [.ref q11, .int x2, .int (1 : Int32)] h9 (xm_pi fun c13 h12 =>
                      (if (c10 - x3) < 0 then
                        P (some (.int (-5 : Int32))) h12
                      else
                        ∃ e14, xm_ld xm_st h12 0 (1000 + 1) (1 : Int32) = some e14 ∧
                        (if e14 < (c13 + x3) then
                          P (some (.int (-5 : Int32))) h12
                        else
                          ∃ q15, xm_fld h12 a0 8 0 = some (.ref q15) ∧ /- now -/
                          xm_Call K sX7_set 7 [.ref q15, .int x1, .int (1 : Int32), .int (c10 - x3)] h12 (xm_pv fun h16 =>
                            ∃ q17, xm_fld h16 a0 8 0 = some (.ref q17) ∧ /- now -/
                            xm_Call K sX7_set 7 [.ref q17, .int x2, .int (1 : Int32), .int (c13 + x3)] h16 (xm_pv fun h18 =>
                              ∃ q19, xm_fld h18 a0 8 5 = some (.ref q19) ∧ /- ledger -/
                              ∃ e20, xm_ld xm_st h18 0 q19 (5 : Int32) = some e20 ∧
                              ∃ h21, xm_sto h18 0 q19 (5 : Int32) (e20 + x3) = some h21 ∧
                              P (some (.int (c10 - x3))) h21)))))))))))))) :
    xm_Call K' sX8_gives 8 [.ref a0, .int x1, .int x2, .int x3] h P :=
  xm_call_of (C := kX8_gives) hK (by decide +kernel) rfl (Nat.le_of_ble_eq_true rfl) (Or.inr ⟨a0, hr.choose, rfl, hr.choose_spec⟩) (xX8_gives_0 H)

def kX8_led : List xm_I := [
  i_0 0 (.iload_n 1) 1 none,
  i_j 1 (.ifCond .lt 9) 3 none 5,
  i_0 4 (.iload_n 1) 1 none,
  i_v 5 (.bipush 6) 2 none 6 [],
  i_j 7 (.if_icmp .lt 7) 3 none 7,
  i_v 10 (.iconst (-1)) 1 none (-1) [],
  i_j 11 (.goto 9) 3 none 11,
  i_0 14 (.aload_n 0) 1 none,
  i_f 15 (.getfield 40) 3 none 8 5 [333] 1,
  i_0 18 (.iload_n 1) 1 none,
  i_0 19 (.iaload) 1 none,
  i_0 20 (.ireturn) 1 none]
set_option maxRecDepth 100000 in
theorem oX8_led : xm_ok sX8_led sX8_led.1.cls kX8_led = true := by decide +kernel
set_option maxRecDepth 100000 in
set_option maxHeartbeats 4000000 in
theorem xX8_led_0 {K : Nat} {h : xm_H} {P : Option Value → xm_H → Prop} {a0 : Nat} {x1 : Int32} (H :
    (if x1 < 0 then
      P (some (.int (-1 : Int32))) h
    else
      (if x1 < (6 : Int32) then
        ∃ q1, xm_fld h a0 8 5 = some (.ref q1) ∧ /- ledger -/
        ∃ e2, xm_ld xm_st h 0 q1 x1 = some e2 ∧
        P (some (.int e2)) h
      else
        P (some (.int (-1 : Int32))) h))) :
    xm_L K sX8_led kX8_led 0 [some (.ref a0), some (.int x1)] [] h P :=
  xm_run (fun _ _ h => h) oX8_led 11 0 0 0 [some (.ref a0), some (.int x1)] [] h H
set_option maxRecDepth 100000 in
theorem eX8_led {K K' : Nat} (hK : K < K') {h : xm_H} {P : Option Value → xm_H → Prop} {a0 : Nat} {x1 : Int32} (hr : ∃ fs, h[a0]? = some (.inr (8, fs))) (H :
    (if x1 < 0 then
      P (some (.int (-1 : Int32))) h
    else
      (if x1 < (6 : Int32) then
        ∃ q1, xm_fld h a0 8 5 = some (.ref q1) ∧ /- ledger -/
        ∃ e2, xm_ld xm_st h 0 q1 x1 = some e2 ∧
        P (some (.int e2)) h
      else
        P (some (.int (-1 : Int32))) h))) :
    xm_Call K' sX8_led 8 [.ref a0, .int x1] h P :=
  xm_call_of (C := kX8_led) hK (by decide +kernel) rfl (Nat.le_of_ble_eq_true rfl) (Or.inr ⟨a0, hr.choose, rfl, hr.choose_spec⟩) (xX8_led_0 H)

def kX8_image : List xm_I := [
  i_0 0 (.aload_n 0) 1 none,
  i_f 1 (.getfield 44) 3 none 8 6 [334] 1,
  i_0 4 (.aload_n 0) 1 none,
  i_f 5 (.getfield 10) 3 none 8 0 [328] 1,
  i_m 8 (.invokevirtual 182) 3 none 1 7 [595, 596, 597, 109, 598] 0 sX7_copy,
  i_0 11 (.aload_n 0) 1 none,
  i_f 12 (.getfield 40) 3 none 8 5 [333] 1,
  i_v 15 (.iconst 0) 1 none 0 [],
  i_0 16 (.aload_n 0) 1 none,
  i_f 17 (.getfield 47) 3 none 8 7 [335] 1,
  i_v 20 (.iconst 0) 1 none 0 [],
  i_v 21 (.bipush 6) 2 none 6 [],
  i_f 23 (.invokestatic 320) 3 none 0 0 [792, 427, 426, 118] 3,
  i_0 26 (.aload_n 0) 1 none,
  i_v 27 (.iconst 1) 1 none 1 [],
  i_f 28 (.putfield 50) 3 none 8 8 [336] 2,
  i_0 31 (.aload_n 0) 1 none,
  i_f 32 (.getfield 40) 3 none 8 5 [333] 1,
  i_v 35 (.iconst 2) 1 none 2 [],
  i_0 36 (.iaload) 1 none,
  i_0 37 (.ireturn) 1 none]
set_option maxRecDepth 100000 in
theorem oX8_image : xm_ok sX8_image sX8_image.1.cls kX8_image = true := by decide +kernel
set_option maxRecDepth 100000 in
set_option maxHeartbeats 4000000 in
theorem xX8_image_0 {K : Nat} {h : xm_H} {P : Option Value → xm_H → Prop} {a0 : Nat} (H :
    ∃ q1, xm_fld h a0 8 6 = some (.ref q1) ∧ /- kept -/
    ∃ q2, xm_fld h a0 8 0 = some (.ref q2) ∧ /- now -/
    xm_Call K sX7_copy 7 [.ref q1, .ref q2] h (xm_pv fun h3 =>
      ∃ q4, xm_fld h3 a0 8 5 = some (.ref q4) ∧ /- ledger -/
      ∃ q5, xm_fld h3 a0 8 7 = some (.ref q5) ∧ /- keptLedger -/
      ∃ h6, xm_cpI h3 q4 (0 : Int32) q5 (0 : Int32) (6 : Int32) = some h6 ∧
      ∃ h7, xm_put h6 a0 8 8 (.int (1 : Int32)) = some h7 ∧ /- imageThere -/
      ∃ q8, xm_fld h7 a0 8 5 = some (.ref q8) ∧ /- ledger -/
      ∃ e9, xm_ld xm_st h7 0 q8 (2 : Int32) = some e9 ∧
      P (some (.int e9)) h7)) :
    xm_L K sX8_image kX8_image 0 [some (.ref a0)] [] h P :=
  xm_run (fun _ _ h => h) oX8_image 22 0 0 0 [some (.ref a0)] [] h H
set_option maxRecDepth 100000 in
theorem eX8_image {K K' : Nat} (hK : K < K') {h : xm_H} {P : Option Value → xm_H → Prop} {a0 : Nat} (hr : ∃ fs, h[a0]? = some (.inr (8, fs))) (H :
    ∃ q1, xm_fld h a0 8 6 = some (.ref q1) ∧ /- kept -/
    ∃ q2, xm_fld h a0 8 0 = some (.ref q2) ∧ /- now -/
    xm_Call K sX7_copy 7 [.ref q1, .ref q2] h (xm_pv fun h3 =>
      ∃ q4, xm_fld h3 a0 8 5 = some (.ref q4) ∧ /- ledger -/
      ∃ q5, xm_fld h3 a0 8 7 = some (.ref q5) ∧ /- keptLedger -/
      ∃ h6, xm_cpI h3 q4 (0 : Int32) q5 (0 : Int32) (6 : Int32) = some h6 ∧
      ∃ h7, xm_put h6 a0 8 8 (.int (1 : Int32)) = some h7 ∧ /- imageThere -/
      ∃ q8, xm_fld h7 a0 8 5 = some (.ref q8) ∧ /- ledger -/
      ∃ e9, xm_ld xm_st h7 0 q8 (2 : Int32) = some e9 ∧
      P (some (.int e9)) h7)) :
    xm_Call K' sX8_image 8 [.ref a0] h P :=
  xm_call_of (C := kX8_image) hK (by decide +kernel) rfl (Nat.le_of_ble_eq_true rfl) (Or.inr ⟨a0, hr.choose, rfl, hr.choose_spec⟩) (xX8_image_0 H)

def kX8_back : List xm_I := [
  i_0 0 (.aload_n 0) 1 none,
  i_f 1 (.getfield 50) 3 none 8 8 [336] 0,
  i_j 4 (.ifCond .ne 6) 3 none 5,
  i_v 7 (.bipush (-5)) 2 none (-5) [],
  i_0 9 (.ireturn) 1 none,
  i_v 10 (.iconst 0) 1 none 0 [],
  i_0 11 (.istore_n 1) 1 none,
  i_0 12 (.iload_n 1) 1 (some [true, true]),
  i_0 13 (.aload_n 0) 1 none,
  i_f 14 (.getfield 44) 3 none 8 6 [334] 1,
  i_f 17 (.getfield 89) 3 none 7 1 [140] 0,
  i_j 20 (.if_icmp .ge 81) 3 none 54,
  i_0 23 (.aload_n 0) 1 none,
  i_f 24 (.getfield 10) 3 none 8 0 [328] 1,
  i_0 27 (.iload_n 1) 1 none,
  i_v 28 (.iconst 1) 1 none 1 [],
  i_0 29 (.aload_n 0) 1 none,
  i_f 30 (.getfield 44) 3 none 8 6 [334] 1,
  i_0 33 (.iload_n 1) 1 none,
  i_v 34 (.iconst 1) 1 none 1 [],
  i_m 35 (.invokevirtual 188) 3 none 2 7 [605, 509, 510, 109, 511] 0 sX7_get,
  i_m 38 (.invokevirtual 185) 3 none 3 7 [600, 385, 386, 109, 387] 0 sX7_set,
  i_0 41 (.aload_n 0) 1 none,
  i_f 42 (.getfield 10) 3 none 8 0 [328] 1,
  i_0 45 (.iload_n 1) 1 none,
  i_v 46 (.iconst 2) 1 none 2 [],
  i_0 47 (.aload_n 0) 1 none,
  i_f 48 (.getfield 44) 3 none 8 6 [334] 1,
  i_0 51 (.iload_n 1) 1 none,
  i_v 52 (.iconst 2) 1 none 2 [],
  i_m 53 (.invokevirtual 188) 3 none 2 7 [605, 509, 510, 109, 511] 0 sX7_get,
  i_m 56 (.invokevirtual 185) 3 none 3 7 [600, 385, 386, 109, 387] 0 sX7_set,
  i_0 59 (.aload_n 0) 1 none,
  i_f 60 (.getfield 10) 3 none 8 0 [328] 1,
  i_0 63 (.iload_n 1) 1 none,
  i_v 64 (.iconst 3) 1 none 3 [],
  i_0 65 (.aload_n 0) 1 none,
  i_f 66 (.getfield 44) 3 none 8 6 [334] 1,
  i_0 69 (.iload_n 1) 1 none,
  i_v 70 (.iconst 3) 1 none 3 [],
  i_m 71 (.invokevirtual 188) 3 none 2 7 [605, 509, 510, 109, 511] 0 sX7_get,
  i_m 74 (.invokevirtual 185) 3 none 3 7 [600, 385, 386, 109, 387] 0 sX7_set,
  i_0 77 (.aload_n 0) 1 none,
  i_f 78 (.getfield 10) 3 none 8 0 [328] 1,
  i_0 81 (.iload_n 1) 1 none,
  i_v 82 (.iconst 5) 1 none 5 [],
  i_0 83 (.aload_n 0) 1 none,
  i_f 84 (.getfield 44) 3 none 8 6 [334] 1,
  i_0 87 (.iload_n 1) 1 none,
  i_v 88 (.iconst 5) 1 none 5 [],
  i_m 89 (.invokevirtual 188) 3 none 2 7 [605, 509, 510, 109, 511] 0 sX7_get,
  i_m 92 (.invokevirtual 185) 3 none 3 7 [600, 385, 386, 109, 387] 0 sX7_set,
  i_v 95 (.iinc 1 1) 3 none 1 [],
  i_j 98 (.goto (-86)) 3 none 7,
  i_0 101 (.aload_n 0) 1 none,
  i_f 102 (.getfield 10) 3 none 8 0 [328] 1,
  i_v 105 (.iconst 0) 1 none 0 [],
  i_v 106 (.bipush 8) 2 none 8 [],
  i_0 108 (.aload_n 0) 1 none,
  i_f 109 (.getfield 44) 3 none 8 6 [334] 1,
  i_v 112 (.iconst 0) 1 none 0 [],
  i_v 113 (.bipush 8) 2 none 8 [],
  i_m 115 (.invokevirtual 188) 3 none 2 7 [605, 509, 510, 109, 511] 0 sX7_get,
  i_m 118 (.invokevirtual 185) 3 none 3 7 [600, 385, 386, 109, 387] 0 sX7_set,
  i_0 121 (.aload_n 0) 1 none,
  i_f 122 (.getfield 47) 3 none 8 7 [335] 1,
  i_v 125 (.iconst 0) 1 none 0 [],
  i_0 126 (.aload_n 0) 1 none,
  i_f 127 (.getfield 40) 3 none 8 5 [333] 1,
  i_v 130 (.iconst 0) 1 none 0 [],
  i_v 131 (.bipush 6) 2 none 6 [],
  i_f 133 (.invokestatic 320) 3 none 0 0 [792, 427, 426, 118] 3,
  i_0 136 (.aload_n 0) 1 none,
  i_f 137 (.getfield 40) 3 none 8 5 [333] 1,
  i_v 140 (.iconst 2) 1 none 2 [],
  i_0 141 (.iaload) 1 none,
  i_0 142 (.ireturn) 1 none]
set_option maxRecDepth 100000 in
theorem oX8_back : xm_ok sX8_back sX8_back.1.cls kX8_back = true := by decide +kernel
set_option maxRecDepth 100000 in
set_option maxHeartbeats 4000000 in
theorem xX8_back_0 {K : Nat} {h : xm_H} {P : Option Value → xm_H → Prop} {a0 : Nat} (H :
    ∃ f1, xm_fld h a0 8 8 = some (.int f1) ∧ /- imageThere -/
    (if f1 = 0 then
      P (some (.int (-5 : Int32))) h
    else
      xm_L K sX8_back kX8_back 7 [some (.ref a0), some (.int (0 : Int32))] [] h P)) :
    xm_L K sX8_back kX8_back 0 [some (.ref a0), none] [] h P :=
  xm_run (fun _ _ h => h) oX8_back 6 0 0 0 [some (.ref a0), none] [] h H
set_option maxRecDepth 100000 in
theorem eX8_back {K K' : Nat} (hK : K < K') {h : xm_H} {P : Option Value → xm_H → Prop} {a0 : Nat} (hr : ∃ fs, h[a0]? = some (.inr (8, fs))) (H :
    ∃ f1, xm_fld h a0 8 8 = some (.int f1) ∧ /- imageThere -/
    (if f1 = 0 then
      P (some (.int (-5 : Int32))) h
    else
      xm_L K sX8_back kX8_back 7 [some (.ref a0), some (.int (0 : Int32))] [] h P)) :
    xm_Call K' sX8_back 8 [.ref a0] h P :=
  xm_call_of (C := kX8_back) hK (by decide +kernel) rfl (Nat.le_of_ble_eq_true rfl) (Or.inr ⟨a0, hr.choose, rfl, hr.choose_spec⟩) (xX8_back_0 H)

set_option maxRecDepth 100000 in
set_option maxHeartbeats 4000000 in
theorem xX8_back_7 {K : Nat} {h : xm_H} {P : Option Value → xm_H → Prop} {a0 : Nat} {x1 : Int32} (H :
    ∃ q1, xm_fld h a0 8 6 = some (.ref q1) ∧ /- kept -/
    ∃ f2, xm_fld h q1 7 1 = some (.int f2) ∧ /- people -/
    (if x1 < f2 then
      ∃ q3, xm_fld h a0 8 0 = some (.ref q3) ∧ /- now -/
      ∃ q4, xm_fld h a0 8 6 = some (.ref q4) ∧ /- kept -/
      xm_Call K sX7_get 7 [.ref q4, .int x1, .int (1 : Int32)] h (xm_pi fun c6 h5 =>
        xm_Call K sX7_set 7 [.ref q3, .int x1, .int (1 : Int32), .int c6] h5 (xm_pv fun h7 =>
          ∃ q8, xm_fld h7 a0 8 0 = some (.ref q8) ∧ /- now -/
          ∃ q9, xm_fld h7 a0 8 6 = some (.ref q9) ∧ /- kept -/
          xm_Call K sX7_get 7 [.ref q9, .int x1, .int (2 : Int32)] h7 (xm_pi fun c11 h10 =>
            xm_Call K sX7_set 7 [.ref q8, .int x1, .int (2 : Int32), .int c11] h10 (xm_pv fun h12 =>
              ∃ q13, xm_fld h12 a0 8 0 = some (.ref q13) ∧ /- now -/
              ∃ q14, xm_fld h12 a0 8 6 = some (.ref q14) ∧ /- kept -/
              xm_Call K sX7_get 7 [.ref q14, .int x1, .int (3 : Int32)] h12 (xm_pi fun c16 h15 =>
                xm_Call K sX7_set 7 [.ref q13, .int x1, .int (3 : Int32), .int c16] h15 (xm_pv fun h17 =>
                  ∃ q18, xm_fld h17 a0 8 0 = some (.ref q18) ∧ /- now -/
                  ∃ q19, xm_fld h17 a0 8 6 = some (.ref q19) ∧ /- kept -/
                  xm_Call K sX7_get 7 [.ref q19, .int x1, .int (5 : Int32)] h17 (xm_pi fun c21 h20 =>
                    xm_Call K sX7_set 7 [.ref q18, .int x1, .int (5 : Int32), .int c21] h20 (xm_pv fun h22 =>
                      xm_L K sX8_back kX8_back 7 [some (.ref a0), some (.int (x1 + (1 : Int32)))] [] h22 P))))))))
    else
      ∃ q23, xm_fld h a0 8 0 = some (.ref q23) ∧ /- now -/
      ∃ q24, xm_fld h a0 8 6 = some (.ref q24) ∧ /- kept -/
      xm_Call K sX7_get 7 [.ref q24, .int (0 : Int32), .int (8 : Int32)] h (xm_pi fun c26 h25 =>
        xm_Call K sX7_set 7 [.ref q23, .int (0 : Int32), .int (8 : Int32), .int c26] h25 (xm_pv fun h27 =>
          ∃ q28, xm_fld h27 a0 8 7 = some (.ref q28) ∧ /- keptLedger -/
          ∃ q29, xm_fld h27 a0 8 5 = some (.ref q29) ∧ /- ledger -/
          ∃ h30, xm_cpI h27 q28 (0 : Int32) q29 (0 : Int32) (6 : Int32) = some h30 ∧
          ∃ q31, xm_fld h30 a0 8 5 = some (.ref q31) ∧ /- ledger -/
          ∃ e32, xm_ld xm_st h30 0 q31 (2 : Int32) = some e32 ∧
          P (some (.int e32)) h30)))) :
    xm_L K sX8_back kX8_back 7 [some (.ref a0), some (.int x1)] [] h P :=
  xm_run (fun _ _ h => h) oX8_back 48 7 0 0 [some (.ref a0), some (.int x1)] [] h H

