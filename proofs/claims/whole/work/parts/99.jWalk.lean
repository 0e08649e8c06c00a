set_option maxRecDepth 100000 in
set_option maxHeartbeats 4000000 in
theorem xL_law_0 {O : xm_O} (hO : ∀ j q, xm_st j = some q → O j = some q) {K : Nat} {h : xm_H} {P : Option Value → xm_H → Prop} {a0 : Nat} (H :
    (0 + 1 ≤ 600000 ∧ 0 + 13 ≤ 7302250) ∧ xm_va h [some (.ref a0), none, none, none] [] 1 ∧
    (1 + 43 ≤ 600000 ∧ 13 + 2433 ≤ 7302250 ∧ 2 ≤ 45) ∧ xm_va (h ++ [.inr (8, xm_df 8)]) [some (.ref a0), none, none, none] [.ref (List.length h)] 43 ∧
    xm_Call K sX8_init 8 [.ref (List.length h)] (h ++ [.inr (8, xm_df 8)]) (xm_pv fun h1 =>
      (44 + 1 ≤ 600000 ∧ 2446 + 58 ≤ 7302250) ∧ xm_va h1 [some (.ref a0), some (.ref (List.length h)), none, none] [] 1 ∧
      (45 + 36 ≤ 600000 ∧ 2504 + 1847 ≤ 7302250 ∧ 1 ≤ 45) ∧ xm_va (h1 ++ [.inr (9, xm_df 9)]) [some (.ref a0), some (.ref (List.length h)), none, none] [.ref (List.length h1)] 36 ∧
      xm_Call K sX9_init 9 [.ref (List.length h1)] (h1 ++ [.inr (9, xm_df 9)]) (xm_pv fun h2 =>
        xm_At O K sL_law RL kL_law 10 81 4351 [some (.ref a0), some (.ref (List.length h)), some (.ref (List.length h1)), some (.int (0 : Int32))] [] h2 P))) :
    xm_At O K sL_law RL kL_law 0 0 0 [some (.ref a0), none, none, none] [] h P :=
  xm_run hO oL_law 11 0 0 0 [some (.ref a0), none, none, none] [] h H

set_option maxRecDepth 100000 in
set_option maxHeartbeats 4000000 in
theorem xL_law_10 {O : xm_O} (hO : ∀ j q, xm_st j = some q → O j = some q) {K : Nat} {h : xm_H} {P : Option Value → xm_H → Prop} {a0 : Nat} {a1 : Nat} {a2 : Nat} {x3 : Int32} (H :
    ∃ n1, xm_len O h a0 = some n1 ∧
    (if (n1 - (6 : Int32)) < x3 then
      P (some (.int (1 : Int32))) h
    else
      ∃ e2, xm_ld O h 0 a0 x3 = some e2 ∧
      (if (e2 &&& (63 : Int32)) = 0 then
        xm_At O K sL_law RL kL_law 22 81 4351 [some (.ref a0), some (.ref a1), some (.ref a2), some (.int x3)] [] h P
      else
      (if (e2 &&& (63 : Int32)) = 1 then
        xm_At O K sL_law RL kL_law 39 81 4351 [some (.ref a0), some (.ref a1), some (.ref a2), some (.int x3)] [] h P
      else
      (if (e2 &&& (63 : Int32)) = 2 then
        xm_At O K sL_law RL kL_law 76 81 4351 [some (.ref a0), some (.ref a1), some (.ref a2), some (.int x3)] [] h P
      else
      (if (e2 &&& (63 : Int32)) = 3 then
        xm_At O K sL_law RL kL_law 113 81 4351 [some (.ref a0), some (.ref a1), some (.ref a2), some (.int x3)] [] h P
      else
      (if (e2 &&& (63 : Int32)) = 4 then
        xm_At O K sL_law RL kL_law 140 81 4351 [some (.ref a0), some (.ref a1), some (.ref a2), some (.int x3)] [] h P
      else
      (if (e2 &&& (63 : Int32)) = 5 then
        xm_At O K sL_law RL kL_law 157 81 4351 [some (.ref a0), some (.ref a1), some (.ref a2), some (.int x3)] [] h P
      else
      (if (e2 &&& (63 : Int32)) = 6 then
        xm_At O K sL_law RL kL_law 164 81 4351 [some (.ref a0), some (.ref a1), some (.ref a2), some (.int x3)] [] h P
      else
      (if (e2 &&& (63 : Int32)) = 7 then
        xm_At O K sL_law RL kL_law 181 81 4351 [some (.ref a0), some (.ref a1), some (.ref a2), some (.int x3)] [] h P
      else
      (if (e2 &&& (63 : Int32)) = 8 then
        xm_At O K sL_law RL kL_law 198 81 4351 [some (.ref a0), some (.ref a1), some (.ref a2), some (.int x3)] [] h P
      else
      (if (e2 &&& (63 : Int32)) = 9 then
        xm_At O K sL_law RL kL_law 215 81 4351 [some (.ref a0), some (.ref a1), some (.ref a2), some (.int x3)] [] h P
      else
      (if (e2 &&& (63 : Int32)) = 10 then
        xm_At O K sL_law RL kL_law 232 81 4351 [some (.ref a0), some (.ref a1), some (.ref a2), some (.int x3)] [] h P
      else
      (if (e2 &&& (63 : Int32)) = 11 then
        xm_At O K sL_law RL kL_law 259 81 4351 [some (.ref a0), some (.ref a1), some (.ref a2), some (.int x3)] [] h P
      else
      (if (e2 &&& (63 : Int32)) = 12 then
        xm_At O K sL_law RL kL_law 266 81 4351 [some (.ref a0), some (.ref a1), some (.ref a2), some (.int x3)] [] h P
      else
      (if (e2 &&& (63 : Int32)) = 13 then
        xm_At O K sL_law RL kL_law 283 81 4351 [some (.ref a0), some (.ref a1), some (.ref a2), some (.int x3)] [] h P
      else
      (if (e2 &&& (63 : Int32)) = 14 then
        xm_At O K sL_law RL kL_law 290 81 4351 [some (.ref a0), some (.ref a1), some (.ref a2), some (.int x3)] [] h P
      else
      (if (e2 &&& (63 : Int32)) = 15 then
        xm_At O K sL_law RL kL_law 317 81 4351 [some (.ref a0), some (.ref a1), some (.ref a2), some (.int x3)] [] h P
      else
      (if (e2 &&& (63 : Int32)) = 16 then
        xm_At O K sL_law RL kL_law 324 81 4351 [some (.ref a0), some (.ref a1), some (.ref a2), some (.int x3)] [] h P
      else
      (if (e2 &&& (63 : Int32)) = 17 then
        xm_At O K sL_law RL kL_law 361 81 4351 [some (.ref a0), some (.ref a1), some (.ref a2), some (.int x3)] [] h P
      else
      (if (e2 &&& (63 : Int32)) = 18 then
        xm_At O K sL_law RL kL_law 378 81 4351 [some (.ref a0), some (.ref a1), some (.ref a2), some (.int x3)] [] h P
      else
      (if (e2 &&& (63 : Int32)) = 19 then
        xm_At O K sL_law RL kL_law 415 81 4351 [some (.ref a0), some (.ref a1), some (.ref a2), some (.int x3)] [] h P
      else
      (if (e2 &&& (63 : Int32)) = 20 then
        xm_At O K sL_law RL kL_law 432 81 4351 [some (.ref a0), some (.ref a1), some (.ref a2), some (.int x3)] [] h P
      else
      (if (e2 &&& (63 : Int32)) = 21 then
        xm_At O K sL_law RL kL_law 469 81 4351 [some (.ref a0), some (.ref a1), some (.ref a2), some (.int x3)] [] h P
      else
      (if (e2 &&& (63 : Int32)) = 22 then
        xm_At O K sL_law RL kL_law 486 81 4351 [some (.ref a0), some (.ref a1), some (.ref a2), some (.int x3)] [] h P
      else
      (if (e2 &&& (63 : Int32)) = 23 then
        xm_At O K sL_law RL kL_law 523 81 4351 [some (.ref a0), some (.ref a1), some (.ref a2), some (.int x3)] [] h P
      else
      (if (e2 &&& (63 : Int32)) = 24 then
        xm_At O K sL_law RL kL_law 560 81 4351 [some (.ref a0), some (.ref a1), some (.ref a2), some (.int x3)] [] h P
      else
      (if (e2 &&& (63 : Int32)) = 25 then
        xm_At O K sL_law RL kL_law 587 81 4351 [some (.ref a0), some (.ref a1), some (.ref a2), some (.int x3)] [] h P
      else
      (if (e2 &&& (63 : Int32)) = 26 then
        xm_At O K sL_law RL kL_law 614 81 4351 [some (.ref a0), some (.ref a1), some (.ref a2), some (.int x3)] [] h P
      else
      (if (e2 &&& (63 : Int32)) = 27 then
        xm_At O K sL_law RL kL_law 621 81 4351 [some (.ref a0), some (.ref a1), some (.ref a2), some (.int x3)] [] h P
      else
      (if (e2 &&& (63 : Int32)) = 28 then
        xm_At O K sL_law RL kL_law 658 81 4351 [some (.ref a0), some (.ref a1), some (.ref a2), some (.int x3)] [] h P
      else
      (if (e2 &&& (63 : Int32)) = 29 then
        xm_At O K sL_law RL kL_law 675 81 4351 [some (.ref a0), some (.ref a1), some (.ref a2), some (.int x3)] [] h P
      else
      (if (e2 &&& (63 : Int32)) = 30 then
        xm_At O K sL_law RL kL_law 682 81 4351 [some (.ref a0), some (.ref a1), some (.ref a2), some (.int x3)] [] h P
      else
      (if (e2 &&& (63 : Int32)) = 31 then
        xm_At O K sL_law RL kL_law 689 81 4351 [some (.ref a0), some (.ref a1), some (.ref a2), some (.int x3)] [] h P
      else
      (if (e2 &&& (63 : Int32)) = 32 then
        xm_At O K sL_law RL kL_law 696 81 4351 [some (.ref a0), some (.ref a1), some (.ref a2), some (.int x3)] [] h P
      else
      (if (e2 &&& (63 : Int32)) = 33 then
        xm_At O K sL_law RL kL_law 703 81 4351 [some (.ref a0), some (.ref a1), some (.ref a2), some (.int x3)] [] h P
      else
      (if (e2 &&& (63 : Int32)) = 34 then
        xm_At O K sL_law RL kL_law 720 81 4351 [some (.ref a0), some (.ref a1), some (.ref a2), some (.int x3)] [] h P
      else
      (if (e2 &&& (63 : Int32)) = 35 then
        xm_At O K sL_law RL kL_law 757 81 4351 [some (.ref a0), some (.ref a1), some (.ref a2), some (.int x3)] [] h P
      else
      (if (e2 &&& (63 : Int32)) = 36 then
        xm_At O K sL_law RL kL_law 774 81 4351 [some (.ref a0), some (.ref a1), some (.ref a2), some (.int x3)] [] h P
      else
      (if (e2 &&& (63 : Int32)) = 37 then
        xm_At O K sL_law RL kL_law 801 81 4351 [some (.ref a0), some (.ref a1), some (.ref a2), some (.int x3)] [] h P
      else
      (if (e2 &&& (63 : Int32)) = 38 then
        xm_At O K sL_law RL kL_law 838 81 4351 [some (.ref a0), some (.ref a1), some (.ref a2), some (.int x3)] [] h P
      else
      (if (e2 &&& (63 : Int32)) = 39 then
        xm_At O K sL_law RL kL_law 899 81 4351 [some (.ref a0), some (.ref a1), some (.ref a2), some (.int x3)] [] h P
      else
      (if (e2 &&& (63 : Int32)) = 40 then
        xm_At O K sL_law RL kL_law 927 81 4351 [some (.ref a0), some (.ref a1), some (.ref a2), some (.int x3)] [] h P
      else
      (if (e2 &&& (63 : Int32)) = 41 then
        xm_At O K sL_law RL kL_law 984 81 4351 [some (.ref a0), some (.ref a1), some (.ref a2), some (.int x3)] [] h P
      else
      (if (e2 &&& (63 : Int32)) = 42 then
        xm_At O K sL_law RL kL_law 1011 81 4351 [some (.ref a0), some (.ref a1), some (.ref a2), some (.int x3)] [] h P
      else
      xm_At O K sL_law RL kL_law 10 81 4351 [some (.ref a0), some (.ref a1), some (.ref a2), some (.int (x3 + (6 : Int32)))] [] h P))))))))))))))))))))))))))))))))))))))))))))) :
    xm_At O K sL_law RL kL_law 10 81 4351 [some (.ref a0), some (.ref a1), some (.ref a2), some (.int x3)] [] h P :=
  xm_run hO oL_law 15 10 81 4351 [some (.ref a0), some (.ref a1), some (.ref a2), some (.int x3)] [] h H

set_option maxRecDepth 100000 in
set_option maxHeartbeats 4000000 in
theorem xL_law_22 {O : xm_O} (hO : ∀ j q, xm_st j = some q → O j = some q) {K : Nat} {h : xm_H} {P : Option Value → xm_H → Prop} {a0 : Nat} {a1 : Nat} {a2 : Nat} {x3 : Int32} (H :
    ∃ e1, xm_ld O h 0 a0 (x3 + (1 : Int32)) = some e1 ∧
    xm_Call K sX8_person 8 [.ref a1, .int e1] h (xm_pi fun c3 h2 =>
      ∃ e4, xm_ld O h2 0 a0 (x3 + (1 : Int32)) = some e4 ∧
      xm_Call K sX9_person 9 [.ref a2, .int e4] h2 (xm_pi fun c6 h5 =>
        (if c3 = c6 then
          xm_At O K sL_law RL kL_law 10 81 4351 [some (.ref a0), some (.ref a1), some (.ref a2), some (.int (x3 + (6 : Int32)))] [] h5 P
        else
          P (some (.int (0 : Int32))) h5)))) :
    xm_At O K sL_law RL kL_law 22 81 4351 [some (.ref a0), some (.ref a1), some (.ref a2), some (.int x3)] [] h P :=
  xm_run hO oL_law 18 22 81 4351 [some (.ref a0), some (.ref a1), some (.ref a2), some (.int x3)] [] h H

set_option maxRecDepth 100000 in
set_option maxHeartbeats 4000000 in
theorem xL_law_39 {O : xm_O} (hO : ∀ j q, xm_st j = some q → O j = some q) {K : Nat} {h : xm_H} {P : Option Value → xm_H → Prop} {a0 : Nat} {a1 : Nat} {a2 : Nat} {x3 : Int32} (H :
    ∃ e1, xm_ld O h 0 a0 (x3 + (1 : Int32)) = some e1 ∧
    ∃ e2, xm_ld O h 0 a0 (x3 + (2 : Int32)) = some e2 ∧
    ∃ e3, xm_ld O h 0 a0 (x3 + (3 : Int32)) = some e3 ∧
    xm_Call K sX8_people 8 [.ref a1, .int e1, .int e2, .int e3] h (xm_pi fun c5 h4 =>
      ∃ e6, xm_ld O h4 0 a0 (x3 + (1 : Int32)) = some e6 ∧
      ∃ e7, xm_ld O h4 0 a0 (x3 + (2 : Int32)) = some e7 ∧
      ∃ e8, xm_ld O h4 0 a0 (x3 + (3 : Int32)) = some e8 ∧
      xm_Call K sX9_people 9 [.ref a2, .int e6, .int e7, .int e8] h4 (xm_pi fun c10 h9 =>
        (if c5 = c10 then
          xm_At O K sL_law RL kL_law 10 81 4351 [some (.ref a0), some (.ref a1), some (.ref a2), some (.int (x3 + (6 : Int32)))] [] h9 P
        else
          P (some (.int (0 : Int32))) h9)))) :
    xm_At O K sL_law RL kL_law 39 81 4351 [some (.ref a0), some (.ref a1), some (.ref a2), some (.int x3)] [] h P :=
  xm_run hO oL_law 38 39 81 4351 [some (.ref a0), some (.ref a1), some (.ref a2), some (.int x3)] [] h H

set_option maxRecDepth 100000 in
set_option maxHeartbeats 4000000 in
theorem xL_law_76 {O : xm_O} (hO : ∀ j q, xm_st j = some q → O j = some q) {K : Nat} {h : xm_H} {P : Option Value → xm_H → Prop} {a0 : Nat} {a1 : Nat} {a2 : Nat} {x3 : Int32} (H :
    ∃ e1, xm_ld O h 0 a0 (x3 + (1 : Int32)) = some e1 ∧
    ∃ e2, xm_ld O h 0 a0 (x3 + (2 : Int32)) = some e2 ∧
    ∃ e3, xm_ld O h 0 a0 (x3 + (3 : Int32)) = some e3 ∧
    xm_Call K sX8_mend 8 [.ref a1, .int e1, .int e2, .int e3] h (xm_pi fun c5 h4 =>
      ∃ e6, xm_ld O h4 0 a0 (x3 + (1 : Int32)) = some e6 ∧
      ∃ e7, xm_ld O h4 0 a0 (x3 + (2 : Int32)) = some e7 ∧
      ∃ e8, xm_ld O h4 0 a0 (x3 + (3 : Int32)) = some e8 ∧
      xm_Call K sX9_mend 9 [.ref a2, .int e6, .int e7, .int e8] h4 (xm_pi fun c10 h9 =>
        (if c5 = c10 then
          xm_At O K sL_law RL kL_law 10 81 4351 [some (.ref a0), some (.ref a1), some (.ref a2), some (.int (x3 + (6 : Int32)))] [] h9 P
        else
          P (some (.int (0 : Int32))) h9)))) :
    xm_At O K sL_law RL kL_law 76 81 4351 [some (.ref a0), some (.ref a1), some (.ref a2), some (.int x3)] [] h P :=
  xm_run hO oL_law 38 76 81 4351 [some (.ref a0), some (.ref a1), some (.ref a2), some (.int x3)] [] h H

set_option maxRecDepth 100000 in
set_option maxHeartbeats 4000000 in
theorem xL_law_113 {O : xm_O} (hO : ∀ j q, xm_st j = some q → O j = some q) {K : Nat} {h : xm_H} {P : Option Value → xm_H → Prop} {a0 : Nat} {a1 : Nat} {a2 : Nat} {x3 : Int32} (H :
    ∃ e1, xm_ld O h 0 a0 (x3 + (1 : Int32)) = some e1 ∧
    ∃ e2, xm_ld O h 0 a0 (x3 + (2 : Int32)) = some e2 ∧
    xm_Call K sX8_of 8 [.ref a1, .int e1, .int e2] h (xm_pi fun c4 h3 =>
      ∃ e5, xm_ld O h3 0 a0 (x3 + (1 : Int32)) = some e5 ∧
      ∃ e6, xm_ld O h3 0 a0 (x3 + (2 : Int32)) = some e6 ∧
      xm_Call K sX9_of 9 [.ref a2, .int e5, .int e6] h3 (xm_pi fun c8 h7 =>
        (if c4 = c8 then
          xm_At O K sL_law RL kL_law 10 81 4351 [some (.ref a0), some (.ref a1), some (.ref a2), some (.int (x3 + (6 : Int32)))] [] h7 P
        else
          P (some (.int (0 : Int32))) h7)))) :
    xm_At O K sL_law RL kL_law 113 81 4351 [some (.ref a0), some (.ref a1), some (.ref a2), some (.int x3)] [] h P :=
  xm_run hO oL_law 28 113 81 4351 [some (.ref a0), some (.ref a1), some (.ref a2), some (.int x3)] [] h H

set_option maxRecDepth 100000 in
set_option maxHeartbeats 4000000 in
theorem xL_law_140 {O : xm_O} (hO : ∀ j q, xm_st j = some q → O j = some q) {K : Nat} {h : xm_H} {P : Option Value → xm_H → Prop} {a0 : Nat} {a1 : Nat} {a2 : Nat} {x3 : Int32} (H :
    ∃ e1, xm_ld O h 0 a0 (x3 + (1 : Int32)) = some e1 ∧
    xm_Call K sX8_feed 8 [.ref a1, .int e1] h (xm_pi fun c3 h2 =>
      ∃ e4, xm_ld O h2 0 a0 (x3 + (1 : Int32)) = some e4 ∧
      xm_Call K sX9_feed 9 [.ref a2, .int e4] h2 (xm_pi fun c6 h5 =>
        (if c3 = c6 then
          xm_At O K sL_law RL kL_law 10 81 4351 [some (.ref a0), some (.ref a1), some (.ref a2), some (.int (x3 + (6 : Int32)))] [] h5 P
        else
          P (some (.int (0 : Int32))) h5)))) :
    xm_At O K sL_law RL kL_law 140 81 4351 [some (.ref a0), some (.ref a1), some (.ref a2), some (.int x3)] [] h P :=
  xm_run hO oL_law 18 140 81 4351 [some (.ref a0), some (.ref a1), some (.ref a2), some (.int x3)] [] h H

set_option maxRecDepth 100000 in
set_option maxHeartbeats 4000000 in
theorem xL_law_157 {O : xm_O} (hO : ∀ j q, xm_st j = some q → O j = some q) {K : Nat} {h : xm_H} {P : Option Value → xm_H → Prop} {a0 : Nat} {a1 : Nat} {a2 : Nat} {x3 : Int32} (H :
    xm_Call K sX8_law 8 [.ref a1] h (xm_pi fun c2 h1 =>
      xm_Call K sX9_law 9 [.ref a2] h1 (xm_pi fun c4 h3 =>
        (if c2 = c4 then
          xm_At O K sL_law RL kL_law 10 81 4351 [some (.ref a0), some (.ref a1), some (.ref a2), some (.int (x3 + (6 : Int32)))] [] h3 P
        else
          P (some (.int (0 : Int32))) h3)))) :
    xm_At O K sL_law RL kL_law 157 81 4351 [some (.ref a0), some (.ref a1), some (.ref a2), some (.int x3)] [] h P :=
  xm_run hO oL_law 8 157 81 4351 [some (.ref a0), some (.ref a1), some (.ref a2), some (.int x3)] [] h H

set_option maxRecDepth 100000 in
set_option maxHeartbeats 4000000 in
theorem xL_law_164 {O : xm_O} (hO : ∀ j q, xm_st j = some q → O j = some q) {K : Nat} {h : xm_H} {P : Option Value → xm_H → Prop} {a0 : Nat} {a1 : Nat} {a2 : Nat} {x3 : Int32} (H :
    ∃ e1, xm_ld O h 0 a0 (x3 + (1 : Int32)) = some e1 ∧
    xm_Call K sX8_counts 8 [.ref a1, .int e1] h (xm_pi fun c3 h2 =>
      ∃ e4, xm_ld O h2 0 a0 (x3 + (1 : Int32)) = some e4 ∧
      xm_Call K sX9_counts 9 [.ref a2, .int e4] h2 (xm_pi fun c6 h5 =>
        (if c3 = c6 then
          xm_At O K sL_law RL kL_law 10 81 4351 [some (.ref a0), some (.ref a1), some (.ref a2), some (.int (x3 + (6 : Int32)))] [] h5 P
        else
          P (some (.int (0 : Int32))) h5)))) :
    xm_At O K sL_law RL kL_law 164 81 4351 [some (.ref a0), some (.ref a1), some (.ref a2), some (.int x3)] [] h P :=
  xm_run hO oL_law 18 164 81 4351 [some (.ref a0), some (.ref a1), some (.ref a2), some (.int x3)] [] h H

set_option maxRecDepth 100000 in
set_option maxHeartbeats 4000000 in
theorem xL_law_181 {O : xm_O} (hO : ∀ j q, xm_st j = some q → O j = some q) {K : Nat} {h : xm_H} {P : Option Value → xm_H → Prop} {a0 : Nat} {a1 : Nat} {a2 : Nat} {x3 : Int32} (H :
    ∃ e1, xm_ld O h 0 a0 (x3 + (1 : Int32)) = some e1 ∧
    xm_Call K sX8_bill 8 [.ref a1, .int e1] h (xm_pi fun c3 h2 =>
      ∃ e4, xm_ld O h2 0 a0 (x3 + (1 : Int32)) = some e4 ∧
      xm_Call K sX9_bill 9 [.ref a2, .int e4] h2 (xm_pi fun c6 h5 =>
        (if c3 = c6 then
          xm_At O K sL_law RL kL_law 10 81 4351 [some (.ref a0), some (.ref a1), some (.ref a2), some (.int (x3 + (6 : Int32)))] [] h5 P
        else
          P (some (.int (0 : Int32))) h5)))) :
    xm_At O K sL_law RL kL_law 181 81 4351 [some (.ref a0), some (.ref a1), some (.ref a2), some (.int x3)] [] h P :=
  xm_run hO oL_law 18 181 81 4351 [some (.ref a0), some (.ref a1), some (.ref a2), some (.int x3)] [] h H

set_option maxRecDepth 100000 in
set_option maxHeartbeats 4000000 in
theorem xL_law_198 {O : xm_O} (hO : ∀ j q, xm_st j = some q → O j = some q) {K : Nat} {h : xm_H} {P : Option Value → xm_H → Prop} {a0 : Nat} {a1 : Nat} {a2 : Nat} {x3 : Int32} (H :
    ∃ e1, xm_ld O h 0 a0 (x3 + (1 : Int32)) = some e1 ∧
    xm_Call K sX8_share 8 [.ref a1, .int e1] h (xm_pi fun c3 h2 =>
      ∃ e4, xm_ld O h2 0 a0 (x3 + (1 : Int32)) = some e4 ∧
      xm_Call K sX9_share 9 [.ref a2, .int e4] h2 (xm_pi fun c6 h5 =>
        (if c3 = c6 then
          xm_At O K sL_law RL kL_law 10 81 4351 [some (.ref a0), some (.ref a1), some (.ref a2), some (.int (x3 + (6 : Int32)))] [] h5 P
        else
          P (some (.int (0 : Int32))) h5)))) :
    xm_At O K sL_law RL kL_law 198 81 4351 [some (.ref a0), some (.ref a1), some (.ref a2), some (.int x3)] [] h P :=
  xm_run hO oL_law 18 198 81 4351 [some (.ref a0), some (.ref a1), some (.ref a2), some (.int x3)] [] h H

set_option maxRecDepth 100000 in
set_option maxHeartbeats 4000000 in
theorem xL_law_215 {O : xm_O} (hO : ∀ j q, xm_st j = some q → O j = some q) {K : Nat} {h : xm_H} {P : Option Value → xm_H → Prop} {a0 : Nat} {a1 : Nat} {a2 : Nat} {x3 : Int32} (H :
    ∃ e1, xm_ld O h 0 a0 (x3 + (1 : Int32)) = some e1 ∧
    xm_Call K sX8_worth 8 [.ref a1, .int e1] h (xm_pi fun c3 h2 =>
      ∃ e4, xm_ld O h2 0 a0 (x3 + (1 : Int32)) = some e4 ∧
      xm_Call K sX9_worth 9 [.ref a2, .int e4] h2 (xm_pi fun c6 h5 =>
        (if c3 = c6 then
          xm_At O K sL_law RL kL_law 10 81 4351 [some (.ref a0), some (.ref a1), some (.ref a2), some (.int (x3 + (6 : Int32)))] [] h5 P
        else
          P (some (.int (0 : Int32))) h5)))) :
    xm_At O K sL_law RL kL_law 215 81 4351 [some (.ref a0), some (.ref a1), some (.ref a2), some (.int x3)] [] h P :=
  xm_run hO oL_law 18 215 81 4351 [some (.ref a0), some (.ref a1), some (.ref a2), some (.int x3)] [] h H

set_option maxRecDepth 100000 in
set_option maxHeartbeats 4000000 in
theorem xL_law_232 {O : xm_O} (hO : ∀ j q, xm_st j = some q → O j = some q) {K : Nat} {h : xm_H} {P : Option Value → xm_H → Prop} {a0 : Nat} {a1 : Nat} {a2 : Nat} {x3 : Int32} (H :
    ∃ e1, xm_ld O h 0 a0 (x3 + (1 : Int32)) = some e1 ∧
    ∃ e2, xm_ld O h 0 a0 (x3 + (2 : Int32)) = some e2 ∧
    xm_Call K sX8_best 8 [.ref a1, .int e1, .int e2] h (xm_pi fun c4 h3 =>
      ∃ e5, xm_ld O h3 0 a0 (x3 + (1 : Int32)) = some e5 ∧
      ∃ e6, xm_ld O h3 0 a0 (x3 + (2 : Int32)) = some e6 ∧
      xm_Call K sX9_best 9 [.ref a2, .int e5, .int e6] h3 (xm_pi fun c8 h7 =>
        (if c4 = c8 then
          xm_At O K sL_law RL kL_law 10 81 4351 [some (.ref a0), some (.ref a1), some (.ref a2), some (.int (x3 + (6 : Int32)))] [] h7 P
        else
          P (some (.int (0 : Int32))) h7)))) :
    xm_At O K sL_law RL kL_law 232 81 4351 [some (.ref a0), some (.ref a1), some (.ref a2), some (.int x3)] [] h P :=
  xm_run hO oL_law 28 232 81 4351 [some (.ref a0), some (.ref a1), some (.ref a2), some (.int x3)] [] h H

set_option maxRecDepth 100000 in
set_option maxHeartbeats 4000000 in
theorem xL_law_259 {O : xm_O} (hO : ∀ j q, xm_st j = some q → O j = some q) {K : Nat} {h : xm_H} {P : Option Value → xm_H → Prop} {a0 : Nat} {a1 : Nat} {a2 : Nat} {x3 : Int32} (H :
    xm_Call K sX8_atRest 8 [.ref a1] h (xm_pi fun c2 h1 =>
      xm_Call K sX9_atRest 9 [.ref a2] h1 (xm_pi fun c4 h3 =>
        (if c2 = c4 then
          xm_At O K sL_law RL kL_law 10 81 4351 [some (.ref a0), some (.ref a1), some (.ref a2), some (.int (x3 + (6 : Int32)))] [] h3 P
        else
          P (some (.int (0 : Int32))) h3)))) :
    xm_At O K sL_law RL kL_law 259 81 4351 [some (.ref a0), some (.ref a1), some (.ref a2), some (.int x3)] [] h P :=
  xm_run hO oL_law 8 259 81 4351 [some (.ref a0), some (.ref a1), some (.ref a2), some (.int x3)] [] h H

set_option maxRecDepth 100000 in
set_option maxHeartbeats 4000000 in
theorem xL_law_266 {O : xm_O} (hO : ∀ j q, xm_st j = some q → O j = some q) {K : Nat} {h : xm_H} {P : Option Value → xm_H → Prop} {a0 : Nat} {a1 : Nat} {a2 : Nat} {x3 : Int32} (H :
    ∃ e1, xm_ld O h 0 a0 (x3 + (1 : Int32)) = some e1 ∧
    xm_Call K sX8_rest 8 [.ref a1, .int e1] h (xm_pi fun c3 h2 =>
      ∃ e4, xm_ld O h2 0 a0 (x3 + (1 : Int32)) = some e4 ∧
      xm_Call K sX9_rest 9 [.ref a2, .int e4] h2 (xm_pi fun c6 h5 =>
        (if c3 = c6 then
          xm_At O K sL_law RL kL_law 10 81 4351 [some (.ref a0), some (.ref a1), some (.ref a2), some (.int (x3 + (6 : Int32)))] [] h5 P
        else
          P (some (.int (0 : Int32))) h5)))) :
    xm_At O K sL_law RL kL_law 266 81 4351 [some (.ref a0), some (.ref a1), some (.ref a2), some (.int x3)] [] h P :=
  xm_run hO oL_law 18 266 81 4351 [some (.ref a0), some (.ref a1), some (.ref a2), some (.int x3)] [] h H

set_option maxRecDepth 100000 in
set_option maxHeartbeats 4000000 in
theorem xL_law_283 {O : xm_O} (hO : ∀ j q, xm_st j = some q → O j = some q) {K : Nat} {h : xm_H} {P : Option Value → xm_H → Prop} {a0 : Nat} {a1 : Nat} {a2 : Nat} {x3 : Int32} (H :
    xm_Call K sX8_freeRate 8 [.ref a1] h (xm_pi fun c2 h1 =>
      xm_Call K sX9_freeRate 9 [.ref a2] h1 (xm_pi fun c4 h3 =>
        (if c2 = c4 then
          xm_At O K sL_law RL kL_law 10 81 4351 [some (.ref a0), some (.ref a1), some (.ref a2), some (.int (x3 + (6 : Int32)))] [] h3 P
        else
          P (some (.int (0 : Int32))) h3)))) :
    xm_At O K sL_law RL kL_law 283 81 4351 [some (.ref a0), some (.ref a1), some (.ref a2), some (.int x3)] [] h P :=
  xm_run hO oL_law 8 283 81 4351 [some (.ref a0), some (.ref a1), some (.ref a2), some (.int x3)] [] h H

set_option maxRecDepth 100000 in
set_option maxHeartbeats 4000000 in
theorem xL_law_290 {O : xm_O} (hO : ∀ j q, xm_st j = some q → O j = some q) {K : Nat} {h : xm_H} {P : Option Value → xm_H → Prop} {a0 : Nat} {a1 : Nat} {a2 : Nat} {x3 : Int32} (H :
    ∃ e1, xm_ld O h 0 a0 (x3 + (1 : Int32)) = some e1 ∧
    ∃ e2, xm_ld O h 0 a0 (x3 + (2 : Int32)) = some e2 ∧
    xm_Call K sX8_pool 8 [.ref a1, .int e1, .int e2] h (xm_pi fun c4 h3 =>
      ∃ e5, xm_ld O h3 0 a0 (x3 + (1 : Int32)) = some e5 ∧
      ∃ e6, xm_ld O h3 0 a0 (x3 + (2 : Int32)) = some e6 ∧
      xm_Call K sX9_pool 9 [.ref a2, .int e5, .int e6] h3 (xm_pi fun c8 h7 =>
        (if c4 = c8 then
          xm_At O K sL_law RL kL_law 10 81 4351 [some (.ref a0), some (.ref a1), some (.ref a2), some (.int (x3 + (6 : Int32)))] [] h7 P
        else
          P (some (.int (0 : Int32))) h7)))) :
    xm_At O K sL_law RL kL_law 290 81 4351 [some (.ref a0), some (.ref a1), some (.ref a2), some (.int x3)] [] h P :=
  xm_run hO oL_law 28 290 81 4351 [some (.ref a0), some (.ref a1), some (.ref a2), some (.int x3)] [] h H

set_option maxRecDepth 100000 in
set_option maxHeartbeats 4000000 in
theorem xL_law_317 {O : xm_O} (hO : ∀ j q, xm_st j = some q → O j = some q) {K : Nat} {h : xm_H} {P : Option Value → xm_H → Prop} {a0 : Nat} {a1 : Nat} {a2 : Nat} {x3 : Int32} (H :
    xm_Call K sX8_spared 8 [.ref a1] h (xm_pi fun c2 h1 =>
      xm_Call K sX9_spared 9 [.ref a2] h1 (xm_pi fun c4 h3 =>
        (if c2 = c4 then
          xm_At O K sL_law RL kL_law 10 81 4351 [some (.ref a0), some (.ref a1), some (.ref a2), some (.int (x3 + (6 : Int32)))] [] h3 P
        else
          P (some (.int (0 : Int32))) h3)))) :
    xm_At O K sL_law RL kL_law 317 81 4351 [some (.ref a0), some (.ref a1), some (.ref a2), some (.int x3)] [] h P :=
  xm_run hO oL_law 8 317 81 4351 [some (.ref a0), some (.ref a1), some (.ref a2), some (.int x3)] [] h H

set_option maxRecDepth 100000 in
set_option maxHeartbeats 4000000 in
theorem xL_law_324 {O : xm_O} (hO : ∀ j q, xm_st j = some q → O j = some q) {K : Nat} {h : xm_H} {P : Option Value → xm_H → Prop} {a0 : Nat} {a1 : Nat} {a2 : Nat} {x3 : Int32} (H :
    ∃ e1, xm_ld O h 0 a0 (x3 + (1 : Int32)) = some e1 ∧
    ∃ e2, xm_ld O h 0 a0 (x3 + (2 : Int32)) = some e2 ∧
    ∃ e3, xm_ld O h 0 a0 (x3 + (3 : Int32)) = some e3 ∧
    xm_Call K sX8_later 8 [.ref a1, .int e1, .int e2, .int e3] h (xm_pi fun c5 h4 =>
      ∃ e6, xm_ld O h4 0 a0 (x3 + (1 : Int32)) = some e6 ∧
      ∃ e7, xm_ld O h4 0 a0 (x3 + (2 : Int32)) = some e7 ∧
      ∃ e8, xm_ld O h4 0 a0 (x3 + (3 : Int32)) = some e8 ∧
      xm_Call K sX9_later 9 [.ref a2, .int e6, .int e7, .int e8] h4 (xm_pi fun c10 h9 =>
        (if c5 = c10 then
          xm_At O K sL_law RL kL_law 10 81 4351 [some (.ref a0), some (.ref a1), some (.ref a2), some (.int (x3 + (6 : Int32)))] [] h9 P
        else
          P (some (.int (0 : Int32))) h9)))) :
    xm_At O K sL_law RL kL_law 324 81 4351 [some (.ref a0), some (.ref a1), some (.ref a2), some (.int x3)] [] h P :=
  xm_run hO oL_law 38 324 81 4351 [some (.ref a0), some (.ref a1), some (.ref a2), some (.int x3)] [] h H

set_option maxRecDepth 100000 in
set_option maxHeartbeats 4000000 in
theorem xL_law_361 {O : xm_O} (hO : ∀ j q, xm_st j = some q → O j = some q) {K : Nat} {h : xm_H} {P : Option Value → xm_H → Prop} {a0 : Nat} {a1 : Nat} {a2 : Nat} {x3 : Int32} (H :
    ∃ e1, xm_ld O h 0 a0 (x3 + (1 : Int32)) = some e1 ∧
    xm_Call K sX8_broke 8 [.ref a1, .int e1] h (xm_pi fun c3 h2 =>
      ∃ e4, xm_ld O h2 0 a0 (x3 + (1 : Int32)) = some e4 ∧
      xm_Call K sX9_broke 9 [.ref a2, .int e4] h2 (xm_pi fun c6 h5 =>
        (if c3 = c6 then
          xm_At O K sL_law RL kL_law 10 81 4351 [some (.ref a0), some (.ref a1), some (.ref a2), some (.int (x3 + (6 : Int32)))] [] h5 P
        else
          P (some (.int (0 : Int32))) h5)))) :
    xm_At O K sL_law RL kL_law 361 81 4351 [some (.ref a0), some (.ref a1), some (.ref a2), some (.int x3)] [] h P :=
  xm_run hO oL_law 18 361 81 4351 [some (.ref a0), some (.ref a1), some (.ref a2), some (.int x3)] [] h H

set_option maxRecDepth 100000 in
set_option maxHeartbeats 4000000 in
theorem xL_law_378 {O : xm_O} (hO : ∀ j q, xm_st j = some q → O j = some q) {K : Nat} {h : xm_H} {P : Option Value → xm_H → Prop} {a0 : Nat} {a1 : Nat} {a2 : Nat} {x3 : Int32} (H :
    ∃ e1, xm_ld O h 0 a0 (x3 + (1 : Int32)) = some e1 ∧
    ∃ e2, xm_ld O h 0 a0 (x3 + (2 : Int32)) = some e2 ∧
    ∃ e3, xm_ld O h 0 a0 (x3 + (3 : Int32)) = some e3 ∧
    xm_Call K sX8_thrift 8 [.ref a1, .int e1, .int e2, .int e3] h (xm_pi fun c5 h4 =>
      ∃ e6, xm_ld O h4 0 a0 (x3 + (1 : Int32)) = some e6 ∧
      ∃ e7, xm_ld O h4 0 a0 (x3 + (2 : Int32)) = some e7 ∧
      ∃ e8, xm_ld O h4 0 a0 (x3 + (3 : Int32)) = some e8 ∧
      xm_Call K sX9_thrift 9 [.ref a2, .int e6, .int e7, .int e8] h4 (xm_pi fun c10 h9 =>
        (if c5 = c10 then
          xm_At O K sL_law RL kL_law 10 81 4351 [some (.ref a0), some (.ref a1), some (.ref a2), some (.int (x3 + (6 : Int32)))] [] h9 P
        else
          P (some (.int (0 : Int32))) h9)))) :
    xm_At O K sL_law RL kL_law 378 81 4351 [some (.ref a0), some (.ref a1), some (.ref a2), some (.int x3)] [] h P :=
  xm_run hO oL_law 38 378 81 4351 [some (.ref a0), some (.ref a1), some (.ref a2), some (.int x3)] [] h H

set_option maxRecDepth 100000 in
set_option maxHeartbeats 4000000 in
theorem xL_law_415 {O : xm_O} (hO : ∀ j q, xm_st j = some q → O j = some q) {K : Nat} {h : xm_H} {P : Option Value → xm_H → Prop} {a0 : Nat} {a1 : Nat} {a2 : Nat} {x3 : Int32} (H :
    ∃ e1, xm_ld O h 0 a0 (x3 + (1 : Int32)) = some e1 ∧
    xm_Call K sX8_judge 8 [.ref a1, .int e1] h (xm_pi fun c3 h2 =>
      ∃ e4, xm_ld O h2 0 a0 (x3 + (1 : Int32)) = some e4 ∧
      xm_Call K sX9_judge 9 [.ref a2, .int e4] h2 (xm_pi fun c6 h5 =>
        (if c3 = c6 then
          xm_At O K sL_law RL kL_law 10 81 4351 [some (.ref a0), some (.ref a1), some (.ref a2), some (.int (x3 + (6 : Int32)))] [] h5 P
        else
          P (some (.int (0 : Int32))) h5)))) :
    xm_At O K sL_law RL kL_law 415 81 4351 [some (.ref a0), some (.ref a1), some (.ref a2), some (.int x3)] [] h P :=
  xm_run hO oL_law 18 415 81 4351 [some (.ref a0), some (.ref a1), some (.ref a2), some (.int x3)] [] h H

set_option maxRecDepth 100000 in
set_option maxHeartbeats 4000000 in
theorem xL_law_432 {O : xm_O} (hO : ∀ j q, xm_st j = some q → O j = some q) {K : Nat} {h : xm_H} {P : Option Value → xm_H → Prop} {a0 : Nat} {a1 : Nat} {a2 : Nat} {x3 : Int32} (H :
    ∃ e1, xm_ld O h 0 a0 (x3 + (1 : Int32)) = some e1 ∧
    ∃ e2, xm_ld O h 0 a0 (x3 + (2 : Int32)) = some e2 ∧
    ∃ e3, xm_ld O h 0 a0 (x3 + (3 : Int32)) = some e3 ∧
    xm_Call K sX8_fits 8 [.ref a1, .int e1, .int e2, .int e3] h (xm_pi fun c5 h4 =>
      ∃ e6, xm_ld O h4 0 a0 (x3 + (1 : Int32)) = some e6 ∧
      ∃ e7, xm_ld O h4 0 a0 (x3 + (2 : Int32)) = some e7 ∧
      ∃ e8, xm_ld O h4 0 a0 (x3 + (3 : Int32)) = some e8 ∧
      xm_Call K sX9_fits 9 [.ref a2, .int e6, .int e7, .int e8] h4 (xm_pi fun c10 h9 =>
        (if c5 = c10 then
          xm_At O K sL_law RL kL_law 10 81 4351 [some (.ref a0), some (.ref a1), some (.ref a2), some (.int (x3 + (6 : Int32)))] [] h9 P
        else
          P (some (.int (0 : Int32))) h9)))) :
    xm_At O K sL_law RL kL_law 432 81 4351 [some (.ref a0), some (.ref a1), some (.ref a2), some (.int x3)] [] h P :=
  xm_run hO oL_law 38 432 81 4351 [some (.ref a0), some (.ref a1), some (.ref a2), some (.int x3)] [] h H

set_option maxRecDepth 100000 in
set_option maxHeartbeats 4000000 in
theorem xL_law_469 {O : xm_O} (hO : ∀ j q, xm_st j = some q → O j = some q) {K : Nat} {h : xm_H} {P : Option Value → xm_H → Prop} {a0 : Nat} {a1 : Nat} {a2 : Nat} {x3 : Int32} (H :
    ∃ e1, xm_ld O h 0 a0 (x3 + (1 : Int32)) = some e1 ∧
    xm_Call K sX8_said 8 [.ref a1, .int e1] h (xm_pi fun c3 h2 =>
      ∃ e4, xm_ld O h2 0 a0 (x3 + (1 : Int32)) = some e4 ∧
      xm_Call K sX9_said 9 [.ref a2, .int e4] h2 (xm_pi fun c6 h5 =>
        (if c3 = c6 then
          xm_At O K sL_law RL kL_law 10 81 4351 [some (.ref a0), some (.ref a1), some (.ref a2), some (.int (x3 + (6 : Int32)))] [] h5 P
        else
          P (some (.int (0 : Int32))) h5)))) :
    xm_At O K sL_law RL kL_law 469 81 4351 [some (.ref a0), some (.ref a1), some (.ref a2), some (.int x3)] [] h P :=
  xm_run hO oL_law 18 469 81 4351 [some (.ref a0), some (.ref a1), some (.ref a2), some (.int x3)] [] h H

set_option maxRecDepth 100000 in
set_option maxHeartbeats 4000000 in
theorem xL_law_486 {O : xm_O} (hO : ∀ j q, xm_st j = some q → O j = some q) {K : Nat} {h : xm_H} {P : Option Value → xm_H → Prop} {a0 : Nat} {a1 : Nat} {a2 : Nat} {x3 : Int32} (H :
    ∃ e1, xm_ld O h 0 a0 (x3 + (1 : Int32)) = some e1 ∧
    ∃ e2, xm_ld O h 0 a0 (x3 + (2 : Int32)) = some e2 ∧
    ∃ e3, xm_ld O h 0 a0 (x3 + (3 : Int32)) = some e3 ∧
    xm_Call K sX8_byTurns 8 [.ref a1, .int e1, .int e2, .int e3] h (xm_pi fun c5 h4 =>
      ∃ e6, xm_ld O h4 0 a0 (x3 + (1 : Int32)) = some e6 ∧
      ∃ e7, xm_ld O h4 0 a0 (x3 + (2 : Int32)) = some e7 ∧
      ∃ e8, xm_ld O h4 0 a0 (x3 + (3 : Int32)) = some e8 ∧
      xm_Call K sX9_byTurns 9 [.ref a2, .int e6, .int e7, .int e8] h4 (xm_pi fun c10 h9 =>
        (if c5 = c10 then
          xm_At O K sL_law RL kL_law 10 81 4351 [some (.ref a0), some (.ref a1), some (.ref a2), some (.int (x3 + (6 : Int32)))] [] h9 P
        else
          P (some (.int (0 : Int32))) h9)))) :
    xm_At O K sL_law RL kL_law 486 81 4351 [some (.ref a0), some (.ref a1), some (.ref a2), some (.int x3)] [] h P :=
  xm_run hO oL_law 38 486 81 4351 [some (.ref a0), some (.ref a1), some (.ref a2), some (.int x3)] [] h H

set_option maxRecDepth 100000 in
set_option maxHeartbeats 4000000 in
theorem xL_law_523 {O : xm_O} (hO : ∀ j q, xm_st j = some q → O j = some q) {K : Nat} {h : xm_H} {P : Option Value → xm_H → Prop} {a0 : Nat} {a1 : Nat} {a2 : Nat} {x3 : Int32} (H :
    ∃ e1, xm_ld O h 0 a0 (x3 + (1 : Int32)) = some e1 ∧
    ∃ e2, xm_ld O h 0 a0 (x3 + (2 : Int32)) = some e2 ∧
    ∃ e3, xm_ld O h 0 a0 (x3 + (3 : Int32)) = some e3 ∧
    xm_Call K sX8_drawn 8 [.ref a1, .int e1, .int e2, .int e3] h (xm_pi fun c5 h4 =>
      ∃ e6, xm_ld O h4 0 a0 (x3 + (1 : Int32)) = some e6 ∧
      ∃ e7, xm_ld O h4 0 a0 (x3 + (2 : Int32)) = some e7 ∧
      ∃ e8, xm_ld O h4 0 a0 (x3 + (3 : Int32)) = some e8 ∧
      xm_Call K sX9_drawn 9 [.ref a2, .int e6, .int e7, .int e8] h4 (xm_pi fun c10 h9 =>
        (if c5 = c10 then
          xm_At O K sL_law RL kL_law 10 81 4351 [some (.ref a0), some (.ref a1), some (.ref a2), some (.int (x3 + (6 : Int32)))] [] h9 P
        else
          P (some (.int (0 : Int32))) h9)))) :
    xm_At O K sL_law RL kL_law 523 81 4351 [some (.ref a0), some (.ref a1), some (.ref a2), some (.int x3)] [] h P :=
  xm_run hO oL_law 38 523 81 4351 [some (.ref a0), some (.ref a1), some (.ref a2), some (.int x3)] [] h H

set_option maxRecDepth 100000 in
set_option maxHeartbeats 4000000 in
theorem xL_law_560 {O : xm_O} (hO : ∀ j q, xm_st j = some q → O j = some q) {K : Nat} {h : xm_H} {P : Option Value → xm_H → Prop} {a0 : Nat} {a1 : Nat} {a2 : Nat} {x3 : Int32} (H :
    ∃ e1, xm_ld O h 0 a0 (x3 + (1 : Int32)) = some e1 ∧
    ∃ e2, xm_ld O h 0 a0 (x3 + (2 : Int32)) = some e2 ∧
    xm_Call K sX8_takes 8 [.ref a1, .int e1, .int e2] h (xm_pi fun c4 h3 =>
      ∃ e5, xm_ld O h3 0 a0 (x3 + (1 : Int32)) = some e5 ∧
      ∃ e6, xm_ld O h3 0 a0 (x3 + (2 : Int32)) = some e6 ∧
      xm_Call K sX9_takes 9 [.ref a2, .int e5, .int e6] h3 (xm_pi fun c8 h7 =>
        (if c4 = c8 then
          xm_At O K sL_law RL kL_law 10 81 4351 [some (.ref a0), some (.ref a1), some (.ref a2), some (.int (x3 + (6 : Int32)))] [] h7 P
        else
          P (some (.int (0 : Int32))) h7)))) :
    xm_At O K sL_law RL kL_law 560 81 4351 [some (.ref a0), some (.ref a1), some (.ref a2), some (.int x3)] [] h P :=
  xm_run hO oL_law 28 560 81 4351 [some (.ref a0), some (.ref a1), some (.ref a2), some (.int x3)] [] h H

set_option maxRecDepth 100000 in
set_option maxHeartbeats 4000000 in
theorem xL_law_587 {O : xm_O} (hO : ∀ j q, xm_st j = some q → O j = some q) {K : Nat} {h : xm_H} {P : Option Value → xm_H → Prop} {a0 : Nat} {a1 : Nat} {a2 : Nat} {x3 : Int32} (H :
    ∃ e1, xm_ld O h 0 a0 (x3 + (1 : Int32)) = some e1 ∧
    ∃ e2, xm_ld O h 0 a0 (x3 + (2 : Int32)) = some e2 ∧
    xm_Call K sX8_hears 8 [.ref a1, .int e1, .int e2] h (xm_pi fun c4 h3 =>
      ∃ e5, xm_ld O h3 0 a0 (x3 + (1 : Int32)) = some e5 ∧
      ∃ e6, xm_ld O h3 0 a0 (x3 + (2 : Int32)) = some e6 ∧
      xm_Call K sX9_hears 9 [.ref a2, .int e5, .int e6] h3 (xm_pi fun c8 h7 =>
        (if c4 = c8 then
          xm_At O K sL_law RL kL_law 10 81 4351 [some (.ref a0), some (.ref a1), some (.ref a2), some (.int (x3 + (6 : Int32)))] [] h7 P
        else
          P (some (.int (0 : Int32))) h7)))) :
    xm_At O K sL_law RL kL_law 587 81 4351 [some (.ref a0), some (.ref a1), some (.ref a2), some (.int x3)] [] h P :=
  xm_run hO oL_law 28 587 81 4351 [some (.ref a0), some (.ref a1), some (.ref a2), some (.int x3)] [] h H

set_option maxRecDepth 100000 in
set_option maxHeartbeats 4000000 in
theorem xL_law_614 {O : xm_O} (hO : ∀ j q, xm_st j = some q → O j = some q) {K : Nat} {h : xm_H} {P : Option Value → xm_H → Prop} {a0 : Nat} {a1 : Nat} {a2 : Nat} {x3 : Int32} (H :
    xm_Call K sX8_year 8 [.ref a1] h (xm_pi fun c2 h1 =>
      xm_Call K sX9_year 9 [.ref a2] h1 (xm_pi fun c4 h3 =>
        (if c2 = c4 then
          xm_At O K sL_law RL kL_law 10 81 4351 [some (.ref a0), some (.ref a1), some (.ref a2), some (.int (x3 + (6 : Int32)))] [] h3 P
        else
          P (some (.int (0 : Int32))) h3)))) :
    xm_At O K sL_law RL kL_law 614 81 4351 [some (.ref a0), some (.ref a1), some (.ref a2), some (.int x3)] [] h P :=
  xm_run hO oL_law 8 614 81 4351 [some (.ref a0), some (.ref a1), some (.ref a2), some (.int x3)] [] h H

set_option maxRecDepth 100000 in
set_option maxHeartbeats 4000000 in
theorem xL_law_621 {O : xm_O} (hO : ∀ j q, xm_st j = some q → O j = some q) {K : Nat} {h : xm_H} {P : Option Value → xm_H → Prop} {a0 : Nat} {a1 : Nat} {a2 : Nat} {x3 : Int32} (H :
    ∃ e1, xm_ld O h 0 a0 (x3 + (1 : Int32)) = some e1 ∧
    ∃ e2, xm_ld O h 0 a0 (x3 + (2 : Int32)) = some e2 ∧
    ∃ e3, xm_ld O h 0 a0 (x3 + (3 : Int32)) = some e3 ∧
    xm_Call K sX8_gives 8 [.ref a1, .int e1, .int e2, .int e3] h (xm_pi fun c5 h4 =>
      ∃ e6, xm_ld O h4 0 a0 (x3 + (1 : Int32)) = some e6 ∧
      ∃ e7, xm_ld O h4 0 a0 (x3 + (2 : Int32)) = some e7 ∧
      ∃ e8, xm_ld O h4 0 a0 (x3 + (3 : Int32)) = some e8 ∧
      xm_Call K sX9_gives 9 [.ref a2, .int e6, .int e7, .int e8] h4 (xm_pi fun c10 h9 =>
        (if c5 = c10 then
          xm_At O K sL_law RL kL_law 10 81 4351 [some (.ref a0), some (.ref a1), some (.ref a2), some (.int (x3 + (6 : Int32)))] [] h9 P
        else
          P (some (.int (0 : Int32))) h9)))) :
    xm_At O K sL_law RL kL_law 621 81 4351 [some (.ref a0), some (.ref a1), some (.ref a2), some (.int x3)] [] h P :=
  xm_run hO oL_law 38 621 81 4351 [some (.ref a0), some (.ref a1), some (.ref a2), some (.int x3)] [] h H

set_option maxRecDepth 100000 in
set_option maxHeartbeats 4000000 in
theorem xL_law_658 {O : xm_O} (hO : ∀ j q, xm_st j = some q → O j = some q) {K : Nat} {h : xm_H} {P : Option Value → xm_H → Prop} {a0 : Nat} {a1 : Nat} {a2 : Nat} {x3 : Int32} (H :
    ∃ e1, xm_ld O h 0 a0 (x3 + (1 : Int32)) = some e1 ∧
    xm_Call K sX8_led 8 [.ref a1, .int e1] h (xm_pi fun c3 h2 =>
      ∃ e4, xm_ld O h2 0 a0 (x3 + (1 : Int32)) = some e4 ∧
      xm_Call K sX9_led 9 [.ref a2, .int e4] h2 (xm_pi fun c6 h5 =>
        (if c3 = c6 then
          xm_At O K sL_law RL kL_law 10 81 4351 [some (.ref a0), some (.ref a1), some (.ref a2), some (.int (x3 + (6 : Int32)))] [] h5 P
        else
          P (some (.int (0 : Int32))) h5)))) :
    xm_At O K sL_law RL kL_law 658 81 4351 [some (.ref a0), some (.ref a1), some (.ref a2), some (.int x3)] [] h P :=
  xm_run hO oL_law 18 658 81 4351 [some (.ref a0), some (.ref a1), some (.ref a2), some (.int x3)] [] h H

set_option maxRecDepth 100000 in
set_option maxHeartbeats 4000000 in
theorem xL_law_675 {O : xm_O} (hO : ∀ j q, xm_st j = some q → O j = some q) {K : Nat} {h : xm_H} {P : Option Value → xm_H → Prop} {a0 : Nat} {a1 : Nat} {a2 : Nat} {x3 : Int32} (H :
    xm_Call K sX8_image 8 [.ref a1] h (xm_pi fun c2 h1 =>
      xm_Call K sX9_image 9 [.ref a2] h1 (xm_pi fun c4 h3 =>
        (if c2 = c4 then
          xm_At O K sL_law RL kL_law 10 81 4351 [some (.ref a0), some (.ref a1), some (.ref a2), some (.int (x3 + (6 : Int32)))] [] h3 P
        else
          P (some (.int (0 : Int32))) h3)))) :
    xm_At O K sL_law RL kL_law 675 81 4351 [some (.ref a0), some (.ref a1), some (.ref a2), some (.int x3)] [] h P :=
  xm_run hO oL_law 8 675 81 4351 [some (.ref a0), some (.ref a1), some (.ref a2), some (.int x3)] [] h H

set_option maxRecDepth 100000 in
set_option maxHeartbeats 4000000 in
theorem xL_law_682 {O : xm_O} (hO : ∀ j q, xm_st j = some q → O j = some q) {K : Nat} {h : xm_H} {P : Option Value → xm_H → Prop} {a0 : Nat} {a1 : Nat} {a2 : Nat} {x3 : Int32} (H :
    xm_Call K sX8_back 8 [.ref a1] h (xm_pi fun c2 h1 =>
      xm_Call K sX9_back 9 [.ref a2] h1 (xm_pi fun c4 h3 =>
        (if c2 = c4 then
          xm_At O K sL_law RL kL_law 10 81 4351 [some (.ref a0), some (.ref a1), some (.ref a2), some (.int (x3 + (6 : Int32)))] [] h3 P
        else
          P (some (.int (0 : Int32))) h3)))) :
    xm_At O K sL_law RL kL_law 682 81 4351 [some (.ref a0), some (.ref a1), some (.ref a2), some (.int x3)] [] h P :=
  xm_run hO oL_law 8 682 81 4351 [some (.ref a0), some (.ref a1), some (.ref a2), some (.int x3)] [] h H

set_option maxRecDepth 100000 in
set_option maxHeartbeats 4000000 in
theorem xL_law_689 {O : xm_O} (hO : ∀ j q, xm_st j = some q → O j = some q) {K : Nat} {h : xm_H} {P : Option Value → xm_H → Prop} {a0 : Nat} {a1 : Nat} {a2 : Nat} {x3 : Int32} (H :
    xm_Call K sX8_undo 8 [.ref a1] h (xm_pi fun c2 h1 =>
      xm_Call K sX9_undo 9 [.ref a2] h1 (xm_pi fun c4 h3 =>
        (if c2 = c4 then
          xm_At O K sL_law RL kL_law 10 81 4351 [some (.ref a0), some (.ref a1), some (.ref a2), some (.int (x3 + (6 : Int32)))] [] h3 P
        else
          P (some (.int (0 : Int32))) h3)))) :
    xm_At O K sL_law RL kL_law 689 81 4351 [some (.ref a0), some (.ref a1), some (.ref a2), some (.int x3)] [] h P :=
  xm_run hO oL_law 8 689 81 4351 [some (.ref a0), some (.ref a1), some (.ref a2), some (.int x3)] [] h H

set_option maxRecDepth 100000 in
set_option maxHeartbeats 4000000 in
theorem xL_law_696 {O : xm_O} (hO : ∀ j q, xm_st j = some q → O j = some q) {K : Nat} {h : xm_H} {P : Option Value → xm_H → Prop} {a0 : Nat} {a1 : Nat} {a2 : Nat} {x3 : Int32} (H :
    xm_Call K sX8_redo 8 [.ref a1] h (xm_pi fun c2 h1 =>
      xm_Call K sX9_redo 9 [.ref a2] h1 (xm_pi fun c4 h3 =>
        (if c2 = c4 then
          xm_At O K sL_law RL kL_law 10 81 4351 [some (.ref a0), some (.ref a1), some (.ref a2), some (.int (x3 + (6 : Int32)))] [] h3 P
        else
          P (some (.int (0 : Int32))) h3)))) :
    xm_At O K sL_law RL kL_law 696 81 4351 [some (.ref a0), some (.ref a1), some (.ref a2), some (.int x3)] [] h P :=
  xm_run hO oL_law 8 696 81 4351 [some (.ref a0), some (.ref a1), some (.ref a2), some (.int x3)] [] h H

set_option maxRecDepth 100000 in
set_option maxHeartbeats 4000000 in
theorem xL_law_703 {O : xm_O} (hO : ∀ j q, xm_st j = some q → O j = some q) {K : Nat} {h : xm_H} {P : Option Value → xm_H → Prop} {a0 : Nat} {a1 : Nat} {a2 : Nat} {x3 : Int32} (H :
    ∃ e1, xm_ld O h 0 a0 (x3 + (1 : Int32)) = some e1 ∧
    xm_Call K sX8_body 8 [.ref a1, .int e1] h (xm_pi fun c3 h2 =>
      ∃ e4, xm_ld O h2 0 a0 (x3 + (1 : Int32)) = some e4 ∧
      xm_Call K sX9_body 9 [.ref a2, .int e4] h2 (xm_pi fun c6 h5 =>
        (if c3 = c6 then
          xm_At O K sL_law RL kL_law 10 81 4351 [some (.ref a0), some (.ref a1), some (.ref a2), some (.int (x3 + (6 : Int32)))] [] h5 P
        else
          P (some (.int (0 : Int32))) h5)))) :
    xm_At O K sL_law RL kL_law 703 81 4351 [some (.ref a0), some (.ref a1), some (.ref a2), some (.int x3)] [] h P :=
  xm_run hO oL_law 18 703 81 4351 [some (.ref a0), some (.ref a1), some (.ref a2), some (.int x3)] [] h H

set_option maxRecDepth 100000 in
set_option maxHeartbeats 4000000 in
theorem xL_law_720 {O : xm_O} (hO : ∀ j q, xm_st j = some q → O j = some q) {K : Nat} {h : xm_H} {P : Option Value → xm_H → Prop} {a0 : Nat} {a1 : Nat} {a2 : Nat} {x3 : Int32} (H :
    ∃ e1, xm_ld O h 0 a0 (x3 + (1 : Int32)) = some e1 ∧
    ∃ e2, xm_ld O h 0 a0 (x3 + (2 : Int32)) = some e2 ∧
    ∃ e3, xm_ld O h 0 a0 (x3 + (3 : Int32)) = some e3 ∧
    xm_Call K sX8_act 8 [.ref a1, .int e1, .int e2, .int e3] h (xm_pi fun c5 h4 =>
      ∃ e6, xm_ld O h4 0 a0 (x3 + (1 : Int32)) = some e6 ∧
      ∃ e7, xm_ld O h4 0 a0 (x3 + (2 : Int32)) = some e7 ∧
      ∃ e8, xm_ld O h4 0 a0 (x3 + (3 : Int32)) = some e8 ∧
      xm_Call K sX9_act 9 [.ref a2, .int e6, .int e7, .int e8] h4 (xm_pi fun c10 h9 =>
        (if c5 = c10 then
          xm_At O K sL_law RL kL_law 10 81 4351 [some (.ref a0), some (.ref a1), some (.ref a2), some (.int (x3 + (6 : Int32)))] [] h9 P
        else
          P (some (.int (0 : Int32))) h9)))) :
    xm_At O K sL_law RL kL_law 720 81 4351 [some (.ref a0), some (.ref a1), some (.ref a2), some (.int x3)] [] h P :=
  xm_run hO oL_law 38 720 81 4351 [some (.ref a0), some (.ref a1), some (.ref a2), some (.int x3)] [] h H

set_option maxRecDepth 100000 in
set_option maxHeartbeats 4000000 in
theorem xL_law_757 {O : xm_O} (hO : ∀ j q, xm_st j = some q → O j = some q) {K : Nat} {h : xm_H} {P : Option Value → xm_H → Prop} {a0 : Nat} {a1 : Nat} {a2 : Nat} {x3 : Int32} (H :
    ∃ e1, xm_ld O h 0 a0 (x3 + (1 : Int32)) = some e1 ∧
    xm_Call K sX8_trace 8 [.ref a1, .int e1] h (xm_pi fun c3 h2 =>
      ∃ e4, xm_ld O h2 0 a0 (x3 + (1 : Int32)) = some e4 ∧
      xm_Call K sX9_trace 9 [.ref a2, .int e4] h2 (xm_pi fun c6 h5 =>
        (if c3 = c6 then
          xm_At O K sL_law RL kL_law 10 81 4351 [some (.ref a0), some (.ref a1), some (.ref a2), some (.int (x3 + (6 : Int32)))] [] h5 P
        else
          P (some (.int (0 : Int32))) h5)))) :
    xm_At O K sL_law RL kL_law 757 81 4351 [some (.ref a0), some (.ref a1), some (.ref a2), some (.int x3)] [] h P :=
  xm_run hO oL_law 18 757 81 4351 [some (.ref a0), some (.ref a1), some (.ref a2), some (.int x3)] [] h H

set_option maxRecDepth 100000 in
set_option maxHeartbeats 4000000 in
theorem xL_law_774 {O : xm_O} (hO : ∀ j q, xm_st j = some q → O j = some q) {K : Nat} {h : xm_H} {P : Option Value → xm_H → Prop} {a0 : Nat} {a1 : Nat} {a2 : Nat} {x3 : Int32} (H :
    ∃ e1, xm_ld O h 0 a0 (x3 + (1 : Int32)) = some e1 ∧
    ∃ e2, xm_ld O h 0 a0 (x3 + (2 : Int32)) = some e2 ∧
    xm_Call K sX8_keep 8 [.ref a1, .int e1, .int e2] h (xm_pi fun c4 h3 =>
      ∃ e5, xm_ld O h3 0 a0 (x3 + (1 : Int32)) = some e5 ∧
      ∃ e6, xm_ld O h3 0 a0 (x3 + (2 : Int32)) = some e6 ∧
      xm_Call K sX9_keep 9 [.ref a2, .int e5, .int e6] h3 (xm_pi fun c8 h7 =>
        (if c4 = c8 then
          xm_At O K sL_law RL kL_law 10 81 4351 [some (.ref a0), some (.ref a1), some (.ref a2), some (.int (x3 + (6 : Int32)))] [] h7 P
        else
          P (some (.int (0 : Int32))) h7)))) :
    xm_At O K sL_law RL kL_law 774 81 4351 [some (.ref a0), some (.ref a1), some (.ref a2), some (.int x3)] [] h P :=
  xm_run hO oL_law 28 774 81 4351 [some (.ref a0), some (.ref a1), some (.ref a2), some (.int x3)] [] h H

set_option maxRecDepth 100000 in
set_option maxHeartbeats 4000000 in
theorem xL_law_801 {O : xm_O} (hO : ∀ j q, xm_st j = some q → O j = some q) {K : Nat} {h : xm_H} {P : Option Value → xm_H → Prop} {a0 : Nat} {a1 : Nat} {a2 : Nat} {x3 : Int32} (H :
    ∃ e1, xm_ld O h 0 a0 (x3 + (1 : Int32)) = some e1 ∧
    ∃ e2, xm_ld O h 0 a0 (x3 + (2 : Int32)) = some e2 ∧
    ∃ e3, xm_ld O h 0 a0 (x3 + (3 : Int32)) = some e3 ∧
    xm_Call K sX8_row 8 [.ref a1, .int e1, .int e2, .int e3] h (xm_pi fun c5 h4 =>
      ∃ e6, xm_ld O h4 0 a0 (x3 + (1 : Int32)) = some e6 ∧
      ∃ e7, xm_ld O h4 0 a0 (x3 + (2 : Int32)) = some e7 ∧
      ∃ e8, xm_ld O h4 0 a0 (x3 + (3 : Int32)) = some e8 ∧
      xm_Call K sX9_row 9 [.ref a2, .int e6, .int e7, .int e8] h4 (xm_pi fun c10 h9 =>
        (if c5 = c10 then
          xm_At O K sL_law RL kL_law 10 81 4351 [some (.ref a0), some (.ref a1), some (.ref a2), some (.int (x3 + (6 : Int32)))] [] h9 P
        else
          P (some (.int (0 : Int32))) h9)))) :
    xm_At O K sL_law RL kL_law 801 81 4351 [some (.ref a0), some (.ref a1), some (.ref a2), some (.int x3)] [] h P :=
  xm_run hO oL_law 38 801 81 4351 [some (.ref a0), some (.ref a1), some (.ref a2), some (.int x3)] [] h H

set_option maxRecDepth 100000 in
set_option maxHeartbeats 4000000 in
theorem xL_law_838 {O : xm_O} (hO : ∀ j q, xm_st j = some q → O j = some q) {K : Nat} {h : xm_H} {P : Option Value → xm_H → Prop} {a0 : Nat} {a1 : Nat} {a2 : Nat} {x3 : Int32} (H :
    ∃ e1, xm_ld O h 0 a0 (x3 + (1 : Int32)) = some e1 ∧
    ∃ e2, xm_ld O h 0 a0 (x3 + (2 : Int32)) = some e2 ∧
    ∃ e3, xm_ld O h 0 a0 (x3 + (3 : Int32)) = some e3 ∧
    ∃ e4, xm_ld O h 0 a0 (x3 + (4 : Int32)) = some e4 ∧
    xm_Call K sX8_put 8 [.ref a1, .int e1, .int e2, .long (((Int32.toInt64 e3) <<< ((Int32.toInt64 (32 : Int32)) &&& 63)) ||| ((Int32.toInt64 e4) &&& (4294967295 : Int64)))] h (xm_pi fun c6 h5 =>
      ∃ e7, xm_ld O h5 0 a0 (x3 + (1 : Int32)) = some e7 ∧
      ∃ e8, xm_ld O h5 0 a0 (x3 + (2 : Int32)) = some e8 ∧
      ∃ e9, xm_ld O h5 0 a0 (x3 + (3 : Int32)) = some e9 ∧
      ∃ e10, xm_ld O h5 0 a0 (x3 + (4 : Int32)) = some e10 ∧
      xm_Call K sX9_put 9 [.ref a2, .int e7, .int e8, .long (((Int32.toInt64 e9) <<< ((Int32.toInt64 (32 : Int32)) &&& 63)) ||| ((Int32.toInt64 e10) &&& (4294967295 : Int64)))] h5 (xm_pi fun c12 h11 =>
        (if c6 = c12 then
          xm_At O K sL_law RL kL_law 10 81 4351 [some (.ref a0), some (.ref a1), some (.ref a2), some (.int (x3 + (6 : Int32)))] [] h11 P
        else
          P (some (.int (0 : Int32))) h11)))) :
    xm_At O K sL_law RL kL_law 838 81 4351 [some (.ref a0), some (.ref a1), some (.ref a2), some (.int x3)] [] h P :=
  xm_run hO oL_law 62 838 81 4351 [some (.ref a0), some (.ref a1), some (.ref a2), some (.int x3)] [] h H

set_option maxRecDepth 100000 in
set_option maxHeartbeats 4000000 in
theorem xL_law_899 {O : xm_O} (hO : ∀ j q, xm_st j = some q → O j = some q) {K : Nat} {h : xm_H} {P : Option Value → xm_H → Prop} {a0 : Nat} {a1 : Nat} {a2 : Nat} {x3 : Int32} (H :
    ∃ e1, xm_ld O h 0 a0 (x3 + (1 : Int32)) = some e1 ∧
    ∃ e2, xm_ld O h 0 a0 (x3 + (2 : Int32)) = some e2 ∧
    xm_Call K sX8_element 8 [.ref a1, .int e1, .int e2] h (xm_pl fun c4 h3 =>
      ∃ e5, xm_ld O h3 0 a0 (x3 + (1 : Int32)) = some e5 ∧
      ∃ e6, xm_ld O h3 0 a0 (x3 + (2 : Int32)) = some e6 ∧
      xm_Call K sX9_element 9 [.ref a2, .int e5, .int e6] h3 (xm_pl fun c8 h7 =>
        (if (lg_cmp c4 c8) = 0 then
          xm_At O K sL_law RL kL_law 10 81 4351 [some (.ref a0), some (.ref a1), some (.ref a2), some (.int (x3 + (6 : Int32)))] [] h7 P
        else
          P (some (.int (0 : Int32))) h7)))) :
    xm_At O K sL_law RL kL_law 899 81 4351 [some (.ref a0), some (.ref a1), some (.ref a2), some (.int x3)] [] h P :=
  xm_run hO oL_law 29 899 81 4351 [some (.ref a0), some (.ref a1), some (.ref a2), some (.int x3)] [] h H

set_option maxRecDepth 100000 in
set_option maxHeartbeats 4000000 in
theorem xL_law_927 {O : xm_O} (hO : ∀ j q, xm_st j = some q → O j = some q) {K : Nat} {h : xm_H} {P : Option Value → xm_H → Prop} {a0 : Nat} {a1 : Nat} {a2 : Nat} {x3 : Int32} (H :
    ∃ e1, xm_ld O h 0 a0 (x3 + (1 : Int32)) = some e1 ∧
    ∃ e2, xm_ld O h 0 a0 (x3 + (2 : Int32)) = some e2 ∧
    ∃ e3, xm_ld O h 0 a0 (x3 + (3 : Int32)) = some e3 ∧
    ∃ e4, xm_ld O h 0 a0 (x3 + (4 : Int32)) = some e4 ∧
    ∃ e5, xm_ld O h 0 a0 (x3 + (5 : Int32)) = some e5 ∧
    xm_Call K sX8_shift 8 [.ref a1, .int e1, .int e2, .int e3, .int e4, .int e5] h (xm_pi fun c7 h6 =>
      ∃ e8, xm_ld O h6 0 a0 (x3 + (1 : Int32)) = some e8 ∧
      ∃ e9, xm_ld O h6 0 a0 (x3 + (2 : Int32)) = some e9 ∧
      ∃ e10, xm_ld O h6 0 a0 (x3 + (3 : Int32)) = some e10 ∧
      ∃ e11, xm_ld O h6 0 a0 (x3 + (4 : Int32)) = some e11 ∧
      ∃ e12, xm_ld O h6 0 a0 (x3 + (5 : Int32)) = some e12 ∧
      xm_Call K sX9_shift 9 [.ref a2, .int e8, .int e9, .int e10, .int e11, .int e12] h6 (xm_pi fun c14 h13 =>
        (if c7 = c14 then
          xm_At O K sL_law RL kL_law 10 81 4351 [some (.ref a0), some (.ref a1), some (.ref a2), some (.int (x3 + (6 : Int32)))] [] h13 P
        else
          P (some (.int (0 : Int32))) h13)))) :
    xm_At O K sL_law RL kL_law 927 81 4351 [some (.ref a0), some (.ref a1), some (.ref a2), some (.int x3)] [] h P :=
  xm_run hO oL_law 58 927 81 4351 [some (.ref a0), some (.ref a1), some (.ref a2), some (.int x3)] [] h H

set_option maxRecDepth 100000 in
set_option maxHeartbeats 4000000 in
theorem xL_law_984 {O : xm_O} (hO : ∀ j q, xm_st j = some q → O j = some q) {K : Nat} {h : xm_H} {P : Option Value → xm_H → Prop} {a0 : Nat} {a1 : Nat} {a2 : Nat} {x3 : Int32} (H :
    ∃ e1, xm_ld O h 0 a0 (x3 + (1 : Int32)) = some e1 ∧
    ∃ e2, xm_ld O h 0 a0 (x3 + (2 : Int32)) = some e2 ∧
    xm_Call K sX8_taken 8 [.ref a1, .int e1, .int e2] h (xm_pi fun c4 h3 =>
      ∃ e5, xm_ld O h3 0 a0 (x3 + (1 : Int32)) = some e5 ∧
      ∃ e6, xm_ld O h3 0 a0 (x3 + (2 : Int32)) = some e6 ∧
      xm_Call K sX9_taken 9 [.ref a2, .int e5, .int e6] h3 (xm_pi fun c8 h7 =>
        (if c4 = c8 then
          xm_At O K sL_law RL kL_law 10 81 4351 [some (.ref a0), some (.ref a1), some (.ref a2), some (.int (x3 + (6 : Int32)))] [] h7 P
        else
          P (some (.int (0 : Int32))) h7)))) :
    xm_At O K sL_law RL kL_law 984 81 4351 [some (.ref a0), some (.ref a1), some (.ref a2), some (.int x3)] [] h P :=
  xm_run hO oL_law 28 984 81 4351 [some (.ref a0), some (.ref a1), some (.ref a2), some (.int x3)] [] h H

set_option maxRecDepth 100000 in
set_option maxHeartbeats 4000000 in
theorem xL_law_1011 {O : xm_O} (hO : ∀ j q, xm_st j = some q → O j = some q) {K : Nat} {h : xm_H} {P : Option Value → xm_H → Prop} {a0 : Nat} {a1 : Nat} {a2 : Nat} {x3 : Int32} (H :
    ∃ e1, xm_ld O h 0 a0 (x3 + (1 : Int32)) = some e1 ∧
    xm_Call K sX8_count 8 [.ref a1, .int e1] h (xm_pi fun c3 h2 =>
      ∃ e4, xm_ld O h2 0 a0 (x3 + (1 : Int32)) = some e4 ∧
      xm_Call K sX9_count 9 [.ref a2, .int e4] h2 (xm_pi fun c6 h5 =>
        (if c3 = c6 then
          xm_At O K sL_law RL kL_law 10 81 4351 [some (.ref a0), some (.ref a1), some (.ref a2), some (.int (x3 + (6 : Int32)))] [] h5 P
        else
          P (some (.int (0 : Int32))) h5)))) :
    xm_At O K sL_law RL kL_law 1011 81 4351 [some (.ref a0), some (.ref a1), some (.ref a2), some (.int x3)] [] h P :=
  xm_run hO oL_law 18 1011 81 4351 [some (.ref a0), some (.ref a1), some (.ref a2), some (.int x3)] [] h H


