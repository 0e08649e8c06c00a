def kX9_nameOf : List xm_I := [
  i_0 0 (.iload_n 0) 1 none,
  i_s 1 (.lookupswitch 71 #[(97, 63), (103, 69), (107, 59), (111, 65), (115, 67), (119, 61)]) 59 none 14 [(97, 6), (103, 12), (107, 2), (111, 8), (115, 10), (119, 4)],
  i_v 60 (.iconst 0) 1 none 0 [],
  i_0 61 (.ireturn) 1 none,
  i_v 62 (.iconst 1) 1 none 1 [],
  i_0 63 (.ireturn) 1 none,
  i_v 64 (.iconst 2) 1 none 2 [],
  i_0 65 (.ireturn) 1 none,
  i_v 66 (.iconst 3) 1 none 3 [],
  i_0 67 (.ireturn) 1 none,
  i_v 68 (.iconst 4) 1 none 4 [],
  i_0 69 (.ireturn) 1 none,
  i_v 70 (.iconst 5) 1 none 5 [],
  i_0 71 (.ireturn) 1 none,
  i_v 72 (.iconst (-1)) 1 none (-1) [],
  i_0 73 (.ireturn) 1 none]
set_option maxRecDepth 100000 in
theorem oX9_nameOf : xm_ok sX9_nameOf sX9_nameOf.1.cls kX9_nameOf = true := by decide +kernel
set_option maxRecDepth 100000 in
set_option maxHeartbeats 4000000 in
theorem xX9_nameOf_0 {K : Nat} {h : xm_H} {P : Option Value → xm_H → Prop} {x0 : Int32} (H :
    (if x0 = 97 then
      P (some (.int (2 : Int32))) h
    else
    (if x0 = 103 then
      P (some (.int (5 : Int32))) h
    else
    (if x0 = 107 then
      P (some (.int (0 : Int32))) h
    else
    (if x0 = 111 then
      P (some (.int (3 : Int32))) h
    else
    (if x0 = 115 then
      P (some (.int (4 : Int32))) h
    else
    (if x0 = 119 then
      P (some (.int (1 : Int32))) h
    else
    P (some (.int (-1 : Int32))) h))))))) :
    xm_L K sX9_nameOf kX9_nameOf 0 [some (.int x0)] [] h P :=
  xm_run (fun _ _ h => h) oX9_nameOf 5 0 0 0 [some (.int x0)] [] h H
set_option maxRecDepth 100000 in
theorem eX9_nameOf {K K' : Nat} (hK : K < K') {h : xm_H} {P : Option Value → xm_H → Prop} {x0 : Int32} (H :
    (if x0 = 97 then
      P (some (.int (2 : Int32))) h
    else
    (if x0 = 103 then
      P (some (.int (5 : Int32))) h
    else
    (if x0 = 107 then
      P (some (.int (0 : Int32))) h
    else
    (if x0 = 111 then
      P (some (.int (3 : Int32))) h
    else
    (if x0 = 115 then
      P (some (.int (4 : Int32))) h
    else
    (if x0 = 119 then
      P (some (.int (1 : Int32))) h
    else
    P (some (.int (-1 : Int32))) h))))))) :
    xm_Call K' sX9_nameOf 99 [.int x0] h P :=
  xm_call_of (C := kX9_nameOf) hK (by decide +kernel) rfl (Nat.le_of_ble_eq_true rfl) (Or.inl rfl) (xX9_nameOf_0 H)

def kX9_opens : List xm_I := [
  i_0 0 (.aload_n 0) 1 none,
  i_f 1 (.getfield 181) 3 none 9 21 [946] 0,
  i_v 4 (.bipush 6) 2 none 6 [],
  i_j 6 (.if_icmp .ne 9) 3 none 8,
  i_0 9 (.aload_n 0) 1 none,
  i_m 10 (.invokevirtual 184) 3 none 0 9 [1215, 1217, 51, 117, 1218] 0 sX9_wrong,
  i_v 13 (.iconst 0) 1 none 0 [],
  i_0 14 (.ireturn) 1 none,
  i_0 15 (.aload_n 0) 1 none,
  i_0 16 (.dup) 1 none,
  i_f 17 (.getfield 181) 3 none 9 21 [946] 0,
  i_v 20 (.iconst 1) 1 none 1 [],
  i_0 21 (.iadd) 1 none,
  i_f 22 (.putfield 181) 3 none 9 21 [946] 0,
  i_0 25 (.aload_n 0) 1 none,
  i_0 26 (.dup) 1 none,
  i_f 27 (.getfield 172) 3 none 9 19 [944] 0,
  i_v 30 (.iconst 1) 1 none 1 [],
  i_0 31 (.iadd) 1 none,
  i_f 32 (.putfield 172) 3 none 9 19 [944] 0,
  i_v 35 (.iconst 1) 1 none 1 [],
  i_0 36 (.ireturn) 1 none]
set_option maxRecDepth 100000 in
theorem oX9_opens : xm_ok sX9_opens sX9_opens.1.cls kX9_opens = true := by decide +kernel
set_option maxRecDepth 100000 in
set_option maxHeartbeats 4000000 in
theorem xX9_opens_0 {K : Nat} {h : xm_H} {P : Option Value → xm_H → Prop} {a0 : Nat} (H :
    ∃ f1, xm_fld h a0 9 21 = some (.int f1) ∧ /- open -/
    (if f1 = (6 : Int32) then
      xm_Call K sX9_wrong 9 [.ref a0] h (xm_pv fun h2 =>
        P (some (.int (0 : Int32))) h2)
    else
      ∃ f3, xm_fld h a0 9 21 = some (.int f3) ∧ /- open -/
      ∃ h4, xm_put h a0 9 21 (.int (f3 + (1 : Int32))) = some h4 ∧ /- open -/
      ∃ f5, xm_fld h4 a0 9 19 = some (.int f5) ∧ /- here -/
      ∃ h6, xm_put h4 a0 9 19 (.int (f5 + (1 : Int32))) = some h6 ∧ /- here -/
      P (some (.int (1 : Int32))) h6)) :
    xm_L K sX9_opens kX9_opens 0 [some (.ref a0)] [] h P :=
  xm_run (fun _ _ h => h) oX9_opens 19 0 0 0 [some (.ref a0)] [] h H
set_option maxRecDepth 100000 in
theorem eX9_opens {K K' : Nat} (hK : K < K') {h : xm_H} {P : Option Value → xm_H → Prop} {a0 : Nat} (hr : ∃ fs, h[a0]? = some (.inr (9, fs))) (H :
    ∃ f1, xm_fld h a0 9 21 = some (.int f1) ∧ /- open -/
    (if f1 = (6 : Int32) then
      xm_Call K sX9_wrong 9 [.ref a0] h (xm_pv fun h2 =>
        P (some (.int (0 : Int32))) h2)
    else
      ∃ f3, xm_fld h a0 9 21 = some (.int f3) ∧ /- open -/
      ∃ h4, xm_put h a0 9 21 (.int (f3 + (1 : Int32))) = some h4 ∧ /- open -/
      ∃ f5, xm_fld h4 a0 9 19 = some (.int f5) ∧ /- here -/
      ∃ h6, xm_put h4 a0 9 19 (.int (f5 + (1 : Int32))) = some h6 ∧ /- here -/
      P (some (.int (1 : Int32))) h6)) :
    xm_Call K' sX9_opens 9 [.ref a0] h P :=
  xm_call_of (C := kX9_opens) hK (by decide +kernel) rfl (Nat.le_of_ble_eq_true rfl) (Or.inr ⟨a0, hr.choose, rfl, hr.choose_spec⟩) (xX9_opens_0 H)

def kX9_figure : List xm_I := [
  i_v 0 (.iconst 0) 1 none 0 [],
  i_0 1 (.istore_n 1) 1 none,
  i_v 2 (.iconst 0) 1 none 0 [],
  i_0 3 (.istore_n 2) 1 none,
  i_0 4 (.iload_n 2) 1 (some [true, true, true]),
  i_v 5 (.iconst 4) 1 none 4 [],
  i_j 6 (.if_icmp .ge 46) 3 none 30,
  i_0 9 (.aload_n 0) 1 none,
  i_m 10 (.invokevirtual 187) 3 none 0 9 [1200, 1202, 48, 117, 1203] 0 sX9_look,
  i_v 13 (.bipush 48) 2 none 48 [],
  i_v 15 (.bipush 57) 2 none 57 [],
  i_m 17 (.invokestatic 128) 3 none 3 99 [1106, 1107, 117, 1108] 0 sX9_in,
  i_j 20 (.ifCond .eq 32) 3 none 30,
  i_v 23 (.bipush 10) 2 none 10 [],
  i_0 25 (.iload_n 1) 1 none,
  i_0 26 (.imul) 1 none,
  i_0 27 (.aload_n 0) 1 none,
  i_m 28 (.invokevirtual 187) 3 none 0 9 [1200, 1202, 48, 117, 1203] 0 sX9_look,
  i_0 31 (.iadd) 1 none,
  i_v 32 (.bipush 48) 2 none 48 [],
  i_0 34 (.isub) 1 none,
  i_0 35 (.istore_n 1) 1 none,
  i_v 36 (.iinc 2 1) 3 none 1 [],
  i_0 39 (.aload_n 0) 1 none,
  i_0 40 (.dup) 1 none,
  i_f 41 (.getfield 172) 3 none 9 19 [944] 0,
  i_v 44 (.iconst 1) 1 none 1 [],
  i_0 45 (.iadd) 1 none,
  i_f 46 (.putfield 172) 3 none 9 19 [944] 0,
  i_j 49 (.goto (-45)) 3 none 4,
  i_0 52 (.iload_n 2) 1 none,
  i_j 53 (.ifCond .eq 17) 3 none 38,
  i_0 56 (.aload_n 0) 1 none,
  i_m 57 (.invokevirtual 187) 3 none 0 9 [1200, 1202, 48, 117, 1203] 0 sX9_look,
  i_v 60 (.bipush 48) 2 none 48 [],
  i_v 62 (.bipush 57) 2 none 57 [],
  i_m 64 (.invokestatic 128) 3 none 3 99 [1106, 1107, 117, 1108] 0 sX9_in,
  i_j 67 (.ifCond .eq 7) 3 none 40,
  i_0 70 (.aload_n 0) 1 none,
  i_m 71 (.invokevirtual 184) 3 none 0 9 [1215, 1217, 51, 117, 1218] 0 sX9_wrong,
  i_0 74 (.aload_n 0) 1 none,
  i_v 75 (.iconst 1) 1 none 1 [],
  i_0 76 (.iload_n 1) 1 none,
  i_m 77 (.invokevirtual 191) 3 none 2 9 [1207, 1209, 49, 117, 1210] 0 sX9_addStep,
  i_0 80 (.return_) 1 none]
set_option maxRecDepth 100000 in
theorem oX9_figure : xm_ok sX9_figure sX9_figure.1.cls kX9_figure = true := by decide +kernel
set_option maxRecDepth 100000 in
set_option maxHeartbeats 4000000 in
theorem xX9_figure_0 {K : Nat} {h : xm_H} {P : Option Value → xm_H → Prop} {a0 : Nat} (H :
    xm_L K sX9_figure kX9_figure 4 [some (.ref a0), some (.int (0 : Int32)), some (.int (0 : Int32))] [] h P) :
    xm_L K sX9_figure kX9_figure 0 [some (.ref a0), none, none] [] h P :=
  xm_run (fun _ _ h => h) oX9_figure 5 0 0 0 [some (.ref a0), none, none] [] h H
set_option maxRecDepth 100000 in
theorem eX9_figure {K K' : Nat} (hK : K < K') {h : xm_H} {P : Option Value → xm_H → Prop} {a0 : Nat} (hr : ∃ fs, h[a0]? = some (.inr (9, fs))) (H :
    xm_L K sX9_figure kX9_figure 4 [some (.ref a0), some (.int (0 : Int32)), some (.int (0 : Int32))] [] h P) :
    xm_Call K' sX9_figure 9 [.ref a0] h P :=
  xm_call_of (C := kX9_figure) hK (by decide +kernel) rfl (Nat.le_of_ble_eq_true rfl) (Or.inr ⟨a0, hr.choose, rfl, hr.choose_spec⟩) (xX9_figure_0 H)

set_option maxRecDepth 100000 in
set_option maxHeartbeats 4000000 in
theorem xX9_figure_4 {K : Nat} {h : xm_H} {P : Option Value → xm_H → Prop} {a0 : Nat} {x1 : Int32} {x2 : Int32} (H :
    (if x2 < (4 : Int32) then
      xm_Call K sX9_look 9 [.ref a0] h (xm_pi fun c2 h1 =>
        xm_Call K sX9_in 99 [.int c2, .int (48 : Int32), .int (57 : Int32)] h1 (xm_pi fun c4 h3 =>
          (if c4 = 0 then
            (if x2 = 0 then
              xm_Call K sX9_wrong 9 [.ref a0] h3 (xm_pv fun h5 =>
                xm_Call K sX9_addStep 9 [.ref a0, .int (1 : Int32), .int x1] h5 (xm_pv fun h6 =>
                  P none h6))
            else
              xm_Call K sX9_look 9 [.ref a0] h3 (xm_pi fun c8 h7 =>
                xm_Call K sX9_in 99 [.int c8, .int (48 : Int32), .int (57 : Int32)] h7 (xm_pi fun c10 h9 =>
                  (if c10 = 0 then
                    xm_Call K sX9_addStep 9 [.ref a0, .int (1 : Int32), .int x1] h9 (xm_pv fun h11 =>
                      P none h11)
                  else
                    xm_Call K sX9_wrong 9 [.ref a0] h9 (xm_pv fun h12 =>
                      xm_Call K sX9_addStep 9 [.ref a0, .int (1 : Int32), .int x1] h12 (xm_pv fun h13 =>
                        P none h13))))))
          else
            xm_Call K sX9_look 9 [.ref a0] h3 (xm_pi fun c15 h14 =>
              ∃ f16, xm_fld h14 a0 9 19 = some (.int f16) ∧ /- here -/
              ∃ h17, xm_put h14 a0 9 19 (.int (f16 + (1 : Int32))) = some h17 ∧ /- here -/
              xm_L K sX9_figure kX9_figure 4 [some (.ref a0), some (.int ((((10 : Int32) * x1) + c15) - (48 : Int32))), some (.int (x2 + (1 : Int32)))] [] h17 P))))
    else
      (if x2 = 0 then
        xm_Call K sX9_wrong 9 [.ref a0] h (xm_pv fun h18 =>
          xm_Call K sX9_addStep 9 [.ref a0, .int (1 : Int32), .int x1] h18 (xm_pv fun h19 =>
            P none h19))
      else
        xm_Call K sX9_look 9 [.ref a0] h (xm_pi fun c21 h20 =>
          xm_Call K sX9_in 99 [.int c21, .int (48 : Int32), .int (57 : Int32)] h20 (xm_pi fun c23 h22 =>
            (if c23 = 0 then
              xm_Call K sX9_addStep 9 [.ref a0, .int (1 : Int32), .int x1] h22 (xm_pv fun h24 =>
                P none h24)
            else
              xm_Call K sX9_wrong 9 [.ref a0] h22 (xm_pv fun h25 =>
                xm_Call K sX9_addStep 9 [.ref a0, .int (1 : Int32), .int x1] h25 (xm_pv fun h26 =>
                  P none h26)))))))) :
    xm_L K sX9_figure kX9_figure 4 [some (.ref a0), some (.int x1), some (.int x2)] [] h P :=
  xm_run (fun _ _ h => h) oX9_figure 27 4 0 0 [some (.ref a0), some (.int x1), some (.int x2)] [] h H

def kX9_operand : List xm_I := [
  i_0 0 (.aload_n 0) 1 none,
  i_m 1 (.invokevirtual 187) 3 none 0 9 [1200, 1202, 48, 117, 1203] 0 sX9_look,
  i_0 4 (.istore_n 1) 1 none,
  i_0 5 (.iload_n 1) 1 none,
  i_m 6 (.invokestatic 195) 3 none 1 99 [1204, 1205, 117, 1206] 0 sX9_nameOf,
  i_j 9 (.ifCond .lt 25) 3 none 18,
  i_0 12 (.aload_n 0) 1 none,
  i_v 13 (.iconst 2) 1 none 2 [],
  i_0 14 (.iload_n 1) 1 none,
  i_m 15 (.invokestatic 195) 3 none 1 99 [1204, 1205, 117, 1206] 0 sX9_nameOf,
  i_m 18 (.invokevirtual 191) 3 none 2 9 [1207, 1209, 49, 117, 1210] 0 sX9_addStep,
  i_0 21 (.aload_n 0) 1 none,
  i_0 22 (.dup) 1 none,
  i_f 23 (.getfield 172) 3 none 9 19 [944] 0,
  i_v 26 (.iconst 1) 1 none 1 [],
  i_0 27 (.iadd) 1 none,
  i_f 28 (.putfield 172) 3 none 9 19 [944] 0,
  i_j 31 (.goto 123) 3 none 81,
  i_0 34 (.iload_n 1) 1 none,
  i_v 35 (.bipush 33) 2 none 33 [],
  i_j 37 (.if_icmp .eq 9) 3 none 24,
  i_0 40 (.iload_n 1) 1 none,
  i_v 41 (.bipush 45) 2 none 45 [],
  i_j 43 (.if_icmp .ne 44) 3 none 46,
  i_0 46 (.aload_n 0) 1 none,
  i_m 47 (.invokevirtual 199) 3 none 0 9 [1211, 1213, 50, 117, 1214] 0 sX9_opens,
  i_j 50 (.ifCond .ne 4) 3 none 28,
  i_0 53 (.return_) 1 none,
  i_0 54 (.aload_n 0) 1 none,
  i_m 55 (.invokevirtual 203) 3 none 0 9 [1196, 1198, 47, 117, 1199] 0 sX9_operand,
  i_0 58 (.aload_n 0) 1 none,
  i_0 59 (.dup) 1 none,
  i_f 60 (.getfield 181) 3 none 9 21 [946] 0,
  i_v 63 (.iconst 1) 1 none 1 [],
  i_0 64 (.isub) 1 none,
  i_f 65 (.putfield 181) 3 none 9 21 [946] 0,
  i_0 68 (.aload_n 0) 1 none,
  i_0 69 (.iload_n 1) 1 none,
  i_v 70 (.bipush 33) 2 none 33 [],
  i_j 72 (.if_icmp .ne 7) 3 none 42,
  i_v 75 (.iconst 3) 1 none 3 [],
  i_j 76 (.goto 4) 3 none 43,
  i_v 79 (.iconst 4) 1 none 4 [],
  i_v 80 (.iconst 0) 1 none 0 [],
  i_m 81 (.invokevirtual 191) 3 none 2 9 [1207, 1209, 49, 117, 1210] 0 sX9_addStep,
  i_j 84 (.goto 70) 3 none 81,
  i_0 87 (.iload_n 1) 1 none,
  i_v 88 (.bipush 40) 2 none 40 [],
  i_j 90 (.if_icmp .ne 60) 3 none 79,
  i_0 93 (.aload_n 0) 1 none,
  i_m 94 (.invokevirtual 199) 3 none 0 9 [1211, 1213, 50, 117, 1214] 0 sX9_opens,
  i_j 97 (.ifCond .ne 4) 3 none 53,
  i_0 100 (.return_) 1 none,
  i_0 101 (.aload_n 0) 1 none,
  i_m 102 (.invokevirtual 206) 3 none 0 9 [1176, 1178, 42, 117, 1179] 0 sX9_either,
  i_0 105 (.aload_n 0) 1 none,
  i_f 106 (.getfield 175) 3 none 9 20 [945] 0,
  i_j 109 (.ifCond .lt 4) 3 none 59,
  i_0 112 (.return_) 1 none,
  i_0 113 (.aload_n 0) 1 none,
  i_m 114 (.invokevirtual 187) 3 none 0 9 [1200, 1202, 48, 117, 1203] 0 sX9_look,
  i_v 117 (.bipush 41) 2 none 41 [],
  i_j 119 (.if_icmp .eq 8) 3 none 66,
  i_0 122 (.aload_n 0) 1 none,
  i_m 123 (.invokevirtual 184) 3 none 0 9 [1215, 1217, 51, 117, 1218] 0 sX9_wrong,
  i_0 126 (.return_) 1 none,
  i_0 127 (.aload_n 0) 1 none,
  i_0 128 (.dup) 1 none,
  i_f 129 (.getfield 172) 3 none 9 19 [944] 0,
  i_v 132 (.iconst 1) 1 none 1 [],
  i_0 133 (.iadd) 1 none,
  i_f 134 (.putfield 172) 3 none 9 19 [944] 0,
  i_0 137 (.aload_n 0) 1 none,
  i_0 138 (.dup) 1 none,
  i_f 139 (.getfield 181) 3 none 9 21 [946] 0,
  i_v 142 (.iconst 1) 1 none 1 [],
  i_0 143 (.isub) 1 none,
  i_f 144 (.putfield 181) 3 none 9 21 [946] 0,
  i_j 147 (.goto 7) 3 none 81,
  i_0 150 (.aload_n 0) 1 none,
  i_m 151 (.invokevirtual 209) 3 none 0 9 [1219, 1221, 52, 117, 1222] 0 sX9_figure,
  i_0 154 (.return_) 1 none]
set_option maxRecDepth 100000 in
theorem oX9_operand : xm_ok sX9_operand sX9_operand.1.cls kX9_operand = true := by decide +kernel
set_option maxRecDepth 100000 in
set_option maxHeartbeats 4000000 in
theorem xX9_operand_0 {K : Nat} {h : xm_H} {P : Option Value → xm_H → Prop} {a0 : Nat} (H :
    xm_Call K sX9_look 9 [.ref a0] h (xm_pi fun c2 h1 =>
      xm_Call K sX9_nameOf 99 [.int c2] h1 (xm_pi fun c4 h3 =>
        (if c4 < 0 then
          (if c2 = (33 : Int32) then
            xm_Call K sX9_opens 9 [.ref a0] h3 (xm_pi fun c6 h5 =>
              (if c6 = 0 then
                P none h5
              else
                xm_Call K sX9_operand 9 [.ref a0] h5 (xm_pv fun h7 =>
                  ∃ f8, xm_fld h7 a0 9 21 = some (.int f8) ∧ /- open -/
                  ∃ h9, xm_put h7 a0 9 21 (.int (f8 - (1 : Int32))) = some h9 ∧ /- open -/
                  (if c2 = (33 : Int32) then
                    xm_Call K sX9_addStep 9 [.ref a0, .int (3 : Int32), .int (0 : Int32)] h9 (xm_pv fun h10 =>
                      P none h10)
                  else
                    xm_Call K sX9_addStep 9 [.ref a0, .int (4 : Int32), .int (0 : Int32)] h9 (xm_pv fun h11 =>
                      P none h11)))))
          else
            (if c2 = (45 : Int32) then
              xm_Call K sX9_opens 9 [.ref a0] h3 (xm_pi fun c13 h12 =>
                (if c13 = 0 then
                  P none h12
                else
                  xm_Call K sX9_operand 9 [.ref a0] h12 (xm_pv fun h14 =>
                    ∃ f15, xm_fld h14 a0 9 21 = some (.int f15) ∧ /- open -/
                    ∃ h16, xm_put h14 a0 9 21 (.int (f15 - (1 : Int32))) = some h16 ∧ /- open -/
                    (if c2 = (33 : Int32) then
                      xm_Call K sX9_addStep 9 [.ref a0, .int (3 : Int32), .int (0 : Int32)] h16 (xm_pv fun h17 =>
                        P none h17)
                    else
                      xm_Call K sX9_addStep 9 [.ref a0, .int (4 : Int32), .int (0 : Int32)] h16 (xm_pv fun h18 =>
                        P none h18)))))
            else
              (if c2 = (40 : Int32) then
                xm_Call K sX9_opens 9 [.ref a0] h3 (xm_pi fun c20 h19 =>
                  (if c20 = 0 then
                    P none h19
                  else
                    xm_Call K sX9_either 9 [.ref a0] h19 (xm_pv fun h21 =>
                      ∃ f22, xm_fld h21 a0 9 20 = some (.int f22) ∧ /- fault -/
                      (if f22 < 0 then
                        xm_Call K sX9_look 9 [.ref a0] h21 (xm_pi fun c24 h23 =>
                          (if c24 = (41 : Int32) then
                            ∃ f25, xm_fld h23 a0 9 19 = some (.int f25) ∧ /- here -/
                            ∃ h26, xm_put h23 a0 9 19 (.int (f25 + (1 : Int32))) = some h26 ∧ /- here -/
                            ∃ f27, xm_fld h26 a0 9 21 = some (.int f27) ∧ /- open -/
                            ∃ h28, xm_put h26 a0 9 21 (.int (f27 - (1 : Int32))) = some h28 ∧ /- open -/
                            P none h28
                          else
                            xm_Call K sX9_wrong 9 [.ref a0] h23 (xm_pv fun h29 =>
                              P none h29)))
                      else
                        P none h21))))
              else
                xm_Call K sX9_figure 9 [.ref a0] h3 (xm_pv fun h30 =>
                  P none h30))))
        else
          xm_Call K sX9_nameOf 99 [.int c2] h3 (xm_pi fun c32 h31 =>
            xm_Call K sX9_addStep 9 [.ref a0, .int (2 : Int32), .int c32] h31 (xm_pv fun h33 =>
              ∃ f34, xm_fld h33 a0 9 19 = some (.int f34) ∧ /- here -/
              ∃ h35, xm_put h33 a0 9 19 (.int (f34 + (1 : Int32))) = some h35 ∧ /- here -/
              P none h35)))))) :
    xm_L K sX9_operand kX9_operand 0 [some (.ref a0), none] [] h P :=
  xm_run (fun _ _ h => h) oX9_operand 42 0 0 0 [some (.ref a0), none] [] h H
set_option maxRecDepth 100000 in
theorem eX9_operand {K K' : Nat} (hK : K < K') {h : xm_H} {P : Option Value → xm_H → Prop} {a0 : Nat} (hr : ∃ fs, h[a0]? = some (.inr (9, fs))) (H :
    xm_Call K sX9_look 9 [.ref a0] h (xm_pi fun c2 h1 =>
      xm_Call K sX9_nameOf 99 [.int c2] h1 (xm_pi fun c4 h3 =>
        (if c4 < 0 then
          (if c2 = (33 : Int32) then
            xm_Call K sX9_opens 9 [.ref a0] h3 (xm_pi fun c6 h5 =>
              (if c6 = 0 then
                P none h5
              else
                xm_Call K sX9_operand 9 [.ref a0] h5 (xm_pv fun h7 =>
                  ∃ f8, xm_fld h7 a0 9 21 = some (.int f8) ∧ /- open -/
                  ∃ h9, xm_put h7 a0 9 21 (.int (f8 - (1 : Int32))) = some h9 ∧ /- open -/
                  (if c2 = (33 : Int32) then
                    xm_Call K sX9_addStep 9 [.ref a0, .int (3 : Int32), .int (0 : Int32)] h9 (xm_pv fun h10 =>
                      P none h10)
                  else
                    xm_Call K sX9_addStep 9 [.ref a0, .int (4 : Int32), .int (0 : Int32)] h9 (xm_pv fun h11 =>
                      P none h11)))))
          else
            (if c2 = (45 : Int32) then
              xm_Call K sX9_opens 9 [.ref a0] h3 (xm_pi fun c13 h12 =>
                (if c13 = 0 then
                  P none h12
                else
                  xm_Call K sX9_operand 9 [.ref a0] h12 (xm_pv fun h14 =>
                    ∃ f15, xm_fld h14 a0 9 21 = some (.int f15) ∧ /- open -/
                    ∃ h16, xm_put h14 a0 9 21 (.int (f15 - (1 : Int32))) = some h16 ∧ /- open -/
                    (if c2 = (33 : Int32) then
                      xm_Call K sX9_addStep 9 [.ref a0, .int (3 : Int32), .int (0 : Int32)] h16 (xm_pv fun h17 =>
                        P none h17)
                    else
                      xm_Call K sX9_addStep 9 [.ref a0, .int (4 : Int32), .int (0 : Int32)] h16 (xm_pv fun h18 =>
                        P none h18)))))
            else
              (if c2 = (40 : Int32) then
                xm_Call K sX9_opens 9 [.ref a0] h3 (xm_pi fun c20 h19 =>
                  (if c20 = 0 then
                    P none h19
                  else
                    xm_Call K sX9_either 9 [.ref a0] h19 (xm_pv fun h21 =>
                      ∃ f22, xm_fld h21 a0 9 20 = some (.int f22) ∧ /- fault -/
                      (if f22 < 0 then
                        xm_Call K sX9_look 9 [.ref a0] h21 (xm_pi fun c24 h23 =>
                          (if c24 = (41 : Int32) then
                            ∃ f25, xm_fld h23 a0 9 19 = some (.int f25) ∧ /- here -/
                            ∃ h26, xm_put h23 a0 9 19 (.int (f25 + (1 : Int32))) = some h26 ∧ /- here -/
                            ∃ f27, xm_fld h26 a0 9 21 = some (.int f27) ∧ /- open -/
                            ∃ h28, xm_put h26 a0 9 21 (.int (f27 - (1 : Int32))) = some h28 ∧ /- open -/
                            P none h28
                          else
                            xm_Call K sX9_wrong 9 [.ref a0] h23 (xm_pv fun h29 =>
                              P none h29)))
                      else
                        P none h21))))
              else
                xm_Call K sX9_figure 9 [.ref a0] h3 (xm_pv fun h30 =>
                  P none h30))))
        else
          xm_Call K sX9_nameOf 99 [.int c2] h3 (xm_pi fun c32 h31 =>
            xm_Call K sX9_addStep 9 [.ref a0, .int (2 : Int32), .int c32] h31 (xm_pv fun h33 =>
              ∃ f34, xm_fld h33 a0 9 19 = some (.int f34) ∧ /- here -/
              ∃ h35, xm_put h33 a0 9 19 (.int (f34 + (1 : Int32))) = some h35 ∧ /- here -/
              P none h35)))))) :
    xm_Call K' sX9_operand 9 [.ref a0] h P :=
  xm_call_of (C := kX9_operand) hK (by decide +kernel) rfl (Nat.le_of_ble_eq_true rfl) (Or.inr ⟨a0, hr.choose, rfl, hr.choose_spec⟩) (xX9_operand_0 H)

def kX9_product : List xm_I := [
  i_0 0 (.aload_n 0) 1 none,
  i_m 1 (.invokevirtual 203) 3 none 0 9 [1196, 1198, 47, 117, 1199] 0 sX9_operand,
  i_0 4 (.aload_n 0) 1 (some [true, false]),
  i_f 5 (.getfield 175) 3 none 9 20 [945] 0,
  i_j 8 (.ifCond .ge 58) 3 none 33,
  i_0 11 (.aload_n 0) 1 none,
  i_m 12 (.invokevirtual 187) 3 none 0 9 [1200, 1202, 48, 117, 1203] 0 sX9_look,
  i_v 15 (.bipush 42) 2 none 42 [],
  i_j 17 (.if_icmp .eq 21) 3 none 17,
  i_0 20 (.aload_n 0) 1 none,
  i_m 21 (.invokevirtual 187) 3 none 0 9 [1200, 1202, 48, 117, 1203] 0 sX9_look,
  i_v 24 (.bipush 47) 2 none 47 [],
  i_j 26 (.if_icmp .eq 12) 3 none 17,
  i_0 29 (.aload_n 0) 1 none,
  i_m 30 (.invokevirtual 187) 3 none 0 9 [1200, 1202, 48, 117, 1203] 0 sX9_look,
  i_v 33 (.bipush 37) 2 none 37 [],
  i_j 35 (.if_icmp .ne 31) 3 none 33,
  i_0 38 (.aload_n 0) 1 none,
  i_m 39 (.invokevirtual 187) 3 none 0 9 [1200, 1202, 48, 117, 1203] 0 sX9_look,
  i_0 42 (.istore_n 1) 1 none,
  i_0 43 (.aload_n 0) 1 none,
  i_0 44 (.dup) 1 none,
  i_f 45 (.getfield 172) 3 none 9 19 [944] 0,
  i_v 48 (.iconst 1) 1 none 1 [],
  i_0 49 (.iadd) 1 none,
  i_f 50 (.putfield 172) 3 none 9 19 [944] 0,
  i_0 53 (.aload_n 0) 1 none,
  i_m 54 (.invokevirtual 203) 3 none 0 9 [1196, 1198, 47, 117, 1199] 0 sX9_operand,
  i_0 57 (.aload_n 0) 1 none,
  i_0 58 (.iload_n 1) 1 none,
  i_v 59 (.iconst 0) 1 none 0 [],
  i_m 60 (.invokevirtual 191) 3 none 2 9 [1207, 1209, 49, 117, 1210] 0 sX9_addStep,
  i_j 63 (.goto (-59)) 3 none 2,
  i_0 66 (.return_) 1 none]
set_option maxRecDepth 100000 in
theorem oX9_product : xm_ok sX9_product sX9_product.1.cls kX9_product = true := by decide +kernel
set_option maxRecDepth 100000 in
set_option maxHeartbeats 4000000 in
theorem xX9_product_0 {K : Nat} {h : xm_H} {P : Option Value → xm_H → Prop} {a0 : Nat} (H :
    xm_Call K sX9_operand 9 [.ref a0] h (xm_pv fun h1 =>
      xm_L K sX9_product kX9_product 2 [some (.ref a0), none] [] h1 P)) :
    xm_L K sX9_product kX9_product 0 [some (.ref a0), none] [] h P :=
  xm_run (fun _ _ h => h) oX9_product 3 0 0 0 [some (.ref a0), none] [] h H
set_option maxRecDepth 100000 in
theorem eX9_product {K K' : Nat} (hK : K < K') {h : xm_H} {P : Option Value → xm_H → Prop} {a0 : Nat} (hr : ∃ fs, h[a0]? = some (.inr (9, fs))) (H :
    xm_Call K sX9_operand 9 [.ref a0] h (xm_pv fun h1 =>
      xm_L K sX9_product kX9_product 2 [some (.ref a0), none] [] h1 P)) :
    xm_Call K' sX9_product 9 [.ref a0] h P :=
  xm_call_of (C := kX9_product) hK (by decide +kernel) rfl (Nat.le_of_ble_eq_true rfl) (Or.inr ⟨a0, hr.choose, rfl, hr.choose_spec⟩) (xX9_product_0 H)

set_option maxRecDepth 100000 in
set_option maxHeartbeats 4000000 in
theorem xX9_product_2 {K : Nat} {h : xm_H} {P : Option Value → xm_H → Prop} {a0 : Nat} (H :
    ∃ f1, xm_fld h a0 9 20 = some (.int f1) ∧ /- fault -/
    (if f1 < 0 then
      xm_Call K sX9_look 9 [.ref a0] h (xm_pi fun c3 h2 =>
        (if c3 = (42 : Int32) then
          xm_Call K sX9_look 9 [.ref a0] h2 (xm_pi fun c5 h4 =>
            ∃ f6, xm_fld h4 a0 9 19 = some (.int f6) ∧ /- here -/
            ∃ h7, xm_put h4 a0 9 19 (.int (f6 + (1 : Int32))) = some h7 ∧ /- here -/
            xm_Call K sX9_operand 9 [.ref a0] h7 (xm_pv fun h8 =>
              xm_Call K sX9_addStep 9 [.ref a0, .int c5, .int (0 : Int32)] h8 (xm_pv fun h9 =>
                xm_L K sX9_product kX9_product 2 [some (.ref a0), none] [] h9 P)))
        else
          xm_Call K sX9_look 9 [.ref a0] h2 (xm_pi fun c11 h10 =>
            (if c11 = (47 : Int32) then
              xm_Call K sX9_look 9 [.ref a0] h10 (xm_pi fun c13 h12 =>
                ∃ f14, xm_fld h12 a0 9 19 = some (.int f14) ∧ /- here -/
                ∃ h15, xm_put h12 a0 9 19 (.int (f14 + (1 : Int32))) = some h15 ∧ /- here -/
                xm_Call K sX9_operand 9 [.ref a0] h15 (xm_pv fun h16 =>
                  xm_Call K sX9_addStep 9 [.ref a0, .int c13, .int (0 : Int32)] h16 (xm_pv fun h17 =>
                    xm_L K sX9_product kX9_product 2 [some (.ref a0), none] [] h17 P)))
            else
              xm_Call K sX9_look 9 [.ref a0] h10 (xm_pi fun c19 h18 =>
                (if c19 = (37 : Int32) then
                  xm_Call K sX9_look 9 [.ref a0] h18 (xm_pi fun c21 h20 =>
                    ∃ f22, xm_fld h20 a0 9 19 = some (.int f22) ∧ /- here -/
                    ∃ h23, xm_put h20 a0 9 19 (.int (f22 + (1 : Int32))) = some h23 ∧ /- here -/
                    xm_Call K sX9_operand 9 [.ref a0] h23 (xm_pv fun h24 =>
                      xm_Call K sX9_addStep 9 [.ref a0, .int c21, .int (0 : Int32)] h24 (xm_pv fun h25 =>
                        xm_L K sX9_product kX9_product 2 [some (.ref a0), none] [] h25 P)))
                else
                  P none h18))))))
    else
      P none h)) :
    xm_L K sX9_product kX9_product 2 [some (.ref a0), none] [] h P :=
  xm_run (fun _ _ h => h) oX9_product 32 2 0 0 [some (.ref a0), none] [] h H

def kX9_sum : List xm_I := [
  i_0 0 (.aload_n 0) 1 none,
  i_m 1 (.invokevirtual 212) 3 none 0 9 [1192, 1194, 46, 117, 1195] 0 sX9_product,
  i_0 4 (.aload_n 0) 1 (some [true, false]),
  i_f 5 (.getfield 175) 3 none 9 20 [945] 0,
  i_j 8 (.ifCond .ge 49) 3 none 29,
  i_0 11 (.aload_n 0) 1 none,
  i_m 12 (.invokevirtual 187) 3 none 0 9 [1200, 1202, 48, 117, 1203] 0 sX9_look,
  i_v 15 (.bipush 43) 2 none 43 [],
  i_j 17 (.if_icmp .eq 12) 3 none 13,
  i_0 20 (.aload_n 0) 1 none,
  i_m 21 (.invokevirtual 187) 3 none 0 9 [1200, 1202, 48, 117, 1203] 0 sX9_look,
  i_v 24 (.bipush 45) 2 none 45 [],
  i_j 26 (.if_icmp .ne 31) 3 none 29,
  i_0 29 (.aload_n 0) 1 none,
  i_m 30 (.invokevirtual 187) 3 none 0 9 [1200, 1202, 48, 117, 1203] 0 sX9_look,
  i_0 33 (.istore_n 1) 1 none,
  i_0 34 (.aload_n 0) 1 none,
  i_0 35 (.dup) 1 none,
  i_f 36 (.getfield 172) 3 none 9 19 [944] 0,
  i_v 39 (.iconst 1) 1 none 1 [],
  i_0 40 (.iadd) 1 none,
  i_f 41 (.putfield 172) 3 none 9 19 [944] 0,
  i_0 44 (.aload_n 0) 1 none,
  i_m 45 (.invokevirtual 212) 3 none 0 9 [1192, 1194, 46, 117, 1195] 0 sX9_product,
  i_0 48 (.aload_n 0) 1 none,
  i_0 49 (.iload_n 1) 1 none,
  i_v 50 (.iconst 0) 1 none 0 [],
  i_m 51 (.invokevirtual 191) 3 none 2 9 [1207, 1209, 49, 117, 1210] 0 sX9_addStep,
  i_j 54 (.goto (-50)) 3 none 2,
  i_0 57 (.return_) 1 none]
set_option maxRecDepth 100000 in
theorem oX9_sum : xm_ok sX9_sum sX9_sum.1.cls kX9_sum = true := by decide +kernel
set_option maxRecDepth 100000 in
set_option maxHeartbeats 4000000 in
theorem xX9_sum_0 {K : Nat} {h : xm_H} {P : Option Value → xm_H → Prop} {a0 : Nat} (H :
    xm_Call K sX9_product 9 [.ref a0] h (xm_pv fun h1 =>
      xm_L K sX9_sum kX9_sum 2 [some (.ref a0), none] [] h1 P)) :
    xm_L K sX9_sum kX9_sum 0 [some (.ref a0), none] [] h P :=
  xm_run (fun _ _ h => h) oX9_sum 3 0 0 0 [some (.ref a0), none] [] h H
set_option maxRecDepth 100000 in
theorem eX9_sum {K K' : Nat} (hK : K < K') {h : xm_H} {P : Option Value → xm_H → Prop} {a0 : Nat} (hr : ∃ fs, h[a0]? = some (.inr (9, fs))) (H :
    xm_Call K sX9_product 9 [.ref a0] h (xm_pv fun h1 =>
      xm_L K sX9_sum kX9_sum 2 [some (.ref a0), none] [] h1 P)) :
    xm_Call K' sX9_sum 9 [.ref a0] h P :=
  xm_call_of (C := kX9_sum) hK (by decide +kernel) rfl (Nat.le_of_ble_eq_true rfl) (Or.inr ⟨a0, hr.choose, rfl, hr.choose_spec⟩) (xX9_sum_0 H)

set_option maxRecDepth 100000 in
set_option maxHeartbeats 4000000 in
theorem xX9_sum_2 {K : Nat} {h : xm_H} {P : Option Value → xm_H → Prop} {a0 : Nat} (H :
    ∃ f1, xm_fld h a0 9 20 = some (.int f1) ∧ /- fault -/
    (if f1 < 0 then
      xm_Call K sX9_look 9 [.ref a0] h (xm_pi fun c3 h2 =>
        (if c3 = (43 : Int32) then
          xm_Call K sX9_look 9 [.ref a0] h2 (xm_pi fun c5 h4 =>
            ∃ f6, xm_fld h4 a0 9 19 = some (.int f6) ∧ /- here -/
            ∃ h7, xm_put h4 a0 9 19 (.int (f6 + (1 : Int32))) = some h7 ∧ /- here -/
            xm_Call K sX9_product 9 [.ref a0] h7 (xm_pv fun h8 =>
              xm_Call K sX9_addStep 9 [.ref a0, .int c5, .int (0 : Int32)] h8 (xm_pv fun h9 =>
                xm_L K sX9_sum kX9_sum 2 [some (.ref a0), none] [] h9 P)))
        else
          xm_Call K sX9_look 9 [.ref a0] h2 (xm_pi fun c11 h10 =>
            (if c11 = (45 : Int32) then
              xm_Call K sX9_look 9 [.ref a0] h10 (xm_pi fun c13 h12 =>
                ∃ f14, xm_fld h12 a0 9 19 = some (.int f14) ∧ /- here -/
                ∃ h15, xm_put h12 a0 9 19 (.int (f14 + (1 : Int32))) = some h15 ∧ /- here -/
                xm_Call K sX9_product 9 [.ref a0] h15 (xm_pv fun h16 =>
                  xm_Call K sX9_addStep 9 [.ref a0, .int c13, .int (0 : Int32)] h16 (xm_pv fun h17 =>
                    xm_L K sX9_sum kX9_sum 2 [some (.ref a0), none] [] h17 P)))
            else
              P none h10))))
    else
      P none h)) :
    xm_L K sX9_sum kX9_sum 2 [some (.ref a0), none] [] h P :=
  xm_run (fun _ _ h => h) oX9_sum 28 2 0 0 [some (.ref a0), none] [] h H

def kX9_compared : List xm_I := [
  i_0 0 (.aload_n 0) 1 none,
  i_m 1 (.invokevirtual 215) 3 none 0 9 [1188, 1190, 45, 117, 1191] 0 sX9_sum,
  i_0 4 (.aload_n 0) 1 none,
  i_m 5 (.invokevirtual 187) 3 none 0 9 [1200, 1202, 48, 117, 1203] 0 sX9_look,
  i_0 8 (.istore_n 1) 1 none,
  i_0 9 (.aload_n 0) 1 none,
  i_f 10 (.getfield 175) 3 none 9 20 [945] 0,
  i_j 13 (.ifCond .ge 21) 3 none 17,
  i_0 16 (.iload_n 1) 1 none,
  i_v 17 (.bipush 60) 2 none 60 [],
  i_j 19 (.if_icmp .eq 16) 3 none 18,
  i_0 22 (.iload_n 1) 1 none,
  i_v 23 (.bipush 61) 2 none 61 [],
  i_j 25 (.if_icmp .eq 10) 3 none 18,
  i_0 28 (.iload_n 1) 1 none,
  i_v 29 (.bipush 62) 2 none 62 [],
  i_j 31 (.if_icmp .eq 4) 3 none 18,
  i_0 34 (.return_) 1 none,
  i_0 35 (.aload_n 0) 1 none,
  i_0 36 (.dup) 1 none,
  i_f 37 (.getfield 172) 3 none 9 19 [944] 0,
  i_v 40 (.iconst 1) 1 none 1 [],
  i_0 41 (.iadd) 1 none,
  i_f 42 (.putfield 172) 3 none 9 19 [944] 0,
  i_0 45 (.aload_n 0) 1 none,
  i_m 46 (.invokevirtual 215) 3 none 0 9 [1188, 1190, 45, 117, 1191] 0 sX9_sum,
  i_0 49 (.aload_n 0) 1 none,
  i_0 50 (.iload_n 1) 1 none,
  i_v 51 (.iconst 0) 1 none 0 [],
  i_m 52 (.invokevirtual 191) 3 none 2 9 [1207, 1209, 49, 117, 1210] 0 sX9_addStep,
  i_0 55 (.return_) 1 none]
set_option maxRecDepth 100000 in
theorem oX9_compared : xm_ok sX9_compared sX9_compared.1.cls kX9_compared = true := by decide +kernel
set_option maxRecDepth 100000 in
set_option maxHeartbeats 4000000 in
theorem xX9_compared_0 {K : Nat} {h : xm_H} {P : Option Value → xm_H → Prop} {a0 : Nat} (H :
    xm_Call K sX9_sum 9 [.ref a0] h (xm_pv fun h1 =>
      xm_Call K sX9_look 9 [.ref a0] h1 (xm_pi fun c3 h2 =>
        ∃ f4, xm_fld h2 a0 9 20 = some (.int f4) ∧ /- fault -/
        (if f4 < 0 then
          (if c3 = (60 : Int32) then
            ∃ f5, xm_fld h2 a0 9 19 = some (.int f5) ∧ /- here -/
            ∃ h6, xm_put h2 a0 9 19 (.int (f5 + (1 : Int32))) = some h6 ∧ /- here -/
            xm_Call K sX9_sum 9 [.ref a0] h6 (xm_pv fun h7 =>
              xm_Call K sX9_addStep 9 [.ref a0, .int c3, .int (0 : Int32)] h7 (xm_pv fun h8 =>
                P none h8))
          else
            (if c3 = (61 : Int32) then
              ∃ f9, xm_fld h2 a0 9 19 = some (.int f9) ∧ /- here -/
              ∃ h10, xm_put h2 a0 9 19 (.int (f9 + (1 : Int32))) = some h10 ∧ /- here -/
              xm_Call K sX9_sum 9 [.ref a0] h10 (xm_pv fun h11 =>
                xm_Call K sX9_addStep 9 [.ref a0, .int c3, .int (0 : Int32)] h11 (xm_pv fun h12 =>
                  P none h12))
            else
              (if c3 = (62 : Int32) then
                ∃ f13, xm_fld h2 a0 9 19 = some (.int f13) ∧ /- here -/
                ∃ h14, xm_put h2 a0 9 19 (.int (f13 + (1 : Int32))) = some h14 ∧ /- here -/
                xm_Call K sX9_sum 9 [.ref a0] h14 (xm_pv fun h15 =>
                  xm_Call K sX9_addStep 9 [.ref a0, .int c3, .int (0 : Int32)] h15 (xm_pv fun h16 =>
                    P none h16))
              else
                P none h2)))
        else
          P none h2)))) :
    xm_L K sX9_compared kX9_compared 0 [some (.ref a0), none] [] h P :=
  xm_run (fun _ _ h => h) oX9_compared 31 0 0 0 [some (.ref a0), none] [] h H
set_option maxRecDepth 100000 in
theorem eX9_compared {K K' : Nat} (hK : K < K') {h : xm_H} {P : Option Value → xm_H → Prop} {a0 : Nat} (hr : ∃ fs, h[a0]? = some (.inr (9, fs))) (H :
    xm_Call K sX9_sum 9 [.ref a0] h (xm_pv fun h1 =>
      xm_Call K sX9_look 9 [.ref a0] h1 (xm_pi fun c3 h2 =>
        ∃ f4, xm_fld h2 a0 9 20 = some (.int f4) ∧ /- fault -/
        (if f4 < 0 then
          (if c3 = (60 : Int32) then
            ∃ f5, xm_fld h2 a0 9 19 = some (.int f5) ∧ /- here -/
            ∃ h6, xm_put h2 a0 9 19 (.int (f5 + (1 : Int32))) = some h6 ∧ /- here -/
            xm_Call K sX9_sum 9 [.ref a0] h6 (xm_pv fun h7 =>
              xm_Call K sX9_addStep 9 [.ref a0, .int c3, .int (0 : Int32)] h7 (xm_pv fun h8 =>
                P none h8))
          else
            (if c3 = (61 : Int32) then
              ∃ f9, xm_fld h2 a0 9 19 = some (.int f9) ∧ /- here -/
              ∃ h10, xm_put h2 a0 9 19 (.int (f9 + (1 : Int32))) = some h10 ∧ /- here -/
              xm_Call K sX9_sum 9 [.ref a0] h10 (xm_pv fun h11 =>
                xm_Call K sX9_addStep 9 [.ref a0, .int c3, .int (0 : Int32)] h11 (xm_pv fun h12 =>
                  P none h12))
            else
              (if c3 = (62 : Int32) then
                ∃ f13, xm_fld h2 a0 9 19 = some (.int f13) ∧ /- here -/
                ∃ h14, xm_put h2 a0 9 19 (.int (f13 + (1 : Int32))) = some h14 ∧ /- here -/
                xm_Call K sX9_sum 9 [.ref a0] h14 (xm_pv fun h15 =>
                  xm_Call K sX9_addStep 9 [.ref a0, .int c3, .int (0 : Int32)] h15 (xm_pv fun h16 =>
                    P none h16))
              else
                P none h2)))
        else
          P none h2)))) :
    xm_Call K' sX9_compared 9 [.ref a0] h P :=
  xm_call_of (C := kX9_compared) hK (by decide +kernel) rfl (Nat.le_of_ble_eq_true rfl) (Or.inr ⟨a0, hr.choose, rfl, hr.choose_spec⟩) (xX9_compared_0 H)

def kX9_both : List xm_I := [
  i_0 0 (.aload_n 0) 1 none,
  i_m 1 (.invokevirtual 218) 3 none 0 9 [1184, 1186, 44, 117, 1187] 0 sX9_compared,
  i_0 4 (.aload_n 0) 1 (some [true]),
  i_f 5 (.getfield 175) 3 none 9 20 [945] 0,
  i_j 8 (.ifCond .ge 36) 3 none 22,
  i_0 11 (.aload_n 0) 1 none,
  i_m 12 (.invokevirtual 187) 3 none 0 9 [1200, 1202, 48, 117, 1203] 0 sX9_look,
  i_v 15 (.bipush 38) 2 none 38 [],
  i_j 17 (.if_icmp .ne 27) 3 none 22,
  i_0 20 (.aload_n 0) 1 none,
  i_0 21 (.dup) 1 none,
  i_f 22 (.getfield 172) 3 none 9 19 [944] 0,
  i_v 25 (.iconst 1) 1 none 1 [],
  i_0 26 (.iadd) 1 none,
  i_f 27 (.putfield 172) 3 none 9 19 [944] 0,
  i_0 30 (.aload_n 0) 1 none,
  i_m 31 (.invokevirtual 218) 3 none 0 9 [1184, 1186, 44, 117, 1187] 0 sX9_compared,
  i_0 34 (.aload_n 0) 1 none,
  i_v 35 (.bipush 38) 2 none 38 [],
  i_v 37 (.iconst 0) 1 none 0 [],
  i_m 38 (.invokevirtual 191) 3 none 2 9 [1207, 1209, 49, 117, 1210] 0 sX9_addStep,
  i_j 41 (.goto (-37)) 3 none 2,
  i_0 44 (.return_) 1 none]
set_option maxRecDepth 100000 in
theorem oX9_both : xm_ok sX9_both sX9_both.1.cls kX9_both = true := by decide +kernel
set_option maxRecDepth 100000 in
set_option maxHeartbeats 4000000 in
theorem xX9_both_0 {K : Nat} {h : xm_H} {P : Option Value → xm_H → Prop} {a0 : Nat} (H :
    xm_Call K sX9_compared 9 [.ref a0] h (xm_pv fun h1 =>
      xm_L K sX9_both kX9_both 2 [some (.ref a0)] [] h1 P)) :
    xm_L K sX9_both kX9_both 0 [some (.ref a0)] [] h P :=
  xm_run (fun _ _ h => h) oX9_both 3 0 0 0 [some (.ref a0)] [] h H
set_option maxRecDepth 100000 in
theorem eX9_both {K K' : Nat} (hK : K < K') {h : xm_H} {P : Option Value → xm_H → Prop} {a0 : Nat} (hr : ∃ fs, h[a0]? = some (.inr (9, fs))) (H :
    xm_Call K sX9_compared 9 [.ref a0] h (xm_pv fun h1 =>
      xm_L K sX9_both kX9_both 2 [some (.ref a0)] [] h1 P)) :
    xm_Call K' sX9_both 9 [.ref a0] h P :=
  xm_call_of (C := kX9_both) hK (by decide +kernel) rfl (Nat.le_of_ble_eq_true rfl) (Or.inr ⟨a0, hr.choose, rfl, hr.choose_spec⟩) (xX9_both_0 H)

set_option maxRecDepth 100000 in
set_option maxHeartbeats 4000000 in
theorem xX9_both_2 {K : Nat} {h : xm_H} {P : Option Value → xm_H → Prop} {a0 : Nat} (H :
    ∃ f1, xm_fld h a0 9 20 = some (.int f1) ∧ /- fault -/
    (if f1 < 0 then
      xm_Call K sX9_look 9 [.ref a0] h (xm_pi fun c3 h2 =>
        (if c3 = (38 : Int32) then
          ∃ f4, xm_fld h2 a0 9 19 = some (.int f4) ∧ /- here -/
          ∃ h5, xm_put h2 a0 9 19 (.int (f4 + (1 : Int32))) = some h5 ∧ /- here -/
          xm_Call K sX9_compared 9 [.ref a0] h5 (xm_pv fun h6 =>
            xm_Call K sX9_addStep 9 [.ref a0, .int (38 : Int32), .int (0 : Int32)] h6 (xm_pv fun h7 =>
              xm_L K sX9_both kX9_both 2 [some (.ref a0)] [] h7 P))
        else
          P none h2))
    else
      P none h)) :
    xm_L K sX9_both kX9_both 2 [some (.ref a0)] [] h P :=
  xm_run (fun _ _ h => h) oX9_both 21 2 0 0 [some (.ref a0)] [] h H

def kX9_either : List xm_I := [
  i_0 0 (.aload_n 0) 1 none,
  i_m 1 (.invokevirtual 221) 3 none 0 9 [1180, 1182, 43, 117, 1183] 0 sX9_both,
  i_0 4 (.aload_n 0) 1 (some [true]),
  i_f 5 (.getfield 175) 3 none 9 20 [945] 0,
  i_j 8 (.ifCond .ge 36) 3 none 22,
  i_0 11 (.aload_n 0) 1 none,
  i_m 12 (.invokevirtual 187) 3 none 0 9 [1200, 1202, 48, 117, 1203] 0 sX9_look,
  i_v 15 (.bipush 124) 2 none 124 [],
  i_j 17 (.if_icmp .ne 27) 3 none 22,
  i_0 20 (.aload_n 0) 1 none,
  i_0 21 (.dup) 1 none,
  i_f 22 (.getfield 172) 3 none 9 19 [944] 0,
  i_v 25 (.iconst 1) 1 none 1 [],
  i_0 26 (.iadd) 1 none,
  i_f 27 (.putfield 172) 3 none 9 19 [944] 0,
  i_0 30 (.aload_n 0) 1 none,
  i_m 31 (.invokevirtual 221) 3 none 0 9 [1180, 1182, 43, 117, 1183] 0 sX9_both,
  i_0 34 (.aload_n 0) 1 none,
  i_v 35 (.bipush 124) 2 none 124 [],
  i_v 37 (.iconst 0) 1 none 0 [],
  i_m 38 (.invokevirtual 191) 3 none 2 9 [1207, 1209, 49, 117, 1210] 0 sX9_addStep,
  i_j 41 (.goto (-37)) 3 none 2,
  i_0 44 (.return_) 1 none]
set_option maxRecDepth 100000 in
theorem oX9_either : xm_ok sX9_either sX9_either.1.cls kX9_either = true := by decide +kernel
set_option maxRecDepth 100000 in
set_option maxHeartbeats 4000000 in
theorem xX9_either_0 {K : Nat} {h : xm_H} {P : Option Value → xm_H → Prop} {a0 : Nat} (H :
    xm_Call K sX9_both 9 [.ref a0] h (xm_pv fun h1 =>
      xm_L K sX9_either kX9_either 2 [some (.ref a0)] [] h1 P)) :
    xm_L K sX9_either kX9_either 0 [some (.ref a0)] [] h P :=
  xm_run (fun _ _ h => h) oX9_either 3 0 0 0 [some (.ref a0)] [] h H
set_option maxRecDepth 100000 in
theorem eX9_either {K K' : Nat} (hK : K < K') {h : xm_H} {P : Option Value → xm_H → Prop} {a0 : Nat} (hr : ∃ fs, h[a0]? = some (.inr (9, fs))) (H :
    xm_Call K sX9_both 9 [.ref a0] h (xm_pv fun h1 =>
      xm_L K sX9_either kX9_either 2 [some (.ref a0)] [] h1 P)) :
    xm_Call K' sX9_either 9 [.ref a0] h P :=
  xm_call_of (C := kX9_either) hK (by decide +kernel) rfl (Nat.le_of_ble_eq_true rfl) (Or.inr ⟨a0, hr.choose, rfl, hr.choose_spec⟩) (xX9_either_0 H)

set_option maxRecDepth 100000 in
set_option maxHeartbeats 4000000 in
theorem xX9_either_2 {K : Nat} {h : xm_H} {P : Option Value → xm_H → Prop} {a0 : Nat} (H :
    ∃ f1, xm_fld h a0 9 20 = some (.int f1) ∧ /- fault -/
    (if f1 < 0 then
      xm_Call K sX9_look 9 [.ref a0] h (xm_pi fun c3 h2 =>
        (if c3 = (124 : Int32) then
          ∃ f4, xm_fld h2 a0 9 19 = some (.int f4) ∧ /- here -/
          ∃ h5, xm_put h2 a0 9 19 (.int (f4 + (1 : Int32))) = some h5 ∧ /- here -/
          xm_Call K sX9_both 9 [.ref a0] h5 (xm_pv fun h6 =>
            xm_Call K sX9_addStep 9 [.ref a0, .int (124 : Int32), .int (0 : Int32)] h6 (xm_pv fun h7 =>
              xm_L K sX9_either kX9_either 2 [some (.ref a0)] [] h7 P))
        else
          P none h2))
    else
      P none h)) :
    xm_L K sX9_either kX9_either 2 [some (.ref a0)] [] h P :=
  xm_run (fun _ _ h => h) oX9_either 21 2 0 0 [some (.ref a0)] [] h H

def kX9_line : List xm_I := [
  i_v 0 (.bipush 61) 2 none 61 [],
  i_0 2 (.aload_n 0) 1 none,
  i_f 3 (.getfield 59) 3 none 9 25 [950] 1,
  i_v 6 (.iconst 1) 1 none 1 [],
  i_0 7 (.iaload) 1 none,
  i_0 8 (.iadd) 1 none,
  i_0 9 (.istore_n 1) 1 none,
  i_0 10 (.aload_n 0) 1 none,
  i_f 11 (.getfield 62) 3 none 9 26 [951] 1,
  i_0 14 (.iload_n 1) 1 none,
  i_0 15 (.aload_n 0) 1 none,
  i_f 16 (.getfield 178) 3 none 9 22 [947] 0,
  i_0 19 (.i2s) 1 none,
  i_0 20 (.sastore) 1 none,
  i_0 21 (.aload_n 0) 1 none,
  i_m 22 (.invokevirtual 206) 3 none 0 9 [1176, 1178, 42, 117, 1179] 0 sX9_either,
  i_0 25 (.aload_n 0) 1 none,
  i_f 26 (.getfield 175) 3 none 9 20 [945] 0,
  i_j 29 (.ifCond .ge 37) 3 none 38,
  i_0 32 (.aload_n 0) 1 none,
  i_m 33 (.invokevirtual 187) 3 none 0 9 [1200, 1202, 48, 117, 1203] 0 sX9_look,
  i_v 36 (.bipush 63) 2 none 63 [],
  i_j 38 (.if_icmp .ne 28) 3 none 38,
  i_0 41 (.aload_n 0) 1 none,
  i_0 42 (.dup) 1 none,
  i_f 43 (.getfield 172) 3 none 9 19 [944] 0,
  i_v 46 (.iconst 1) 1 none 1 [],
  i_0 47 (.iadd) 1 none,
  i_f 48 (.putfield 172) 3 none 9 19 [944] 0,
  i_0 51 (.aload_n 0) 1 none,
  i_f 52 (.getfield 62) 3 none 9 26 [951] 1,
  i_0 55 (.iload_n 1) 1 none,
  i_0 56 (.aload_n 0) 1 none,
  i_f 57 (.getfield 178) 3 none 9 22 [947] 0,
  i_0 60 (.i2s) 1 none,
  i_0 61 (.sastore) 1 none,
  i_0 62 (.aload_n 0) 1 none,
  i_m 63 (.invokevirtual 206) 3 none 0 9 [1176, 1178, 42, 117, 1179] 0 sX9_either,
  i_0 66 (.aload_n 0) 1 none,
  i_f 67 (.getfield 66) 3 none 9 27 [952] 1,
  i_0 70 (.iload_n 1) 1 none,
  i_0 71 (.aload_n 0) 1 none,
  i_f 72 (.getfield 178) 3 none 9 22 [947] 0,
  i_0 75 (.i2s) 1 none,
  i_0 76 (.sastore) 1 none,
  i_0 77 (.aload_n 0) 1 none,
  i_f 78 (.getfield 59) 3 none 9 25 [950] 1,
  i_v 81 (.iconst 1) 1 none 1 [],
  i_0 82 (.dup2) 1 none,
  i_0 83 (.iaload) 1 none,
  i_v 84 (.iconst 1) 1 none 1 [],
  i_0 85 (.iadd) 1 none,
  i_0 86 (.iastore) 1 none,
  i_0 87 (.return_) 1 none]
set_option maxRecDepth 100000 in
theorem oX9_line : xm_ok sX9_line sX9_line.1.cls kX9_line = true := by decide +kernel
set_option maxRecDepth 100000 in
set_option maxHeartbeats 4000000 in
theorem xX9_line_0 {K : Nat} {h : xm_H} {P : Option Value → xm_H → Prop} {a0 : Nat} (H :
    ∃ q1, xm_fld h a0 9 25 = some (.ref q1) ∧ /- lineMany -/
    ∃ e2, xm_ld xm_st h 0 q1 (1 : Int32) = some e2 ∧
    ∃ q3, xm_fld h a0 9 26 = some (.ref q3) ∧ /- testEnd -/
    ∃ f4, xm_fld h a0 9 22 = some (.int f4) ∧ /- laid -/
    ∃ h5, xm_sto h 2 q3 ((61 : Int32) + e2) ((Int32.toInt16 f4).toInt32) = some h5 ∧
    xm_Call K sX9_either 9 [.ref a0] h5 (xm_pv fun h6 =>
      ∃ f7, xm_fld h6 a0 9 20 = some (.int f7) ∧ /- fault -/
      (if f7 < 0 then
        xm_Call K sX9_look 9 [.ref a0] h6 (xm_pi fun c9 h8 =>
          (if c9 = (63 : Int32) then
            ∃ f10, xm_fld h8 a0 9 19 = some (.int f10) ∧ /- here -/
            ∃ h11, xm_put h8 a0 9 19 (.int (f10 + (1 : Int32))) = some h11 ∧ /- here -/
            ∃ q12, xm_fld h11 a0 9 26 = some (.ref q12) ∧ /- testEnd -/
            ∃ f13, xm_fld h11 a0 9 22 = some (.int f13) ∧ /- laid -/
            ∃ h14, xm_sto h11 2 q12 ((61 : Int32) + e2) ((Int32.toInt16 f13).toInt32) = some h14 ∧
            xm_Call K sX9_either 9 [.ref a0] h14 (xm_pv fun h15 =>
              ∃ q16, xm_fld h15 a0 9 27 = some (.ref q16) ∧ /- lineEnd -/
              ∃ f17, xm_fld h15 a0 9 22 = some (.int f17) ∧ /- laid -/
              ∃ h18, xm_sto h15 2 q16 ((61 : Int32) + e2) ((Int32.toInt16 f17).toInt32) = some h18 ∧
              ∃ q19, xm_fld h18 a0 9 25 = some (.ref q19) ∧ /- lineMany -/
              ∃ e20, xm_ld xm_st h18 0 q19 (1 : Int32) = some e20 ∧
              ∃ h21, xm_sto h18 0 q19 (1 : Int32) (e20 + (1 : Int32)) = some h21 ∧
              P none h21)
          else
            ∃ q22, xm_fld h8 a0 9 27 = some (.ref q22) ∧ /- lineEnd -/
            ∃ f23, xm_fld h8 a0 9 22 = some (.int f23) ∧ /- laid -/
            ∃ h24, xm_sto h8 2 q22 ((61 : Int32) + e2) ((Int32.toInt16 f23).toInt32) = some h24 ∧
            ∃ q25, xm_fld h24 a0 9 25 = some (.ref q25) ∧ /- lineMany -/
            ∃ e26, xm_ld xm_st h24 0 q25 (1 : Int32) = some e26 ∧
            ∃ h27, xm_sto h24 0 q25 (1 : Int32) (e26 + (1 : Int32)) = some h27 ∧
            P none h27))
      else
        ∃ q28, xm_fld h6 a0 9 27 = some (.ref q28) ∧ /- lineEnd -/
        ∃ f29, xm_fld h6 a0 9 22 = some (.int f29) ∧ /- laid -/
        ∃ h30, xm_sto h6 2 q28 ((61 : Int32) + e2) ((Int32.toInt16 f29).toInt32) = some h30 ∧
        ∃ q31, xm_fld h30 a0 9 25 = some (.ref q31) ∧ /- lineMany -/
        ∃ e32, xm_ld xm_st h30 0 q31 (1 : Int32) = some e32 ∧
        ∃ h33, xm_sto h30 0 q31 (1 : Int32) (e32 + (1 : Int32)) = some h33 ∧
        P none h33))) :
    xm_L K sX9_line kX9_line 0 [some (.ref a0), none] [] h P :=
  xm_run (fun _ _ h => h) oX9_line 55 0 0 0 [some (.ref a0), none] [] h H
set_option maxRecDepth 100000 in
theorem eX9_line {K K' : Nat} (hK : K < K') {h : xm_H} {P : Option Value → xm_H → Prop} {a0 : Nat} (hr : ∃ fs, h[a0]? = some (.inr (9, fs))) (H :
    ∃ q1, xm_fld h a0 9 25 = some (.ref q1) ∧ /- lineMany -/
    ∃ e2, xm_ld xm_st h 0 q1 (1 : Int32) = some e2 ∧
    ∃ q3, xm_fld h a0 9 26 = some (.ref q3) ∧ /- testEnd -/
    ∃ f4, xm_fld h a0 9 22 = some (.int f4) ∧ /- laid -/
    ∃ h5, xm_sto h 2 q3 ((61 : Int32) + e2) ((Int32.toInt16 f4).toInt32) = some h5 ∧
    xm_Call K sX9_either 9 [.ref a0] h5 (xm_pv fun h6 =>
      ∃ f7, xm_fld h6 a0 9 20 = some (.int f7) ∧ /- fault -/
      (if f7 < 0 then
        xm_Call K sX9_look 9 [.ref a0] h6 (xm_pi fun c9 h8 =>
          (if c9 = (63 : Int32) then
            ∃ f10, xm_fld h8 a0 9 19 = some (.int f10) ∧ /- here -/
            ∃ h11, xm_put h8 a0 9 19 (.int (f10 + (1 : Int32))) = some h11 ∧ /- here -/
            ∃ q12, xm_fld h11 a0 9 26 = some (.ref q12) ∧ /- testEnd -/
            ∃ f13, xm_fld h11 a0 9 22 = some (.int f13) ∧ /- laid -/
            ∃ h14, xm_sto h11 2 q12 ((61 : Int32) + e2) ((Int32.toInt16 f13).toInt32) = some h14 ∧
            xm_Call K sX9_either 9 [.ref a0] h14 (xm_pv fun h15 =>
              ∃ q16, xm_fld h15 a0 9 27 = some (.ref q16) ∧ /- lineEnd -/
              ∃ f17, xm_fld h15 a0 9 22 = some (.int f17) ∧ /- laid -/
              ∃ h18, xm_sto h15 2 q16 ((61 : Int32) + e2) ((Int32.toInt16 f17).toInt32) = some h18 ∧
              ∃ q19, xm_fld h18 a0 9 25 = some (.ref q19) ∧ /- lineMany -/
              ∃ e20, xm_ld xm_st h18 0 q19 (1 : Int32) = some e20 ∧
              ∃ h21, xm_sto h18 0 q19 (1 : Int32) (e20 + (1 : Int32)) = some h21 ∧
              P none h21)
          else
            ∃ q22, xm_fld h8 a0 9 27 = some (.ref q22) ∧ /- lineEnd -/
            ∃ f23, xm_fld h8 a0 9 22 = some (.int f23) ∧ /- laid -/
            ∃ h24, xm_sto h8 2 q22 ((61 : Int32) + e2) ((Int32.toInt16 f23).toInt32) = some h24 ∧
            ∃ q25, xm_fld h24 a0 9 25 = some (.ref q25) ∧ /- lineMany -/
            ∃ e26, xm_ld xm_st h24 0 q25 (1 : Int32) = some e26 ∧
            ∃ h27, xm_sto h24 0 q25 (1 : Int32) (e26 + (1 : Int32)) = some h27 ∧
            P none h27))
      else
        ∃ q28, xm_fld h6 a0 9 27 = some (.ref q28) ∧ /- lineEnd -/
        ∃ f29, xm_fld h6 a0 9 22 = some (.int f29) ∧ /- laid -/
        ∃ h30, xm_sto h6 2 q28 ((61 : Int32) + e2) ((Int32.toInt16 f29).toInt32) = some h30 ∧
        ∃ q31, xm_fld h30 a0 9 25 = some (.ref q31) ∧ /- lineMany -/
        ∃ e32, xm_ld xm_st h30 0 q31 (1 : Int32) = some e32 ∧
        ∃ h33, xm_sto h30 0 q31 (1 : Int32) (e32 + (1 : Int32)) = some h33 ∧
        P none h33))) :
    xm_Call K' sX9_line 9 [.ref a0] h P :=
  xm_call_of (C := kX9_line) hK (by decide +kernel) rfl (Nat.le_of_ble_eq_true rfl) (Or.inr ⟨a0, hr.choose, rfl, hr.choose_spec⟩) (xX9_line_0 H)

def kX9_readText : List xm_I := [
  i_0 0 (.aload_n 0) 1 none,
  i_v 1 (.iconst 0) 1 none 0 [],
  i_f 2 (.putfield 172) 3 none 9 19 [944] 0,
  i_0 5 (.aload_n 0) 1 none,
  i_v 6 (.iconst (-1)) 1 none (-1) [],
  i_f 7 (.putfield 175) 3 none 9 20 [945] 0,
  i_0 10 (.aload_n 0) 1 none,
  i_v 11 (.iconst 0) 1 none 0 [],
  i_f 12 (.putfield 181) 3 none 9 21 [946] 0,
  i_0 15 (.aload_n 0) 1 none,
  i_v 16 (.iconst 0) 1 none 0 [],
  i_f 17 (.putfield 178) 3 none 9 22 [947] 0,
  i_0 20 (.aload_n 0) 1 none,
  i_f 21 (.getfield 59) 3 none 9 25 [950] 1,
  i_v 24 (.iconst 1) 1 none 1 [],
  i_v 25 (.iconst 0) 1 none 0 [],
  i_0 26 (.iastore) 1 none,
  i_0 27 (.aload_n 0) 1 none,
  i_m 28 (.invokevirtual 224) 3 none 0 9 [1172, 1174, 41, 117, 1175] 0 sX9_line,
  i_0 31 (.aload_n 0) 1 (some [true, true, false]),
  i_f 32 (.getfield 175) 3 none 9 20 [945] 0,
  i_j 35 (.ifCond .ge 29) 3 none 35,
  i_0 38 (.aload_n 0) 1 none,
  i_m 39 (.invokevirtual 187) 3 none 0 9 [1200, 1202, 48, 117, 1203] 0 sX9_look,
  i_v 42 (.bipush 59) 2 none 59 [],
  i_j 44 (.if_icmp .ne 20) 3 none 35,
  i_0 47 (.aload_n 0) 1 none,
  i_0 48 (.dup) 1 none,
  i_f 49 (.getfield 172) 3 none 9 19 [944] 0,
  i_v 52 (.iconst 1) 1 none 1 [],
  i_0 53 (.iadd) 1 none,
  i_f 54 (.putfield 172) 3 none 9 19 [944] 0,
  i_0 57 (.aload_n 0) 1 none,
  i_m 58 (.invokevirtual 224) 3 none 0 9 [1172, 1174, 41, 117, 1175] 0 sX9_line,
  i_j 61 (.goto (-30)) 3 none 19,
  i_0 64 (.aload_n 0) 1 none,
  i_f 65 (.getfield 175) 3 none 9 20 [945] 0,
  i_j 68 (.ifCond .ge 18) 3 none 45,
  i_0 71 (.aload_n 0) 1 none,
  i_f 72 (.getfield 172) 3 none 9 19 [944] 0,
  i_0 75 (.aload_n 0) 1 none,
  i_f 76 (.getfield 169) 3 none 9 18 [943] 0,
  i_j 79 (.if_icmp .ge 7) 3 none 45,
  i_0 82 (.aload_n 0) 1 none,
  i_m 83 (.invokevirtual 184) 3 none 0 9 [1215, 1217, 51, 117, 1218] 0 sX9_wrong,
  i_0 86 (.aload_n 0) 1 none,
  i_v 87 (.iconst 0) 1 none 0 [],
  i_f 88 (.putfield 169) 3 none 9 18 [943] 0,
  i_0 91 (.aload_n 0) 1 none,
  i_f 92 (.getfield 175) 3 none 9 20 [945] 0,
  i_j 95 (.ifCond .lt 8) 3 none 54,
  i_0 98 (.aload_n 0) 1 none,
  i_f 99 (.getfield 175) 3 none 9 20 [945] 0,
  i_0 102 (.ireturn) 1 none,
  i_v 103 (.iconst 0) 1 none 0 [],
  i_0 104 (.istore_n 2) 1 none,
  i_0 105 (.iload_n 2) 1 (some [true, true, true]),
  i_0 106 (.aload_n 0) 1 none,
  i_f 107 (.getfield 178) 3 none 9 22 [947] 0,
  i_j 110 (.if_icmp .ge 53) 3 none 90,
  i_0 113 (.aload_n 0) 1 none,
  i_f 114 (.getfield 53) 3 none 9 23 [948] 1,
  i_v 117 (.sipush 130) 3 none 130 [],
  i_0 120 (.iload_n 1) 1 none,
  i_0 121 (.imul) 1 none,
  i_0 122 (.iload_n 2) 1 none,
  i_0 123 (.iadd) 1 none,
  i_0 124 (.aload_n 0) 1 none,
  i_f 125 (.getfield 53) 3 none 9 23 [948] 1,
  i_v 128 (.sipush 130) 3 none 130 [],
  i_0 131 (.iload_n 2) 1 none,
  i_0 132 (.iadd) 1 none,
  i_0 133 (.baload) 1 none,
  i_0 134 (.bastore) 1 none,
  i_0 135 (.aload_n 0) 1 none,
  i_f 136 (.getfield 56) 3 none 9 24 [949] 1,
  i_v 139 (.sipush 130) 3 none 130 [],
  i_0 142 (.iload_n 1) 1 none,
  i_0 143 (.imul) 1 none,
  i_0 144 (.iload_n 2) 1 none,
  i_0 145 (.iadd) 1 none,
  i_0 146 (.aload_n 0) 1 none,
  i_f 147 (.getfield 56) 3 none 9 24 [949] 1,
  i_v 150 (.sipush 130) 3 none 130 [],
  i_0 153 (.iload_n 2) 1 none,
  i_0 154 (.iadd) 1 none,
  i_0 155 (.iaload) 1 none,
  i_0 156 (.iastore) 1 none,
  i_v 157 (.iinc 2 1) 3 none 1 [],
  i_j 160 (.goto (-55)) 3 none 56,
  i_0 163 (.aload_n 0) 1 none,
  i_f 164 (.getfield 59) 3 none 9 25 [950] 1,
  i_0 167 (.iload_n 1) 1 none,
  i_0 168 (.aload_n 0) 1 none,
  i_f 169 (.getfield 59) 3 none 9 25 [950] 1,
  i_v 172 (.iconst 1) 1 none 1 [],
  i_0 173 (.iaload) 1 none,
  i_0 174 (.iastore) 1 none,
  i_v 175 (.iconst 0) 1 none 0 [],
  i_0 176 (.istore_n 2) 1 none,
  i_0 177 (.iload_n 2) 1 (some [true, true, true]),
  i_0 178 (.aload_n 0) 1 none,
  i_f 179 (.getfield 59) 3 none 9 25 [950] 1,
  i_0 182 (.iload_n 1) 1 none,
  i_0 183 (.iaload) 1 none,
  i_j 184 (.if_icmp .ge 49) 3 none 136,
  i_0 187 (.aload_n 0) 1 none,
  i_f 188 (.getfield 62) 3 none 9 26 [951] 1,
  i_v 191 (.bipush 61) 2 none 61 [],
  i_0 193 (.iload_n 1) 1 none,
  i_0 194 (.imul) 1 none,
  i_0 195 (.iload_n 2) 1 none,
  i_0 196 (.iadd) 1 none,
  i_0 197 (.aload_n 0) 1 none,
  i_f 198 (.getfield 62) 3 none 9 26 [951] 1,
  i_v 201 (.bipush 61) 2 none 61 [],
  i_0 203 (.iload_n 2) 1 none,
  i_0 204 (.iadd) 1 none,
  i_0 205 (.saload) 1 none,
  i_0 206 (.sastore) 1 none,
  i_0 207 (.aload_n 0) 1 none,
  i_f 208 (.getfield 66) 3 none 9 27 [952] 1,
  i_v 211 (.bipush 61) 2 none 61 [],
  i_0 213 (.iload_n 1) 1 none,
  i_0 214 (.imul) 1 none,
  i_0 215 (.iload_n 2) 1 none,
  i_0 216 (.iadd) 1 none,
  i_0 217 (.aload_n 0) 1 none,
  i_f 218 (.getfield 66) 3 none 9 27 [952] 1,
  i_v 221 (.bipush 61) 2 none 61 [],
  i_0 223 (.iload_n 2) 1 none,
  i_0 224 (.iadd) 1 none,
  i_0 225 (.saload) 1 none,
  i_0 226 (.sastore) 1 none,
  i_v 227 (.iinc 2 1) 3 none 1 [],
  i_j 230 (.goto (-53)) 3 none 100,
  i_v 233 (.iconst (-1)) 1 none (-1) [],
  i_0 234 (.ireturn) 1 none]
set_option maxRecDepth 100000 in
theorem oX9_readText : xm_ok sX9_readText sX9_readText.1.cls kX9_readText = true := by decide +kernel
set_option maxRecDepth 100000 in
set_option maxHeartbeats 4000000 in
theorem xX9_readText_0 {K : Nat} {h : xm_H} {P : Option Value → xm_H → Prop} {a0 : Nat} {x1 : Int32} (H :
    ∃ h1, xm_put h a0 9 19 (.int (0 : Int32)) = some h1 ∧ /- here -/
    ∃ h2, xm_put h1 a0 9 20 (.int (-1 : Int32)) = some h2 ∧ /- fault -/
    ∃ h3, xm_put h2 a0 9 21 (.int (0 : Int32)) = some h3 ∧ /- open -/
    ∃ h4, xm_put h3 a0 9 22 (.int (0 : Int32)) = some h4 ∧ /- laid -/
    ∃ q5, xm_fld h4 a0 9 25 = some (.ref q5) ∧ /- lineMany -/
    ∃ h6, xm_sto h4 0 q5 (1 : Int32) (0 : Int32) = some h6 ∧
    xm_Call K sX9_line 9 [.ref a0] h6 (xm_pv fun h7 =>
      xm_L K sX9_readText kX9_readText 19 [some (.ref a0), some (.int x1), none] [] h7 P)) :
    xm_L K sX9_readText kX9_readText 0 [some (.ref a0), some (.int x1), none] [] h P :=
  xm_run (fun _ _ h => h) oX9_readText 20 0 0 0 [some (.ref a0), some (.int x1), none] [] h H
set_option maxRecDepth 100000 in
theorem eX9_readText {K K' : Nat} (hK : K < K') {h : xm_H} {P : Option Value → xm_H → Prop} {a0 : Nat} {x1 : Int32} (hr : ∃ fs, h[a0]? = some (.inr (9, fs))) (H :
    ∃ h1, xm_put h a0 9 19 (.int (0 : Int32)) = some h1 ∧ /- here -/
    ∃ h2, xm_put h1 a0 9 20 (.int (-1 : Int32)) = some h2 ∧ /- fault -/
    ∃ h3, xm_put h2 a0 9 21 (.int (0 : Int32)) = some h3 ∧ /- open -/
    ∃ h4, xm_put h3 a0 9 22 (.int (0 : Int32)) = some h4 ∧ /- laid -/
    ∃ q5, xm_fld h4 a0 9 25 = some (.ref q5) ∧ /- lineMany -/
    ∃ h6, xm_sto h4 0 q5 (1 : Int32) (0 : Int32) = some h6 ∧
    xm_Call K sX9_line 9 [.ref a0] h6 (xm_pv fun h7 =>
      xm_L K sX9_readText kX9_readText 19 [some (.ref a0), some (.int x1), none] [] h7 P)) :
    xm_Call K' sX9_readText 9 [.ref a0, .int x1] h P :=
  xm_call_of (C := kX9_readText) hK (by decide +kernel) rfl (Nat.le_of_ble_eq_true rfl) (Or.inr ⟨a0, hr.choose, rfl, hr.choose_spec⟩) (xX9_readText_0 H)

set_option maxRecDepth 100000 in
set_option maxHeartbeats 4000000 in
theorem xX9_readText_19 {K : Nat} {h : xm_H} {P : Option Value → xm_H → Prop} {a0 : Nat} {x1 : Int32} (H :
    ∃ f1, xm_fld h a0 9 20 = some (.int f1) ∧ /- fault -/
    (if f1 < 0 then
      xm_Call K sX9_look 9 [.ref a0] h (xm_pi fun c3 h2 =>
        (if c3 = (59 : Int32) then
          ∃ f4, xm_fld h2 a0 9 19 = some (.int f4) ∧ /- here -/
          ∃ h5, xm_put h2 a0 9 19 (.int (f4 + (1 : Int32))) = some h5 ∧ /- here -/
          xm_Call K sX9_line 9 [.ref a0] h5 (xm_pv fun h6 =>
            xm_L K sX9_readText kX9_readText 19 [some (.ref a0), some (.int x1), none] [] h6 P)
        else
          ∃ f7, xm_fld h2 a0 9 20 = some (.int f7) ∧ /- fault -/
          (if f7 < 0 then
            ∃ f8, xm_fld h2 a0 9 19 = some (.int f8) ∧ /- here -/
            ∃ f9, xm_fld h2 a0 9 18 = some (.int f9) ∧ /- taped -/
            (if f8 < f9 then
              xm_Call K sX9_wrong 9 [.ref a0] h2 (xm_pv fun h10 =>
                ∃ h11, xm_put h10 a0 9 18 (.int (0 : Int32)) = some h11 ∧ /- taped -/
                ∃ f12, xm_fld h11 a0 9 20 = some (.int f12) ∧ /- fault -/
                (if f12 < 0 then
                  xm_L K sX9_readText kX9_readText 56 [some (.ref a0), some (.int x1), some (.int (0 : Int32))] [] h11 P
                else
                  ∃ f13, xm_fld h11 a0 9 20 = some (.int f13) ∧ /- fault -/
                  P (some (.int f13)) h11))
            else
              ∃ h14, xm_put h2 a0 9 18 (.int (0 : Int32)) = some h14 ∧ /- taped -/
              ∃ f15, xm_fld h14 a0 9 20 = some (.int f15) ∧ /- fault -/
              (if f15 < 0 then
                xm_L K sX9_readText kX9_readText 56 [some (.ref a0), some (.int x1), some (.int (0 : Int32))] [] h14 P
              else
                ∃ f16, xm_fld h14 a0 9 20 = some (.int f16) ∧ /- fault -/
                P (some (.int f16)) h14))
          else
            ∃ h17, xm_put h2 a0 9 18 (.int (0 : Int32)) = some h17 ∧ /- taped -/
            ∃ f18, xm_fld h17 a0 9 20 = some (.int f18) ∧ /- fault -/
            (if f18 < 0 then
              xm_L K sX9_readText kX9_readText 56 [some (.ref a0), some (.int x1), some (.int (0 : Int32))] [] h17 P
            else
              ∃ f19, xm_fld h17 a0 9 20 = some (.int f19) ∧ /- fault -/
              P (some (.int f19)) h17))))
    else
      ∃ f20, xm_fld h a0 9 20 = some (.int f20) ∧ /- fault -/
      (if f20 < 0 then
        ∃ f21, xm_fld h a0 9 19 = some (.int f21) ∧ /- here -/
        ∃ f22, xm_fld h a0 9 18 = some (.int f22) ∧ /- taped -/
        (if f21 < f22 then
          xm_Call K sX9_wrong 9 [.ref a0] h (xm_pv fun h23 =>
            ∃ h24, xm_put h23 a0 9 18 (.int (0 : Int32)) = some h24 ∧ /- taped -/
            ∃ f25, xm_fld h24 a0 9 20 = some (.int f25) ∧ /- fault -/
            (if f25 < 0 then
              xm_L K sX9_readText kX9_readText 56 [some (.ref a0), some (.int x1), some (.int (0 : Int32))] [] h24 P
            else
              ∃ f26, xm_fld h24 a0 9 20 = some (.int f26) ∧ /- fault -/
              P (some (.int f26)) h24))
        else
          ∃ h27, xm_put h a0 9 18 (.int (0 : Int32)) = some h27 ∧ /- taped -/
          ∃ f28, xm_fld h27 a0 9 20 = some (.int f28) ∧ /- fault -/
          (if f28 < 0 then
            xm_L K sX9_readText kX9_readText 56 [some (.ref a0), some (.int x1), some (.int (0 : Int32))] [] h27 P
          else
            ∃ f29, xm_fld h27 a0 9 20 = some (.int f29) ∧ /- fault -/
            P (some (.int f29)) h27))
      else
        ∃ h30, xm_put h a0 9 18 (.int (0 : Int32)) = some h30 ∧ /- taped -/
        ∃ f31, xm_fld h30 a0 9 20 = some (.int f31) ∧ /- fault -/
        (if f31 < 0 then
          xm_L K sX9_readText kX9_readText 56 [some (.ref a0), some (.int x1), some (.int (0 : Int32))] [] h30 P
        else
          ∃ f32, xm_fld h30 a0 9 20 = some (.int f32) ∧ /- fault -/
          P (some (.int f32)) h30)))) :
    xm_L K sX9_readText kX9_readText 19 [some (.ref a0), some (.int x1), none] [] h P :=
  xm_run (fun _ _ h => h) oX9_readText 27 19 0 0 [some (.ref a0), some (.int x1), none] [] h H

set_option maxRecDepth 100000 in
set_option maxHeartbeats 4000000 in
theorem xX9_readText_56 {K : Nat} {h : xm_H} {P : Option Value → xm_H → Prop} {a0 : Nat} {x1 : Int32} {x2 : Int32} (H :
    ∃ f1, xm_fld h a0 9 22 = some (.int f1) ∧ /- laid -/
    (if x2 < f1 then
      ∃ q2, xm_fld h a0 9 23 = some (.ref q2) ∧ /- act -/
      ∃ q3, xm_fld h a0 9 23 = some (.ref q3) ∧ /- act -/
      ∃ e4, xm_ld xm_st h 1 q3 ((130 : Int32) + x2) = some e4 ∧
      ∃ h5, xm_sto h 1 q2 (((130 : Int32) * x1) + x2) e4 = some h5 ∧
      ∃ q6, xm_fld h5 a0 9 24 = some (.ref q6) ∧ /- with -/
      ∃ q7, xm_fld h5 a0 9 24 = some (.ref q7) ∧ /- with -/
      ∃ e8, xm_ld xm_st h5 0 q7 ((130 : Int32) + x2) = some e8 ∧
      ∃ h9, xm_sto h5 0 q6 (((130 : Int32) * x1) + x2) e8 = some h9 ∧
      xm_L K sX9_readText kX9_readText 56 [some (.ref a0), some (.int x1), some (.int (x2 + (1 : Int32)))] [] h9 P
    else
      ∃ q10, xm_fld h a0 9 25 = some (.ref q10) ∧ /- lineMany -/
      ∃ q11, xm_fld h a0 9 25 = some (.ref q11) ∧ /- lineMany -/
      ∃ e12, xm_ld xm_st h 0 q11 (1 : Int32) = some e12 ∧
      ∃ h13, xm_sto h 0 q10 x1 e12 = some h13 ∧
      xm_L K sX9_readText kX9_readText 100 [some (.ref a0), some (.int x1), some (.int (0 : Int32))] [] h13 P)) :
    xm_L K sX9_readText kX9_readText 56 [some (.ref a0), some (.int x1), some (.int x2)] [] h P :=
  xm_run (fun _ _ h => h) oX9_readText 35 56 0 0 [some (.ref a0), some (.int x1), some (.int x2)] [] h H

set_option maxRecDepth 100000 in
set_option maxHeartbeats 4000000 in
theorem xX9_readText_100 {K : Nat} {h : xm_H} {P : Option Value → xm_H → Prop} {a0 : Nat} {x1 : Int32} {x2 : Int32} (H :
    ∃ q1, xm_fld h a0 9 25 = some (.ref q1) ∧ /- lineMany -/
    ∃ e2, xm_ld xm_st h 0 q1 x1 = some e2 ∧
    (if x2 < e2 then
      ∃ q3, xm_fld h a0 9 26 = some (.ref q3) ∧ /- testEnd -/
      ∃ q4, xm_fld h a0 9 26 = some (.ref q4) ∧ /- testEnd -/
      ∃ e5, xm_ld xm_st h 2 q4 ((61 : Int32) + x2) = some e5 ∧
      ∃ h6, xm_sto h 2 q3 (((61 : Int32) * x1) + x2) e5 = some h6 ∧
      ∃ q7, xm_fld h6 a0 9 27 = some (.ref q7) ∧ /- lineEnd -/
      ∃ q8, xm_fld h6 a0 9 27 = some (.ref q8) ∧ /- lineEnd -/
      ∃ e9, xm_ld xm_st h6 2 q8 ((61 : Int32) + x2) = some e9 ∧
      ∃ h10, xm_sto h6 2 q7 (((61 : Int32) * x1) + x2) e9 = some h10 ∧
      xm_L K sX9_readText kX9_readText 100 [some (.ref a0), some (.int x1), some (.int (x2 + (1 : Int32)))] [] h10 P
    else
      P (some (.int (-1 : Int32))) h)) :
    xm_L K sX9_readText kX9_readText 100 [some (.ref a0), some (.int x1), some (.int x2)] [] h P :=
  xm_run (fun _ _ h => h) oX9_readText 37 100 0 0 [some (.ref a0), some (.int x1), some (.int x2)] [] h H

def kX9_twoOf : List xm_I := [
  i_0 0 (.iload_n 0) 1 none,
  i_s 1 (.tableswitch 217 37 62 #[153, 203, 217, 217, 217, 127, 119, 217, 123, 217, 131, 217, 217, 217, 217, 217, 217, 217, 217, 217, 217, 217, 217, 170, 181, 192]) 119 none 68 [(37, 28), (38, 60), (39, 68), (40, 68), (41, 68), (42, 10), (43, 2), (44, 68), (45, 6), (46, 68), (47, 14), (48, 68), (49, 68), (50, 68), (51, 68), (52, 68), (53, 68), (54, 68), (55, 68), (56, 68), (57, 68), (58, 68), (59, 68), (60, 39), (61, 46), (62, 53)],
  i_0 120 (.iload_n 1) 1 none,
  i_0 121 (.iload_n 2) 1 none,
  i_0 122 (.iadd) 1 none,
  i_0 123 (.ireturn) 1 none,
  i_0 124 (.iload_n 1) 1 none,
  i_0 125 (.iload_n 2) 1 none,
  i_0 126 (.isub) 1 none,
  i_0 127 (.ireturn) 1 none,
  i_0 128 (.iload_n 1) 1 none,
  i_0 129 (.iload_n 2) 1 none,
  i_0 130 (.imul) 1 none,
  i_0 131 (.ireturn) 1 none,
  i_0 132 (.iload_n 2) 1 none,
  i_j 133 (.ifCond .ne 7) 3 none 18,
  i_v 136 (.iconst 0) 1 none 0 [],
  i_j 137 (.goto 16) 3 none 27,
  i_0 140 (.iload_n 2) 1 none,
  i_v 141 (.iconst (-1)) 1 none (-1) [],
  i_j 142 (.if_icmp .ne 8) 3 none 24,
  i_0 145 (.iload_n 1) 1 none,
  i_0 146 (.ineg) 1 none,
  i_j 147 (.goto 6) 3 none 27,
  i_0 150 (.iload_n 1) 1 none,
  i_0 151 (.iload_n 2) 1 none,
  i_0 152 (.idiv) 1 none,
  i_0 153 (.ireturn) 1 none,
  i_0 154 (.iload_n 2) 1 none,
  i_j 155 (.ifCond .eq 8) 3 none 33,
  i_0 158 (.iload_n 2) 1 none,
  i_v 159 (.iconst (-1)) 1 none (-1) [],
  i_j 160 (.if_icmp .ne 7) 3 none 35,
  i_v 163 (.iconst 0) 1 none 0 [],
  i_j 164 (.goto 6) 3 none 38,
  i_0 167 (.iload_n 1) 1 none,
  i_0 168 (.iload_n 2) 1 none,
  i_0 169 (.irem) 1 none,
  i_0 170 (.ireturn) 1 none,
  i_0 171 (.iload_n 1) 1 none,
  i_0 172 (.iload_n 2) 1 none,
  i_j 173 (.if_icmp .ge 7) 3 none 44,
  i_v 176 (.iconst 1) 1 none 1 [],
  i_j 177 (.goto 4) 3 none 45,
  i_v 180 (.iconst 0) 1 none 0 [],
  i_0 181 (.ireturn) 1 none,
  i_0 182 (.iload_n 1) 1 none,
  i_0 183 (.iload_n 2) 1 none,
  i_j 184 (.if_icmp .ne 7) 3 none 51,
  i_v 187 (.iconst 1) 1 none 1 [],
  i_j 188 (.goto 4) 3 none 52,
  i_v 191 (.iconst 0) 1 none 0 [],
  i_0 192 (.ireturn) 1 none,
  i_0 193 (.iload_n 1) 1 none,
  i_0 194 (.iload_n 2) 1 none,
  i_j 195 (.if_icmp .le 7) 3 none 58,
  i_v 198 (.iconst 1) 1 none 1 [],
  i_j 199 (.goto 4) 3 none 59,
  i_v 202 (.iconst 0) 1 none 0 [],
  i_0 203 (.ireturn) 1 none,
  i_0 204 (.iload_n 1) 1 none,
  i_j 205 (.ifCond .eq 11) 3 none 66,
  i_0 208 (.iload_n 2) 1 none,
  i_j 209 (.ifCond .eq 7) 3 none 66,
  i_v 212 (.iconst 1) 1 none 1 [],
  i_j 213 (.goto 4) 3 none 67,
  i_v 216 (.iconst 0) 1 none 0 [],
  i_0 217 (.ireturn) 1 none,
  i_0 218 (.iload_n 1) 1 none,
  i_j 219 (.ifCond .ne 7) 3 none 72,
  i_0 222 (.iload_n 2) 1 none,
  i_j 223 (.ifCond .eq 7) 3 none 74,
  i_v 226 (.iconst 1) 1 none 1 [],
  i_j 227 (.goto 4) 3 none 75,
  i_v 230 (.iconst 0) 1 none 0 [],
  i_0 231 (.ireturn) 1 none]
set_option maxRecDepth 100000 in
theorem oX9_twoOf : xm_ok sX9_twoOf sX9_twoOf.1.cls kX9_twoOf = true := by decide +kernel
set_option maxRecDepth 100000 in
set_option maxHeartbeats 4000000 in
theorem xX9_twoOf_0 {K : Nat} {h : xm_H} {P : Option Value → xm_H → Prop} {x0 : Int32} {x1 : Int32} {x2 : Int32} (H :
    (if x0 = 37 then
      (if x2 = 0 then
        P (some (.int (0 : Int32))) h
      else
        (if x2 = (-1 : Int32) then
          P (some (.int (0 : Int32))) h
        else
          ¬ x2 = 0 ∧
          P (some (.int (x1 - x1 / x2 * x2))) h))
    else
    (if x0 = 38 then
      (if x1 = 0 then
        P (some (.int (0 : Int32))) h
      else
        (if x2 = 0 then
          P (some (.int (0 : Int32))) h
        else
          P (some (.int (1 : Int32))) h))
    else
    (if x0 = 39 then
      (if x1 = 0 then
        (if x2 = 0 then
          P (some (.int (0 : Int32))) h
        else
          P (some (.int (1 : Int32))) h)
      else
        P (some (.int (1 : Int32))) h)
    else
    (if x0 = 40 then
      (if x1 = 0 then
        (if x2 = 0 then
          P (some (.int (0 : Int32))) h
        else
          P (some (.int (1 : Int32))) h)
      else
        P (some (.int (1 : Int32))) h)
    else
    (if x0 = 41 then
      (if x1 = 0 then
        (if x2 = 0 then
          P (some (.int (0 : Int32))) h
        else
          P (some (.int (1 : Int32))) h)
      else
        P (some (.int (1 : Int32))) h)
    else
    (if x0 = 42 then
      P (some (.int (x1 * x2))) h
    else
    (if x0 = 43 then
      P (some (.int (x1 + x2))) h
    else
    (if x0 = 44 then
      (if x1 = 0 then
        (if x2 = 0 then
          P (some (.int (0 : Int32))) h
        else
          P (some (.int (1 : Int32))) h)
      else
        P (some (.int (1 : Int32))) h)
    else
    (if x0 = 45 then
      P (some (.int (x1 - x2))) h
    else
    (if x0 = 46 then
      (if x1 = 0 then
        (if x2 = 0 then
          P (some (.int (0 : Int32))) h
        else
          P (some (.int (1 : Int32))) h)
      else
        P (some (.int (1 : Int32))) h)
    else
    (if x0 = 47 then
      (if x2 = 0 then
        P (some (.int (0 : Int32))) h
      else
        (if x2 = (-1 : Int32) then
          P (some (.int (-x1))) h
        else
          ¬ x2 = 0 ∧
          P (some (.int (x1 / x2))) h))
    else
    (if x0 = 48 then
      (if x1 = 0 then
        (if x2 = 0 then
          P (some (.int (0 : Int32))) h
        else
          P (some (.int (1 : Int32))) h)
      else
        P (some (.int (1 : Int32))) h)
    else
    (if x0 = 49 then
      (if x1 = 0 then
        (if x2 = 0 then
          P (some (.int (0 : Int32))) h
        else
          P (some (.int (1 : Int32))) h)
      else
        P (some (.int (1 : Int32))) h)
    else
    (if x0 = 50 then
      (if x1 = 0 then
        (if x2 = 0 then
          P (some (.int (0 : Int32))) h
        else
          P (some (.int (1 : Int32))) h)
      else
        P (some (.int (1 : Int32))) h)
    else
    (if x0 = 51 then
      (if x1 = 0 then
        (if x2 = 0 then
          P (some (.int (0 : Int32))) h
        else
          P (some (.int (1 : Int32))) h)
      else
        P (some (.int (1 : Int32))) h)
    else
    (if x0 = 52 then
      (if x1 = 0 then
        (if x2 = 0 then
          P (some (.int (0 : Int32))) h
        else
          P (some (.int (1 : Int32))) h)
      else
        P (some (.int (1 : Int32))) h)
    else
    (if x0 = 53 then
      (if x1 = 0 then
        (if x2 = 0 then
          P (some (.int (0 : Int32))) h
        else
          P (some (.int (1 : Int32))) h)
      else
        P (some (.int (1 : Int32))) h)
    else
    (if x0 = 54 then
      (if x1 = 0 then
        (if x2 = 0 then
          P (some (.int (0 : Int32))) h
        else
          P (some (.int (1 : Int32))) h)
      else
        P (some (.int (1 : Int32))) h)
    else
    (if x0 = 55 then
      (if x1 = 0 then
        (if x2 = 0 then
          P (some (.int (0 : Int32))) h
        else
          P (some (.int (1 : Int32))) h)
      else
        P (some (.int (1 : Int32))) h)
    else
    (if x0 = 56 then
      (if x1 = 0 then
        (if x2 = 0 then
          P (some (.int (0 : Int32))) h
        else
          P (some (.int (1 : Int32))) h)
      else
        P (some (.int (1 : Int32))) h)
    else
    (if x0 = 57 then
      (if x1 = 0 then
        (if x2 = 0 then
          P (some (.int (0 : Int32))) h
        else
          P (some (.int (1 : Int32))) h)
      else
        P (some (.int (1 : Int32))) h)
    else
    (if x0 = 58 then
      (if x1 = 0 then
        (if x2 = 0 then
          P (some (.int (0 : Int32))) h
        else
          P (some (.int (1 : Int32))) h)
      else
        P (some (.int (1 : Int32))) h)
    else
    (if x0 = 59 then
      (if x1 = 0 then
        (if x2 = 0 then
          P (some (.int (0 : Int32))) h
        else
          P (some (.int (1 : Int32))) h)
      else
        P (some (.int (1 : Int32))) h)
    else
    (if x0 = 60 then
      (if x1 < x2 then
        P (some (.int (1 : Int32))) h
      else
        P (some (.int (0 : Int32))) h)
    else
    (if x0 = 61 then
      (if x1 = x2 then
        P (some (.int (1 : Int32))) h
      else
        P (some (.int (0 : Int32))) h)
    else
    (if x0 = 62 then
      (if x2 < x1 then
        P (some (.int (1 : Int32))) h
      else
        P (some (.int (0 : Int32))) h)
    else
    (if x1 = 0 then
      (if x2 = 0 then
        P (some (.int (0 : Int32))) h
      else
        P (some (.int (1 : Int32))) h)
    else
      P (some (.int (1 : Int32))) h)))))))))))))))))))))))))))) :
    xm_L K sX9_twoOf kX9_twoOf 0 [some (.int x0), some (.int x1), some (.int x2)] [] h P :=
  xm_run (fun _ _ h => h) oX9_twoOf 12 0 0 0 [some (.int x0), some (.int x1), some (.int x2)] [] h H
set_option maxRecDepth 100000 in
theorem eX9_twoOf {K K' : Nat} (hK : K < K') {h : xm_H} {P : Option Value → xm_H → Prop} {x0 : Int32} {x1 : Int32} {x2 : Int32} (H :
    (if x0 = 37 then
      (if x2 = 0 then
        P (some (.int (0 : Int32))) h
      else
        (if x2 = (-1 : Int32) then
          P (some (.int (0 : Int32))) h
        else
          ¬ x2 = 0 ∧
          P (some (.int (x1 - x1 / x2 * x2))) h))
    else
    (if x0 = 38 then
      (if x1 = 0 then
        P (some (.int (0 : Int32))) h
      else
        (if x2 = 0 then
          P (some (.int (0 : Int32))) h
        else
          P (some (.int (1 : Int32))) h))
    else
    (if x0 = 39 then
      (if x1 = 0 then
        (if x2 = 0 then
          P (some (.int (0 : Int32))) h
        else
          P (some (.int (1 : Int32))) h)
      else
        P (some (.int (1 : Int32))) h)
    else
    (if x0 = 40 then
      (if x1 = 0 then
        (if x2 = 0 then
          P (some (.int (0 : Int32))) h
        else
          P (some (.int (1 : Int32))) h)
      else
        P (some (.int (1 : Int32))) h)
    else
    (if x0 = 41 then
      (if x1 = 0 then
        (if x2 = 0 then
          P (some (.int (0 : Int32))) h
        else
          P (some (.int (1 : Int32))) h)
      else
        P (some (.int (1 : Int32))) h)
    else
    (if x0 = 42 then
      P (some (.int (x1 * x2))) h
    else
    (if x0 = 43 then
      P (some (.int (x1 + x2))) h
    else
    (if x0 = 44 then
      (if x1 = 0 then
        (if x2 = 0 then
          P (some (.int (0 : Int32))) h
        else
          P (some (.int (1 : Int32))) h)
      else
        P (some (.int (1 : Int32))) h)
    else
    (if x0 = 45 then
      P (some (.int (x1 - x2))) h
    else
    (if x0 = 46 then
      (if x1 = 0 then
        (if x2 = 0 then
          P (some (.int (0 : Int32))) h
        else
          P (some (.int (1 : Int32))) h)
      else
        P (some (.int (1 : Int32))) h)
    else
    (if x0 = 47 then
      (if x2 = 0 then
        P (some (.int (0 : Int32))) h
      else
        (if x2 = (-1 : Int32) then
          P (some (.int (-x1))) h
        else
          ¬ x2 = 0 ∧
          P (some (.int (x1 / x2))) h))
    else
    (if x0 = 48 then
      (if x1 = 0 then
        (if x2 = 0 then
          P (some (.int (0 : Int32))) h
        else
          P (some (.int (1 : Int32))) h)
      else
        P (some (.int (1 : Int32))) h)
    else
    (if x0 = 49 then
      (if x1 = 0 then
        (if x2 = 0 then
          P (some (.int (0 : Int32))) h
        else
          P (some (.int (1 : Int32))) h)
      else
        P (some (.int (1 : Int32))) h)
    else
    (if x0 = 50 then
      (if x1 = 0 then
        (if x2 = 0 then
          P (some (.int (0 : Int32))) h
        else
          P (some (.int (1 : Int32))) h)
      else
        P (some (.int (1 : Int32))) h)
    else
    (if x0 = 51 then
      (if x1 = 0 then
        (if x2 = 0 then
          P (some (.int (0 : Int32))) h
        else
          P (some (.int (1 : Int32))) h)
      else
        P (some (.int (1 : Int32))) h)
    else
    (if x0 = 52 then
      (if x1 = 0 then
        (if x2 = 0 then
          P (some (.int (0 : Int32))) h
        else
          P (some (.int (1 : Int32))) h)
      else
        P (some (.int (1 : Int32))) h)
    else
    (if x0 = 53 then
      (if x1 = 0 then
        (if x2 = 0 then
          P (some (.int (0 : Int32))) h
        else
          P (some (.int (1 : Int32))) h)
      else
        P (some (.int (1 : Int32))) h)
    else
    (if x0 = 54 then
      (if x1 = 0 then
        (if x2 = 0 then
          P (some (.int (0 : Int32))) h
        else
          P (some (.int (1 : Int32))) h)
      else
        P (some (.int (1 : Int32))) h)
    else
    (if x0 = 55 then
      (if x1 = 0 then
        (if x2 = 0 then
          P (some (.int (0 : Int32))) h
        else
          P (some (.int (1 : Int32))) h)
      else
        P (some (.int (1 : Int32))) h)
    else
    (if x0 = 56 then
      (if x1 = 0 then
        (if x2 = 0 then
          P (some (.int (0 : Int32))) h
        else
          P (some (.int (1 : Int32))) h)
      else
        P (some (.int (1 : Int32))) h)
    else
    (if x0 = 57 then
      (if x1 = 0 then
        (if x2 = 0 then
          P (some (.int (0 : Int32))) h
        else
          P (some (.int (1 : Int32))) h)
      else
        P (some (.int (1 : Int32))) h)
    else
    (if x0 = 58 then
      (if x1 = 0 then
        (if x2 = 0 then
          P (some (.int (0 : Int32))) h
        else
          P (some (.int (1 : Int32))) h)
      else
        P (some (.int (1 : Int32))) h)
    else
    (if x0 = 59 then
      (if x1 = 0 then
        (if x2 = 0 then
          P (some (.int (0 : Int32))) h
        else
          P (some (.int (1 : Int32))) h)
      else
        P (some (.int (1 : Int32))) h)
    else
    (if x0 = 60 then
      (if x1 < x2 then
        P (some (.int (1 : Int32))) h
      else
        P (some (.int (0 : Int32))) h)
    else
    (if x0 = 61 then
      (if x1 = x2 then
        P (some (.int (1 : Int32))) h
      else
        P (some (.int (0 : Int32))) h)
    else
    (if x0 = 62 then
      (if x2 < x1 then
        P (some (.int (1 : Int32))) h
      else
        P (some (.int (0 : Int32))) h)
    else
    (if x1 = 0 then
      (if x2 = 0 then
        P (some (.int (0 : Int32))) h
      else
        P (some (.int (1 : Int32))) h)
    else
      P (some (.int (1 : Int32))) h)))))))))))))))))))))))))))) :
    xm_Call K' sX9_twoOf 99 [.int x0, .int x1, .int x2] h P :=
  xm_call_of (C := kX9_twoOf) hK (by decide +kernel) rfl (Nat.le_of_ble_eq_true rfl) (Or.inl rfl) (xX9_twoOf_0 H)

def kX9_worked : List xm_I := [
  i_v 0 (.iconst 0) 1 none 0 [],
  i_0 1 (.istore 4) 2 none,
  i_v 3 (.sipush 130) 3 none 130 [],
  i_0 6 (.iload_n 1) 1 none,
  i_0 7 (.imul) 1 none,
  i_0 8 (.iload_n 2) 1 none,
  i_0 9 (.iadd) 1 none,
  i_0 10 (.istore 5) 2 none,
  i_0 12 (.iload 5) 2 (some [true, true, false, true, true, true, false]),
  i_v 14 (.sipush 130) 3 none 130 [],
  i_0 17 (.iload_n 1) 1 none,
  i_0 18 (.imul) 1 none,
  i_0 19 (.iload_n 3) 1 none,
  i_0 20 (.iadd) 1 none,
  i_j 21 (.if_icmp .ge 167) 3 none 105,
  i_0 24 (.aload_n 0) 1 none,
  i_f 25 (.getfield 53) 3 none 9 23 [948] 1,
  i_0 28 (.iload 5) 2 none,
  i_0 30 (.baload) 1 none,
  i_0 31 (.istore 6) 2 none,
  i_0 33 (.iload 6) 2 none,
  i_v 35 (.iconst 1) 1 none 1 [],
  i_j 36 (.if_icmp .eq 9) 3 none 26,
  i_0 39 (.iload 6) 2 none,
  i_v 41 (.iconst 2) 1 none 2 [],
  i_j 42 (.if_icmp .ne 44) 3 none 47,
  i_0 45 (.aload_n 0) 1 none,
  i_f 46 (.getfield 72) 3 none 9 29 [954] 1,
  i_0 49 (.iload 4) 2 none,
  i_0 51 (.iload 6) 2 none,
  i_v 53 (.iconst 1) 1 none 1 [],
  i_j 54 (.if_icmp .ne 13) 3 none 37,
  i_0 57 (.aload_n 0) 1 none,
  i_f 58 (.getfield 56) 3 none 9 24 [949] 1,
  i_0 61 (.iload 5) 2 none,
  i_0 63 (.iaload) 1 none,
  i_j 64 (.goto 15) 3 none 44,
  i_0 67 (.aload_n 0) 1 none,
  i_f 68 (.getfield 69) 3 none 9 28 [953] 1,
  i_0 71 (.aload_n 0) 1 none,
  i_f 72 (.getfield 56) 3 none 9 24 [949] 1,
  i_0 75 (.iload 5) 2 none,
  i_0 77 (.iaload) 1 none,
  i_0 78 (.iaload) 1 none,
  i_0 79 (.iastore) 1 none,
  i_v 80 (.iinc 4 1) 3 none 1 [],
  i_j 83 (.goto 99) 3 none 103,
  i_0 86 (.iload 6) 2 none,
  i_v 88 (.iconst 3) 1 none 3 [],
  i_j 89 (.if_icmp .ne 32) 3 none 67,
  i_0 92 (.aload_n 0) 1 none,
  i_f 93 (.getfield 72) 3 none 9 29 [954] 1,
  i_0 96 (.iload 4) 2 none,
  i_v 98 (.iconst 1) 1 none 1 [],
  i_0 99 (.isub) 1 none,
  i_0 100 (.aload_n 0) 1 none,
  i_f 101 (.getfield 72) 3 none 9 29 [954] 1,
  i_0 104 (.iload 4) 2 none,
  i_v 106 (.iconst 1) 1 none 1 [],
  i_0 107 (.isub) 1 none,
  i_0 108 (.iaload) 1 none,
  i_j 109 (.ifCond .ne 7) 3 none 64,
  i_v 112 (.iconst 1) 1 none 1 [],
  i_j 113 (.goto 4) 3 none 65,
  i_v 116 (.iconst 0) 1 none 0 [],
  i_0 117 (.iastore) 1 none,
  i_j 118 (.goto 64) 3 none 103,
  i_0 121 (.iload 6) 2 none,
  i_v 123 (.iconst 4) 1 none 4 [],
  i_j 124 (.if_icmp .ne 25) 3 none 84,
  i_0 127 (.aload_n 0) 1 none,
  i_f 128 (.getfield 72) 3 none 9 29 [954] 1,
  i_0 131 (.iload 4) 2 none,
  i_v 133 (.iconst 1) 1 none 1 [],
  i_0 134 (.isub) 1 none,
  i_0 135 (.aload_n 0) 1 none,
  i_f 136 (.getfield 72) 3 none 9 29 [954] 1,
  i_0 139 (.iload 4) 2 none,
  i_v 141 (.iconst 1) 1 none 1 [],
  i_0 142 (.isub) 1 none,
  i_0 143 (.iaload) 1 none,
  i_0 144 (.ineg) 1 none,
  i_0 145 (.iastore) 1 none,
  i_j 146 (.goto 36) 3 none 103,
  i_v 149 (.iinc 4 (-1)) 3 none (-1) [],
  i_0 152 (.aload_n 0) 1 none,
  i_f 153 (.getfield 72) 3 none 9 29 [954] 1,
  i_0 156 (.iload 4) 2 none,
  i_v 158 (.iconst 1) 1 none 1 [],
  i_0 159 (.isub) 1 none,
  i_0 160 (.iload 6) 2 none,
  i_0 162 (.aload_n 0) 1 none,
  i_f 163 (.getfield 72) 3 none 9 29 [954] 1,
  i_0 166 (.iload 4) 2 none,
  i_v 168 (.iconst 1) 1 none 1 [],
  i_0 169 (.isub) 1 none,
  i_0 170 (.iaload) 1 none,
  i_0 171 (.aload_n 0) 1 none,
  i_f 172 (.getfield 72) 3 none 9 29 [954] 1,
  i_0 175 (.iload 4) 2 none,
  i_0 177 (.iaload) 1 none,
  i_m 178 (.invokestatic 227) 3 none 3 99 [1263, 1264, 117, 1265] 0 sX9_twoOf,
  i_0 181 (.iastore) 1 none,
  i_v 182 (.iinc 5 1) 3 none 1 [],
  i_j 185 (.goto (-173)) 3 none 8,
  i_0 188 (.aload_n 0) 1 none,
  i_f 189 (.getfield 72) 3 none 9 29 [954] 1,
  i_v 192 (.iconst 0) 1 none 0 [],
  i_0 193 (.iaload) 1 none,
  i_0 194 (.ireturn) 1 none]
set_option maxRecDepth 100000 in
theorem oX9_worked : xm_ok sX9_worked sX9_worked.1.cls kX9_worked = true := by decide +kernel
set_option maxRecDepth 100000 in
set_option maxHeartbeats 4000000 in
theorem xX9_worked_0 {K : Nat} {h : xm_H} {P : Option Value → xm_H → Prop} {a0 : Nat} {x1 : Int32} {x2 : Int32} {x3 : Int32} (H :
    xm_L K sX9_worked kX9_worked 8 [some (.ref a0), some (.int x1), none, some (.int x3), some (.int (0 : Int32)), some (.int (((130 : Int32) * x1) + x2)), none] [] h P) :
    xm_L K sX9_worked kX9_worked 0 [some (.ref a0), some (.int x1), some (.int x2), some (.int x3), none, none, none] [] h P :=
  xm_run (fun _ _ h => h) oX9_worked 9 0 0 0 [some (.ref a0), some (.int x1), some (.int x2), some (.int x3), none, none, none] [] h H
set_option maxRecDepth 100000 in
theorem eX9_worked {K K' : Nat} (hK : K < K') {h : xm_H} {P : Option Value → xm_H → Prop} {a0 : Nat} {x1 : Int32} {x2 : Int32} {x3 : Int32} (hr : ∃ fs, h[a0]? = some (.inr (9, fs))) (H :
    xm_L K sX9_worked kX9_worked 8 [some (.ref a0), some (.int x1), none, some (.int x3), some (.int (0 : Int32)), some (.int (((130 : Int32) * x1) + x2)), none] [] h P) :
    xm_Call K' sX9_worked 9 [.ref a0, .int x1, .int x2, .int x3] h P :=
  xm_call_of (C := kX9_worked) hK (by decide +kernel) rfl (Nat.le_of_ble_eq_true rfl) (Or.inr ⟨a0, hr.choose, rfl, hr.choose_spec⟩) (xX9_worked_0 H)

set_option maxRecDepth 100000 in
set_option maxHeartbeats 4000000 in
theorem xX9_worked_8 {K : Nat} {h : xm_H} {P : Option Value → xm_H → Prop} {a0 : Nat} {x1 : Int32} {x3 : Int32} {x4 : Int32} {x5 : Int32} (H :
    (if x5 < (((130 : Int32) * x1) + x3) then
      ∃ q1, xm_fld h a0 9 23 = some (.ref q1) ∧ /- act -/
      ∃ e2, xm_ld xm_st h 1 q1 x5 = some e2 ∧
      (if e2 = (1 : Int32) then
        ∃ q3, xm_fld h a0 9 29 = some (.ref q3) ∧ /- pile -/
        (if e2 = (1 : Int32) then
          ∃ q4, xm_fld h a0 9 24 = some (.ref q4) ∧ /- with -/
          ∃ e5, xm_ld xm_st h 0 q4 x5 = some e5 ∧
          ∃ h6, xm_sto h 0 q3 x4 e5 = some h6 ∧
          xm_L K sX9_worked kX9_worked 8 [some (.ref a0), some (.int x1), none, some (.int x3), some (.int (x4 + (1 : Int32))), some (.int (x5 + (1 : Int32))), none] [] h6 P
        else
          ∃ q7, xm_fld h a0 9 28 = some (.ref q7) ∧ /- facts -/
          ∃ q8, xm_fld h a0 9 24 = some (.ref q8) ∧ /- with -/
          ∃ e9, xm_ld xm_st h 0 q8 x5 = some e9 ∧
          ∃ e10, xm_ld xm_st h 0 q7 e9 = some e10 ∧
          ∃ h11, xm_sto h 0 q3 x4 e10 = some h11 ∧
          xm_L K sX9_worked kX9_worked 8 [some (.ref a0), some (.int x1), none, some (.int x3), some (.int (x4 + (1 : Int32))), some (.int (x5 + (1 : Int32))), none] [] h11 P)
      else
        (if e2 = (2 : Int32) then
          ∃ q12, xm_fld h a0 9 29 = some (.ref q12) ∧ /- pile -/
          (if e2 = (1 : Int32) then
            ∃ q13, xm_fld h a0 9 24 = some (.ref q13) ∧ /- with -/
            ∃ e14, xm_ld xm_st h 0 q13 x5 = some e14 ∧
            ∃ h15, xm_sto h 0 q12 x4 e14 = some h15 ∧
            xm_L K sX9_worked kX9_worked 8 [some (.ref a0), some (.int x1), none, some (.int x3), some (.int (x4 + (1 : Int32))), some (.int (x5 + (1 : Int32))), none] [] h15 P
          else
            ∃ q16, xm_fld h a0 9 28 = some (.ref q16) ∧ /- facts -/
            ∃ q17, xm_fld h a0 9 24 = some (.ref q17) ∧ /- with -/
            ∃ e18, xm_ld xm_st h 0 q17 x5 = some e18 ∧
            ∃ e19, xm_ld xm_st h 0 q16 e18 = some e19 ∧
            ∃ h20, xm_sto h 0 q12 x4 e19 = some h20 ∧
            xm_L K sX9_worked kX9_worked 8 [some (.ref a0), some (.int x1), none, some (.int x3), some (.int (x4 + (1 : Int32))), some (.int (x5 + (1 : Int32))), none] [] h20 P)
        else
          (if e2 = (3 : Int32) then
            ∃ q21, xm_fld h a0 9 29 = some (.ref q21) ∧ /- pile -/
            ∃ q22, xm_fld h a0 9 29 = some (.ref q22) ∧ /- pile -/
            ∃ e23, xm_ld xm_st h 0 q22 (x4 - (1 : Int32)) = some e23 ∧
            (if e23 = 0 then
              ∃ h24, xm_sto h 0 q21 (x4 - (1 : Int32)) (1 : Int32) = some h24 ∧
              xm_L K sX9_worked kX9_worked 8 [some (.ref a0), some (.int x1), none, some (.int x3), some (.int x4), some (.int (x5 + (1 : Int32))), none] [] h24 P
            else
              ∃ h25, xm_sto h 0 q21 (x4 - (1 : Int32)) (0 : Int32) = some h25 ∧
              xm_L K sX9_worked kX9_worked 8 [some (.ref a0), some (.int x1), none, some (.int x3), some (.int x4), some (.int (x5 + (1 : Int32))), none] [] h25 P)
          else
            (if e2 = (4 : Int32) then
              ∃ q26, xm_fld h a0 9 29 = some (.ref q26) ∧ /- pile -/
              ∃ q27, xm_fld h a0 9 29 = some (.ref q27) ∧ /- pile -/
              ∃ e28, xm_ld xm_st h 0 q27 (x4 - (1 : Int32)) = some e28 ∧
              ∃ h29, xm_sto h 0 q26 (x4 - (1 : Int32)) (-e28) = some h29 ∧
              xm_L K sX9_worked kX9_worked 8 [some (.ref a0), some (.int x1), none, some (.int x3), some (.int x4), some (.int (x5 + (1 : Int32))), none] [] h29 P
            else
              ∃ q30, xm_fld h a0 9 29 = some (.ref q30) ∧ /- pile -/
              ∃ q31, xm_fld h a0 9 29 = some (.ref q31) ∧ /- pile -/
              ∃ e32, xm_ld xm_st h 0 q31 ((x4 + (-1 : Int32)) - (1 : Int32)) = some e32 ∧
              ∃ q33, xm_fld h a0 9 29 = some (.ref q33) ∧ /- pile -/
              ∃ e34, xm_ld xm_st h 0 q33 (x4 + (-1 : Int32)) = some e34 ∧
              xm_Call K sX9_twoOf 99 [.int e2, .int e32, .int e34] h (xm_pi fun c36 h35 =>
                ∃ h37, xm_sto h35 0 q30 ((x4 + (-1 : Int32)) - (1 : Int32)) c36 = some h37 ∧
                xm_L K sX9_worked kX9_worked 8 [some (.ref a0), some (.int x1), none, some (.int x3), some (.int (x4 + (-1 : Int32))), some (.int (x5 + (1 : Int32))), none] [] h37 P)))))
    else
      ∃ q38, xm_fld h a0 9 29 = some (.ref q38) ∧ /- pile -/
      ∃ e39, xm_ld xm_st h 0 q38 (0 : Int32) = some e39 ∧
      P (some (.int e39)) h)) :
    xm_L K sX9_worked kX9_worked 8 [some (.ref a0), some (.int x1), none, some (.int x3), some (.int x4), some (.int x5), none] [] h P :=
  xm_run (fun _ _ h => h) oX9_worked 46 8 0 0 [some (.ref a0), some (.int x1), none, some (.int x3), some (.int x4), some (.int x5), none] [] h H

def kX9_givesText : List xm_I := [
  i_v 0 (.iconst 0) 1 none 0 [],
  i_0 1 (.istore_n 2) 1 none,
  i_v 2 (.bipush 61) 2 none 61 [],
  i_0 4 (.iload_n 1) 1 none,
  i_0 5 (.imul) 1 none,
  i_0 6 (.istore_n 3) 1 none,
  i_0 7 (.iload_n 3) 1 (some [true, true, true, true]),
  i_v 8 (.bipush 61) 2 none 61 [],
  i_0 10 (.iload_n 1) 1 none,
  i_0 11 (.imul) 1 none,
  i_0 12 (.aload_n 0) 1 none,
  i_f 13 (.getfield 59) 3 none 9 25 [950] 1,
  i_0 16 (.iload_n 1) 1 none,
  i_0 17 (.iaload) 1 none,
  i_0 18 (.iadd) 1 none,
  i_j 19 (.if_icmp .ge 59) 3 none 50,
  i_0 22 (.aload_n 0) 1 none,
  i_f 23 (.getfield 62) 3 none 9 26 [951] 1,
  i_0 26 (.iload_n 3) 1 none,
  i_0 27 (.saload) 1 none,
  i_0 28 (.iload_n 2) 1 none,
  i_j 29 (.if_icmp .eq 18) 3 none 31,
  i_0 32 (.aload_n 0) 1 none,
  i_0 33 (.iload_n 1) 1 none,
  i_0 34 (.iload_n 2) 1 none,
  i_0 35 (.aload_n 0) 1 none,
  i_f 36 (.getfield 62) 3 none 9 26 [951] 1,
  i_0 39 (.iload_n 3) 1 none,
  i_0 40 (.saload) 1 none,
  i_m 41 (.invokevirtual 230) 3 none 3 9 [1259, 1261, 61, 117, 1262] 0 sX9_worked,
  i_j 44 (.ifCond .eq 21) 3 none 43,
  i_0 47 (.aload_n 0) 1 none,
  i_0 48 (.iload_n 1) 1 none,
  i_0 49 (.aload_n 0) 1 none,
  i_f 50 (.getfield 62) 3 none 9 26 [951] 1,
  i_0 53 (.iload_n 3) 1 none,
  i_0 54 (.saload) 1 none,
  i_0 55 (.aload_n 0) 1 none,
  i_f 56 (.getfield 66) 3 none 9 27 [952] 1,
  i_0 59 (.iload_n 3) 1 none,
  i_0 60 (.saload) 1 none,
  i_m 61 (.invokevirtual 230) 3 none 3 9 [1259, 1261, 61, 117, 1262] 0 sX9_worked,
  i_0 64 (.ireturn) 1 none,
  i_0 65 (.aload_n 0) 1 none,
  i_f 66 (.getfield 66) 3 none 9 27 [952] 1,
  i_0 69 (.iload_n 3) 1 none,
  i_0 70 (.saload) 1 none,
  i_0 71 (.istore_n 2) 1 none,
  i_v 72 (.iinc 3 1) 3 none 1 [],
  i_j 75 (.goto (-68)) 3 none 6,
  i_v 78 (.iconst 0) 1 none 0 [],
  i_0 79 (.ireturn) 1 none]
set_option maxRecDepth 100000 in
theorem oX9_givesText : xm_ok sX9_givesText sX9_givesText.1.cls kX9_givesText = true := by decide +kernel
set_option maxRecDepth 100000 in
set_option maxHeartbeats 4000000 in
theorem xX9_givesText_0 {K : Nat} {h : xm_H} {P : Option Value → xm_H → Prop} {a0 : Nat} {x1 : Int32} (H :
    xm_L K sX9_givesText kX9_givesText 6 [some (.ref a0), some (.int x1), some (.int (0 : Int32)), some (.int ((61 : Int32) * x1))] [] h P) :
    xm_L K sX9_givesText kX9_givesText 0 [some (.ref a0), some (.int x1), none, none] [] h P :=
  xm_run (fun _ _ h => h) oX9_givesText 7 0 0 0 [some (.ref a0), some (.int x1), none, none] [] h H
set_option maxRecDepth 100000 in
theorem eX9_givesText {K K' : Nat} (hK : K < K') {h : xm_H} {P : Option Value → xm_H → Prop} {a0 : Nat} {x1 : Int32} (hr : ∃ fs, h[a0]? = some (.inr (9, fs))) (H :
    xm_L K sX9_givesText kX9_givesText 6 [some (.ref a0), some (.int x1), some (.int (0 : Int32)), some (.int ((61 : Int32) * x1))] [] h P) :
    xm_Call K' sX9_givesText 9 [.ref a0, .int x1] h P :=
  xm_call_of (C := kX9_givesText) hK (by decide +kernel) rfl (Nat.le_of_ble_eq_true rfl) (Or.inr ⟨a0, hr.choose, rfl, hr.choose_spec⟩) (xX9_givesText_0 H)

set_option maxRecDepth 100000 in
set_option maxHeartbeats 4000000 in
theorem xX9_givesText_6 {K : Nat} {h : xm_H} {P : Option Value → xm_H → Prop} {a0 : Nat} {x1 : Int32} {x2 : Int32} {x3 : Int32} (H :
    ∃ q1, xm_fld h a0 9 25 = some (.ref q1) ∧ /- lineMany -/
    ∃ e2, xm_ld xm_st h 0 q1 x1 = some e2 ∧
    (if x3 < (((61 : Int32) * x1) + e2) then
      ∃ q3, xm_fld h a0 9 26 = some (.ref q3) ∧ /- testEnd -/
      ∃ e4, xm_ld xm_st h 2 q3 x3 = some e4 ∧
      (if e4 = x2 then
        ∃ q5, xm_fld h a0 9 26 = some (.ref q5) ∧ /- testEnd -/
        ∃ e6, xm_ld xm_st h 2 q5 x3 = some e6 ∧
        ∃ q7, xm_fld h a0 9 27 = some (.ref q7) ∧ /- lineEnd -/
        ∃ e8, xm_ld xm_st h 2 q7 x3 = some e8 ∧
        xm_Call K sX9_worked 9 [.ref a0, .int x1, .int e6, .int e8] h (xm_pi fun c10 h9 =>
          P (some (.int c10)) h9)
      else
        ∃ q11, xm_fld h a0 9 26 = some (.ref q11) ∧ /- testEnd -/
        ∃ e12, xm_ld xm_st h 2 q11 x3 = some e12 ∧
        xm_Call K sX9_worked 9 [.ref a0, .int x1, .int x2, .int e12] h (xm_pi fun c14 h13 =>
          (if c14 = 0 then
            ∃ q15, xm_fld h13 a0 9 27 = some (.ref q15) ∧ /- lineEnd -/
            ∃ e16, xm_ld xm_st h13 2 q15 x3 = some e16 ∧
            xm_L K sX9_givesText kX9_givesText 6 [some (.ref a0), some (.int x1), some (.int e16), some (.int (x3 + (1 : Int32)))] [] h13 P
          else
            ∃ q17, xm_fld h13 a0 9 26 = some (.ref q17) ∧ /- testEnd -/
            ∃ e18, xm_ld xm_st h13 2 q17 x3 = some e18 ∧
            ∃ q19, xm_fld h13 a0 9 27 = some (.ref q19) ∧ /- lineEnd -/
            ∃ e20, xm_ld xm_st h13 2 q19 x3 = some e20 ∧
            xm_Call K sX9_worked 9 [.ref a0, .int x1, .int e18, .int e20] h13 (xm_pi fun c22 h21 =>
              P (some (.int c22)) h21))))
    else
      P (some (.int (0 : Int32))) h)) :
    xm_L K sX9_givesText kX9_givesText 6 [some (.ref a0), some (.int x1), some (.int x2), some (.int x3)] [] h P :=
  xm_run (fun _ _ h => h) oX9_givesText 38 6 0 0 [some (.ref a0), some (.int x1), some (.int x2), some (.int x3)] [] h H

def kX9_law : List xm_I := [
  i_0 0 (.aload_n 0) 1 none,
  i_v 1 (.iconst 0) 1 none 0 [],
  i_m 2 (.invokevirtual 233) 3 none 1 9 [1168, 1170, 40, 117, 1171] 0 sX9_readText,
  i_0 5 (.istore_n 1) 1 none,
  i_0 6 (.iload_n 1) 1 none,
  i_j 7 (.ifCond .lt 8) 3 none 10,
  i_v 10 (.bipush (-100)) 2 none (-100) [],
  i_0 12 (.iload_n 1) 1 none,
  i_0 13 (.isub) 1 none,
  i_0 14 (.ireturn) 1 none,
  i_0 15 (.aload_n 0) 1 none,
  i_v 16 (.iconst 1) 1 none 1 [],
  i_f 17 (.putfield 236) 3 none 9 30 [955] 2,
  i_v 20 (.iconst 1) 1 none 1 [],
  i_0 21 (.ireturn) 1 none]
set_option maxRecDepth 100000 in
theorem oX9_law : xm_ok sX9_law sX9_law.1.cls kX9_law = true := by decide +kernel
set_option maxRecDepth 100000 in
set_option maxHeartbeats 4000000 in
theorem xX9_law_0 {K : Nat} {h : xm_H} {P : Option Value → xm_H → Prop} {a0 : Nat} (H :
    xm_Call K sX9_readText 9 [.ref a0, .int (0 : Int32)] h (xm_pi fun c2 h1 =>
      (if c2 < 0 then
        ∃ h3, xm_put h1 a0 9 30 (.int (1 : Int32)) = some h3 ∧ /- hasLaw -/
        P (some (.int (1 : Int32))) h3
      else
        P (some (.int ((-100 : Int32) - c2))) h1))) :
    xm_L K sX9_law kX9_law 0 [some (.ref a0), none] [] h P :=
  xm_run (fun _ _ h => h) oX9_law 12 0 0 0 [some (.ref a0), none] [] h H
set_option maxRecDepth 100000 in
theorem eX9_law {K K' : Nat} (hK : K < K') {h : xm_H} {P : Option Value → xm_H → Prop} {a0 : Nat} (hr : ∃ fs, h[a0]? = some (.inr (9, fs))) (H :
    xm_Call K sX9_readText 9 [.ref a0, .int (0 : Int32)] h (xm_pi fun c2 h1 =>
      (if c2 < 0 then
        ∃ h3, xm_put h1 a0 9 30 (.int (1 : Int32)) = some h3 ∧ /- hasLaw -/
        P (some (.int (1 : Int32))) h3
      else
        P (some (.int ((-100 : Int32) - c2))) h1))) :
    xm_Call K' sX9_law 9 [.ref a0] h P :=
  xm_call_of (C := kX9_law) hK (by decide +kernel) rfl (Nat.le_of_ble_eq_true rfl) (Or.inr ⟨a0, hr.choose, rfl, hr.choose_spec⟩) (xX9_law_0 H)

def kX9_laySnow : List xm_I := [
  i_0 0 (.aload_n 0) 1 none,
  i_0 1 (.aload_n 0) 1 none,
  i_f 2 (.getfield 31) 3 none 9 9 [934] 1,
  i_0 5 (.aload_n 0) 1 none,
  i_f 6 (.getfield 240) 3 none 9 37 [962] 0,
  i_v 9 (.bipush 8) 2 none 8 [],
  i_0 11 (.irem) 1 none,
  i_0 12 (.iaload) 1 none,
  i_f 13 (.putfield 243) 3 none 9 36 [961] 0,
  i_0 16 (.return_) 1 none]
set_option maxRecDepth 100000 in
theorem oX9_laySnow : xm_ok sX9_laySnow sX9_laySnow.1.cls kX9_laySnow = true := by decide +kernel
set_option maxRecDepth 100000 in
set_option maxHeartbeats 4000000 in
theorem xX9_laySnow_0 {K : Nat} {h : xm_H} {P : Option Value → xm_H → Prop} {a0 : Nat} (H :
    ∃ q1, xm_fld h a0 9 9 = some (.ref q1) ∧ /- snows -/
    ∃ f2, xm_fld h a0 9 37 = some (.int f2) ∧ /- year1 -/
    ¬ (8 : Int32) = 0 ∧
    ∃ e3, xm_ld xm_st h 0 q1 (f2 - f2 / (8 : Int32) * (8 : Int32)) = some e3 ∧
    ∃ h4, xm_put h a0 9 36 (.int e3) = some h4 ∧ /- snow1 -/
    P none h4) :
    xm_L K sX9_laySnow kX9_laySnow 0 [some (.ref a0)] [] h P :=
  xm_run (fun _ _ h => h) oX9_laySnow 11 0 0 0 [some (.ref a0)] [] h H
set_option maxRecDepth 100000 in
theorem eX9_laySnow {K K' : Nat} (hK : K < K') {h : xm_H} {P : Option Value → xm_H → Prop} {a0 : Nat} (hr : ∃ fs, h[a0]? = some (.inr (9, fs))) (H :
    ∃ q1, xm_fld h a0 9 9 = some (.ref q1) ∧ /- snows -/
    ∃ f2, xm_fld h a0 9 37 = some (.int f2) ∧ /- year1 -/
    ¬ (8 : Int32) = 0 ∧
    ∃ e3, xm_ld xm_st h 0 q1 (f2 - f2 / (8 : Int32) * (8 : Int32)) = some e3 ∧
    ∃ h4, xm_put h a0 9 36 (.int e3) = some h4 ∧ /- snow1 -/
    P none h4) :
    xm_Call K' sX9_laySnow 9 [.ref a0] h P :=
  xm_call_of (C := kX9_laySnow) hK (by decide +kernel) rfl (Nat.le_of_ble_eq_true rfl) (Or.inr ⟨a0, hr.choose, rfl, hr.choose_spec⟩) (xX9_laySnow_0 H)

def kX9_layNow : List xm_I := [
  i_v 0 (.iconst 0) 1 none 0 [],
  i_0 1 (.istore_n 1) 1 none,
  i_0 2 (.iload_n 1) 1 (some [true, true]),
  i_0 3 (.aload_n 0) 1 none,
  i_f 4 (.getfield 125) 3 none 9 1 [926] 0,
  i_j 7 (.if_icmp .ge 57) 3 none 40,
  i_0 10 (.aload_n 0) 1 none,
  i_f 11 (.getfield 75) 3 none 9 31 [956] 1,
  i_0 14 (.iload_n 1) 1 none,
  i_0 15 (.aload_n 0) 1 none,
  i_f 16 (.getfield 19) 3 none 9 5 [930] 1,
  i_0 19 (.iload_n 1) 1 none,
  i_0 20 (.iaload) 1 none,
  i_0 21 (.iastore) 1 none,
  i_0 22 (.aload_n 0) 1 none,
  i_f 23 (.getfield 78) 3 none 9 32 [957] 1,
  i_0 26 (.iload_n 1) 1 none,
  i_0 27 (.aload_n 0) 1 none,
  i_f 28 (.getfield 25) 3 none 9 7 [932] 1,
  i_0 31 (.iload_n 1) 1 none,
  i_0 32 (.iaload) 1 none,
  i_0 33 (.iastore) 1 none,
  i_0 34 (.aload_n 0) 1 none,
  i_f 35 (.getfield 81) 3 none 9 33 [958] 1,
  i_0 38 (.iload_n 1) 1 none,
  i_0 39 (.aload_n 0) 1 none,
  i_f 40 (.getfield 13) 3 none 9 3 [928] 1,
  i_0 43 (.iload_n 1) 1 none,
  i_0 44 (.iaload) 1 none,
  i_0 45 (.iastore) 1 none,
  i_0 46 (.aload_n 0) 1 none,
  i_f 47 (.getfield 84) 3 none 9 34 [959] 1,
  i_0 50 (.iload_n 1) 1 none,
  i_0 51 (.aload_n 0) 1 none,
  i_f 52 (.getfield 16) 3 none 9 4 [929] 1,
  i_0 55 (.iload_n 1) 1 none,
  i_0 56 (.iaload) 1 none,
  i_0 57 (.iastore) 1 none,
  i_v 58 (.iinc 1 1) 3 none 1 [],
  i_j 61 (.goto (-59)) 3 none 2,
  i_0 64 (.aload_n 0) 1 none,
  i_0 65 (.aload_n 0) 1 none,
  i_f 66 (.getfield 34) 3 none 9 10 [935] 1,
  i_v 69 (.iconst 0) 1 none 0 [],
  i_0 70 (.iaload) 1 none,
  i_f 71 (.putfield 240) 3 none 9 37 [962] 0,
  i_0 74 (.aload_n 0) 1 none,
  i_0 75 (.aload_n 0) 1 none,
  i_f 76 (.getfield 34) 3 none 9 10 [935] 1,
  i_v 79 (.iconst 1) 1 none 1 [],
  i_0 80 (.iaload) 1 none,
  i_f 81 (.putfield 246) 3 none 9 38 [963] 0,
  i_0 84 (.aload_n 0) 1 none,
  i_m 85 (.invokevirtual 249) 3 none 0 9 [1231, 1233, 54, 117, 1234] 0 sX9_laySnow,
  i_0 88 (.return_) 1 none]
set_option maxRecDepth 100000 in
theorem oX9_layNow : xm_ok sX9_layNow sX9_layNow.1.cls kX9_layNow = true := by decide +kernel
set_option maxRecDepth 100000 in
set_option maxHeartbeats 4000000 in
theorem xX9_layNow_0 {K : Nat} {h : xm_H} {P : Option Value → xm_H → Prop} {a0 : Nat} (H :
    xm_L K sX9_layNow kX9_layNow 2 [some (.ref a0), some (.int (0 : Int32))] [] h P) :
    xm_L K sX9_layNow kX9_layNow 0 [some (.ref a0), none] [] h P :=
  xm_run (fun _ _ h => h) oX9_layNow 3 0 0 0 [some (.ref a0), none] [] h H
set_option maxRecDepth 100000 in
theorem eX9_layNow {K K' : Nat} (hK : K < K') {h : xm_H} {P : Option Value → xm_H → Prop} {a0 : Nat} (hr : ∃ fs, h[a0]? = some (.inr (9, fs))) (H :
    xm_L K sX9_layNow kX9_layNow 2 [some (.ref a0), some (.int (0 : Int32))] [] h P) :
    xm_Call K' sX9_layNow 9 [.ref a0] h P :=
  xm_call_of (C := kX9_layNow) hK (by decide +kernel) rfl (Nat.le_of_ble_eq_true rfl) (Or.inr ⟨a0, hr.choose, rfl, hr.choose_spec⟩) (xX9_layNow_0 H)

set_option maxRecDepth 100000 in
set_option maxHeartbeats 4000000 in
theorem xX9_layNow_2 {K : Nat} {h : xm_H} {P : Option Value → xm_H → Prop} {a0 : Nat} {x1 : Int32} (H :
    ∃ f1, xm_fld h a0 9 1 = some (.int f1) ∧ /- many -/
    (if x1 < f1 then
      ∃ q2, xm_fld h a0 9 31 = some (.ref q2) ∧ /- habit1 -/
      ∃ q3, xm_fld h a0 9 5 = some (.ref q3) ∧ /- habitOf -/
      ∃ e4, xm_ld xm_st h 0 q3 x1 = some e4 ∧
      ∃ h5, xm_sto h 0 q2 x1 e4 = some h5 ∧
      ∃ q6, xm_fld h5 a0 9 32 = some (.ref q6) ∧ /- heard1 -/
      ∃ q7, xm_fld h5 a0 9 7 = some (.ref q7) ∧ /- heardOf -/
      ∃ e8, xm_ld xm_st h5 0 q7 x1 = some e8 ∧
      ∃ h9, xm_sto h5 0 q6 x1 e8 = some h9 ∧
      ∃ q10, xm_fld h9 a0 9 33 = some (.ref q10) ∧ /- purse1 -/
      ∃ q11, xm_fld h9 a0 9 3 = some (.ref q11) ∧ /- purseOf -/
      ∃ e12, xm_ld xm_st h9 0 q11 x1 = some e12 ∧
      ∃ h13, xm_sto h9 0 q10 x1 e12 = some h13 ∧
      ∃ q14, xm_fld h13 a0 9 34 = some (.ref q14) ∧ /- age1 -/
      ∃ q15, xm_fld h13 a0 9 4 = some (.ref q15) ∧ /- ageOf -/
      ∃ e16, xm_ld xm_st h13 0 q15 x1 = some e16 ∧
      ∃ h17, xm_sto h13 0 q14 x1 e16 = some h17 ∧
      xm_L K sX9_layNow kX9_layNow 2 [some (.ref a0), some (.int (x1 + (1 : Int32)))] [] h17 P
    else
      ∃ q18, xm_fld h a0 9 10 = some (.ref q18) ∧ /- pass -/
      ∃ e19, xm_ld xm_st h 0 q18 (0 : Int32) = some e19 ∧
      ∃ h20, xm_put h a0 9 37 (.int e19) = some h20 ∧ /- year1 -/
      ∃ q21, xm_fld h20 a0 9 10 = some (.ref q21) ∧ /- pass -/
      ∃ e22, xm_ld xm_st h20 0 q21 (1 : Int32) = some e22 ∧
      ∃ h23, xm_put h20 a0 9 38 (.int e22) = some h23 ∧ /- rate1 -/
      xm_Call K sX9_laySnow 9 [.ref a0] h23 (xm_pv fun h24 =>
        P none h24))) :
    xm_L K sX9_layNow kX9_layNow 2 [some (.ref a0), some (.int x1)] [] h P :=
  xm_run (fun _ _ h => h) oX9_layNow 39 2 0 0 [some (.ref a0), some (.int x1)] [] h H

def kX9_says : List xm_I := [
  i_0 0 (.aload_n 0) 1 none,
  i_f 1 (.getfield 75) 3 none 9 31 [956] 1,
  i_0 4 (.iload_n 1) 1 none,
  i_0 5 (.iaload) 1 none,
  i_v 6 (.iconst 1) 1 none 1 [],
  i_j 7 (.if_icmp .eq 13) 3 none 12,
  i_0 10 (.aload_n 0) 1 none,
  i_f 11 (.getfield 75) 3 none 9 31 [956] 1,
  i_0 14 (.iload_n 1) 1 none,
  i_0 15 (.iaload) 1 none,
  i_v 16 (.iconst 2) 1 none 2 [],
  i_j 17 (.if_icmp .ne 7) 3 none 14,
  i_v 20 (.iconst 1) 1 none 1 [],
  i_j 21 (.goto 4) 3 none 15,
  i_v 24 (.iconst 0) 1 none 0 [],
  i_0 25 (.ireturn) 1 none]
set_option maxRecDepth 100000 in
theorem oX9_says : xm_ok sX9_says sX9_says.1.cls kX9_says = true := by decide +kernel
set_option maxRecDepth 100000 in
set_option maxHeartbeats 4000000 in
theorem xX9_says_0 {K : Nat} {h : xm_H} {P : Option Value → xm_H → Prop} {a0 : Nat} {x1 : Int32} (H :
    ∃ q1, xm_fld h a0 9 31 = some (.ref q1) ∧ /- habit1 -/
    ∃ e2, xm_ld xm_st h 0 q1 x1 = some e2 ∧
    (if e2 = (1 : Int32) then
      P (some (.int (1 : Int32))) h
    else
      ∃ q3, xm_fld h a0 9 31 = some (.ref q3) ∧ /- habit1 -/
      ∃ e4, xm_ld xm_st h 0 q3 x1 = some e4 ∧
      (if e4 = (2 : Int32) then
        P (some (.int (1 : Int32))) h
      else
        P (some (.int (0 : Int32))) h))) :
    xm_L K sX9_says kX9_says 0 [some (.ref a0), some (.int x1)] [] h P :=
  xm_run (fun _ _ h => h) oX9_says 16 0 0 0 [some (.ref a0), some (.int x1)] [] h H
set_option maxRecDepth 100000 in
theorem eX9_says {K K' : Nat} (hK : K < K') {h : xm_H} {P : Option Value → xm_H → Prop} {a0 : Nat} {x1 : Int32} (hr : ∃ fs, h[a0]? = some (.inr (9, fs))) (H :
    ∃ q1, xm_fld h a0 9 31 = some (.ref q1) ∧ /- habit1 -/
    ∃ e2, xm_ld xm_st h 0 q1 x1 = some e2 ∧
    (if e2 = (1 : Int32) then
      P (some (.int (1 : Int32))) h
    else
      ∃ q3, xm_fld h a0 9 31 = some (.ref q3) ∧ /- habit1 -/
      ∃ e4, xm_ld xm_st h 0 q3 x1 = some e4 ∧
      (if e4 = (2 : Int32) then
        P (some (.int (1 : Int32))) h
      else
        P (some (.int (0 : Int32))) h))) :
    xm_Call K' sX9_says 9 [.ref a0, .int x1] h P :=
  xm_call_of (C := kX9_says) hK (by decide +kernel) rfl (Nat.le_of_ble_eq_true rfl) (Or.inr ⟨a0, hr.choose, rfl, hr.choose_spec⟩) (xX9_says_0 H)

def kX9_leaves : List xm_I := [
  i_0 0 (.aload_n 0) 1 none,
  i_f 1 (.getfield 75) 3 none 9 31 [956] 1,
  i_0 4 (.iload_n 1) 1 none,
  i_0 5 (.iaload) 1 none,
  i_v 6 (.iconst 2) 1 none 2 [],
  i_j 7 (.if_icmp .lt 7) 3 none 8,
  i_v 10 (.iconst 1) 1 none 1 [],
  i_j 11 (.goto 4) 3 none 9,
  i_v 14 (.iconst 0) 1 none 0 [],
  i_0 15 (.ireturn) 1 none]
set_option maxRecDepth 100000 in
theorem oX9_leaves : xm_ok sX9_leaves sX9_leaves.1.cls kX9_leaves = true := by decide +kernel
set_option maxRecDepth 100000 in
set_option maxHeartbeats 4000000 in
theorem xX9_leaves_0 {K : Nat} {h : xm_H} {P : Option Value → xm_H → Prop} {a0 : Nat} {x1 : Int32} (H :
    ∃ q1, xm_fld h a0 9 31 = some (.ref q1) ∧ /- habit1 -/
    ∃ e2, xm_ld xm_st h 0 q1 x1 = some e2 ∧
    (if e2 < (2 : Int32) then
      P (some (.int (0 : Int32))) h
    else
      P (some (.int (1 : Int32))) h)) :
    xm_L K sX9_leaves kX9_leaves 0 [some (.ref a0), some (.int x1)] [] h P :=
  xm_run (fun _ _ h => h) oX9_leaves 10 0 0 0 [some (.ref a0), some (.int x1)] [] h H
set_option maxRecDepth 100000 in
theorem eX9_leaves {K K' : Nat} (hK : K < K') {h : xm_H} {P : Option Value → xm_H → Prop} {a0 : Nat} {x1 : Int32} (hr : ∃ fs, h[a0]? = some (.inr (9, fs))) (H :
    ∃ q1, xm_fld h a0 9 31 = some (.ref q1) ∧ /- habit1 -/
    ∃ e2, xm_ld xm_st h 0 q1 x1 = some e2 ∧
    (if e2 < (2 : Int32) then
      P (some (.int (0 : Int32))) h
    else
      P (some (.int (1 : Int32))) h)) :
    xm_Call K' sX9_leaves 9 [.ref a0, .int x1] h P :=
  xm_call_of (C := kX9_leaves) hK (by decide +kernel) rfl (Nat.le_of_ble_eq_true rfl) (Or.inr ⟨a0, hr.choose, rfl, hr.choose_spec⟩) (xX9_leaves_0 H)

def kX9_othersSay : List xm_I := [
  i_v 0 (.iconst 0) 1 none 0 [],
  i_0 1 (.istore_n 2) 1 none,
  i_v 2 (.iconst 0) 1 none 0 [],
  i_0 3 (.istore_n 3) 1 none,
  i_0 4 (.iload_n 3) 1 (some [true, true, true, true]),
  i_0 5 (.aload_n 0) 1 none,
  i_f 6 (.getfield 125) 3 none 9 1 [926] 0,
  i_j 9 (.if_icmp .ge 25) 3 none 18,
  i_0 12 (.iload_n 3) 1 none,
  i_0 13 (.iload_n 1) 1 none,
  i_j 14 (.if_icmp .eq 14) 3 none 16,
  i_0 17 (.aload_n 0) 1 none,
  i_0 18 (.iload_n 3) 1 none,
  i_m 19 (.invokevirtual 252) 3 none 1 9 [1243, 1245, 57, 117, 1246] 0 sX9_says,
  i_j 22 (.ifCond .eq 6) 3 none 16,
  i_v 25 (.iinc 2 1) 3 none 1 [],
  i_v 28 (.iinc 3 1) 3 none 1 [],
  i_j 31 (.goto (-27)) 3 none 4,
  i_0 34 (.iload_n 2) 1 none,
  i_0 35 (.ireturn) 1 none]
set_option maxRecDepth 100000 in
theorem oX9_othersSay : xm_ok sX9_othersSay sX9_othersSay.1.cls kX9_othersSay = true := by decide +kernel
set_option maxRecDepth 100000 in
set_option maxHeartbeats 4000000 in
theorem xX9_othersSay_0 {K : Nat} {h : xm_H} {P : Option Value → xm_H → Prop} {a0 : Nat} {x1 : Int32} (H :
    xm_L K sX9_othersSay kX9_othersSay 4 [some (.ref a0), some (.int x1), some (.int (0 : Int32)), some (.int (0 : Int32))] [] h P) :
    xm_L K sX9_othersSay kX9_othersSay 0 [some (.ref a0), some (.int x1), none, none] [] h P :=
  xm_run (fun _ _ h => h) oX9_othersSay 5 0 0 0 [some (.ref a0), some (.int x1), none, none] [] h H
set_option maxRecDepth 100000 in
theorem eX9_othersSay {K K' : Nat} (hK : K < K') {h : xm_H} {P : Option Value → xm_H → Prop} {a0 : Nat} {x1 : Int32} (hr : ∃ fs, h[a0]? = some (.inr (9, fs))) (H :
    xm_L K sX9_othersSay kX9_othersSay 4 [some (.ref a0), some (.int x1), some (.int (0 : Int32)), some (.int (0 : Int32))] [] h P) :
    xm_Call K' sX9_othersSay 9 [.ref a0, .int x1] h P :=
  xm_call_of (C := kX9_othersSay) hK (by decide +kernel) rfl (Nat.le_of_ble_eq_true rfl) (Or.inr ⟨a0, hr.choose, rfl, hr.choose_spec⟩) (xX9_othersSay_0 H)

set_option maxRecDepth 100000 in
set_option maxHeartbeats 4000000 in
theorem xX9_othersSay_4 {K : Nat} {h : xm_H} {P : Option Value → xm_H → Prop} {a0 : Nat} {x1 : Int32} {x2 : Int32} {x3 : Int32} (H :
    ∃ f1, xm_fld h a0 9 1 = some (.int f1) ∧ /- many -/
    (if x3 < f1 then
      (if x3 = x1 then
        xm_L K sX9_othersSay kX9_othersSay 4 [some (.ref a0), some (.int x1), some (.int x2), some (.int (x3 + (1 : Int32)))] [] h P
      else
        xm_Call K sX9_says 9 [.ref a0, .int x3] h (xm_pi fun c3 h2 =>
          (if c3 = 0 then
            xm_L K sX9_othersSay kX9_othersSay 4 [some (.ref a0), some (.int x1), some (.int x2), some (.int (x3 + (1 : Int32)))] [] h2 P
          else
            xm_L K sX9_othersSay kX9_othersSay 4 [some (.ref a0), some (.int x1), some (.int (x2 + (1 : Int32))), some (.int (x3 + (1 : Int32)))] [] h2 P)))
    else
      P (some (.int x2)) h)) :
    xm_L K sX9_othersSay kX9_othersSay 4 [some (.ref a0), some (.int x1), some (.int x2), some (.int x3)] [] h P :=
  xm_run (fun _ _ h => h) oX9_othersSay 15 4 0 0 [some (.ref a0), some (.int x1), some (.int x2), some (.int x3)] [] h H

def kX9_leaving : List xm_I := [
  i_v 0 (.iconst 0) 1 none 0 [],
  i_0 1 (.istore_n 1) 1 none,
  i_v 2 (.iconst 0) 1 none 0 [],
  i_0 3 (.istore_n 2) 1 none,
  i_0 4 (.iload_n 2) 1 (some [true, true, true]),
  i_0 5 (.aload_n 0) 1 none,
  i_f 6 (.getfield 125) 3 none 9 1 [926] 0,
  i_j 9 (.if_icmp .ge 20) 3 none 15,
  i_0 12 (.aload_n 0) 1 none,
  i_0 13 (.iload_n 2) 1 none,
  i_m 14 (.invokevirtual 255) 3 none 1 9 [1251, 1253, 59, 117, 1254] 0 sX9_leaves,
  i_j 17 (.ifCond .eq 6) 3 none 13,
  i_v 20 (.iinc 1 1) 3 none 1 [],
  i_v 23 (.iinc 2 1) 3 none 1 [],
  i_j 26 (.goto (-22)) 3 none 4,
  i_0 29 (.iload_n 1) 1 none,
  i_0 30 (.ireturn) 1 none]
set_option maxRecDepth 100000 in
theorem oX9_leaving : xm_ok sX9_leaving sX9_leaving.1.cls kX9_leaving = true := by decide +kernel
set_option maxRecDepth 100000 in
set_option maxHeartbeats 4000000 in
theorem xX9_leaving_0 {K : Nat} {h : xm_H} {P : Option Value → xm_H → Prop} {a0 : Nat} (H :
    xm_L K sX9_leaving kX9_leaving 4 [some (.ref a0), some (.int (0 : Int32)), some (.int (0 : Int32))] [] h P) :
    xm_L K sX9_leaving kX9_leaving 0 [some (.ref a0), none, none] [] h P :=
  xm_run (fun _ _ h => h) oX9_leaving 5 0 0 0 [some (.ref a0), none, none] [] h H
set_option maxRecDepth 100000 in
theorem eX9_leaving {K K' : Nat} (hK : K < K') {h : xm_H} {P : Option Value → xm_H → Prop} {a0 : Nat} (hr : ∃ fs, h[a0]? = some (.inr (9, fs))) (H :
    xm_L K sX9_leaving kX9_leaving 4 [some (.ref a0), some (.int (0 : Int32)), some (.int (0 : Int32))] [] h P) :
    xm_Call K' sX9_leaving 9 [.ref a0] h P :=
  xm_call_of (C := kX9_leaving) hK (by decide +kernel) rfl (Nat.le_of_ble_eq_true rfl) (Or.inr ⟨a0, hr.choose, rfl, hr.choose_spec⟩) (xX9_leaving_0 H)

set_option maxRecDepth 100000 in
set_option maxHeartbeats 4000000 in
theorem xX9_leaving_4 {K : Nat} {h : xm_H} {P : Option Value → xm_H → Prop} {a0 : Nat} {x1 : Int32} {x2 : Int32} (H :
    ∃ f1, xm_fld h a0 9 1 = some (.int f1) ∧ /- many -/
    (if x2 < f1 then
      xm_Call K sX9_leaves 9 [.ref a0, .int x2] h (xm_pi fun c3 h2 =>
        (if c3 = 0 then
          xm_L K sX9_leaving kX9_leaving 4 [some (.ref a0), some (.int x1), some (.int (x2 + (1 : Int32)))] [] h2 P
        else
          xm_L K sX9_leaving kX9_leaving 4 [some (.ref a0), some (.int (x1 + (1 : Int32))), some (.int (x2 + (1 : Int32)))] [] h2 P))
    else
      P (some (.int x1)) h)) :
    xm_L K sX9_leaving kX9_leaving 4 [some (.ref a0), some (.int x1), some (.int x2)] [] h P :=
  xm_run (fun _ _ h => h) oX9_leaving 12 4 0 0 [some (.ref a0), some (.int x1), some (.int x2)] [] h H

