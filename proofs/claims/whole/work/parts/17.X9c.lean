def kX9_countsBy : List xm_I := [
  i_v 0 (.iconst 5) 1 none 5 [],
  i_0 1 (.aload_n 0) 1 none,
  i_f 2 (.getfield 22) 3 none 9 6 [931] 1,
  i_0 5 (.iload_n 1) 1 none,
  i_0 6 (.iaload) 1 none,
  i_0 7 (.isub) 1 none,
  i_0 8 (.aload_n 0) 1 none,
  i_f 9 (.getfield 7) 3 none 9 2 [927] 1,
  i_0 12 (.iload_n 1) 1 none,
  i_0 13 (.iaload) 1 none,
  i_v 14 (.iconst 3) 1 none 3 [],
  i_0 15 (.idiv) 1 none,
  i_0 16 (.iadd) 1 none,
  i_0 17 (.istore_n 2) 1 none,
  i_0 18 (.aload_n 0) 1 none,
  i_f 19 (.getfield 236) 3 none 9 30 [955] 0,
  i_j 22 (.ifCond .eq 76) 3 none 64,
  i_0 25 (.aload_n 0) 1 none,
  i_f 26 (.getfield 69) 3 none 9 28 [953] 1,
  i_v 29 (.iconst 0) 1 none 0 [],
  i_0 30 (.aload_n 0) 1 none,
  i_f 31 (.getfield 22) 3 none 9 6 [931] 1,
  i_0 34 (.iload_n 1) 1 none,
  i_0 35 (.iaload) 1 none,
  i_0 36 (.iastore) 1 none,
  i_0 37 (.aload_n 0) 1 none,
  i_f 38 (.getfield 69) 3 none 9 28 [953] 1,
  i_v 41 (.iconst 1) 1 none 1 [],
  i_0 42 (.aload_n 0) 1 none,
  i_f 43 (.getfield 7) 3 none 9 2 [927] 1,
  i_0 46 (.iload_n 1) 1 none,
  i_0 47 (.iaload) 1 none,
  i_0 48 (.iastore) 1 none,
  i_0 49 (.aload_n 0) 1 none,
  i_f 50 (.getfield 69) 3 none 9 28 [953] 1,
  i_v 53 (.iconst 2) 1 none 2 [],
  i_0 54 (.aload_n 0) 1 none,
  i_f 55 (.getfield 84) 3 none 9 34 [959] 1,
  i_0 58 (.iload_n 1) 1 none,
  i_0 59 (.iaload) 1 none,
  i_0 60 (.iastore) 1 none,
  i_0 61 (.aload_n 0) 1 none,
  i_f 62 (.getfield 69) 3 none 9 28 [953] 1,
  i_v 65 (.iconst 3) 1 none 3 [],
  i_0 66 (.aload_n 0) 1 none,
  i_0 67 (.iload_n 1) 1 none,
  i_m 68 (.invokevirtual 258) 3 none 1 9 [1239, 1241, 56, 117, 1242] 0 sX9_othersSay,
  i_0 71 (.iastore) 1 none,
  i_0 72 (.aload_n 0) 1 none,
  i_f 73 (.getfield 69) 3 none 9 28 [953] 1,
  i_v 76 (.iconst 4) 1 none 4 [],
  i_0 77 (.aload_n 0) 1 none,
  i_f 78 (.getfield 243) 3 none 9 36 [961] 0,
  i_0 81 (.iastore) 1 none,
  i_0 82 (.aload_n 0) 1 none,
  i_f 83 (.getfield 69) 3 none 9 28 [953] 1,
  i_v 86 (.iconst 5) 1 none 5 [],
  i_0 87 (.aload_n 0) 1 none,
  i_m 88 (.invokevirtual 261) 3 none 0 9 [1247, 1249, 58, 117, 1250] 0 sX9_leaving,
  i_0 91 (.iastore) 1 none,
  i_0 92 (.aload_n 0) 1 none,
  i_v 93 (.iconst 0) 1 none 0 [],
  i_m 94 (.invokevirtual 264) 3 none 1 9 [1255, 1257, 60, 117, 1258] 0 sX9_givesText,
  i_0 97 (.istore_n 2) 1 none,
  i_0 98 (.iload_n 2) 1 none,
  i_j 99 (.ifCond .ge 7) 3 none 68,
  i_v 102 (.iconst 0) 1 none 0 [],
  i_j 103 (.goto 15) 3 none 74,
  i_0 106 (.iload_n 2) 1 none,
  i_v 107 (.bipush 20) 2 none 20 [],
  i_j 109 (.if_icmp .le 8) 3 none 73,
  i_v 112 (.bipush 20) 2 none 20 [],
  i_j 114 (.goto 4) 3 none 74,
  i_0 117 (.iload_n 2) 1 none,
  i_0 118 (.ireturn) 1 none]
set_option maxRecDepth 100000 in
theorem oX9_countsBy : xm_ok sX9_countsBy sX9_countsBy.1.cls kX9_countsBy = true := by decide +kernel
set_option maxRecDepth 100000 in
set_option maxHeartbeats 4000000 in
theorem xX9_countsBy_0 {K : Nat} {h : xm_H} {P : Option Value → xm_H → Prop} {a0 : Nat} {x1 : Int32} (H :
    ∃ q1, xm_fld h a0 9 6 = some (.ref q1) ∧ /- kindOf -/
    ∃ e2, xm_ld xm_st h 0 q1 x1 = some e2 ∧
    ∃ q3, xm_fld h a0 9 2 = some (.ref q3) ∧ /- wishOf -/
    ∃ e4, xm_ld xm_st h 0 q3 x1 = some e4 ∧
    ¬ (3 : Int32) = 0 ∧
    ∃ f5, xm_fld h a0 9 30 = some (.int f5) ∧ /- hasLaw -/
    (if f5 = 0 then
      (if (((5 : Int32) - e2) + (e4 / (3 : Int32))) < 0 then
        P (some (.int (0 : Int32))) h
      else
        (if (20 : Int32) < (((5 : Int32) - e2) + (e4 / (3 : Int32))) then
          P (some (.int (20 : Int32))) h
        else
          P (some (.int (((5 : Int32) - e2) + (e4 / (3 : Int32))))) h))
    else
      ∃ q6, xm_fld h a0 9 28 = some (.ref q6) ∧ /- facts -/
      ∃ q7, xm_fld h a0 9 6 = some (.ref q7) ∧ /- kindOf -/
      ∃ e8, xm_ld xm_st h 0 q7 x1 = some e8 ∧
      ∃ h9, xm_sto h 0 q6 (0 : Int32) e8 = some h9 ∧
      ∃ q10, xm_fld h9 a0 9 28 = some (.ref q10) ∧ /- facts -/
      ∃ q11, xm_fld h9 a0 9 2 = some (.ref q11) ∧ /- wishOf -/
      ∃ e12, xm_ld xm_st h9 0 q11 x1 = some e12 ∧
      ∃ h13, xm_sto h9 0 q10 (1 : Int32) e12 = some h13 ∧
      ∃ q14, xm_fld h13 a0 9 28 = some (.ref q14) ∧ /- facts -/
      ∃ q15, xm_fld h13 a0 9 34 = some (.ref q15) ∧ /- age1 -/
      ∃ e16, xm_ld xm_st h13 0 q15 x1 = some e16 ∧
      ∃ h17, xm_sto h13 0 q14 (2 : Int32) e16 = some h17 ∧
      ∃ q18, xm_fld h17 a0 9 28 = some (.ref q18) ∧ /- facts -/
      xm_Call K sX9_othersSay 9 [.ref a0, .int x1] h17 (xm_pi fun c20 h19 =>
        ∃ h21, xm_sto h19 0 q18 (3 : Int32) c20 = some h21 ∧
        ∃ q22, xm_fld h21 a0 9 28 = some (.ref q22) ∧ /- facts -/
        ∃ f23, xm_fld h21 a0 9 36 = some (.int f23) ∧ /- snow1 -/
        ∃ h24, xm_sto h21 0 q22 (4 : Int32) f23 = some h24 ∧
        ∃ q25, xm_fld h24 a0 9 28 = some (.ref q25) ∧ /- facts -/
        xm_Call K sX9_leaving 9 [.ref a0] h24 (xm_pi fun c27 h26 =>
          ∃ h28, xm_sto h26 0 q25 (5 : Int32) c27 = some h28 ∧
          xm_Call K sX9_givesText 9 [.ref a0, .int (0 : Int32)] h28 (xm_pi fun c30 h29 =>
            (if c30 < 0 then
              P (some (.int (0 : Int32))) h29
            else
              (if (20 : Int32) < c30 then
                P (some (.int (20 : Int32))) h29
              else
                P (some (.int c30)) h29))))))) :
    xm_L K sX9_countsBy kX9_countsBy 0 [some (.ref a0), some (.int x1), none] [] h P :=
  xm_run (fun _ _ h => h) oX9_countsBy 73 0 0 0 [some (.ref a0), some (.int x1), none] [] h H
set_option maxRecDepth 100000 in
theorem eX9_countsBy {K K' : Nat} (hK : K < K') {h : xm_H} {P : Option Value → xm_H → Prop} {a0 : Nat} {x1 : Int32} (hr : ∃ fs, h[a0]? = some (.inr (9, fs))) (H :
    ∃ q1, xm_fld h a0 9 6 = some (.ref q1) ∧ /- kindOf -/
    ∃ e2, xm_ld xm_st h 0 q1 x1 = some e2 ∧
    ∃ q3, xm_fld h a0 9 2 = some (.ref q3) ∧ /- wishOf -/
    ∃ e4, xm_ld xm_st h 0 q3 x1 = some e4 ∧
    ¬ (3 : Int32) = 0 ∧
    ∃ f5, xm_fld h a0 9 30 = some (.int f5) ∧ /- hasLaw -/
    (if f5 = 0 then
      (if (((5 : Int32) - e2) + (e4 / (3 : Int32))) < 0 then
        P (some (.int (0 : Int32))) h
      else
        (if (20 : Int32) < (((5 : Int32) - e2) + (e4 / (3 : Int32))) then
          P (some (.int (20 : Int32))) h
        else
          P (some (.int (((5 : Int32) - e2) + (e4 / (3 : Int32))))) h))
    else
      ∃ q6, xm_fld h a0 9 28 = some (.ref q6) ∧ /- facts -/
      ∃ q7, xm_fld h a0 9 6 = some (.ref q7) ∧ /- kindOf -/
      ∃ e8, xm_ld xm_st h 0 q7 x1 = some e8 ∧
      ∃ h9, xm_sto h 0 q6 (0 : Int32) e8 = some h9 ∧
      ∃ q10, xm_fld h9 a0 9 28 = some (.ref q10) ∧ /- facts -/
      ∃ q11, xm_fld h9 a0 9 2 = some (.ref q11) ∧ /- wishOf -/
      ∃ e12, xm_ld xm_st h9 0 q11 x1 = some e12 ∧
      ∃ h13, xm_sto h9 0 q10 (1 : Int32) e12 = some h13 ∧
      ∃ q14, xm_fld h13 a0 9 28 = some (.ref q14) ∧ /- facts -/
      ∃ q15, xm_fld h13 a0 9 34 = some (.ref q15) ∧ /- age1 -/
      ∃ e16, xm_ld xm_st h13 0 q15 x1 = some e16 ∧
      ∃ h17, xm_sto h13 0 q14 (2 : Int32) e16 = some h17 ∧
      ∃ q18, xm_fld h17 a0 9 28 = some (.ref q18) ∧ /- facts -/
      xm_Call K sX9_othersSay 9 [.ref a0, .int x1] h17 (xm_pi fun c20 h19 =>
        ∃ h21, xm_sto h19 0 q18 (3 : Int32) c20 = some h21 ∧
        ∃ q22, xm_fld h21 a0 9 28 = some (.ref q22) ∧ /- facts -/
        ∃ f23, xm_fld h21 a0 9 36 = some (.int f23) ∧ /- snow1 -/
        ∃ h24, xm_sto h21 0 q22 (4 : Int32) f23 = some h24 ∧
        ∃ q25, xm_fld h24 a0 9 28 = some (.ref q25) ∧ /- facts -/
        xm_Call K sX9_leaving 9 [.ref a0] h24 (xm_pi fun c27 h26 =>
          ∃ h28, xm_sto h26 0 q25 (5 : Int32) c27 = some h28 ∧
          xm_Call K sX9_givesText 9 [.ref a0, .int (0 : Int32)] h28 (xm_pi fun c30 h29 =>
            (if c30 < 0 then
              P (some (.int (0 : Int32))) h29
            else
              (if (20 : Int32) < c30 then
                P (some (.int (20 : Int32))) h29
              else
                P (some (.int c30)) h29))))))) :
    xm_Call K' sX9_countsBy 9 [.ref a0, .int x1] h P :=
  xm_call_of (C := kX9_countsBy) hK (by decide +kernel) rfl (Nat.le_of_ble_eq_true rfl) (Or.inr ⟨a0, hr.choose, rfl, hr.choose_spec⟩) (xX9_countsBy_0 H)

def kX9_counts : List xm_I := [
  i_0 0 (.aload_n 0) 1 none,
  i_0 1 (.iload_n 1) 1 none,
  i_m 2 (.invokevirtual 156) 3 none 1 9 [1141, 1143, 37, 117, 1144] 0 sX9_isOne,
  i_j 5 (.ifCond .ne 5) 3 none 6,
  i_v 8 (.iconst (-1)) 1 none (-1) [],
  i_0 9 (.ireturn) 1 none,
  i_0 10 (.aload_n 0) 1 none,
  i_m 11 (.invokevirtual 267) 3 none 0 9 [1227, 1229, 53, 117, 1230] 0 sX9_layNow,
  i_0 14 (.aload_n 0) 1 none,
  i_0 15 (.iload_n 1) 1 none,
  i_m 16 (.invokevirtual 270) 3 none 1 9 [1235, 1237, 55, 117, 1238] 0 sX9_countsBy,
  i_0 19 (.ireturn) 1 none]
set_option maxRecDepth 100000 in
theorem oX9_counts : xm_ok sX9_counts sX9_counts.1.cls kX9_counts = true := by decide +kernel
set_option maxRecDepth 100000 in
set_option maxHeartbeats 4000000 in
theorem xX9_counts_0 {K : Nat} {h : xm_H} {P : Option Value → xm_H → Prop} {a0 : Nat} {x1 : Int32} (H :
    xm_Call K sX9_isOne 9 [.ref a0, .int x1] h (xm_pi fun c2 h1 =>
      (if c2 = 0 then
        P (some (.int (-1 : Int32))) h1
      else
        xm_Call K sX9_layNow 9 [.ref a0] h1 (xm_pv fun h3 =>
          xm_Call K sX9_countsBy 9 [.ref a0, .int x1] h3 (xm_pi fun c5 h4 =>
            P (some (.int c5)) h4))))) :
    xm_L K sX9_counts kX9_counts 0 [some (.ref a0), some (.int x1)] [] h P :=
  xm_run (fun _ _ h => h) oX9_counts 11 0 0 0 [some (.ref a0), some (.int x1)] [] h H
set_option maxRecDepth 100000 in
theorem eX9_counts {K K' : Nat} (hK : K < K') {h : xm_H} {P : Option Value → xm_H → Prop} {a0 : Nat} {x1 : Int32} (hr : ∃ fs, h[a0]? = some (.inr (9, fs))) (H :
    xm_Call K sX9_isOne 9 [.ref a0, .int x1] h (xm_pi fun c2 h1 =>
      (if c2 = 0 then
        P (some (.int (-1 : Int32))) h1
      else
        xm_Call K sX9_layNow 9 [.ref a0] h1 (xm_pv fun h3 =>
          xm_Call K sX9_countsBy 9 [.ref a0, .int x1] h3 (xm_pi fun c5 h4 =>
            P (some (.int c5)) h4))))) :
    xm_Call K' sX9_counts 9 [.ref a0, .int x1] h P :=
  xm_call_of (C := kX9_counts) hK (by decide +kernel) rfl (Nat.le_of_ble_eq_true rfl) (Or.inr ⟨a0, hr.choose, rfl, hr.choose_spec⟩) (xX9_counts_0 H)

def kX9_assess : List xm_I := [
  i_0 0 (.aload_n 0) 1 none,
  i_v 1 (.iconst 0) 1 none 0 [],
  i_f 2 (.putfield 273) 3 none 9 39 [964] 0,
  i_v 5 (.iconst 0) 1 none 0 [],
  i_0 6 (.istore_n 1) 1 none,
  i_0 7 (.iload_n 1) 1 (some [true, true]),
  i_0 8 (.aload_n 0) 1 none,
  i_f 9 (.getfield 125) 3 none 9 1 [926] 0,
  i_j 12 (.if_icmp .ge 59) 3 none 41,
  i_0 15 (.aload_n 0) 1 none,
  i_f 16 (.getfield 87) 3 none 9 35 [960] 1,
  i_0 19 (.iload_n 1) 1 none,
  i_0 20 (.aload_n 0) 1 none,
  i_f 21 (.getfield 75) 3 none 9 31 [956] 1,
  i_0 24 (.iload_n 1) 1 none,
  i_0 25 (.iaload) 1 none,
  i_v 26 (.iconst 1) 1 none 1 [],
  i_j 27 (.if_icmp .ne 21) 3 none 28,
  i_0 30 (.aload_n 0) 1 none,
  i_f 31 (.getfield 78) 3 none 9 32 [957] 1,
  i_0 34 (.iload_n 1) 1 none,
  i_0 35 (.iaload) 1 none,
  i_v 36 (.iconst 1) 1 none 1 [],
  i_j 37 (.if_icmp .ne 11) 3 none 28,
  i_0 40 (.aload_n 0) 1 none,
  i_0 41 (.iload_n 1) 1 none,
  i_m 42 (.invokevirtual 270) 3 none 1 9 [1235, 1237, 55, 117, 1238] 0 sX9_countsBy,
  i_j 45 (.goto 4) 3 none 29,
  i_v 48 (.iconst 0) 1 none 0 [],
  i_0 49 (.iastore) 1 none,
  i_0 50 (.aload_n 0) 1 none,
  i_0 51 (.dup) 1 none,
  i_f 52 (.getfield 273) 3 none 9 39 [964] 0,
  i_0 55 (.aload_n 0) 1 none,
  i_f 56 (.getfield 87) 3 none 9 35 [960] 1,
  i_0 59 (.iload_n 1) 1 none,
  i_0 60 (.iaload) 1 none,
  i_0 61 (.iadd) 1 none,
  i_f 62 (.putfield 273) 3 none 9 39 [964] 0,
  i_v 65 (.iinc 1 1) 3 none 1 [],
  i_j 68 (.goto (-61)) 3 none 5,
  i_0 71 (.return_) 1 none]
set_option maxRecDepth 100000 in
theorem oX9_assess : xm_ok sX9_assess sX9_assess.1.cls kX9_assess = true := by decide +kernel
set_option maxRecDepth 100000 in
set_option maxHeartbeats 4000000 in
theorem xX9_assess_0 {K : Nat} {h : xm_H} {P : Option Value → xm_H → Prop} {a0 : Nat} (H :
    ∃ h1, xm_put h a0 9 39 (.int (0 : Int32)) = some h1 ∧ /- assessedAll -/
    xm_L K sX9_assess kX9_assess 5 [some (.ref a0), some (.int (0 : Int32))] [] h1 P) :
    xm_L K sX9_assess kX9_assess 0 [some (.ref a0), none] [] h P :=
  xm_run (fun _ _ h => h) oX9_assess 6 0 0 0 [some (.ref a0), none] [] h H
set_option maxRecDepth 100000 in
theorem eX9_assess {K K' : Nat} (hK : K < K') {h : xm_H} {P : Option Value → xm_H → Prop} {a0 : Nat} (hr : ∃ fs, h[a0]? = some (.inr (9, fs))) (H :
    ∃ h1, xm_put h a0 9 39 (.int (0 : Int32)) = some h1 ∧ /- assessedAll -/
    xm_L K sX9_assess kX9_assess 5 [some (.ref a0), some (.int (0 : Int32))] [] h1 P) :
    xm_Call K' sX9_assess 9 [.ref a0] h P :=
  xm_call_of (C := kX9_assess) hK (by decide +kernel) rfl (Nat.le_of_ble_eq_true rfl) (Or.inr ⟨a0, hr.choose, rfl, hr.choose_spec⟩) (xX9_assess_0 H)

set_option maxRecDepth 100000 in
set_option maxHeartbeats 4000000 in
theorem xX9_assess_5 {K : Nat} {h : xm_H} {P : Option Value → xm_H → Prop} {a0 : Nat} {x1 : Int32} (H :
    ∃ f1, xm_fld h a0 9 1 = some (.int f1) ∧ /- many -/
    (if x1 < f1 then
      ∃ q2, xm_fld h a0 9 35 = some (.ref q2) ∧ /- assessed -/
      ∃ q3, xm_fld h a0 9 31 = some (.ref q3) ∧ /- habit1 -/
      ∃ e4, xm_ld xm_st h 0 q3 x1 = some e4 ∧
      (if e4 = (1 : Int32) then
        ∃ q5, xm_fld h a0 9 32 = some (.ref q5) ∧ /- heard1 -/
        ∃ e6, xm_ld xm_st h 0 q5 x1 = some e6 ∧
        (if e6 = (1 : Int32) then
          xm_Call K sX9_countsBy 9 [.ref a0, .int x1] h (xm_pi fun c8 h7 =>
            ∃ h9, xm_sto h7 0 q2 x1 c8 = some h9 ∧
            ∃ f10, xm_fld h9 a0 9 39 = some (.int f10) ∧ /- assessedAll -/
            ∃ q11, xm_fld h9 a0 9 35 = some (.ref q11) ∧ /- assessed -/
            ∃ e12, xm_ld xm_st h9 0 q11 x1 = some e12 ∧
            ∃ h13, xm_put h9 a0 9 39 (.int (f10 + e12)) = some h13 ∧ /- assessedAll -/
            xm_L K sX9_assess kX9_assess 5 [some (.ref a0), some (.int (x1 + (1 : Int32)))] [] h13 P)
        else
          ∃ h14, xm_sto h 0 q2 x1 (0 : Int32) = some h14 ∧
          ∃ f15, xm_fld h14 a0 9 39 = some (.int f15) ∧ /- assessedAll -/
          ∃ q16, xm_fld h14 a0 9 35 = some (.ref q16) ∧ /- assessed -/
          ∃ e17, xm_ld xm_st h14 0 q16 x1 = some e17 ∧
          ∃ h18, xm_put h14 a0 9 39 (.int (f15 + e17)) = some h18 ∧ /- assessedAll -/
          xm_L K sX9_assess kX9_assess 5 [some (.ref a0), some (.int (x1 + (1 : Int32)))] [] h18 P)
      else
        ∃ h19, xm_sto h 0 q2 x1 (0 : Int32) = some h19 ∧
        ∃ f20, xm_fld h19 a0 9 39 = some (.int f20) ∧ /- assessedAll -/
        ∃ q21, xm_fld h19 a0 9 35 = some (.ref q21) ∧ /- assessed -/
        ∃ e22, xm_ld xm_st h19 0 q21 x1 = some e22 ∧
        ∃ h23, xm_put h19 a0 9 39 (.int (f20 + e22)) = some h23 ∧ /- assessedAll -/
        xm_L K sX9_assess kX9_assess 5 [some (.ref a0), some (.int (x1 + (1 : Int32)))] [] h23 P)
    else
      P none h)) :
    xm_L K sX9_assess kX9_assess 5 [some (.ref a0), some (.int x1)] [] h P :=
  xm_run (fun _ _ h => h) oX9_assess 36 5 0 0 [some (.ref a0), some (.int x1)] [] h H

def kX9_theBill : List xm_I := [
  i_0 0 (.aload_n 0) 1 none,
  i_f 1 (.getfield 243) 3 none 9 36 [961] 0,
  i_0 4 (.aload_n 0) 1 none,
  i_f 5 (.getfield 246) 3 none 9 38 [963] 0,
  i_0 8 (.imul) 1 none,
  i_0 9 (.ireturn) 1 none]
set_option maxRecDepth 100000 in
theorem oX9_theBill : xm_ok sX9_theBill sX9_theBill.1.cls kX9_theBill = true := by decide +kernel
set_option maxRecDepth 100000 in
set_option maxHeartbeats 4000000 in
theorem xX9_theBill_0 {K : Nat} {h : xm_H} {P : Option Value → xm_H → Prop} {a0 : Nat} (H :
    ∃ f1, xm_fld h a0 9 36 = some (.int f1) ∧ /- snow1 -/
    ∃ f2, xm_fld h a0 9 38 = some (.int f2) ∧ /- rate1 -/
    P (some (.int (f1 * f2))) h) :
    xm_L K sX9_theBill kX9_theBill 0 [some (.ref a0)] [] h P :=
  xm_run (fun _ _ h => h) oX9_theBill 7 0 0 0 [some (.ref a0)] [] h H
set_option maxRecDepth 100000 in
theorem eX9_theBill {K K' : Nat} (hK : K < K') {h : xm_H} {P : Option Value → xm_H → Prop} {a0 : Nat} (hr : ∃ fs, h[a0]? = some (.inr (9, fs))) (H :
    ∃ f1, xm_fld h a0 9 36 = some (.int f1) ∧ /- snow1 -/
    ∃ f2, xm_fld h a0 9 38 = some (.int f2) ∧ /- rate1 -/
    P (some (.int (f1 * f2))) h) :
    xm_Call K' sX9_theBill 9 [.ref a0] h P :=
  xm_call_of (C := kX9_theBill) hK (by decide +kernel) rfl (Nat.le_of_ble_eq_true rfl) (Or.inr ⟨a0, hr.choose, rfl, hr.choose_spec⟩) (xX9_theBill_0 H)

def kX9_shareOf : List xm_I := [
  i_0 0 (.aload_n 0) 1 none,
  i_f 1 (.getfield 273) 3 none 9 39 [964] 0,
  i_j 4 (.ifCond .ne 7) 3 none 5,
  i_v 7 (.iconst 0) 1 none 0 [],
  i_j 8 (.goto 19) 3 none 15,
  i_0 11 (.aload_n 0) 1 none,
  i_m 12 (.invokevirtual 276) 3 none 0 9 [1274, 1276, 63, 117, 1277] 0 sX9_theBill,
  i_0 15 (.aload_n 0) 1 none,
  i_f 16 (.getfield 87) 3 none 9 35 [960] 1,
  i_0 19 (.iload_n 1) 1 none,
  i_0 20 (.iaload) 1 none,
  i_0 21 (.imul) 1 none,
  i_0 22 (.aload_n 0) 1 none,
  i_f 23 (.getfield 273) 3 none 9 39 [964] 0,
  i_0 26 (.idiv) 1 none,
  i_0 27 (.ireturn) 1 none]
set_option maxRecDepth 100000 in
theorem oX9_shareOf : xm_ok sX9_shareOf sX9_shareOf.1.cls kX9_shareOf = true := by decide +kernel
set_option maxRecDepth 100000 in
set_option maxHeartbeats 4000000 in
theorem xX9_shareOf_0 {K : Nat} {h : xm_H} {P : Option Value → xm_H → Prop} {a0 : Nat} {x1 : Int32} (H :
    ∃ f1, xm_fld h a0 9 39 = some (.int f1) ∧ /- assessedAll -/
    (if f1 = 0 then
      P (some (.int (0 : Int32))) h
    else
      xm_Call K sX9_theBill 9 [.ref a0] h (xm_pi fun c3 h2 =>
        ∃ q4, xm_fld h2 a0 9 35 = some (.ref q4) ∧ /- assessed -/
        ∃ e5, xm_ld xm_st h2 0 q4 x1 = some e5 ∧
        ∃ f6, xm_fld h2 a0 9 39 = some (.int f6) ∧ /- assessedAll -/
        ¬ f6 = 0 ∧
        P (some (.int ((c3 * e5) / f6))) h2))) :
    xm_L K sX9_shareOf kX9_shareOf 0 [some (.ref a0), some (.int x1)] [] h P :=
  xm_run (fun _ _ h => h) oX9_shareOf 15 0 0 0 [some (.ref a0), some (.int x1)] [] h H
set_option maxRecDepth 100000 in
theorem eX9_shareOf {K K' : Nat} (hK : K < K') {h : xm_H} {P : Option Value → xm_H → Prop} {a0 : Nat} {x1 : Int32} (hr : ∃ fs, h[a0]? = some (.inr (9, fs))) (H :
    ∃ f1, xm_fld h a0 9 39 = some (.int f1) ∧ /- assessedAll -/
    (if f1 = 0 then
      P (some (.int (0 : Int32))) h
    else
      xm_Call K sX9_theBill 9 [.ref a0] h (xm_pi fun c3 h2 =>
        ∃ q4, xm_fld h2 a0 9 35 = some (.ref q4) ∧ /- assessed -/
        ∃ e5, xm_ld xm_st h2 0 q4 x1 = some e5 ∧
        ∃ f6, xm_fld h2 a0 9 39 = some (.int f6) ∧ /- assessedAll -/
        ¬ f6 = 0 ∧
        P (some (.int ((c3 * e5) / f6))) h2))) :
    xm_Call K' sX9_shareOf 9 [.ref a0, .int x1] h P :=
  xm_call_of (C := kX9_shareOf) hK (by decide +kernel) rfl (Nat.le_of_ble_eq_true rfl) (Or.inr ⟨a0, hr.choose, rfl, hr.choose_spec⟩) (xX9_shareOf_0 H)

def kX9_sharesOf : List xm_I := [
  i_v 0 (.iconst 0) 1 none 0 [],
  i_0 1 (.istore_n 2) 1 none,
  i_v 2 (.iconst 0) 1 none 0 [],
  i_0 3 (.istore_n 3) 1 none,
  i_0 4 (.iload_n 3) 1 (some [true, true, true, true]),
  i_0 5 (.aload_n 0) 1 none,
  i_f 6 (.getfield 125) 3 none 9 1 [926] 0,
  i_j 9 (.if_icmp .ge 25) 3 none 20,
  i_0 12 (.iload_n 1) 1 none,
  i_0 13 (.iload_n 3) 1 none,
  i_m 14 (.invokestatic 279) 3 none 2 99 [1286, 1287, 117, 1288] 0 sX9_has,
  i_j 17 (.ifCond .eq 11) 3 none 18,
  i_0 20 (.iload_n 2) 1 none,
  i_0 21 (.aload_n 0) 1 none,
  i_0 22 (.iload_n 3) 1 none,
  i_m 23 (.invokevirtual 282) 3 none 1 9 [1289, 1291, 66, 117, 1292] 0 sX9_shareOf,
  i_0 26 (.iadd) 1 none,
  i_0 27 (.istore_n 2) 1 none,
  i_v 28 (.iinc 3 1) 3 none 1 [],
  i_j 31 (.goto (-27)) 3 none 4,
  i_0 34 (.iload_n 2) 1 none,
  i_0 35 (.ireturn) 1 none]
set_option maxRecDepth 100000 in
theorem oX9_sharesOf : xm_ok sX9_sharesOf sX9_sharesOf.1.cls kX9_sharesOf = true := by decide +kernel
set_option maxRecDepth 100000 in
set_option maxHeartbeats 4000000 in
theorem xX9_sharesOf_0 {K : Nat} {h : xm_H} {P : Option Value → xm_H → Prop} {a0 : Nat} {x1 : Int32} (H :
    xm_L K sX9_sharesOf kX9_sharesOf 4 [some (.ref a0), some (.int x1), some (.int (0 : Int32)), some (.int (0 : Int32))] [] h P) :
    xm_L K sX9_sharesOf kX9_sharesOf 0 [some (.ref a0), some (.int x1), none, none] [] h P :=
  xm_run (fun _ _ h => h) oX9_sharesOf 5 0 0 0 [some (.ref a0), some (.int x1), none, none] [] h H
set_option maxRecDepth 100000 in
theorem eX9_sharesOf {K K' : Nat} (hK : K < K') {h : xm_H} {P : Option Value → xm_H → Prop} {a0 : Nat} {x1 : Int32} (hr : ∃ fs, h[a0]? = some (.inr (9, fs))) (H :
    xm_L K sX9_sharesOf kX9_sharesOf 4 [some (.ref a0), some (.int x1), some (.int (0 : Int32)), some (.int (0 : Int32))] [] h P) :
    xm_Call K' sX9_sharesOf 9 [.ref a0, .int x1] h P :=
  xm_call_of (C := kX9_sharesOf) hK (by decide +kernel) rfl (Nat.le_of_ble_eq_true rfl) (Or.inr ⟨a0, hr.choose, rfl, hr.choose_spec⟩) (xX9_sharesOf_0 H)

set_option maxRecDepth 100000 in
set_option maxHeartbeats 4000000 in
theorem xX9_sharesOf_4 {K : Nat} {h : xm_H} {P : Option Value → xm_H → Prop} {a0 : Nat} {x1 : Int32} {x2 : Int32} {x3 : Int32} (H :
    ∃ f1, xm_fld h a0 9 1 = some (.int f1) ∧ /- many -/
    (if x3 < f1 then
      xm_Call K sX9_has 99 [.int x1, .int x3] h (xm_pi fun c3 h2 =>
        (if c3 = 0 then
          xm_L K sX9_sharesOf kX9_sharesOf 4 [some (.ref a0), some (.int x1), some (.int x2), some (.int (x3 + (1 : Int32)))] [] h2 P
        else
          xm_Call K sX9_shareOf 9 [.ref a0, .int x3] h2 (xm_pi fun c5 h4 =>
            xm_L K sX9_sharesOf kX9_sharesOf 4 [some (.ref a0), some (.int x1), some (.int (x2 + c5)), some (.int (x3 + (1 : Int32)))] [] h4 P)))
    else
      P (some (.int x2)) h)) :
    xm_L K sX9_sharesOf kX9_sharesOf 4 [some (.ref a0), some (.int x1), some (.int x2), some (.int x3)] [] h P :=
  xm_run (fun _ _ h => h) oX9_sharesOf 17 4 0 0 [some (.ref a0), some (.int x1), some (.int x2), some (.int x3)] [] h H

def kX9_everybody : List xm_I := [
  i_v 0 (.iconst 1) 1 none 1 [],
  i_0 1 (.aload_n 0) 1 none,
  i_f 2 (.getfield 125) 3 none 9 1 [926] 0,
  i_0 5 (.ishl) 1 none,
  i_v 6 (.iconst 1) 1 none 1 [],
  i_0 7 (.isub) 1 none,
  i_0 8 (.ireturn) 1 none]
set_option maxRecDepth 100000 in
theorem oX9_everybody : xm_ok sX9_everybody sX9_everybody.1.cls kX9_everybody = true := by decide +kernel
set_option maxRecDepth 100000 in
set_option maxHeartbeats 4000000 in
theorem xX9_everybody_0 {K : Nat} {h : xm_H} {P : Option Value → xm_H → Prop} {a0 : Nat} (H :
    ∃ f1, xm_fld h a0 9 1 = some (.int f1) ∧ /- many -/
    P (some (.int (((1 : Int32) <<< (f1 &&& 31)) - (1 : Int32)))) h) :
    xm_L K sX9_everybody kX9_everybody 0 [some (.ref a0)] [] h P :=
  xm_run (fun _ _ h => h) oX9_everybody 8 0 0 0 [some (.ref a0)] [] h H
set_option maxRecDepth 100000 in
theorem eX9_everybody {K K' : Nat} (hK : K < K') {h : xm_H} {P : Option Value → xm_H → Prop} {a0 : Nat} (hr : ∃ fs, h[a0]? = some (.inr (9, fs))) (H :
    ∃ f1, xm_fld h a0 9 1 = some (.int f1) ∧ /- many -/
    P (some (.int (((1 : Int32) <<< (f1 &&& 31)) - (1 : Int32)))) h) :
    xm_Call K' sX9_everybody 9 [.ref a0] h P :=
  xm_call_of (C := kX9_everybody) hK (by decide +kernel) rfl (Nat.le_of_ble_eq_true rfl) (Or.inr ⟨a0, hr.choose, rfl, hr.choose_spec⟩) (xX9_everybody_0 H)

def kX9_bill : List xm_I := [
  i_0 0 (.iload_n 1) 1 none,
  i_v 1 (.iconst 0) 1 none 0 [],
  i_v 2 (.iconst 1) 1 none 1 [],
  i_m 3 (.invokestatic 128) 3 none 3 99 [1106, 1107, 117, 1108] 0 sX9_in,
  i_j 6 (.ifCond .ne 5) 3 none 7,
  i_v 9 (.iconst (-1)) 1 none (-1) [],
  i_0 10 (.ireturn) 1 none,
  i_0 11 (.aload_n 0) 1 none,
  i_m 12 (.invokevirtual 267) 3 none 0 9 [1227, 1229, 53, 117, 1230] 0 sX9_layNow,
  i_0 15 (.aload_n 0) 1 none,
  i_m 16 (.invokevirtual 285) 3 none 0 9 [1270, 1272, 62, 117, 1273] 0 sX9_assess,
  i_0 19 (.iload_n 1) 1 none,
  i_j 20 (.ifCond .ne 10) 3 none 16,
  i_0 23 (.aload_n 0) 1 none,
  i_m 24 (.invokevirtual 276) 3 none 0 9 [1274, 1276, 63, 117, 1277] 0 sX9_theBill,
  i_j 27 (.goto 16) 3 none 23,
  i_0 30 (.aload_n 0) 1 none,
  i_m 31 (.invokevirtual 276) 3 none 0 9 [1274, 1276, 63, 117, 1277] 0 sX9_theBill,
  i_0 34 (.aload_n 0) 1 none,
  i_0 35 (.aload_n 0) 1 none,
  i_m 36 (.invokevirtual 288) 3 none 0 9 [1278, 1280, 64, 117, 1281] 0 sX9_everybody,
  i_m 39 (.invokevirtual 291) 3 none 1 9 [1282, 1284, 65, 117, 1285] 0 sX9_sharesOf,
  i_0 42 (.isub) 1 none,
  i_0 43 (.ireturn) 1 none]
set_option maxRecDepth 100000 in
theorem oX9_bill : xm_ok sX9_bill sX9_bill.1.cls kX9_bill = true := by decide +kernel
set_option maxRecDepth 100000 in
set_option maxHeartbeats 4000000 in
theorem xX9_bill_0 {K : Nat} {h : xm_H} {P : Option Value → xm_H → Prop} {a0 : Nat} {x1 : Int32} (H :
    xm_Call K sX9_in 99 [.int x1, .int (0 : Int32), .int (1 : Int32)] h (xm_pi fun c2 h1 =>
      (if c2 = 0 then
        P (some (.int (-1 : Int32))) h1
      else
        xm_Call K sX9_layNow 9 [.ref a0] h1 (xm_pv fun h3 =>
          xm_Call K sX9_assess 9 [.ref a0] h3 (xm_pv fun h4 =>
            (if x1 = 0 then
              xm_Call K sX9_theBill 9 [.ref a0] h4 (xm_pi fun c6 h5 =>
                P (some (.int c6)) h5)
            else
              xm_Call K sX9_theBill 9 [.ref a0] h4 (xm_pi fun c8 h7 =>
                xm_Call K sX9_everybody 9 [.ref a0] h7 (xm_pi fun c10 h9 =>
                  xm_Call K sX9_sharesOf 9 [.ref a0, .int c10] h9 (xm_pi fun c12 h11 =>
                    P (some (.int (c8 - c12))) h11))))))))) :
    xm_L K sX9_bill kX9_bill 0 [some (.ref a0), some (.int x1)] [] h P :=
  xm_run (fun _ _ h => h) oX9_bill 20 0 0 0 [some (.ref a0), some (.int x1)] [] h H
set_option maxRecDepth 100000 in
theorem eX9_bill {K K' : Nat} (hK : K < K') {h : xm_H} {P : Option Value → xm_H → Prop} {a0 : Nat} {x1 : Int32} (hr : ∃ fs, h[a0]? = some (.inr (9, fs))) (H :
    xm_Call K sX9_in 99 [.int x1, .int (0 : Int32), .int (1 : Int32)] h (xm_pi fun c2 h1 =>
      (if c2 = 0 then
        P (some (.int (-1 : Int32))) h1
      else
        xm_Call K sX9_layNow 9 [.ref a0] h1 (xm_pv fun h3 =>
          xm_Call K sX9_assess 9 [.ref a0] h3 (xm_pv fun h4 =>
            (if x1 = 0 then
              xm_Call K sX9_theBill 9 [.ref a0] h4 (xm_pi fun c6 h5 =>
                P (some (.int c6)) h5)
            else
              xm_Call K sX9_theBill 9 [.ref a0] h4 (xm_pi fun c8 h7 =>
                xm_Call K sX9_everybody 9 [.ref a0] h7 (xm_pi fun c10 h9 =>
                  xm_Call K sX9_sharesOf 9 [.ref a0, .int c10] h9 (xm_pi fun c12 h11 =>
                    P (some (.int (c8 - c12))) h11))))))))) :
    xm_Call K' sX9_bill 9 [.ref a0, .int x1] h P :=
  xm_call_of (C := kX9_bill) hK (by decide +kernel) rfl (Nat.le_of_ble_eq_true rfl) (Or.inr ⟨a0, hr.choose, rfl, hr.choose_spec⟩) (xX9_bill_0 H)

def kX9_shareNow : List xm_I := [
  i_0 0 (.aload_n 0) 1 none,
  i_m 1 (.invokevirtual 285) 3 none 0 9 [1270, 1272, 62, 117, 1273] 0 sX9_assess,
  i_0 4 (.aload_n 0) 1 none,
  i_0 5 (.iload_n 1) 1 none,
  i_m 6 (.invokevirtual 282) 3 none 1 9 [1289, 1291, 66, 117, 1292] 0 sX9_shareOf,
  i_0 9 (.ireturn) 1 none]
set_option maxRecDepth 100000 in
theorem oX9_shareNow : xm_ok sX9_shareNow sX9_shareNow.1.cls kX9_shareNow = true := by decide +kernel
set_option maxRecDepth 100000 in
set_option maxHeartbeats 4000000 in
theorem xX9_shareNow_0 {K : Nat} {h : xm_H} {P : Option Value → xm_H → Prop} {a0 : Nat} {x1 : Int32} (H :
    xm_Call K sX9_assess 9 [.ref a0] h (xm_pv fun h1 =>
      xm_Call K sX9_shareOf 9 [.ref a0, .int x1] h1 (xm_pi fun c3 h2 =>
        P (some (.int c3)) h2))) :
    xm_L K sX9_shareNow kX9_shareNow 0 [some (.ref a0), some (.int x1)] [] h P :=
  xm_run (fun _ _ h => h) oX9_shareNow 7 0 0 0 [some (.ref a0), some (.int x1)] [] h H
set_option maxRecDepth 100000 in
theorem eX9_shareNow {K K' : Nat} (hK : K < K') {h : xm_H} {P : Option Value → xm_H → Prop} {a0 : Nat} {x1 : Int32} (hr : ∃ fs, h[a0]? = some (.inr (9, fs))) (H :
    xm_Call K sX9_assess 9 [.ref a0] h (xm_pv fun h1 =>
      xm_Call K sX9_shareOf 9 [.ref a0, .int x1] h1 (xm_pi fun c3 h2 =>
        P (some (.int c3)) h2))) :
    xm_Call K' sX9_shareNow 9 [.ref a0, .int x1] h P :=
  xm_call_of (C := kX9_shareNow) hK (by decide +kernel) rfl (Nat.le_of_ble_eq_true rfl) (Or.inr ⟨a0, hr.choose, rfl, hr.choose_spec⟩) (xX9_shareNow_0 H)

def kX9_share : List xm_I := [
  i_0 0 (.aload_n 0) 1 none,
  i_0 1 (.iload_n 1) 1 none,
  i_m 2 (.invokevirtual 156) 3 none 1 9 [1141, 1143, 37, 117, 1144] 0 sX9_isOne,
  i_j 5 (.ifCond .ne 5) 3 none 6,
  i_v 8 (.iconst (-1)) 1 none (-1) [],
  i_0 9 (.ireturn) 1 none,
  i_0 10 (.aload_n 0) 1 none,
  i_m 11 (.invokevirtual 267) 3 none 0 9 [1227, 1229, 53, 117, 1230] 0 sX9_layNow,
  i_0 14 (.aload_n 0) 1 none,
  i_0 15 (.iload_n 1) 1 none,
  i_m 16 (.invokevirtual 294) 3 none 1 9 [1297, 1299, 67, 117, 1300] 0 sX9_shareNow,
  i_0 19 (.ireturn) 1 none]
set_option maxRecDepth 100000 in
theorem oX9_share : xm_ok sX9_share sX9_share.1.cls kX9_share = true := by decide +kernel
set_option maxRecDepth 100000 in
set_option maxHeartbeats 4000000 in
theorem xX9_share_0 {K : Nat} {h : xm_H} {P : Option Value → xm_H → Prop} {a0 : Nat} {x1 : Int32} (H :
    xm_Call K sX9_isOne 9 [.ref a0, .int x1] h (xm_pi fun c2 h1 =>
      (if c2 = 0 then
        P (some (.int (-1 : Int32))) h1
      else
        xm_Call K sX9_layNow 9 [.ref a0] h1 (xm_pv fun h3 =>
          xm_Call K sX9_shareNow 9 [.ref a0, .int x1] h3 (xm_pi fun c5 h4 =>
            P (some (.int c5)) h4))))) :
    xm_L K sX9_share kX9_share 0 [some (.ref a0), some (.int x1)] [] h P :=
  xm_run (fun _ _ h => h) oX9_share 11 0 0 0 [some (.ref a0), some (.int x1)] [] h H
set_option maxRecDepth 100000 in
theorem eX9_share {K K' : Nat} (hK : K < K') {h : xm_H} {P : Option Value → xm_H → Prop} {a0 : Nat} {x1 : Int32} (hr : ∃ fs, h[a0]? = some (.inr (9, fs))) (H :
    xm_Call K sX9_isOne 9 [.ref a0, .int x1] h (xm_pi fun c2 h1 =>
      (if c2 = 0 then
        P (some (.int (-1 : Int32))) h1
      else
        xm_Call K sX9_layNow 9 [.ref a0] h1 (xm_pv fun h3 =>
          xm_Call K sX9_shareNow 9 [.ref a0, .int x1] h3 (xm_pi fun c5 h4 =>
            P (some (.int c5)) h4))))) :
    xm_Call K' sX9_share 9 [.ref a0, .int x1] h P :=
  xm_call_of (C := kX9_share) hK (by decide +kernel) rfl (Nat.le_of_ble_eq_true rfl) (Or.inr ⟨a0, hr.choose, rfl, hr.choose_spec⟩) (xX9_share_0 H)

def kX9_worthBy : List xm_I := [
  i_0 0 (.aload_n 0) 1 none,
  i_0 1 (.iload_n 1) 1 none,
  i_m 2 (.invokevirtual 294) 3 none 1 9 [1297, 1299, 67, 117, 1300] 0 sX9_shareNow,
  i_0 5 (.ineg) 1 none,
  i_0 6 (.istore_n 2) 1 none,
  i_0 7 (.aload_n 0) 1 none,
  i_0 8 (.iload_n 1) 1 none,
  i_m 9 (.invokevirtual 255) 3 none 1 9 [1251, 1253, 59, 117, 1254] 0 sX9_leaves,
  i_j 12 (.ifCond .eq 22) 3 none 23,
  i_0 15 (.iload_n 2) 1 none,
  i_v 16 (.bipush 10) 2 none 10 [],
  i_0 18 (.aload_n 0) 1 none,
  i_f 19 (.getfield 7) 3 none 9 2 [927] 1,
  i_0 22 (.iload_n 1) 1 none,
  i_0 23 (.iaload) 1 none,
  i_0 24 (.imul) 1 none,
  i_0 25 (.aload_n 0) 1 none,
  i_f 26 (.getfield 243) 3 none 9 36 [961] 0,
  i_v 29 (.iconst 2) 1 none 2 [],
  i_0 30 (.idiv) 1 none,
  i_0 31 (.isub) 1 none,
  i_0 32 (.iadd) 1 none,
  i_0 33 (.istore_n 2) 1 none,
  i_0 34 (.aload_n 0) 1 none,
  i_0 35 (.iload_n 1) 1 none,
  i_m 36 (.invokevirtual 252) 3 none 1 9 [1243, 1245, 57, 117, 1246] 0 sX9_says,
  i_j 39 (.ifCond .eq 12) 3 none 34,
  i_0 42 (.iload_n 2) 1 none,
  i_0 43 (.aload_n 0) 1 none,
  i_f 44 (.getfield 34) 3 none 9 10 [935] 1,
  i_v 47 (.iconst 2) 1 none 2 [],
  i_0 48 (.iaload) 1 none,
  i_0 49 (.iadd) 1 none,
  i_0 50 (.istore_n 2) 1 none,
  i_0 51 (.iload_n 2) 1 none,
  i_0 52 (.ireturn) 1 none]
set_option maxRecDepth 100000 in
theorem oX9_worthBy : xm_ok sX9_worthBy sX9_worthBy.1.cls kX9_worthBy = true := by decide +kernel
set_option maxRecDepth 100000 in
set_option maxHeartbeats 4000000 in
theorem xX9_worthBy_0 {K : Nat} {h : xm_H} {P : Option Value → xm_H → Prop} {a0 : Nat} {x1 : Int32} (H :
    xm_Call K sX9_shareNow 9 [.ref a0, .int x1] h (xm_pi fun c2 h1 =>
      xm_Call K sX9_leaves 9 [.ref a0, .int x1] h1 (xm_pi fun c4 h3 =>
        (if c4 = 0 then
          xm_Call K sX9_says 9 [.ref a0, .int x1] h3 (xm_pi fun c6 h5 =>
            (if c6 = 0 then
              P (some (.int (-c2))) h5
            else
              ∃ q7, xm_fld h5 a0 9 10 = some (.ref q7) ∧ /- pass -/
              ∃ e8, xm_ld xm_st h5 0 q7 (2 : Int32) = some e8 ∧
              P (some (.int ((-c2) + e8))) h5))
        else
          ∃ q9, xm_fld h3 a0 9 2 = some (.ref q9) ∧ /- wishOf -/
          ∃ e10, xm_ld xm_st h3 0 q9 x1 = some e10 ∧
          ∃ f11, xm_fld h3 a0 9 36 = some (.int f11) ∧ /- snow1 -/
          ¬ (2 : Int32) = 0 ∧
          xm_Call K sX9_says 9 [.ref a0, .int x1] h3 (xm_pi fun c13 h12 =>
            (if c13 = 0 then
              P (some (.int ((-c2) + (((10 : Int32) * e10) - (f11 / (2 : Int32)))))) h12
            else
              ∃ q14, xm_fld h12 a0 9 10 = some (.ref q14) ∧ /- pass -/
              ∃ e15, xm_ld xm_st h12 0 q14 (2 : Int32) = some e15 ∧
              P (some (.int (((-c2) + (((10 : Int32) * e10) - (f11 / (2 : Int32)))) + e15))) h12)))))) :
    xm_L K sX9_worthBy kX9_worthBy 0 [some (.ref a0), some (.int x1), none] [] h P :=
  xm_run (fun _ _ h => h) oX9_worthBy 37 0 0 0 [some (.ref a0), some (.int x1), none] [] h H
set_option maxRecDepth 100000 in
theorem eX9_worthBy {K K' : Nat} (hK : K < K') {h : xm_H} {P : Option Value → xm_H → Prop} {a0 : Nat} {x1 : Int32} (hr : ∃ fs, h[a0]? = some (.inr (9, fs))) (H :
    xm_Call K sX9_shareNow 9 [.ref a0, .int x1] h (xm_pi fun c2 h1 =>
      xm_Call K sX9_leaves 9 [.ref a0, .int x1] h1 (xm_pi fun c4 h3 =>
        (if c4 = 0 then
          xm_Call K sX9_says 9 [.ref a0, .int x1] h3 (xm_pi fun c6 h5 =>
            (if c6 = 0 then
              P (some (.int (-c2))) h5
            else
              ∃ q7, xm_fld h5 a0 9 10 = some (.ref q7) ∧ /- pass -/
              ∃ e8, xm_ld xm_st h5 0 q7 (2 : Int32) = some e8 ∧
              P (some (.int ((-c2) + e8))) h5))
        else
          ∃ q9, xm_fld h3 a0 9 2 = some (.ref q9) ∧ /- wishOf -/
          ∃ e10, xm_ld xm_st h3 0 q9 x1 = some e10 ∧
          ∃ f11, xm_fld h3 a0 9 36 = some (.int f11) ∧ /- snow1 -/
          ¬ (2 : Int32) = 0 ∧
          xm_Call K sX9_says 9 [.ref a0, .int x1] h3 (xm_pi fun c13 h12 =>
            (if c13 = 0 then
              P (some (.int ((-c2) + (((10 : Int32) * e10) - (f11 / (2 : Int32)))))) h12
            else
              ∃ q14, xm_fld h12 a0 9 10 = some (.ref q14) ∧ /- pass -/
              ∃ e15, xm_ld xm_st h12 0 q14 (2 : Int32) = some e15 ∧
              P (some (.int (((-c2) + (((10 : Int32) * e10) - (f11 / (2 : Int32)))) + e15))) h12)))))) :
    xm_Call K' sX9_worthBy 9 [.ref a0, .int x1] h P :=
  xm_call_of (C := kX9_worthBy) hK (by decide +kernel) rfl (Nat.le_of_ble_eq_true rfl) (Or.inr ⟨a0, hr.choose, rfl, hr.choose_spec⟩) (xX9_worthBy_0 H)

def kX9_worth : List xm_I := [
  i_0 0 (.aload_n 0) 1 none,
  i_0 1 (.iload_n 1) 1 none,
  i_m 2 (.invokevirtual 156) 3 none 1 9 [1141, 1143, 37, 117, 1144] 0 sX9_isOne,
  i_j 5 (.ifCond .ne 7) 3 none 6,
  i_v 8 (.ldc_w 297) 3 none (-2000000000) [1305],
  i_0 11 (.ireturn) 1 none,
  i_0 12 (.aload_n 0) 1 none,
  i_m 13 (.invokevirtual 267) 3 none 0 9 [1227, 1229, 53, 117, 1230] 0 sX9_layNow,
  i_0 16 (.aload_n 0) 1 none,
  i_0 17 (.iload_n 1) 1 none,
  i_m 18 (.invokevirtual 298) 3 none 1 9 [1306, 1308, 68, 117, 1309] 0 sX9_worthBy,
  i_0 21 (.ireturn) 1 none]
set_option maxRecDepth 100000 in
theorem oX9_worth : xm_ok sX9_worth sX9_worth.1.cls kX9_worth = true := by decide +kernel
set_option maxRecDepth 100000 in
set_option maxHeartbeats 4000000 in
theorem xX9_worth_0 {K : Nat} {h : xm_H} {P : Option Value → xm_H → Prop} {a0 : Nat} {x1 : Int32} (H :
    xm_Call K sX9_isOne 9 [.ref a0, .int x1] h (xm_pi fun c2 h1 =>
      (if c2 = 0 then
        P (some (.int (-2000000000 : Int32))) h1
      else
        xm_Call K sX9_layNow 9 [.ref a0] h1 (xm_pv fun h3 =>
          xm_Call K sX9_worthBy 9 [.ref a0, .int x1] h3 (xm_pi fun c5 h4 =>
            P (some (.int c5)) h4))))) :
    xm_L K sX9_worth kX9_worth 0 [some (.ref a0), some (.int x1)] [] h P :=
  xm_run (fun _ _ h => h) oX9_worth 11 0 0 0 [some (.ref a0), some (.int x1)] [] h H
set_option maxRecDepth 100000 in
theorem eX9_worth {K K' : Nat} (hK : K < K') {h : xm_H} {P : Option Value → xm_H → Prop} {a0 : Nat} {x1 : Int32} (hr : ∃ fs, h[a0]? = some (.inr (9, fs))) (H :
    xm_Call K sX9_isOne 9 [.ref a0, .int x1] h (xm_pi fun c2 h1 =>
      (if c2 = 0 then
        P (some (.int (-2000000000 : Int32))) h1
      else
        xm_Call K sX9_layNow 9 [.ref a0] h1 (xm_pv fun h3 =>
          xm_Call K sX9_worthBy 9 [.ref a0, .int x1] h3 (xm_pi fun c5 h4 =>
            P (some (.int c5)) h4))))) :
    xm_Call K' sX9_worth 9 [.ref a0, .int x1] h P :=
  xm_call_of (C := kX9_worth) hK (by decide +kernel) rfl (Nat.le_of_ble_eq_true rfl) (Or.inr ⟨a0, hr.choose, rfl, hr.choose_spec⟩) (xX9_worth_0 H)

def kX9_worthWith : List xm_I := [
  i_0 0 (.aload_n 0) 1 none,
  i_f 1 (.getfield 75) 3 none 9 31 [956] 1,
  i_0 4 (.iload_n 1) 1 none,
  i_0 5 (.iaload) 1 none,
  i_0 6 (.istore_n 3) 1 none,
  i_0 7 (.aload_n 0) 1 none,
  i_f 8 (.getfield 75) 3 none 9 31 [956] 1,
  i_0 11 (.iload_n 1) 1 none,
  i_0 12 (.iload_n 2) 1 none,
  i_0 13 (.iastore) 1 none,
  i_0 14 (.aload_n 0) 1 none,
  i_0 15 (.iload_n 1) 1 none,
  i_m 16 (.invokevirtual 298) 3 none 1 9 [1306, 1308, 68, 117, 1309] 0 sX9_worthBy,
  i_0 19 (.istore 4) 2 none,
  i_0 21 (.aload_n 0) 1 none,
  i_f 22 (.getfield 75) 3 none 9 31 [956] 1,
  i_0 25 (.iload_n 1) 1 none,
  i_0 26 (.iload_n 3) 1 none,
  i_0 27 (.iastore) 1 none,
  i_0 28 (.iload 4) 2 none,
  i_0 30 (.ireturn) 1 none]
set_option maxRecDepth 100000 in
theorem oX9_worthWith : xm_ok sX9_worthWith sX9_worthWith.1.cls kX9_worthWith = true := by decide +kernel
set_option maxRecDepth 100000 in
set_option maxHeartbeats 4000000 in
theorem xX9_worthWith_0 {K : Nat} {h : xm_H} {P : Option Value → xm_H → Prop} {a0 : Nat} {x1 : Int32} {x2 : Int32} (H :
    ∃ q1, xm_fld h a0 9 31 = some (.ref q1) ∧ /- habit1 -/
    ∃ e2, xm_ld xm_st h 0 q1 x1 = some e2 ∧
    ∃ q3, xm_fld h a0 9 31 = some (.ref q3) ∧ /- habit1 -/
    ∃ h4, xm_sto h 0 q3 x1 x2 = some h4 ∧
    xm_Call K sX9_worthBy 9 [.ref a0, .int x1] h4 (xm_pi fun c6 h5 =>
      ∃ q7, xm_fld h5 a0 9 31 = some (.ref q7) ∧ /- habit1 -/
      ∃ h8, xm_sto h5 0 q7 x1 e2 = some h8 ∧
      P (some (.int c6)) h8)) :
    xm_L K sX9_worthWith kX9_worthWith 0 [some (.ref a0), some (.int x1), some (.int x2), none, none] [] h P :=
  xm_run (fun _ _ h => h) oX9_worthWith 22 0 0 0 [some (.ref a0), some (.int x1), some (.int x2), none, none] [] h H
set_option maxRecDepth 100000 in
theorem eX9_worthWith {K K' : Nat} (hK : K < K') {h : xm_H} {P : Option Value → xm_H → Prop} {a0 : Nat} {x1 : Int32} {x2 : Int32} (hr : ∃ fs, h[a0]? = some (.inr (9, fs))) (H :
    ∃ q1, xm_fld h a0 9 31 = some (.ref q1) ∧ /- habit1 -/
    ∃ e2, xm_ld xm_st h 0 q1 x1 = some e2 ∧
    ∃ q3, xm_fld h a0 9 31 = some (.ref q3) ∧ /- habit1 -/
    ∃ h4, xm_sto h 0 q3 x1 x2 = some h4 ∧
    xm_Call K sX9_worthBy 9 [.ref a0, .int x1] h4 (xm_pi fun c6 h5 =>
      ∃ q7, xm_fld h5 a0 9 31 = some (.ref q7) ∧ /- habit1 -/
      ∃ h8, xm_sto h5 0 q7 x1 e2 = some h8 ∧
      P (some (.int c6)) h8)) :
    xm_Call K' sX9_worthWith 9 [.ref a0, .int x1, .int x2] h P :=
  xm_call_of (C := kX9_worthWith) hK (by decide +kernel) rfl (Nat.le_of_ble_eq_true rfl) (Or.inr ⟨a0, hr.choose, rfl, hr.choose_spec⟩) (xX9_worthWith_0 H)

def kX9_bestHabit : List xm_I := [
  i_v 0 (.iconst 0) 1 none 0 [],
  i_0 1 (.istore_n 2) 1 none,
  i_v 2 (.iconst 1) 1 none 1 [],
  i_0 3 (.istore_n 3) 1 none,
  i_0 4 (.iload_n 3) 1 (some [true, true, true, true]),
  i_v 5 (.iconst 4) 1 none 4 [],
  i_j 6 (.if_icmp .ge 26) 3 none 20,
  i_0 9 (.aload_n 0) 1 none,
  i_0 10 (.iload_n 1) 1 none,
  i_0 11 (.iload_n 3) 1 none,
  i_m 12 (.invokevirtual 301) 3 none 2 9 [1318, 1320, 70, 117, 1321] 0 sX9_worthWith,
  i_0 15 (.aload_n 0) 1 none,
  i_0 16 (.iload_n 1) 1 none,
  i_0 17 (.iload_n 2) 1 none,
  i_m 18 (.invokevirtual 301) 3 none 2 9 [1318, 1320, 70, 117, 1321] 0 sX9_worthWith,
  i_j 21 (.if_icmp .le 5) 3 none 18,
  i_0 24 (.iload_n 3) 1 none,
  i_0 25 (.istore_n 2) 1 none,
  i_v 26 (.iinc 3 1) 3 none 1 [],
  i_j 29 (.goto (-25)) 3 none 4,
  i_0 32 (.iload_n 2) 1 none,
  i_0 33 (.ireturn) 1 none]
set_option maxRecDepth 100000 in
theorem oX9_bestHabit : xm_ok sX9_bestHabit sX9_bestHabit.1.cls kX9_bestHabit = true := by decide +kernel
set_option maxRecDepth 100000 in
set_option maxHeartbeats 4000000 in
theorem xX9_bestHabit_0 {K : Nat} {h : xm_H} {P : Option Value → xm_H → Prop} {a0 : Nat} {x1 : Int32} (H :
    xm_L K sX9_bestHabit kX9_bestHabit 4 [some (.ref a0), some (.int x1), some (.int (0 : Int32)), some (.int (1 : Int32))] [] h P) :
    xm_L K sX9_bestHabit kX9_bestHabit 0 [some (.ref a0), some (.int x1), none, none] [] h P :=
  xm_run (fun _ _ h => h) oX9_bestHabit 5 0 0 0 [some (.ref a0), some (.int x1), none, none] [] h H
set_option maxRecDepth 100000 in
theorem eX9_bestHabit {K K' : Nat} (hK : K < K') {h : xm_H} {P : Option Value → xm_H → Prop} {a0 : Nat} {x1 : Int32} (hr : ∃ fs, h[a0]? = some (.inr (9, fs))) (H :
    xm_L K sX9_bestHabit kX9_bestHabit 4 [some (.ref a0), some (.int x1), some (.int (0 : Int32)), some (.int (1 : Int32))] [] h P) :
    xm_Call K' sX9_bestHabit 9 [.ref a0, .int x1] h P :=
  xm_call_of (C := kX9_bestHabit) hK (by decide +kernel) rfl (Nat.le_of_ble_eq_true rfl) (Or.inr ⟨a0, hr.choose, rfl, hr.choose_spec⟩) (xX9_bestHabit_0 H)

set_option maxRecDepth 100000 in
set_option maxHeartbeats 4000000 in
theorem xX9_bestHabit_4 {K : Nat} {h : xm_H} {P : Option Value → xm_H → Prop} {a0 : Nat} {x1 : Int32} {x2 : Int32} {x3 : Int32} (H :
    (if x3 < (4 : Int32) then
      xm_Call K sX9_worthWith 9 [.ref a0, .int x1, .int x3] h (xm_pi fun c2 h1 =>
        xm_Call K sX9_worthWith 9 [.ref a0, .int x1, .int x2] h1 (xm_pi fun c4 h3 =>
          (if c4 < c2 then
            xm_L K sX9_bestHabit kX9_bestHabit 4 [some (.ref a0), some (.int x1), some (.int x3), some (.int (x3 + (1 : Int32)))] [] h3 P
          else
            xm_L K sX9_bestHabit kX9_bestHabit 4 [some (.ref a0), some (.int x1), some (.int x2), some (.int (x3 + (1 : Int32)))] [] h3 P)))
    else
      P (some (.int x2)) h)) :
    xm_L K sX9_bestHabit kX9_bestHabit 4 [some (.ref a0), some (.int x1), some (.int x2), some (.int x3)] [] h P :=
  xm_run (fun _ _ h => h) oX9_bestHabit 17 4 0 0 [some (.ref a0), some (.int x1), some (.int x2), some (.int x3)] [] h H

def kX9_best : List xm_I := [
  i_0 0 (.aload_n 0) 1 none,
  i_0 1 (.iload_n 1) 1 none,
  i_m 2 (.invokevirtual 156) 3 none 1 9 [1141, 1143, 37, 117, 1144] 0 sX9_isOne,
  i_j 5 (.ifCond .eq 12) 3 none 9,
  i_0 8 (.iload_n 2) 1 none,
  i_v 9 (.iconst 0) 1 none 0 [],
  i_v 10 (.iconst 1) 1 none 1 [],
  i_m 11 (.invokestatic 128) 3 none 3 99 [1106, 1107, 117, 1108] 0 sX9_in,
  i_j 14 (.ifCond .ne 7) 3 none 11,
  i_v 17 (.ldc_w 297) 3 none (-2000000000) [1305],
  i_0 20 (.ireturn) 1 none,
  i_0 21 (.aload_n 0) 1 none,
  i_m 22 (.invokevirtual 267) 3 none 0 9 [1227, 1229, 53, 117, 1230] 0 sX9_layNow,
  i_0 25 (.aload_n 0) 1 none,
  i_0 26 (.iload_n 1) 1 none,
  i_m 27 (.invokevirtual 304) 3 none 1 9 [1314, 1316, 69, 117, 1317] 0 sX9_bestHabit,
  i_0 30 (.istore_n 3) 1 none,
  i_0 31 (.iload_n 2) 1 none,
  i_j 32 (.ifCond .ne 7) 3 none 21,
  i_0 35 (.iload_n 3) 1 none,
  i_j 36 (.goto 9) 3 none 25,
  i_0 39 (.aload_n 0) 1 none,
  i_0 40 (.iload_n 1) 1 none,
  i_0 41 (.iload_n 3) 1 none,
  i_m 42 (.invokevirtual 301) 3 none 2 9 [1318, 1320, 70, 117, 1321] 0 sX9_worthWith,
  i_0 45 (.ireturn) 1 none]
set_option maxRecDepth 100000 in
theorem oX9_best : xm_ok sX9_best sX9_best.1.cls kX9_best = true := by decide +kernel
set_option maxRecDepth 100000 in
set_option maxHeartbeats 4000000 in
theorem xX9_best_0 {K : Nat} {h : xm_H} {P : Option Value → xm_H → Prop} {a0 : Nat} {x1 : Int32} {x2 : Int32} (H :
    xm_Call K sX9_isOne 9 [.ref a0, .int x1] h (xm_pi fun c2 h1 =>
      (if c2 = 0 then
        P (some (.int (-2000000000 : Int32))) h1
      else
        xm_Call K sX9_in 99 [.int x2, .int (0 : Int32), .int (1 : Int32)] h1 (xm_pi fun c4 h3 =>
          (if c4 = 0 then
            P (some (.int (-2000000000 : Int32))) h3
          else
            xm_Call K sX9_layNow 9 [.ref a0] h3 (xm_pv fun h5 =>
              xm_Call K sX9_bestHabit 9 [.ref a0, .int x1] h5 (xm_pi fun c7 h6 =>
                (if x2 = 0 then
                  P (some (.int c7)) h6
                else
                  xm_Call K sX9_worthWith 9 [.ref a0, .int x1, .int c7] h6 (xm_pi fun c9 h8 =>
                    P (some (.int c9)) h8))))))))) :
    xm_L K sX9_best kX9_best 0 [some (.ref a0), some (.int x1), some (.int x2), none] [] h P :=
  xm_run (fun _ _ h => h) oX9_best 23 0 0 0 [some (.ref a0), some (.int x1), some (.int x2), none] [] h H
set_option maxRecDepth 100000 in
theorem eX9_best {K K' : Nat} (hK : K < K') {h : xm_H} {P : Option Value → xm_H → Prop} {a0 : Nat} {x1 : Int32} {x2 : Int32} (hr : ∃ fs, h[a0]? = some (.inr (9, fs))) (H :
    xm_Call K sX9_isOne 9 [.ref a0, .int x1] h (xm_pi fun c2 h1 =>
      (if c2 = 0 then
        P (some (.int (-2000000000 : Int32))) h1
      else
        xm_Call K sX9_in 99 [.int x2, .int (0 : Int32), .int (1 : Int32)] h1 (xm_pi fun c4 h3 =>
          (if c4 = 0 then
            P (some (.int (-2000000000 : Int32))) h3
          else
            xm_Call K sX9_layNow 9 [.ref a0] h3 (xm_pv fun h5 =>
              xm_Call K sX9_bestHabit 9 [.ref a0, .int x1] h5 (xm_pi fun c7 h6 =>
                (if x2 = 0 then
                  P (some (.int c7)) h6
                else
                  xm_Call K sX9_worthWith 9 [.ref a0, .int x1, .int c7] h6 (xm_pi fun c9 h8 =>
                    P (some (.int c9)) h8))))))))) :
    xm_Call K' sX9_best 9 [.ref a0, .int x1, .int x2] h P :=
  xm_call_of (C := kX9_best) hK (by decide +kernel) rfl (Nat.le_of_ble_eq_true rfl) (Or.inr ⟨a0, hr.choose, rfl, hr.choose_spec⟩) (xX9_best_0 H)

def kX9_areAtRest : List xm_I := [
  i_v 0 (.iconst 0) 1 none 0 [],
  i_0 1 (.istore_n 1) 1 none,
  i_0 2 (.iload_n 1) 1 (some [true, true]),
  i_0 3 (.aload_n 0) 1 none,
  i_f 4 (.getfield 125) 3 none 9 1 [926] 0,
  i_j 7 (.if_icmp .ge 29) 3 none 20,
  i_0 10 (.aload_n 0) 1 none,
  i_0 11 (.iload_n 1) 1 none,
  i_0 12 (.aload_n 0) 1 none,
  i_0 13 (.iload_n 1) 1 none,
  i_m 14 (.invokevirtual 304) 3 none 1 9 [1314, 1316, 69, 117, 1317] 0 sX9_bestHabit,
  i_m 17 (.invokevirtual 301) 3 none 2 9 [1318, 1320, 70, 117, 1321] 0 sX9_worthWith,
  i_0 20 (.aload_n 0) 1 none,
  i_0 21 (.iload_n 1) 1 none,
  i_m 22 (.invokevirtual 298) 3 none 1 9 [1306, 1308, 68, 117, 1309] 0 sX9_worthBy,
  i_j 25 (.if_icmp .le 5) 3 none 18,
  i_v 28 (.iconst 0) 1 none 0 [],
  i_0 29 (.ireturn) 1 none,
  i_v 30 (.iinc 1 1) 3 none 1 [],
  i_j 33 (.goto (-31)) 3 none 2,
  i_v 36 (.iconst 1) 1 none 1 [],
  i_0 37 (.ireturn) 1 none]
set_option maxRecDepth 100000 in
theorem oX9_areAtRest : xm_ok sX9_areAtRest sX9_areAtRest.1.cls kX9_areAtRest = true := by decide +kernel
set_option maxRecDepth 100000 in
set_option maxHeartbeats 4000000 in
theorem xX9_areAtRest_0 {K : Nat} {h : xm_H} {P : Option Value → xm_H → Prop} {a0 : Nat} (H :
    xm_L K sX9_areAtRest kX9_areAtRest 2 [some (.ref a0), some (.int (0 : Int32))] [] h P) :
    xm_L K sX9_areAtRest kX9_areAtRest 0 [some (.ref a0), none] [] h P :=
  xm_run (fun _ _ h => h) oX9_areAtRest 3 0 0 0 [some (.ref a0), none] [] h H
set_option maxRecDepth 100000 in
theorem eX9_areAtRest {K K' : Nat} (hK : K < K') {h : xm_H} {P : Option Value → xm_H → Prop} {a0 : Nat} (hr : ∃ fs, h[a0]? = some (.inr (9, fs))) (H :
    xm_L K sX9_areAtRest kX9_areAtRest 2 [some (.ref a0), some (.int (0 : Int32))] [] h P) :
    xm_Call K' sX9_areAtRest 9 [.ref a0] h P :=
  xm_call_of (C := kX9_areAtRest) hK (by decide +kernel) rfl (Nat.le_of_ble_eq_true rfl) (Or.inr ⟨a0, hr.choose, rfl, hr.choose_spec⟩) (xX9_areAtRest_0 H)

set_option maxRecDepth 100000 in
set_option maxHeartbeats 4000000 in
theorem xX9_areAtRest_2 {K : Nat} {h : xm_H} {P : Option Value → xm_H → Prop} {a0 : Nat} {x1 : Int32} (H :
    ∃ f1, xm_fld h a0 9 1 = some (.int f1) ∧ /- many -/
    (if x1 < f1 then
      xm_Call K sX9_bestHabit 9 [.ref a0, .int x1] h (xm_pi fun c3 h2 =>
        xm_Call K sX9_worthWith 9 [.ref a0, .int x1, .int c3] h2 (xm_pi fun c5 h4 =>
          xm_Call K sX9_worthBy 9 [.ref a0, .int x1] h4 (xm_pi fun c7 h6 =>
            (if c7 < c5 then
              P (some (.int (0 : Int32))) h6
            else
              xm_L K sX9_areAtRest kX9_areAtRest 2 [some (.ref a0), some (.int (x1 + (1 : Int32)))] [] h6 P))))
    else
      P (some (.int (1 : Int32))) h)) :
    xm_L K sX9_areAtRest kX9_areAtRest 2 [some (.ref a0), some (.int x1)] [] h P :=
  xm_run (fun _ _ h => h) oX9_areAtRest 17 2 0 0 [some (.ref a0), some (.int x1)] [] h H

def kX9_atRest : List xm_I := [
  i_0 0 (.aload_n 0) 1 none,
  i_m 1 (.invokevirtual 267) 3 none 0 9 [1227, 1229, 53, 117, 1230] 0 sX9_layNow,
  i_0 4 (.aload_n 0) 1 none,
  i_m 5 (.invokevirtual 307) 3 none 0 9 [1326, 1328, 71, 117, 1329] 0 sX9_areAtRest,
  i_j 8 (.ifCond .eq 7) 3 none 7,
  i_v 11 (.iconst 1) 1 none 1 [],
  i_j 12 (.goto 4) 3 none 8,
  i_v 15 (.iconst 0) 1 none 0 [],
  i_0 16 (.ireturn) 1 none]
set_option maxRecDepth 100000 in
theorem oX9_atRest : xm_ok sX9_atRest sX9_atRest.1.cls kX9_atRest = true := by decide +kernel
set_option maxRecDepth 100000 in
set_option maxHeartbeats 4000000 in
theorem xX9_atRest_0 {K : Nat} {h : xm_H} {P : Option Value → xm_H → Prop} {a0 : Nat} (H :
    xm_Call K sX9_layNow 9 [.ref a0] h (xm_pv fun h1 =>
      xm_Call K sX9_areAtRest 9 [.ref a0] h1 (xm_pi fun c3 h2 =>
        (if c3 = 0 then
          P (some (.int (0 : Int32))) h2
        else
          P (some (.int (1 : Int32))) h2)))) :
    xm_L K sX9_atRest kX9_atRest 0 [some (.ref a0)] [] h P :=
  xm_run (fun _ _ h => h) oX9_atRest 9 0 0 0 [some (.ref a0)] [] h H
set_option maxRecDepth 100000 in
theorem eX9_atRest {K K' : Nat} (hK : K < K') {h : xm_H} {P : Option Value → xm_H → Prop} {a0 : Nat} (hr : ∃ fs, h[a0]? = some (.inr (9, fs))) (H :
    xm_Call K sX9_layNow 9 [.ref a0] h (xm_pv fun h1 =>
      xm_Call K sX9_areAtRest 9 [.ref a0] h1 (xm_pi fun c3 h2 =>
        (if c3 = 0 then
          P (some (.int (0 : Int32))) h2
        else
          P (some (.int (1 : Int32))) h2)))) :
    xm_Call K' sX9_atRest 9 [.ref a0] h P :=
  xm_call_of (C := kX9_atRest) hK (by decide +kernel) rfl (Nat.le_of_ble_eq_true rfl) (Or.inr ⟨a0, hr.choose, rfl, hr.choose_spec⟩) (xX9_atRest_0 H)

def kX9_goRest : List xm_I := [
  i_0 0 (.iload_n 1) 1 none,
  i_0 1 (.aload_n 0) 1 none,
  i_f 2 (.getfield 125) 3 none 9 1 [926] 0,
  i_j 5 (.if_icmp .ge 31) 3 none 22,
  i_v 8 (.iconst 0) 1 none 0 [],
  i_0 9 (.istore_n 2) 1 none,
  i_0 10 (.iload_n 2) 1 (some [true, true, true]),
  i_v 11 (.iconst 4) 1 none 4 [],
  i_j 12 (.if_icmp .ge 23) 3 none 21,
  i_0 15 (.aload_n 0) 1 none,
  i_f 16 (.getfield 75) 3 none 9 31 [956] 1,
  i_0 19 (.iload_n 1) 1 none,
  i_0 20 (.iload_n 2) 1 none,
  i_0 21 (.iastore) 1 none,
  i_0 22 (.aload_n 0) 1 none,
  i_0 23 (.iload_n 1) 1 none,
  i_v 24 (.iconst 1) 1 none 1 [],
  i_0 25 (.iadd) 1 none,
  i_m 26 (.invokevirtual 310) 3 none 1 9 [1334, 1336, 72, 117, 1337] 0 sX9_goRest,
  i_v 29 (.iinc 2 1) 3 none 1 [],
  i_j 32 (.goto (-22)) 3 none 6,
  i_0 35 (.return_) 1 none,
  i_0 36 (.aload_n 0) 1 none,
  i_m 37 (.invokevirtual 307) 3 none 0 9 [1326, 1328, 71, 117, 1329] 0 sX9_areAtRest,
  i_j 40 (.ifCond .ne 4) 3 none 26,
  i_0 43 (.return_) 1 none,
  i_0 44 (.aload_n 0) 1 none,
  i_f 45 (.getfield 314) 3 none 9 41 [966] 0,
  i_j 48 (.ifCond .ne 31) 3 none 45,
  i_v 51 (.iconst 0) 1 none 0 [],
  i_0 52 (.istore_n 2) 1 none,
  i_0 53 (.iload_n 2) 1 (some [true, false, true]),
  i_0 54 (.aload_n 0) 1 none,
  i_f 55 (.getfield 125) 3 none 9 1 [926] 0,
  i_j 58 (.if_icmp .ge 21) 3 none 45,
  i_0 61 (.aload_n 0) 1 none,
  i_f 62 (.getfield 90) 3 none 9 40 [965] 1,
  i_0 65 (.iload_n 2) 1 none,
  i_0 66 (.aload_n 0) 1 none,
  i_f 67 (.getfield 75) 3 none 9 31 [956] 1,
  i_0 70 (.iload_n 2) 1 none,
  i_0 71 (.iaload) 1 none,
  i_0 72 (.iastore) 1 none,
  i_v 73 (.iinc 2 1) 3 none 1 [],
  i_j 76 (.goto (-23)) 3 none 31,
  i_0 79 (.aload_n 0) 1 none,
  i_0 80 (.dup) 1 none,
  i_f 81 (.getfield 314) 3 none 9 41 [966] 0,
  i_v 84 (.iconst 1) 1 none 1 [],
  i_0 85 (.iadd) 1 none,
  i_f 86 (.putfield 314) 3 none 9 41 [966] 0,
  i_0 89 (.return_) 1 none]
set_option maxRecDepth 100000 in
theorem oX9_goRest : xm_ok sX9_goRest sX9_goRest.1.cls kX9_goRest = true := by decide +kernel
set_option maxRecDepth 100000 in
set_option maxHeartbeats 4000000 in
theorem xX9_goRest_0 {K : Nat} {h : xm_H} {P : Option Value → xm_H → Prop} {a0 : Nat} {x1 : Int32} (H :
    ∃ f1, xm_fld h a0 9 1 = some (.int f1) ∧ /- many -/
    (if x1 < f1 then
      xm_L K sX9_goRest kX9_goRest 6 [some (.ref a0), some (.int x1), some (.int (0 : Int32))] [] h P
    else
      xm_Call K sX9_areAtRest 9 [.ref a0] h (xm_pi fun c3 h2 =>
        (if c3 = 0 then
          P none h2
        else
          ∃ f4, xm_fld h2 a0 9 41 = some (.int f4) ∧ /- rests -/
          (if f4 = 0 then
            xm_L K sX9_goRest kX9_goRest 31 [some (.ref a0), none, some (.int (0 : Int32))] [] h2 P
          else
            ∃ f5, xm_fld h2 a0 9 41 = some (.int f5) ∧ /- rests -/
            ∃ h6, xm_put h2 a0 9 41 (.int (f5 + (1 : Int32))) = some h6 ∧ /- rests -/
            P none h6))))) :
    xm_L K sX9_goRest kX9_goRest 0 [some (.ref a0), some (.int x1), none] [] h P :=
  xm_run (fun _ _ h => h) oX9_goRest 18 0 0 0 [some (.ref a0), some (.int x1), none] [] h H
set_option maxRecDepth 100000 in
theorem eX9_goRest {K K' : Nat} (hK : K < K') {h : xm_H} {P : Option Value → xm_H → Prop} {a0 : Nat} {x1 : Int32} (hr : ∃ fs, h[a0]? = some (.inr (9, fs))) (H :
    ∃ f1, xm_fld h a0 9 1 = some (.int f1) ∧ /- many -/
    (if x1 < f1 then
      xm_L K sX9_goRest kX9_goRest 6 [some (.ref a0), some (.int x1), some (.int (0 : Int32))] [] h P
    else
      xm_Call K sX9_areAtRest 9 [.ref a0] h (xm_pi fun c3 h2 =>
        (if c3 = 0 then
          P none h2
        else
          ∃ f4, xm_fld h2 a0 9 41 = some (.int f4) ∧ /- rests -/
          (if f4 = 0 then
            xm_L K sX9_goRest kX9_goRest 31 [some (.ref a0), none, some (.int (0 : Int32))] [] h2 P
          else
            ∃ f5, xm_fld h2 a0 9 41 = some (.int f5) ∧ /- rests -/
            ∃ h6, xm_put h2 a0 9 41 (.int (f5 + (1 : Int32))) = some h6 ∧ /- rests -/
            P none h6))))) :
    xm_Call K' sX9_goRest 9 [.ref a0, .int x1] h P :=
  xm_call_of (C := kX9_goRest) hK (by decide +kernel) rfl (Nat.le_of_ble_eq_true rfl) (Or.inr ⟨a0, hr.choose, rfl, hr.choose_spec⟩) (xX9_goRest_0 H)

set_option maxRecDepth 100000 in
set_option maxHeartbeats 4000000 in
theorem xX9_goRest_6 {K : Nat} {h : xm_H} {P : Option Value → xm_H → Prop} {a0 : Nat} {x1 : Int32} {x2 : Int32} (H :
    (if x2 < (4 : Int32) then
      ∃ q1, xm_fld h a0 9 31 = some (.ref q1) ∧ /- habit1 -/
      ∃ h2, xm_sto h 0 q1 x1 x2 = some h2 ∧
      xm_Call K sX9_goRest 9 [.ref a0, .int (x1 + (1 : Int32))] h2 (xm_pv fun h3 =>
        xm_L K sX9_goRest kX9_goRest 6 [some (.ref a0), some (.int x1), some (.int (x2 + (1 : Int32)))] [] h3 P)
    else
      P none h)) :
    xm_L K sX9_goRest kX9_goRest 6 [some (.ref a0), some (.int x1), some (.int x2)] [] h P :=
  xm_run (fun _ _ h => h) oX9_goRest 16 6 0 0 [some (.ref a0), some (.int x1), some (.int x2)] [] h H

set_option maxRecDepth 100000 in
set_option maxHeartbeats 4000000 in
theorem xX9_goRest_31 {K : Nat} {h : xm_H} {P : Option Value → xm_H → Prop} {a0 : Nat} {x2 : Int32} (H :
    ∃ f1, xm_fld h a0 9 1 = some (.int f1) ∧ /- many -/
    (if x2 < f1 then
      ∃ q2, xm_fld h a0 9 40 = some (.ref q2) ∧ /- firstRest -/
      ∃ q3, xm_fld h a0 9 31 = some (.ref q3) ∧ /- habit1 -/
      ∃ e4, xm_ld xm_st h 0 q3 x2 = some e4 ∧
      ∃ h5, xm_sto h 0 q2 x2 e4 = some h5 ∧
      xm_L K sX9_goRest kX9_goRest 31 [some (.ref a0), none, some (.int (x2 + (1 : Int32)))] [] h5 P
    else
      ∃ f6, xm_fld h a0 9 41 = some (.int f6) ∧ /- rests -/
      ∃ h7, xm_put h a0 9 41 (.int (f6 + (1 : Int32))) = some h7 ∧ /- rests -/
      P none h7)) :
    xm_L K sX9_goRest kX9_goRest 31 [some (.ref a0), none, some (.int x2)] [] h P :=
  xm_run (fun _ _ h => h) oX9_goRest 15 31 0 0 [some (.ref a0), none, some (.int x2)] [] h H

def kX9_rest : List xm_I := [
  i_0 0 (.iload_n 1) 1 none,
  i_v 1 (.iconst (-1)) 1 none (-1) [],
  i_0 2 (.aload_n 0) 1 none,
  i_f 3 (.getfield 125) 3 none 9 1 [926] 0,
  i_v 6 (.iconst 1) 1 none 1 [],
  i_0 7 (.isub) 1 none,
  i_m 8 (.invokestatic 128) 3 none 3 99 [1106, 1107, 117, 1108] 0 sX9_in,
  i_j 11 (.ifCond .ne 5) 3 none 10,
  i_v 14 (.iconst (-1)) 1 none (-1) [],
  i_0 15 (.ireturn) 1 none,
  i_0 16 (.aload_n 0) 1 none,
  i_f 17 (.getfield 125) 3 none 9 1 [926] 0,
  i_v 20 (.iconst 4) 1 none 4 [],
  i_j 21 (.if_icmp .le 6) 3 none 16,
  i_v 24 (.bipush (-5)) 2 none (-5) [],
  i_0 26 (.ireturn) 1 none,
  i_0 27 (.aload_n 0) 1 none,
  i_m 28 (.invokevirtual 267) 3 none 0 9 [1227, 1229, 53, 117, 1230] 0 sX9_layNow,
  i_0 31 (.aload_n 0) 1 none,
  i_v 32 (.iconst 0) 1 none 0 [],
  i_f 33 (.putfield 314) 3 none 9 41 [966] 0,
  i_0 36 (.aload_n 0) 1 none,
  i_v 37 (.iconst 0) 1 none 0 [],
  i_m 38 (.invokevirtual 310) 3 none 1 9 [1334, 1336, 72, 117, 1337] 0 sX9_goRest,
  i_0 41 (.iload_n 1) 1 none,
  i_j 42 (.ifCond .ge 10) 3 none 29,
  i_0 45 (.aload_n 0) 1 none,
  i_f 46 (.getfield 314) 3 none 9 41 [966] 0,
  i_j 49 (.goto 21) 3 none 38,
  i_0 52 (.aload_n 0) 1 none,
  i_f 53 (.getfield 314) 3 none 9 41 [966] 0,
  i_j 56 (.ifCond .ne 8) 3 none 34,
  i_v 59 (.bipush (-2)) 2 none (-2) [],
  i_j 61 (.goto 9) 3 none 38,
  i_0 64 (.aload_n 0) 1 none,
  i_f 65 (.getfield 90) 3 none 9 40 [965] 1,
  i_0 68 (.iload_n 1) 1 none,
  i_0 69 (.iaload) 1 none,
  i_0 70 (.ireturn) 1 none]
set_option maxRecDepth 100000 in
theorem oX9_rest : xm_ok sX9_rest sX9_rest.1.cls kX9_rest = true := by decide +kernel
set_option maxRecDepth 100000 in
set_option maxHeartbeats 4000000 in
theorem xX9_rest_0 {K : Nat} {h : xm_H} {P : Option Value → xm_H → Prop} {a0 : Nat} {x1 : Int32} (H :
    ∃ f1, xm_fld h a0 9 1 = some (.int f1) ∧ /- many -/
    xm_Call K sX9_in 99 [.int x1, .int (-1 : Int32), .int (f1 - (1 : Int32))] h (xm_pi fun c3 h2 =>
      (if c3 = 0 then
        P (some (.int (-1 : Int32))) h2
      else
        ∃ f4, xm_fld h2 a0 9 1 = some (.int f4) ∧ /- many -/
        (if (4 : Int32) < f4 then
          P (some (.int (-5 : Int32))) h2
        else
          xm_Call K sX9_layNow 9 [.ref a0] h2 (xm_pv fun h5 =>
            ∃ h6, xm_put h5 a0 9 41 (.int (0 : Int32)) = some h6 ∧ /- rests -/
            xm_Call K sX9_goRest 9 [.ref a0, .int (0 : Int32)] h6 (xm_pv fun h7 =>
              (if x1 < 0 then
                ∃ f8, xm_fld h7 a0 9 41 = some (.int f8) ∧ /- rests -/
                P (some (.int f8)) h7
              else
                ∃ f9, xm_fld h7 a0 9 41 = some (.int f9) ∧ /- rests -/
                (if f9 = 0 then
                  P (some (.int (-2 : Int32))) h7
                else
                  ∃ q10, xm_fld h7 a0 9 40 = some (.ref q10) ∧ /- firstRest -/
                  ∃ e11, xm_ld xm_st h7 0 q10 x1 = some e11 ∧
                  P (some (.int e11)) h7)))))))) :
    xm_L K sX9_rest kX9_rest 0 [some (.ref a0), some (.int x1)] [] h P :=
  xm_run (fun _ _ h => h) oX9_rest 31 0 0 0 [some (.ref a0), some (.int x1)] [] h H
set_option maxRecDepth 100000 in
theorem eX9_rest {K K' : Nat} (hK : K < K') {h : xm_H} {P : Option Value → xm_H → Prop} {a0 : Nat} {x1 : Int32} (hr : ∃ fs, h[a0]? = some (.inr (9, fs))) (H :
    ∃ f1, xm_fld h a0 9 1 = some (.int f1) ∧ /- many -/
    xm_Call K sX9_in 99 [.int x1, .int (-1 : Int32), .int (f1 - (1 : Int32))] h (xm_pi fun c3 h2 =>
      (if c3 = 0 then
        P (some (.int (-1 : Int32))) h2
      else
        ∃ f4, xm_fld h2 a0 9 1 = some (.int f4) ∧ /- many -/
        (if (4 : Int32) < f4 then
          P (some (.int (-5 : Int32))) h2
        else
          xm_Call K sX9_layNow 9 [.ref a0] h2 (xm_pv fun h5 =>
            ∃ h6, xm_put h5 a0 9 41 (.int (0 : Int32)) = some h6 ∧ /- rests -/
            xm_Call K sX9_goRest 9 [.ref a0, .int (0 : Int32)] h6 (xm_pv fun h7 =>
              (if x1 < 0 then
                ∃ f8, xm_fld h7 a0 9 41 = some (.int f8) ∧ /- rests -/
                P (some (.int f8)) h7
              else
                ∃ f9, xm_fld h7 a0 9 41 = some (.int f9) ∧ /- rests -/
                (if f9 = 0 then
                  P (some (.int (-2 : Int32))) h7
                else
                  ∃ q10, xm_fld h7 a0 9 40 = some (.ref q10) ∧ /- firstRest -/
                  ∃ e11, xm_ld xm_st h7 0 q10 x1 = some e11 ∧
                  P (some (.int e11)) h7)))))))) :
    xm_Call K' sX9_rest 9 [.ref a0, .int x1] h P :=
  xm_call_of (C := kX9_rest) hK (by decide +kernel) rfl (Nat.le_of_ble_eq_true rfl) (Or.inr ⟨a0, hr.choose, rfl, hr.choose_spec⟩) (xX9_rest_0 H)

def kX9_isFree : List xm_I := [
  i_v 0 (.iconst 0) 1 none 0 [],
  i_0 1 (.istore_n 1) 1 none,
  i_0 2 (.iload_n 1) 1 (some [true, true]),
  i_0 3 (.aload_n 0) 1 none,
  i_f 4 (.getfield 125) 3 none 9 1 [926] 0,
  i_j 7 (.if_icmp .ge 45) 3 none 30,
  i_0 10 (.aload_n 0) 1 none,
  i_f 11 (.getfield 75) 3 none 9 31 [956] 1,
  i_0 14 (.iload_n 1) 1 none,
  i_0 15 (.iaload) 1 none,
  i_v 16 (.iconst 1) 1 none 1 [],
  i_j 17 (.if_icmp .ne 29) 3 none 28,
  i_0 20 (.aload_n 0) 1 none,
  i_f 21 (.getfield 78) 3 none 9 32 [957] 1,
  i_0 24 (.iload_n 1) 1 none,
  i_0 25 (.iaload) 1 none,
  i_v 26 (.iconst 1) 1 none 1 [],
  i_j 27 (.if_icmp .ne 19) 3 none 28,
  i_0 30 (.aload_n 0) 1 none,
  i_0 31 (.iload_n 1) 1 none,
  i_v 32 (.iconst 2) 1 none 2 [],
  i_m 33 (.invokevirtual 301) 3 none 2 9 [1318, 1320, 70, 117, 1321] 0 sX9_worthWith,
  i_0 36 (.aload_n 0) 1 none,
  i_0 37 (.iload_n 1) 1 none,
  i_m 38 (.invokevirtual 298) 3 none 1 9 [1306, 1308, 68, 117, 1309] 0 sX9_worthBy,
  i_j 41 (.if_icmp .ge 5) 3 none 28,
  i_v 44 (.iconst 0) 1 none 0 [],
  i_0 45 (.ireturn) 1 none,
  i_v 46 (.iinc 1 1) 3 none 1 [],
  i_j 49 (.goto (-47)) 3 none 2,
  i_v 52 (.iconst 1) 1 none 1 [],
  i_0 53 (.ireturn) 1 none]
set_option maxRecDepth 100000 in
theorem oX9_isFree : xm_ok sX9_isFree sX9_isFree.1.cls kX9_isFree = true := by decide +kernel
set_option maxRecDepth 100000 in
set_option maxHeartbeats 4000000 in
theorem xX9_isFree_0 {K : Nat} {h : xm_H} {P : Option Value → xm_H → Prop} {a0 : Nat} (H :
    xm_L K sX9_isFree kX9_isFree 2 [some (.ref a0), some (.int (0 : Int32))] [] h P) :
    xm_L K sX9_isFree kX9_isFree 0 [some (.ref a0), none] [] h P :=
  xm_run (fun _ _ h => h) oX9_isFree 3 0 0 0 [some (.ref a0), none] [] h H
set_option maxRecDepth 100000 in
theorem eX9_isFree {K K' : Nat} (hK : K < K') {h : xm_H} {P : Option Value → xm_H → Prop} {a0 : Nat} (hr : ∃ fs, h[a0]? = some (.inr (9, fs))) (H :
    xm_L K sX9_isFree kX9_isFree 2 [some (.ref a0), some (.int (0 : Int32))] [] h P) :
    xm_Call K' sX9_isFree 9 [.ref a0] h P :=
  xm_call_of (C := kX9_isFree) hK (by decide +kernel) rfl (Nat.le_of_ble_eq_true rfl) (Or.inr ⟨a0, hr.choose, rfl, hr.choose_spec⟩) (xX9_isFree_0 H)

set_option maxRecDepth 100000 in
set_option maxHeartbeats 4000000 in
theorem xX9_isFree_2 {K : Nat} {h : xm_H} {P : Option Value → xm_H → Prop} {a0 : Nat} {x1 : Int32} (H :
    ∃ f1, xm_fld h a0 9 1 = some (.int f1) ∧ /- many -/
    (if x1 < f1 then
      ∃ q2, xm_fld h a0 9 31 = some (.ref q2) ∧ /- habit1 -/
      ∃ e3, xm_ld xm_st h 0 q2 x1 = some e3 ∧
      (if e3 = (1 : Int32) then
        ∃ q4, xm_fld h a0 9 32 = some (.ref q4) ∧ /- heard1 -/
        ∃ e5, xm_ld xm_st h 0 q4 x1 = some e5 ∧
        (if e5 = (1 : Int32) then
          xm_Call K sX9_worthWith 9 [.ref a0, .int x1, .int (2 : Int32)] h (xm_pi fun c7 h6 =>
            xm_Call K sX9_worthBy 9 [.ref a0, .int x1] h6 (xm_pi fun c9 h8 =>
              (if c7 < c9 then
                P (some (.int (0 : Int32))) h8
              else
                xm_L K sX9_isFree kX9_isFree 2 [some (.ref a0), some (.int (x1 + (1 : Int32)))] [] h8 P)))
        else
          xm_L K sX9_isFree kX9_isFree 2 [some (.ref a0), some (.int (x1 + (1 : Int32)))] [] h P)
      else
        xm_L K sX9_isFree kX9_isFree 2 [some (.ref a0), some (.int (x1 + (1 : Int32)))] [] h P)
    else
      P (some (.int (1 : Int32))) h)) :
    xm_L K sX9_isFree kX9_isFree 2 [some (.ref a0), some (.int x1)] [] h P :=
  xm_run (fun _ _ h => h) oX9_isFree 27 2 0 0 [some (.ref a0), some (.int x1)] [] h H

def kX9_freeRate : List xm_I := [
  i_0 0 (.aload_n 0) 1 none,
  i_m 1 (.invokevirtual 267) 3 none 0 9 [1227, 1229, 53, 117, 1230] 0 sX9_layNow,
  i_v 4 (.iconst 1) 1 none 1 [],
  i_0 5 (.istore_n 1) 1 none,
  i_0 6 (.iload_n 1) 1 (some [true, true]),
  i_v 7 (.bipush 99) 2 none 99 [],
  i_j 9 (.if_icmp .gt 23) 3 none 17,
  i_0 12 (.aload_n 0) 1 none,
  i_0 13 (.iload_n 1) 1 none,
  i_f 14 (.putfield 246) 3 none 9 38 [963] 0,
  i_0 17 (.aload_n 0) 1 none,
  i_m 18 (.invokevirtual 317) 3 none 0 9 [1342, 1344, 73, 117, 1345] 0 sX9_isFree,
  i_j 21 (.ifCond .eq 5) 3 none 15,
  i_0 24 (.iload_n 1) 1 none,
  i_0 25 (.ireturn) 1 none,
  i_v 26 (.iinc 1 1) 3 none 1 [],
  i_j 29 (.goto (-23)) 3 none 4,
  i_v 32 (.bipush (-2)) 2 none (-2) [],
  i_0 34 (.ireturn) 1 none]
set_option maxRecDepth 100000 in
theorem oX9_freeRate : xm_ok sX9_freeRate sX9_freeRate.1.cls kX9_freeRate = true := by decide +kernel
set_option maxRecDepth 100000 in
set_option maxHeartbeats 4000000 in
theorem xX9_freeRate_0 {K : Nat} {h : xm_H} {P : Option Value → xm_H → Prop} {a0 : Nat} (H :
    xm_Call K sX9_layNow 9 [.ref a0] h (xm_pv fun h1 =>
      xm_L K sX9_freeRate kX9_freeRate 4 [some (.ref a0), some (.int (1 : Int32))] [] h1 P)) :
    xm_L K sX9_freeRate kX9_freeRate 0 [some (.ref a0), none] [] h P :=
  xm_run (fun _ _ h => h) oX9_freeRate 5 0 0 0 [some (.ref a0), none] [] h H
set_option maxRecDepth 100000 in
theorem eX9_freeRate {K K' : Nat} (hK : K < K') {h : xm_H} {P : Option Value → xm_H → Prop} {a0 : Nat} (hr : ∃ fs, h[a0]? = some (.inr (9, fs))) (H :
    xm_Call K sX9_layNow 9 [.ref a0] h (xm_pv fun h1 =>
      xm_L K sX9_freeRate kX9_freeRate 4 [some (.ref a0), some (.int (1 : Int32))] [] h1 P)) :
    xm_Call K' sX9_freeRate 9 [.ref a0] h P :=
  xm_call_of (C := kX9_freeRate) hK (by decide +kernel) rfl (Nat.le_of_ble_eq_true rfl) (Or.inr ⟨a0, hr.choose, rfl, hr.choose_spec⟩) (xX9_freeRate_0 H)

set_option maxRecDepth 100000 in
set_option maxHeartbeats 4000000 in
theorem xX9_freeRate_4 {K : Nat} {h : xm_H} {P : Option Value → xm_H → Prop} {a0 : Nat} {x1 : Int32} (H :
    (if (99 : Int32) < x1 then
      P (some (.int (-2 : Int32))) h
    else
      ∃ h1, xm_put h a0 9 38 (.int x1) = some h1 ∧ /- rate1 -/
      xm_Call K sX9_isFree 9 [.ref a0] h1 (xm_pi fun c3 h2 =>
        (if c3 = 0 then
          xm_L K sX9_freeRate kX9_freeRate 4 [some (.ref a0), some (.int (x1 + (1 : Int32)))] [] h2 P
        else
          P (some (.int x1)) h2)))) :
    xm_L K sX9_freeRate kX9_freeRate 4 [some (.ref a0), some (.int x1)] [] h P :=
  xm_run (fun _ _ h => h) oX9_freeRate 12 4 0 0 [some (.ref a0), some (.int x1)] [] h H

