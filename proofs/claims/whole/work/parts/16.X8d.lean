def kX8_undo : List xm_I := [
  i_0 0 (.aload_n 0) 1 none,
  i_f 1 (.getfield 36) 3 none 8 4 [332] 1,
  i_f 4 (.getfield 326) 3 none 2 3 [247] 0,
  i_j 7 (.ifCond .ne 6) 3 none 6,
  i_v 10 (.bipush (-5)) 2 none (-5) [],
  i_0 12 (.ireturn) 1 none,
  i_0 13 (.aload_n 0) 1 none,
  i_f 14 (.getfield 36) 3 none 8 4 [332] 1,
  i_0 17 (.aload_n 0) 1 none,
  i_f 18 (.getfield 10) 3 none 8 0 [328] 1,
  i_f 21 (.getfield 115) 3 none 7 0 [138] 1,
  i_m 24 (.invokevirtual 329) 3 none 1 2 [801, 802, 803, 113, 804] 0 sX2_stepBack,
  i_0 27 (.aload_n 0) 1 none,
  i_f 28 (.getfield 36) 3 none 8 4 [332] 1,
  i_f 31 (.getfield 326) 3 none 2 3 [247] 0,
  i_0 34 (.ireturn) 1 none]
set_option maxRecDepth 100000 in
theorem oX8_undo : xm_ok sX8_undo sX8_undo.1.cls kX8_undo = true := by decide +kernel
set_option maxRecDepth 100000 in
set_option maxHeartbeats 4000000 in
theorem xX8_undo_0 {K : Nat} {h : xm_H} {P : Option Value → xm_H → Prop} {a0 : Nat} (H :
    ∃ q1, xm_fld h a0 8 4 = some (.ref q1) ∧ /- changes -/
    ∃ f2, xm_fld h q1 2 3 = some (.int f2) ∧ /- done -/
    (if f2 = 0 then
      P (some (.int (-5 : Int32))) h
    else
      ∃ q3, xm_fld h a0 8 4 = some (.ref q3) ∧ /- changes -/
      ∃ q4, xm_fld h a0 8 0 = some (.ref q4) ∧ /- now -/
      ∃ q5, xm_fld h q4 7 0 = some (.ref q5) ∧ /- cells -/
      xm_Call K sX2_stepBack 2 [.ref q3, .ref q5] h (xm_pv fun h6 =>
        ∃ q7, xm_fld h6 a0 8 4 = some (.ref q7) ∧ /- changes -/
        ∃ f8, xm_fld h6 q7 2 3 = some (.int f8) ∧ /- done -/
        P (some (.int f8)) h6))) :
    xm_L K sX8_undo kX8_undo 0 [some (.ref a0)] [] h P :=
  xm_run (fun _ _ h => h) oX8_undo 15 0 0 0 [some (.ref a0)] [] h H
set_option maxRecDepth 100000 in
theorem eX8_undo {K K' : Nat} (hK : K < K') {h : xm_H} {P : Option Value → xm_H → Prop} {a0 : Nat} (hr : ∃ fs, h[a0]? = some (.inr (8, fs))) (H :
    ∃ q1, xm_fld h a0 8 4 = some (.ref q1) ∧ /- changes -/
    ∃ f2, xm_fld h q1 2 3 = some (.int f2) ∧ /- done -/
    (if f2 = 0 then
      P (some (.int (-5 : Int32))) h
    else
      ∃ q3, xm_fld h a0 8 4 = some (.ref q3) ∧ /- changes -/
      ∃ q4, xm_fld h a0 8 0 = some (.ref q4) ∧ /- now -/
      ∃ q5, xm_fld h q4 7 0 = some (.ref q5) ∧ /- cells -/
      xm_Call K sX2_stepBack 2 [.ref q3, .ref q5] h (xm_pv fun h6 =>
        ∃ q7, xm_fld h6 a0 8 4 = some (.ref q7) ∧ /- changes -/
        ∃ f8, xm_fld h6 q7 2 3 = some (.int f8) ∧ /- done -/
        P (some (.int f8)) h6))) :
    xm_Call K' sX8_undo 8 [.ref a0] h P :=
  xm_call_of (C := kX8_undo) hK (by decide +kernel) rfl (Nat.le_of_ble_eq_true rfl) (Or.inr ⟨a0, hr.choose, rfl, hr.choose_spec⟩) (xX8_undo_0 H)

def kX8_redo : List xm_I := [
  i_0 0 (.aload_n 0) 1 none,
  i_f 1 (.getfield 36) 3 none 8 4 [332] 1,
  i_f 4 (.getfield 326) 3 none 2 3 [247] 0,
  i_0 7 (.aload_n 0) 1 none,
  i_f 8 (.getfield 36) 3 none 8 4 [332] 1,
  i_f 11 (.getfield 333) 3 none 2 4 [249] 0,
  i_j 14 (.if_icmp .ne 6) 3 none 9,
  i_v 17 (.bipush (-5)) 2 none (-5) [],
  i_0 19 (.ireturn) 1 none,
  i_0 20 (.aload_n 0) 1 none,
  i_f 21 (.getfield 36) 3 none 8 4 [332] 1,
  i_0 24 (.aload_n 0) 1 none,
  i_f 25 (.getfield 10) 3 none 8 0 [328] 1,
  i_f 28 (.getfield 115) 3 none 7 0 [138] 1,
  i_m 31 (.invokevirtual 336) 3 none 1 2 [812, 813, 814, 113, 815] 0 sX2_stepOn,
  i_0 34 (.aload_n 0) 1 none,
  i_f 35 (.getfield 36) 3 none 8 4 [332] 1,
  i_f 38 (.getfield 333) 3 none 2 4 [249] 0,
  i_0 41 (.aload_n 0) 1 none,
  i_f 42 (.getfield 36) 3 none 8 4 [332] 1,
  i_f 45 (.getfield 326) 3 none 2 3 [247] 0,
  i_0 48 (.isub) 1 none,
  i_0 49 (.ireturn) 1 none]
set_option maxRecDepth 100000 in
theorem oX8_redo : xm_ok sX8_redo sX8_redo.1.cls kX8_redo = true := by decide +kernel
set_option maxRecDepth 100000 in
set_option maxHeartbeats 4000000 in
theorem xX8_redo_0 {K : Nat} {h : xm_H} {P : Option Value → xm_H → Prop} {a0 : Nat} (H :
    ∃ q1, xm_fld h a0 8 4 = some (.ref q1) ∧ /- changes -/
    ∃ f2, xm_fld h q1 2 3 = some (.int f2) ∧ /- done -/
    ∃ q3, xm_fld h a0 8 4 = some (.ref q3) ∧ /- changes -/
    ∃ f4, xm_fld h q3 2 4 = some (.int f4) ∧ /- noted -/
    (if f2 = f4 then
      P (some (.int (-5 : Int32))) h
    else
      ∃ q5, xm_fld h a0 8 4 = some (.ref q5) ∧ /- changes -/
      ∃ q6, xm_fld h a0 8 0 = some (.ref q6) ∧ /- now -/
      ∃ q7, xm_fld h q6 7 0 = some (.ref q7) ∧ /- cells -/
      xm_Call K sX2_stepOn 2 [.ref q5, .ref q7] h (xm_pv fun h8 =>
        ∃ q9, xm_fld h8 a0 8 4 = some (.ref q9) ∧ /- changes -/
        ∃ f10, xm_fld h8 q9 2 4 = some (.int f10) ∧ /- noted -/
        ∃ q11, xm_fld h8 a0 8 4 = some (.ref q11) ∧ /- changes -/
        ∃ f12, xm_fld h8 q11 2 3 = some (.int f12) ∧ /- done -/
        P (some (.int (f10 - f12))) h8))) :
    xm_L K sX8_redo kX8_redo 0 [some (.ref a0)] [] h P :=
  xm_run (fun _ _ h => h) oX8_redo 22 0 0 0 [some (.ref a0)] [] h H
set_option maxRecDepth 100000 in
theorem eX8_redo {K K' : Nat} (hK : K < K') {h : xm_H} {P : Option Value → xm_H → Prop} {a0 : Nat} (hr : ∃ fs, h[a0]? = some (.inr (8, fs))) (H :
    ∃ q1, xm_fld h a0 8 4 = some (.ref q1) ∧ /- changes -/
    ∃ f2, xm_fld h q1 2 3 = some (.int f2) ∧ /- done -/
    ∃ q3, xm_fld h a0 8 4 = some (.ref q3) ∧ /- changes -/
    ∃ f4, xm_fld h q3 2 4 = some (.int f4) ∧ /- noted -/
    (if f2 = f4 then
      P (some (.int (-5 : Int32))) h
    else
      ∃ q5, xm_fld h a0 8 4 = some (.ref q5) ∧ /- changes -/
      ∃ q6, xm_fld h a0 8 0 = some (.ref q6) ∧ /- now -/
      ∃ q7, xm_fld h q6 7 0 = some (.ref q7) ∧ /- cells -/
      xm_Call K sX2_stepOn 2 [.ref q5, .ref q7] h (xm_pv fun h8 =>
        ∃ q9, xm_fld h8 a0 8 4 = some (.ref q9) ∧ /- changes -/
        ∃ f10, xm_fld h8 q9 2 4 = some (.int f10) ∧ /- noted -/
        ∃ q11, xm_fld h8 a0 8 4 = some (.ref q11) ∧ /- changes -/
        ∃ f12, xm_fld h8 q11 2 3 = some (.int f12) ∧ /- done -/
        P (some (.int (f10 - f12))) h8))) :
    xm_Call K' sX8_redo 8 [.ref a0] h P :=
  xm_call_of (C := kX8_redo) hK (by decide +kernel) rfl (Nat.le_of_ble_eq_true rfl) (Or.inr ⟨a0, hr.choose, rfl, hr.choose_spec⟩) (xX8_redo_0 H)

def kX8_body : List xm_I := [
  i_0 0 (.iload_n 1) 1 none,
  i_m 1 (.invokestatic 339) 3 none 1 99 [820, 821, 108, 822] 0 sX8_isKind,
  i_j 4 (.ifCond .ne 5) 3 none 5,
  i_v 7 (.iconst (-1)) 1 none (-1) [],
  i_0 8 (.ireturn) 1 none,
  i_0 9 (.aload_n 0) 1 none,
  i_f 10 (.getfield 67) 3 none 8 11 [339] 1,
  i_0 13 (.iload_n 1) 1 none,
  i_m 14 (.invokevirtual 342) 3 none 1 1 [823, 824, 825, 115, 826] 0 sX1_add,
  i_j 17 (.ifCond .eq 15) 3 none 16,
  i_0 20 (.aload_n 0) 1 none,
  i_f 21 (.getfield 67) 3 none 8 11 [339] 1,
  i_f 24 (.getfield 345) 3 none 1 1 [286] 0,
  i_v 27 (.iconst 1) 1 none 1 [],
  i_0 28 (.isub) 1 none,
  i_j 29 (.goto 5) 3 none 17,
  i_v 32 (.bipush (-3)) 2 none (-3) [],
  i_0 34 (.ireturn) 1 none]
set_option maxRecDepth 100000 in
theorem oX8_body : xm_ok sX8_body sX8_body.1.cls kX8_body = true := by decide +kernel
set_option maxRecDepth 100000 in
set_option maxHeartbeats 4000000 in
theorem xX8_body_0 {K : Nat} {h : xm_H} {P : Option Value → xm_H → Prop} {a0 : Nat} {x1 : Int32} (H :
    xm_Call K sX8_isKind 99 [.int x1] h (xm_pi fun c2 h1 =>
      (if c2 = 0 then
        P (some (.int (-1 : Int32))) h1
      else
        ∃ q3, xm_fld h1 a0 8 11 = some (.ref q3) ∧ /- bodies -/
        xm_Call K sX1_add 1 [.ref q3, .int x1] h1 (xm_pi fun c5 h4 =>
          (if c5 = 0 then
            P (some (.int (-3 : Int32))) h4
          else
            ∃ q6, xm_fld h4 a0 8 11 = some (.ref q6) ∧ /- bodies -/
            ∃ f7, xm_fld h4 q6 1 1 = some (.int f7) ∧ /- made -/
            P (some (.int (f7 - (1 : Int32)))) h4))))) :
    xm_L K sX8_body kX8_body 0 [some (.ref a0), some (.int x1)] [] h P :=
  xm_run (fun _ _ h => h) oX8_body 16 0 0 0 [some (.ref a0), some (.int x1)] [] h H
set_option maxRecDepth 100000 in
theorem eX8_body {K K' : Nat} (hK : K < K') {h : xm_H} {P : Option Value → xm_H → Prop} {a0 : Nat} {x1 : Int32} (hr : ∃ fs, h[a0]? = some (.inr (8, fs))) (H :
    xm_Call K sX8_isKind 99 [.int x1] h (xm_pi fun c2 h1 =>
      (if c2 = 0 then
        P (some (.int (-1 : Int32))) h1
      else
        ∃ q3, xm_fld h1 a0 8 11 = some (.ref q3) ∧ /- bodies -/
        xm_Call K sX1_add 1 [.ref q3, .int x1] h1 (xm_pi fun c5 h4 =>
          (if c5 = 0 then
            P (some (.int (-3 : Int32))) h4
          else
            ∃ q6, xm_fld h4 a0 8 11 = some (.ref q6) ∧ /- bodies -/
            ∃ f7, xm_fld h4 q6 1 1 = some (.int f7) ∧ /- made -/
            P (some (.int (f7 - (1 : Int32)))) h4))))) :
    xm_Call K' sX8_body 8 [.ref a0, .int x1] h P :=
  xm_call_of (C := kX8_body) hK (by decide +kernel) rfl (Nat.le_of_ble_eq_true rfl) (Or.inr ⟨a0, hr.choose, rfl, hr.choose_spec⟩) (xX8_body_0 H)

def kX8_act : List xm_I := [
  i_0 0 (.aload_n 0) 1 none,
  i_f 1 (.getfield 67) 3 none 8 11 [339] 1,
  i_0 4 (.iload_n 1) 1 none,
  i_0 5 (.iload_n 2) 1 none,
  i_0 6 (.iload_n 3) 1 none,
  i_m 7 (.invokevirtual 348) 3 none 3 1 [831, 832, 833, 115, 834] 0 sX1_start,
  i_0 10 (.ireturn) 1 none]
set_option maxRecDepth 100000 in
theorem oX8_act : xm_ok sX8_act sX8_act.1.cls kX8_act = true := by decide +kernel
set_option maxRecDepth 100000 in
set_option maxHeartbeats 4000000 in
theorem xX8_act_0 {K : Nat} {h : xm_H} {P : Option Value → xm_H → Prop} {a0 : Nat} {x1 : Int32} {x2 : Int32} {x3 : Int32} (H :
    ∃ q1, xm_fld h a0 8 11 = some (.ref q1) ∧ /- bodies -/
    xm_Call K sX1_start 1 [.ref q1, .int x1, .int x2, .int x3] h (xm_pi fun c3 h2 =>
      P (some (.int c3)) h2)) :
    xm_L K sX8_act kX8_act 0 [some (.ref a0), some (.int x1), some (.int x2), some (.int x3)] [] h P :=
  xm_run (fun _ _ h => h) oX8_act 8 0 0 0 [some (.ref a0), some (.int x1), some (.int x2), some (.int x3)] [] h H
set_option maxRecDepth 100000 in
theorem eX8_act {K K' : Nat} (hK : K < K') {h : xm_H} {P : Option Value → xm_H → Prop} {a0 : Nat} {x1 : Int32} {x2 : Int32} {x3 : Int32} (hr : ∃ fs, h[a0]? = some (.inr (8, fs))) (H :
    ∃ q1, xm_fld h a0 8 11 = some (.ref q1) ∧ /- bodies -/
    xm_Call K sX1_start 1 [.ref q1, .int x1, .int x2, .int x3] h (xm_pi fun c3 h2 =>
      P (some (.int c3)) h2)) :
    xm_Call K' sX8_act 8 [.ref a0, .int x1, .int x2, .int x3] h P :=
  xm_call_of (C := kX8_act) hK (by decide +kernel) rfl (Nat.le_of_ble_eq_true rfl) (Or.inr ⟨a0, hr.choose, rfl, hr.choose_spec⟩) (xX8_act_0 H)

def kX8_trace : List xm_I := [
  i_0 0 (.iload_n 1) 1 none,
  i_j 1 (.ifCond .lt 20) 3 none 10,
  i_0 4 (.iload_n 1) 1 none,
  i_0 5 (.aload_n 0) 1 none,
  i_f 6 (.getfield 67) 3 none 8 11 [339] 1,
  i_f 9 (.getfield 351) 3 none 1 3 [290] 0,
  i_j 12 (.if_icmp .ge 9) 3 none 10,
  i_0 15 (.iload_n 1) 1 none,
  i_v 16 (.bipush 24) 2 none 24 [],
  i_j 18 (.if_icmp .lt 7) 3 none 12,
  i_v 21 (.iconst (-1)) 1 none (-1) [],
  i_j 22 (.goto 12) 3 none 17,
  i_0 25 (.aload_n 0) 1 none,
  i_f 26 (.getfield 67) 3 none 8 11 [339] 1,
  i_f 29 (.getfield 354) 3 none 1 2 [288] 1,
  i_0 32 (.iload_n 1) 1 none,
  i_0 33 (.iaload) 1 none,
  i_0 34 (.ireturn) 1 none]
set_option maxRecDepth 100000 in
theorem oX8_trace : xm_ok sX8_trace sX8_trace.1.cls kX8_trace = true := by decide +kernel
set_option maxRecDepth 100000 in
set_option maxHeartbeats 4000000 in
theorem xX8_trace_0 {K : Nat} {h : xm_H} {P : Option Value → xm_H → Prop} {a0 : Nat} {x1 : Int32} (H :
    (if x1 < 0 then
      P (some (.int (-1 : Int32))) h
    else
      ∃ q1, xm_fld h a0 8 11 = some (.ref q1) ∧ /- bodies -/
      ∃ f2, xm_fld h q1 1 3 = some (.int f2) ∧ /- ran -/
      (if x1 < f2 then
        (if x1 < (24 : Int32) then
          ∃ q3, xm_fld h a0 8 11 = some (.ref q3) ∧ /- bodies -/
          ∃ q4, xm_fld h q3 1 2 = some (.ref q4) ∧ /- begun -/
          ∃ e5, xm_ld xm_st h 0 q4 x1 = some e5 ∧
          P (some (.int e5)) h
        else
          P (some (.int (-1 : Int32))) h)
      else
        P (some (.int (-1 : Int32))) h))) :
    xm_L K sX8_trace kX8_trace 0 [some (.ref a0), some (.int x1)] [] h P :=
  xm_run (fun _ _ h => h) oX8_trace 17 0 0 0 [some (.ref a0), some (.int x1)] [] h H
set_option maxRecDepth 100000 in
theorem eX8_trace {K K' : Nat} (hK : K < K') {h : xm_H} {P : Option Value → xm_H → Prop} {a0 : Nat} {x1 : Int32} (hr : ∃ fs, h[a0]? = some (.inr (8, fs))) (H :
    (if x1 < 0 then
      P (some (.int (-1 : Int32))) h
    else
      ∃ q1, xm_fld h a0 8 11 = some (.ref q1) ∧ /- bodies -/
      ∃ f2, xm_fld h q1 1 3 = some (.int f2) ∧ /- ran -/
      (if x1 < f2 then
        (if x1 < (24 : Int32) then
          ∃ q3, xm_fld h a0 8 11 = some (.ref q3) ∧ /- bodies -/
          ∃ q4, xm_fld h q3 1 2 = some (.ref q4) ∧ /- begun -/
          ∃ e5, xm_ld xm_st h 0 q4 x1 = some e5 ∧
          P (some (.int e5)) h
        else
          P (some (.int (-1 : Int32))) h)
      else
        P (some (.int (-1 : Int32))) h))) :
    xm_Call K' sX8_trace 8 [.ref a0, .int x1] h P :=
  xm_call_of (C := kX8_trace) hK (by decide +kernel) rfl (Nat.le_of_ble_eq_true rfl) (Or.inr ⟨a0, hr.choose, rfl, hr.choose_spec⟩) (xX8_trace_0 H)

def kX8_keep : List xm_I := [
  i_0 0 (.aload_n 0) 1 none,
  i_0 1 (.iload_n 1) 1 none,
  i_m 2 (.invokevirtual 93) 3 none 1 8 [396, 398, 0, 108, 399] 0 sX8_shelfAt,
  i_0 5 (.astore_n 3) 1 none,
  i_0 6 (.aload_n 3) 1 none,
  i_j 7 (.ifnull 19) 3 none 14,
  i_0 10 (.iload_n 2) 1 none,
  i_v 11 (.iconst (-1)) 1 none (-1) [],
  i_j 12 (.if_icmp .eq 16) 3 none 16,
  i_0 15 (.aload_n 0) 1 none,
  i_f 16 (.getfield 67) 3 none 8 11 [339] 1,
  i_0 19 (.iload_n 2) 1 none,
  i_m 20 (.invokevirtual 357) 3 none 1 1 [868, 836, 837, 115, 838] 0 sX1_has,
  i_j 23 (.ifCond .ne 5) 3 none 16,
  i_v 26 (.iconst (-1)) 1 none (-1) [],
  i_0 27 (.ireturn) 1 none,
  i_0 28 (.aload_n 3) 1 none,
  i_0 29 (.iload_n 2) 1 none,
  i_v 30 (.iconst (-1)) 1 none (-1) [],
  i_j 31 (.if_icmp .ne 7) 3 none 22,
  i_v 34 (.iconst (-1)) 1 none (-1) [],
  i_j 35 (.goto 4) 3 none 23,
  i_v 38 (.iconst 5) 1 none 5 [],
  i_f 39 (.putfield 97) 3 none 5 0 [311] 0,
  i_0 42 (.aload_n 3) 1 none,
  i_0 43 (.iload_n 2) 1 none,
  i_f 44 (.putfield 358) 3 none 5 1 [313] 0,
  i_v 47 (.iconst 1) 1 none 1 [],
  i_0 48 (.ireturn) 1 none]
set_option maxRecDepth 100000 in
theorem oX8_keep : xm_ok sX8_keep sX8_keep.1.cls kX8_keep = true := by decide +kernel
set_option maxRecDepth 100000 in
set_option maxHeartbeats 4000000 in
theorem xX8_keep_0 {K : Nat} {h : xm_H} {P : Option Value → xm_H → Prop} {a0 : Nat} {x1 : Int32} {x2 : Int32} (H :
    xm_Call K sX8_shelfAt 8 [.ref a0, .int x1] h (xm_pq (fun h1 =>
      P (some (.int (-1 : Int32))) h1) (fun q2 h1 =>
      (if x2 = (-1 : Int32) then
        (if x2 = (-1 : Int32) then
          ∃ h3, xm_put h1 q2 5 0 (.int (-1 : Int32)) = some h3 ∧ /- sort -/
          ∃ h4, xm_put h3 q2 5 1 (.int x2) = some h4 ∧ /- body -/
          P (some (.int (1 : Int32))) h4
        else
          ∃ h5, xm_put h1 q2 5 0 (.int (5 : Int32)) = some h5 ∧ /- sort -/
          ∃ h6, xm_put h5 q2 5 1 (.int x2) = some h6 ∧ /- body -/
          P (some (.int (1 : Int32))) h6)
      else
        ∃ q7, xm_fld h1 a0 8 11 = some (.ref q7) ∧ /- bodies -/
        xm_Call K sX1_has 1 [.ref q7, .int x2] h1 (xm_pi fun c9 h8 =>
          (if c9 = 0 then
            P (some (.int (-1 : Int32))) h8
          else
            (if x2 = (-1 : Int32) then
              ∃ h10, xm_put h8 q2 5 0 (.int (-1 : Int32)) = some h10 ∧ /- sort -/
              ∃ h11, xm_put h10 q2 5 1 (.int x2) = some h11 ∧ /- body -/
              P (some (.int (1 : Int32))) h11
            else
              ∃ h12, xm_put h8 q2 5 0 (.int (5 : Int32)) = some h12 ∧ /- sort -/
              ∃ h13, xm_put h12 q2 5 1 (.int x2) = some h13 ∧ /- body -/
              P (some (.int (1 : Int32))) h13))))))) :
    xm_L K sX8_keep kX8_keep 0 [some (.ref a0), some (.int x1), some (.int x2), none] [] h P :=
  xm_run (fun _ _ h => h) oX8_keep 27 0 0 0 [some (.ref a0), some (.int x1), some (.int x2), none] [] h H
set_option maxRecDepth 100000 in
theorem eX8_keep {K K' : Nat} (hK : K < K') {h : xm_H} {P : Option Value → xm_H → Prop} {a0 : Nat} {x1 : Int32} {x2 : Int32} (hr : ∃ fs, h[a0]? = some (.inr (8, fs))) (H :
    xm_Call K sX8_shelfAt 8 [.ref a0, .int x1] h (xm_pq (fun h1 =>
      P (some (.int (-1 : Int32))) h1) (fun q2 h1 =>
      (if x2 = (-1 : Int32) then
        (if x2 = (-1 : Int32) then
          ∃ h3, xm_put h1 q2 5 0 (.int (-1 : Int32)) = some h3 ∧ /- sort -/
          ∃ h4, xm_put h3 q2 5 1 (.int x2) = some h4 ∧ /- body -/
          P (some (.int (1 : Int32))) h4
        else
          ∃ h5, xm_put h1 q2 5 0 (.int (5 : Int32)) = some h5 ∧ /- sort -/
          ∃ h6, xm_put h5 q2 5 1 (.int x2) = some h6 ∧ /- body -/
          P (some (.int (1 : Int32))) h6)
      else
        ∃ q7, xm_fld h1 a0 8 11 = some (.ref q7) ∧ /- bodies -/
        xm_Call K sX1_has 1 [.ref q7, .int x2] h1 (xm_pi fun c9 h8 =>
          (if c9 = 0 then
            P (some (.int (-1 : Int32))) h8
          else
            (if x2 = (-1 : Int32) then
              ∃ h10, xm_put h8 q2 5 0 (.int (-1 : Int32)) = some h10 ∧ /- sort -/
              ∃ h11, xm_put h10 q2 5 1 (.int x2) = some h11 ∧ /- body -/
              P (some (.int (1 : Int32))) h11
            else
              ∃ h12, xm_put h8 q2 5 0 (.int (5 : Int32)) = some h12 ∧ /- sort -/
              ∃ h13, xm_put h12 q2 5 1 (.int x2) = some h13 ∧ /- body -/
              P (some (.int (1 : Int32))) h13))))))) :
    xm_Call K' sX8_keep 8 [.ref a0, .int x1, .int x2] h P :=
  xm_call_of (C := kX8_keep) hK (by decide +kernel) rfl (Nat.le_of_ble_eq_true rfl) (Or.inr ⟨a0, hr.choose, rfl, hr.choose_spec⟩) (xX8_keep_0 H)

def kX8_row : List xm_I := [
  i_0 0 (.aload_n 0) 1 none,
  i_0 1 (.iload_n 1) 1 none,
  i_m 2 (.invokevirtual 93) 3 none 1 8 [396, 398, 0, 108, 399] 0 sX8_shelfAt,
  i_0 5 (.astore 4) 2 none,
  i_0 7 (.aload 4) 2 none,
  i_j 9 (.ifnull 18) 3 none 14,
  i_0 12 (.iload_n 2) 1 none,
  i_j 13 (.ifCond .lt 14) 3 none 14,
  i_0 16 (.iload_n 2) 1 none,
  i_v 17 (.iconst 4) 1 none 4 [],
  i_j 18 (.if_icmp .gt 9) 3 none 14,
  i_0 21 (.iload_n 3) 1 none,
  i_v 22 (.bipush 60) 2 none 60 [],
  i_j 24 (.if_icmp .le 5) 3 none 16,
  i_v 27 (.iconst (-1)) 1 none (-1) [],
  i_0 28 (.ireturn) 1 none,
  i_0 29 (.iload_n 3) 1 none,
  i_j 30 (.ifCond .ge 6) 3 none 20,
  i_v 33 (.bipush (-14)) 2 none (-14) [],
  i_0 35 (.ireturn) 1 none,
  i_0 36 (.aload 4) 2 none,
  i_0 38 (.iload_n 2) 1 none,
  i_0 39 (.iload_n 3) 1 none,
  i_m 40 (.invokevirtual 361) 3 none 2 5 [873, 874, 875, 116, 876] 0 sX5_holdRow,
  i_v 43 (.iconst 1) 1 none 1 [],
  i_0 44 (.ireturn) 1 none]
set_option maxRecDepth 100000 in
theorem oX8_row : xm_ok sX8_row sX8_row.1.cls kX8_row = true := by decide +kernel
set_option maxRecDepth 100000 in
set_option maxHeartbeats 4000000 in
theorem xX8_row_0 {K : Nat} {h : xm_H} {P : Option Value → xm_H → Prop} {a0 : Nat} {x1 : Int32} {x2 : Int32} {x3 : Int32} (H :
    xm_Call K sX8_shelfAt 8 [.ref a0, .int x1] h (xm_pq (fun h1 =>
      P (some (.int (-1 : Int32))) h1) (fun q2 h1 =>
      (if x2 < 0 then
        P (some (.int (-1 : Int32))) h1
      else
        (if (4 : Int32) < x2 then
          P (some (.int (-1 : Int32))) h1
        else
          (if (60 : Int32) < x3 then
            P (some (.int (-1 : Int32))) h1
          else
            (if x3 < 0 then
              P (some (.int (-14 : Int32))) h1
            else
              xm_Call K sX5_holdRow 5 [.ref q2, .int x2, .int x3] h1 (xm_pv fun h3 =>
                P (some (.int (1 : Int32))) h3)))))))) :
    xm_L K sX8_row kX8_row 0 [some (.ref a0), some (.int x1), some (.int x2), some (.int x3), none] [] h P :=
  xm_run (fun _ _ h => h) oX8_row 23 0 0 0 [some (.ref a0), some (.int x1), some (.int x2), some (.int x3), none] [] h H
set_option maxRecDepth 100000 in
theorem eX8_row {K K' : Nat} (hK : K < K') {h : xm_H} {P : Option Value → xm_H → Prop} {a0 : Nat} {x1 : Int32} {x2 : Int32} {x3 : Int32} (hr : ∃ fs, h[a0]? = some (.inr (8, fs))) (H :
    xm_Call K sX8_shelfAt 8 [.ref a0, .int x1] h (xm_pq (fun h1 =>
      P (some (.int (-1 : Int32))) h1) (fun q2 h1 =>
      (if x2 < 0 then
        P (some (.int (-1 : Int32))) h1
      else
        (if (4 : Int32) < x2 then
          P (some (.int (-1 : Int32))) h1
        else
          (if (60 : Int32) < x3 then
            P (some (.int (-1 : Int32))) h1
          else
            (if x3 < 0 then
              P (some (.int (-14 : Int32))) h1
            else
              xm_Call K sX5_holdRow 5 [.ref q2, .int x2, .int x3] h1 (xm_pv fun h3 =>
                P (some (.int (1 : Int32))) h3)))))))) :
    xm_Call K' sX8_row 8 [.ref a0, .int x1, .int x2, .int x3] h P :=
  xm_call_of (C := kX8_row) hK (by decide +kernel) rfl (Nat.le_of_ble_eq_true rfl) (Or.inr ⟨a0, hr.choose, rfl, hr.choose_spec⟩) (xX8_row_0 H)

def kX8_put : List xm_I := [
  i_0 0 (.aload_n 0) 1 none,
  i_0 1 (.iload_n 1) 1 none,
  i_m 2 (.invokevirtual 93) 3 none 1 8 [396, 398, 0, 108, 399] 0 sX8_shelfAt,
  i_0 5 (.astore 5) 2 none,
  i_0 7 (.aload 5) 2 none,
  i_j 9 (.ifnonnull 5) 3 none 8,
  i_v 12 (.iconst (-1)) 1 none (-1) [],
  i_0 13 (.ireturn) 1 none,
  i_0 14 (.aload 5) 2 none,
  i_0 16 (.iload_n 2) 1 none,
  i_m 17 (.invokevirtual 364) 3 none 1 5 [883, 884, 885, 116, 886] 0 sX5_refusalAt,
  i_0 20 (.istore 6) 2 none,
  i_0 22 (.iload 6) 2 none,
  i_j 24 (.ifCond .eq 6) 3 none 16,
  i_0 27 (.iload 6) 2 none,
  i_0 29 (.ireturn) 1 none,
  i_0 30 (.aload 5) 2 none,
  i_0 32 (.iload_n 2) 1 none,
  i_0 33 (.lload_n 3) 1 none,
  i_m 34 (.invokevirtual 367) 3 none 2 5 [887, 888, 889, 116, 890] 0 sX5_set,
  i_v 37 (.iconst 1) 1 none 1 [],
  i_0 38 (.ireturn) 1 none]
set_option maxRecDepth 100000 in
theorem oX8_put : xm_ok sX8_put sX8_put.1.cls kX8_put = true := by decide +kernel
set_option maxRecDepth 100000 in
set_option maxHeartbeats 4000000 in
theorem xX8_put_0 {K : Nat} {h : xm_H} {P : Option Value → xm_H → Prop} {a0 : Nat} {x1 : Int32} {x2 : Int32} {y3 : Int64} (H :
    xm_Call K sX8_shelfAt 8 [.ref a0, .int x1] h (xm_pq (fun h1 =>
      P (some (.int (-1 : Int32))) h1) (fun q2 h1 =>
      xm_Call K sX5_refusalAt 5 [.ref q2, .int x2] h1 (xm_pi fun c4 h3 =>
        (if c4 = 0 then
          xm_Call K sX5_set 5 [.ref q2, .int x2, .long y3] h3 (xm_pv fun h5 =>
            P (some (.int (1 : Int32))) h5)
        else
          P (some (.int c4)) h3))))) :
    xm_L K sX8_put kX8_put 0 [some (.ref a0), some (.int x1), some (.int x2), some (.long y3), none, none, none] [] h P :=
  xm_run (fun _ _ h => h) oX8_put 19 0 0 0 [some (.ref a0), some (.int x1), some (.int x2), some (.long y3), none, none, none] [] h H
set_option maxRecDepth 100000 in
theorem eX8_put {K K' : Nat} (hK : K < K') {h : xm_H} {P : Option Value → xm_H → Prop} {a0 : Nat} {x1 : Int32} {x2 : Int32} {y3 : Int64} (hr : ∃ fs, h[a0]? = some (.inr (8, fs))) (H :
    xm_Call K sX8_shelfAt 8 [.ref a0, .int x1] h (xm_pq (fun h1 =>
      P (some (.int (-1 : Int32))) h1) (fun q2 h1 =>
      xm_Call K sX5_refusalAt 5 [.ref q2, .int x2] h1 (xm_pi fun c4 h3 =>
        (if c4 = 0 then
          xm_Call K sX5_set 5 [.ref q2, .int x2, .long y3] h3 (xm_pv fun h5 =>
            P (some (.int (1 : Int32))) h5)
        else
          P (some (.int c4)) h3))))) :
    xm_Call K' sX8_put 8 [.ref a0, .int x1, .int x2, .long y3] h P :=
  xm_call_of (C := kX8_put) hK (by decide +kernel) rfl (Nat.le_of_ble_eq_true rfl) (Or.inr ⟨a0, hr.choose, rfl, hr.choose_spec⟩) (xX8_put_0 H)

def kX8_element : List xm_I := [
  i_0 0 (.aload_n 0) 1 none,
  i_0 1 (.iload_n 1) 1 none,
  i_m 2 (.invokevirtual 93) 3 none 1 8 [396, 398, 0, 108, 399] 0 sX8_shelfAt,
  i_0 5 (.astore_n 3) 1 none,
  i_0 6 (.aload_n 3) 1 none,
  i_j 7 (.ifnull 11) 3 none 10,
  i_0 10 (.aload_n 3) 1 none,
  i_0 11 (.iload_n 2) 1 none,
  i_m 12 (.invokevirtual 364) 3 none 1 5 [883, 884, 885, 116, 886] 0 sX5_refusalAt,
  i_j 15 (.ifCond .eq 7) 3 none 12,
  i_w 18 (.ldc2_w 372) 3 none (-9223372036854775808) [899],
  i_0 21 (.lreturn) 1 none,
  i_0 22 (.aload_n 3) 1 none,
  i_0 23 (.iload_n 2) 1 none,
  i_m 24 (.invokevirtual 107) 3 none 1 5 [408, 409, 410, 116, 411] 0 sX5_get,
  i_0 27 (.lreturn) 1 none]
set_option maxRecDepth 100000 in
theorem oX8_element : xm_ok sX8_element sX8_element.1.cls kX8_element = true := by decide +kernel
set_option maxRecDepth 100000 in
set_option maxHeartbeats 4000000 in
theorem xX8_element_0 {K : Nat} {h : xm_H} {P : Option Value → xm_H → Prop} {a0 : Nat} {x1 : Int32} {x2 : Int32} (H :
    xm_Call K sX8_shelfAt 8 [.ref a0, .int x1] h (xm_pq (fun h1 =>
      P (some (.long (-9223372036854775808 : Int64))) h1) (fun q2 h1 =>
      xm_Call K sX5_refusalAt 5 [.ref q2, .int x2] h1 (xm_pi fun c4 h3 =>
        (if c4 = 0 then
          xm_Call K sX5_get 5 [.ref q2, .int x2] h3 (xm_pl fun c6 h5 =>
            P (some (.long c6)) h5)
        else
          P (some (.long (-9223372036854775808 : Int64))) h3))))) :
    xm_L K sX8_element kX8_element 0 [some (.ref a0), some (.int x1), some (.int x2), none] [] h P :=
  xm_run (fun _ _ h => h) oX8_element 15 0 0 0 [some (.ref a0), some (.int x1), some (.int x2), none] [] h H
set_option maxRecDepth 100000 in
theorem eX8_element {K K' : Nat} (hK : K < K') {h : xm_H} {P : Option Value → xm_H → Prop} {a0 : Nat} {x1 : Int32} {x2 : Int32} (hr : ∃ fs, h[a0]? = some (.inr (8, fs))) (H :
    xm_Call K sX8_shelfAt 8 [.ref a0, .int x1] h (xm_pq (fun h1 =>
      P (some (.long (-9223372036854775808 : Int64))) h1) (fun q2 h1 =>
      xm_Call K sX5_refusalAt 5 [.ref q2, .int x2] h1 (xm_pi fun c4 h3 =>
        (if c4 = 0 then
          xm_Call K sX5_get 5 [.ref q2, .int x2] h3 (xm_pl fun c6 h5 =>
            P (some (.long c6)) h5)
        else
          P (some (.long (-9223372036854775808 : Int64))) h3))))) :
    xm_Call K' sX8_element 8 [.ref a0, .int x1, .int x2] h P :=
  xm_call_of (C := kX8_element) hK (by decide +kernel) rfl (Nat.le_of_ble_eq_true rfl) (Or.inr ⟨a0, hr.choose, rfl, hr.choose_spec⟩) (xX8_element_0 H)

def kX8_shift : List xm_I := [
  i_0 0 (.aload_n 0) 1 none,
  i_0 1 (.iload_n 1) 1 none,
  i_m 2 (.invokevirtual 93) 3 none 1 8 [396, 398, 0, 108, 399] 0 sX8_shelfAt,
  i_0 5 (.astore 6) 2 none,
  i_0 7 (.aload_n 0) 1 none,
  i_0 8 (.iload_n 3) 1 none,
  i_m 9 (.invokevirtual 93) 3 none 1 8 [396, 398, 0, 108, 399] 0 sX8_shelfAt,
  i_0 12 (.astore 7) 2 none,
  i_0 14 (.aload 6) 2 none,
  i_j 16 (.ifnull 8) 3 none 12,
  i_0 19 (.aload 7) 2 none,
  i_j 21 (.ifnonnull 5) 3 none 14,
  i_v 24 (.iconst (-1)) 1 none (-1) [],
  i_0 25 (.ireturn) 1 none,
  i_0 26 (.aload 6) 2 none,
  i_f 28 (.getfield 97) 3 none 5 0 [311] 0,
  i_v 31 (.iconst (-1)) 1 none (-1) [],
  i_j 32 (.if_icmp .eq 12) 3 none 22,
  i_0 35 (.aload 7) 2 none,
  i_f 37 (.getfield 97) 3 none 5 0 [311] 0,
  i_v 40 (.iconst (-1)) 1 none (-1) [],
  i_j 41 (.if_icmp .ne 6) 3 none 24,
  i_v 44 (.bipush (-11)) 2 none (-11) [],
  i_0 46 (.ireturn) 1 none,
  i_0 47 (.aload 6) 2 none,
  i_f 49 (.getfield 97) 3 none 5 0 [311] 0,
  i_v 52 (.iconst 5) 1 none 5 [],
  i_j 53 (.if_icmp .eq 16) 3 none 33,
  i_0 56 (.aload 6) 2 none,
  i_f 58 (.getfield 97) 3 none 5 0 [311] 0,
  i_0 61 (.aload 7) 2 none,
  i_f 63 (.getfield 97) 3 none 5 0 [311] 0,
  i_j 66 (.if_icmp .eq 6) 3 none 35,
  i_v 69 (.bipush (-12)) 2 none (-12) [],
  i_0 71 (.ireturn) 1 none,
  i_0 72 (.aload 6) 2 none,
  i_0 74 (.iload_n 2) 1 none,
  i_0 75 (.iload 5) 2 none,
  i_m 77 (.invokevirtual 100) 3 none 2 5 [400, 401, 402, 116, 403] 0 sX5_hasPlaces,
  i_j 80 (.ifCond .eq 15) 3 none 45,
  i_0 83 (.aload 7) 2 none,
  i_0 85 (.iload 4) 2 none,
  i_0 87 (.iload 5) 2 none,
  i_m 89 (.invokevirtual 100) 3 none 2 5 [400, 401, 402, 116, 403] 0 sX5_hasPlaces,
  i_j 92 (.ifCond .ne 6) 3 none 47,
  i_v 95 (.bipush (-13)) 2 none (-13) [],
  i_0 97 (.ireturn) 1 none,
  i_0 98 (.aload 6) 2 none,
  i_f 100 (.getfield 374) 3 none 5 3 [317] 1,
  i_0 103 (.iload_n 2) 1 none,
  i_0 104 (.aload 7) 2 none,
  i_f 106 (.getfield 374) 3 none 5 3 [317] 1,
  i_0 109 (.iload 4) 2 none,
  i_0 111 (.iload 5) 2 none,
  i_f 113 (.invokestatic 320) 3 none 0 1 [792, 427, 426, 118] 3,
  i_0 116 (.iload 5) 2 none,
  i_0 118 (.ireturn) 1 none]
set_option maxRecDepth 100000 in
theorem oX8_shift : xm_ok sX8_shift sX8_shift.1.cls kX8_shift = true := by decide +kernel
set_option maxRecDepth 100000 in
set_option maxHeartbeats 4000000 in
theorem xX8_shift_0 {K : Nat} {h : xm_H} {P : Option Value → xm_H → Prop} {a0 : Nat} {x1 : Int32} {x2 : Int32} {x3 : Int32} {x4 : Int32} {x5 : Int32} (H :
    xm_Call K sX8_shelfAt 8 [.ref a0, .int x1] h (xm_pq (fun h1 =>
      xm_Call K sX8_shelfAt 8 [.ref a0, .int x3] h1 (xm_pq (fun h3 =>
        P (some (.int (-1 : Int32))) h3) (fun q4 h3 =>
        P (some (.int (-1 : Int32))) h3))) (fun q2 h1 =>
      xm_Call K sX8_shelfAt 8 [.ref a0, .int x3] h1 (xm_pq (fun h5 =>
        P (some (.int (-1 : Int32))) h5) (fun q6 h5 =>
        ∃ f7, xm_fld h5 q2 5 0 = some (.int f7) ∧ /- sort -/
        (if f7 = (-1 : Int32) then
          P (some (.int (-11 : Int32))) h5
        else
          ∃ f8, xm_fld h5 q6 5 0 = some (.int f8) ∧ /- sort -/
          (if f8 = (-1 : Int32) then
            P (some (.int (-11 : Int32))) h5
          else
            ∃ f9, xm_fld h5 q2 5 0 = some (.int f9) ∧ /- sort -/
            (if f9 = (5 : Int32) then
              P (some (.int (-12 : Int32))) h5
            else
              ∃ f10, xm_fld h5 q2 5 0 = some (.int f10) ∧ /- sort -/
              ∃ f11, xm_fld h5 q6 5 0 = some (.int f11) ∧ /- sort -/
              (if f10 = f11 then
                xm_Call K sX5_hasPlaces 5 [.ref q2, .int x2, .int x5] h5 (xm_pi fun c13 h12 =>
                  (if c13 = 0 then
                    P (some (.int (-13 : Int32))) h12
                  else
                    xm_Call K sX5_hasPlaces 5 [.ref q6, .int x4, .int x5] h12 (xm_pi fun c15 h14 =>
                      (if c15 = 0 then
                        P (some (.int (-13 : Int32))) h14
                      else
                        ∃ q16, xm_fld h14 q2 5 3 = some (.ref q16) ∧ /- elements -/
                        ∃ q17, xm_fld h14 q6 5 3 = some (.ref q17) ∧ /- elements -/
                        ∃ h18, xm_cpL h14 q16 x2 q17 x4 x5 = some h18 ∧
                        P (some (.int x5)) h18))))
              else
                P (some (.int (-12 : Int32))) h5))))))))) :
    xm_L K sX8_shift kX8_shift 0 [some (.ref a0), some (.int x1), some (.int x2), some (.int x3), some (.int x4), some (.int x5), none, none] [] h P :=
  xm_run (fun _ _ h => h) oX8_shift 50 0 0 0 [some (.ref a0), some (.int x1), some (.int x2), some (.int x3), some (.int x4), some (.int x5), none, none] [] h H
set_option maxRecDepth 100000 in
theorem eX8_shift {K K' : Nat} (hK : K < K') {h : xm_H} {P : Option Value → xm_H → Prop} {a0 : Nat} {x1 : Int32} {x2 : Int32} {x3 : Int32} {x4 : Int32} {x5 : Int32} (hr : ∃ fs, h[a0]? = some (.inr (8, fs))) (H :
    xm_Call K sX8_shelfAt 8 [.ref a0, .int x1] h (xm_pq (fun h1 =>
      xm_Call K sX8_shelfAt 8 [.ref a0, .int x3] h1 (xm_pq (fun h3 =>
        P (some (.int (-1 : Int32))) h3) (fun q4 h3 =>
        P (some (.int (-1 : Int32))) h3))) (fun q2 h1 =>
      xm_Call K sX8_shelfAt 8 [.ref a0, .int x3] h1 (xm_pq (fun h5 =>
        P (some (.int (-1 : Int32))) h5) (fun q6 h5 =>
        ∃ f7, xm_fld h5 q2 5 0 = some (.int f7) ∧ /- sort -/
        (if f7 = (-1 : Int32) then
          P (some (.int (-11 : Int32))) h5
        else
          ∃ f8, xm_fld h5 q6 5 0 = some (.int f8) ∧ /- sort -/
          (if f8 = (-1 : Int32) then
            P (some (.int (-11 : Int32))) h5
          else
            ∃ f9, xm_fld h5 q2 5 0 = some (.int f9) ∧ /- sort -/
            (if f9 = (5 : Int32) then
              P (some (.int (-12 : Int32))) h5
            else
              ∃ f10, xm_fld h5 q2 5 0 = some (.int f10) ∧ /- sort -/
              ∃ f11, xm_fld h5 q6 5 0 = some (.int f11) ∧ /- sort -/
              (if f10 = f11 then
                xm_Call K sX5_hasPlaces 5 [.ref q2, .int x2, .int x5] h5 (xm_pi fun c13 h12 =>
                  (if c13 = 0 then
                    P (some (.int (-13 : Int32))) h12
                  else
                    xm_Call K sX5_hasPlaces 5 [.ref q6, .int x4, .int x5] h12 (xm_pi fun c15 h14 =>
                      (if c15 = 0 then
                        P (some (.int (-13 : Int32))) h14
                      else
                        ∃ q16, xm_fld h14 q2 5 3 = some (.ref q16) ∧ /- elements -/
                        ∃ q17, xm_fld h14 q6 5 3 = some (.ref q17) ∧ /- elements -/
                        ∃ h18, xm_cpL h14 q16 x2 q17 x4 x5 = some h18 ∧
                        P (some (.int x5)) h18))))
              else
                P (some (.int (-12 : Int32))) h5))))))))) :
    xm_Call K' sX8_shift 8 [.ref a0, .int x1, .int x2, .int x3, .int x4, .int x5] h P :=
  xm_call_of (C := kX8_shift) hK (by decide +kernel) rfl (Nat.le_of_ble_eq_true rfl) (Or.inr ⟨a0, hr.choose, rfl, hr.choose_spec⟩) (xX8_shift_0 H)

def kX8_taken : List xm_I := [
  i_0 0 (.aload_n 0) 1 none,
  i_0 1 (.iload_n 1) 1 none,
  i_m 2 (.invokevirtual 93) 3 none 1 8 [396, 398, 0, 108, 399] 0 sX8_shelfAt,
  i_0 5 (.astore_n 3) 1 none,
  i_0 6 (.aload_n 3) 1 none,
  i_j 7 (.ifnull 10) 3 none 9,
  i_0 10 (.iload_n 2) 1 none,
  i_m 11 (.invokestatic 339) 3 none 1 99 [820, 821, 108, 822] 0 sX8_isKind,
  i_j 14 (.ifCond .ne 5) 3 none 11,
  i_v 17 (.iconst (-1)) 1 none (-1) [],
  i_0 18 (.ireturn) 1 none,
  i_0 19 (.aload_n 3) 1 none,
  i_f 20 (.getfield 97) 3 none 5 0 [311] 0,
  i_v 23 (.iconst (-1)) 1 none (-1) [],
  i_j 24 (.if_icmp .ne 6) 3 none 17,
  i_v 27 (.bipush (-11)) 2 none (-11) [],
  i_0 29 (.ireturn) 1 none,
  i_0 30 (.aload_n 3) 1 none,
  i_f 31 (.getfield 97) 3 none 5 0 [311] 0,
  i_v 34 (.iconst 5) 1 none 5 [],
  i_j 35 (.if_icmp .ne 17) 3 none 27,
  i_0 38 (.aload_n 0) 1 none,
  i_f 39 (.getfield 67) 3 none 8 11 [339] 1,
  i_0 42 (.aload_n 3) 1 none,
  i_f 43 (.getfield 358) 3 none 5 1 [313] 0,
  i_m 46 (.invokevirtual 357) 3 none 1 1 [868, 836, 837, 115, 838] 0 sX1_has,
  i_j 49 (.ifCond .ne 6) 3 none 29,
  i_v 52 (.bipush (-12)) 2 none (-12) [],
  i_0 54 (.ireturn) 1 none,
  i_0 55 (.aload_n 0) 1 none,
  i_f 56 (.getfield 67) 3 none 8 11 [339] 1,
  i_f 59 (.getfield 378) 3 none 1 0 [284] 1,
  i_0 62 (.aload_n 3) 1 none,
  i_f 63 (.getfield 358) 3 none 5 1 [313] 0,
  i_0 66 (.iaload) 1 none,
  i_0 67 (.istore 4) 2 none,
  i_0 69 (.aload_n 0) 1 none,
  i_f 70 (.getfield 67) 3 none 8 11 [339] 1,
  i_0 73 (.iload 4) 2 none,
  i_0 75 (.iload_n 2) 1 none,
  i_m 76 (.invokevirtual 381) 3 none 2 1 [908, 909, 910, 115, 911] 0 sX1_isUnder,
  i_j 79 (.ifCond .eq 8) 3 none 44,
  i_0 82 (.iload 4) 2 none,
  i_j 84 (.goto 5) 3 none 45,
  i_v 87 (.bipush (-12)) 2 none (-12) [],
  i_0 89 (.ireturn) 1 none]
set_option maxRecDepth 100000 in
theorem oX8_taken : xm_ok sX8_taken sX8_taken.1.cls kX8_taken = true := by decide +kernel
set_option maxRecDepth 100000 in
set_option maxHeartbeats 4000000 in
theorem xX8_taken_0 {K : Nat} {h : xm_H} {P : Option Value → xm_H → Prop} {a0 : Nat} {x1 : Int32} {x2 : Int32} (H :
    xm_Call K sX8_shelfAt 8 [.ref a0, .int x1] h (xm_pq (fun h1 =>
      P (some (.int (-1 : Int32))) h1) (fun q2 h1 =>
      xm_Call K sX8_isKind 99 [.int x2] h1 (xm_pi fun c4 h3 =>
        (if c4 = 0 then
          P (some (.int (-1 : Int32))) h3
        else
          ∃ f5, xm_fld h3 q2 5 0 = some (.int f5) ∧ /- sort -/
          (if f5 = (-1 : Int32) then
            P (some (.int (-11 : Int32))) h3
          else
            ∃ f6, xm_fld h3 q2 5 0 = some (.int f6) ∧ /- sort -/
            (if f6 = (5 : Int32) then
              ∃ q7, xm_fld h3 a0 8 11 = some (.ref q7) ∧ /- bodies -/
              ∃ f8, xm_fld h3 q2 5 1 = some (.int f8) ∧ /- body -/
              xm_Call K sX1_has 1 [.ref q7, .int f8] h3 (xm_pi fun c10 h9 =>
                (if c10 = 0 then
                  P (some (.int (-12 : Int32))) h9
                else
                  ∃ q11, xm_fld h9 a0 8 11 = some (.ref q11) ∧ /- bodies -/
                  ∃ q12, xm_fld h9 q11 1 0 = some (.ref q12) ∧ /- kinds -/
                  ∃ f13, xm_fld h9 q2 5 1 = some (.int f13) ∧ /- body -/
                  ∃ e14, xm_ld xm_st h9 0 q12 f13 = some e14 ∧
                  ∃ q15, xm_fld h9 a0 8 11 = some (.ref q15) ∧ /- bodies -/
                  xm_Call K sX1_isUnder 1 [.ref q15, .int e14, .int x2] h9 (xm_pi fun c17 h16 =>
                    (if c17 = 0 then
                      P (some (.int (-12 : Int32))) h16
                    else
                      P (some (.int e14)) h16))))
            else
              P (some (.int (-12 : Int32))) h3))))))) :
    xm_L K sX8_taken kX8_taken 0 [some (.ref a0), some (.int x1), some (.int x2), none, none] [] h P :=
  xm_run (fun _ _ h => h) oX8_taken 40 0 0 0 [some (.ref a0), some (.int x1), some (.int x2), none, none] [] h H
set_option maxRecDepth 100000 in
theorem eX8_taken {K K' : Nat} (hK : K < K') {h : xm_H} {P : Option Value → xm_H → Prop} {a0 : Nat} {x1 : Int32} {x2 : Int32} (hr : ∃ fs, h[a0]? = some (.inr (8, fs))) (H :
    xm_Call K sX8_shelfAt 8 [.ref a0, .int x1] h (xm_pq (fun h1 =>
      P (some (.int (-1 : Int32))) h1) (fun q2 h1 =>
      xm_Call K sX8_isKind 99 [.int x2] h1 (xm_pi fun c4 h3 =>
        (if c4 = 0 then
          P (some (.int (-1 : Int32))) h3
        else
          ∃ f5, xm_fld h3 q2 5 0 = some (.int f5) ∧ /- sort -/
          (if f5 = (-1 : Int32) then
            P (some (.int (-11 : Int32))) h3
          else
            ∃ f6, xm_fld h3 q2 5 0 = some (.int f6) ∧ /- sort -/
            (if f6 = (5 : Int32) then
              ∃ q7, xm_fld h3 a0 8 11 = some (.ref q7) ∧ /- bodies -/
              ∃ f8, xm_fld h3 q2 5 1 = some (.int f8) ∧ /- body -/
              xm_Call K sX1_has 1 [.ref q7, .int f8] h3 (xm_pi fun c10 h9 =>
                (if c10 = 0 then
                  P (some (.int (-12 : Int32))) h9
                else
                  ∃ q11, xm_fld h9 a0 8 11 = some (.ref q11) ∧ /- bodies -/
                  ∃ q12, xm_fld h9 q11 1 0 = some (.ref q12) ∧ /- kinds -/
                  ∃ f13, xm_fld h9 q2 5 1 = some (.int f13) ∧ /- body -/
                  ∃ e14, xm_ld xm_st h9 0 q12 f13 = some e14 ∧
                  ∃ q15, xm_fld h9 a0 8 11 = some (.ref q15) ∧ /- bodies -/
                  xm_Call K sX1_isUnder 1 [.ref q15, .int e14, .int x2] h9 (xm_pi fun c17 h16 =>
                    (if c17 = 0 then
                      P (some (.int (-12 : Int32))) h16
                    else
                      P (some (.int e14)) h16))))
            else
              P (some (.int (-12 : Int32))) h3))))))) :
    xm_Call K' sX8_taken 8 [.ref a0, .int x1, .int x2] h P :=
  xm_call_of (C := kX8_taken) hK (by decide +kernel) rfl (Nat.le_of_ble_eq_true rfl) (Or.inr ⟨a0, hr.choose, rfl, hr.choose_spec⟩) (xX8_taken_0 H)

def kX8_count : List xm_I := [
  i_0 0 (.iload_n 1) 1 none,
  i_s 1 (.tableswitch 84 0 5 #[39, 47, 52, 60, 68, 76]) 39 none 25 [(0, 2), (1, 6), (2, 9), (3, 13), (4, 17), (5, 21)],
  i_0 40 (.aload_n 0) 1 none,
  i_f 41 (.getfield 10) 3 none 8 0 [328] 1,
  i_f 44 (.getfield 89) 3 none 7 1 [140] 0,
  i_0 47 (.ireturn) 1 none,
  i_0 48 (.aload_n 0) 1 none,
  i_m 49 (.invokevirtual 384) 3 none 0 8 [916, 918, 33, 108, 919] 0 sX8_howManyAssessed,
  i_0 52 (.ireturn) 1 none,
  i_0 53 (.aload_n 0) 1 none,
  i_f 54 (.getfield 29) 3 none 8 3 [331] 1,
  i_f 57 (.getfield 126) 3 none 3 1 [219] 0,
  i_0 60 (.ireturn) 1 none,
  i_0 61 (.aload_n 0) 1 none,
  i_f 62 (.getfield 36) 3 none 8 4 [332] 1,
  i_f 65 (.getfield 326) 3 none 2 3 [247] 0,
  i_0 68 (.ireturn) 1 none,
  i_0 69 (.aload_n 0) 1 none,
  i_f 70 (.getfield 67) 3 none 8 11 [339] 1,
  i_f 73 (.getfield 345) 3 none 1 1 [286] 0,
  i_0 76 (.ireturn) 1 none,
  i_0 77 (.aload_n 0) 1 none,
  i_f 78 (.getfield 67) 3 none 8 11 [339] 1,
  i_f 81 (.getfield 351) 3 none 1 3 [290] 0,
  i_0 84 (.ireturn) 1 none,
  i_v 85 (.iconst (-1)) 1 none (-1) [],
  i_0 86 (.ireturn) 1 none]
set_option maxRecDepth 100000 in
theorem oX8_count : xm_ok sX8_count sX8_count.1.cls kX8_count = true := by decide +kernel
set_option maxRecDepth 100000 in
set_option maxHeartbeats 4000000 in
theorem xX8_count_0 {K : Nat} {h : xm_H} {P : Option Value → xm_H → Prop} {a0 : Nat} {x1 : Int32} (H :
    (if x1 = 0 then
      ∃ q1, xm_fld h a0 8 0 = some (.ref q1) ∧ /- now -/
      ∃ f2, xm_fld h q1 7 1 = some (.int f2) ∧ /- people -/
      P (some (.int f2)) h
    else
    (if x1 = 1 then
      xm_Call K sX8_howManyAssessed 8 [.ref a0] h (xm_pi fun c4 h3 =>
        P (some (.int c4)) h3)
    else
    (if x1 = 2 then
      ∃ q5, xm_fld h a0 8 3 = some (.ref q5) ∧ /- reader -/
      ∃ f6, xm_fld h q5 3 1 = some (.int f6) ∧ /- fed -/
      P (some (.int f6)) h
    else
    (if x1 = 3 then
      ∃ q7, xm_fld h a0 8 4 = some (.ref q7) ∧ /- changes -/
      ∃ f8, xm_fld h q7 2 3 = some (.int f8) ∧ /- done -/
      P (some (.int f8)) h
    else
    (if x1 = 4 then
      ∃ q9, xm_fld h a0 8 11 = some (.ref q9) ∧ /- bodies -/
      ∃ f10, xm_fld h q9 1 1 = some (.int f10) ∧ /- made -/
      P (some (.int f10)) h
    else
    (if x1 = 5 then
      ∃ q11, xm_fld h a0 8 11 = some (.ref q11) ∧ /- bodies -/
      ∃ f12, xm_fld h q11 1 3 = some (.int f12) ∧ /- ran -/
      P (some (.int f12)) h
    else
    P (some (.int (-1 : Int32))) h))))))) :
    xm_L K sX8_count kX8_count 0 [some (.ref a0), some (.int x1)] [] h P :=
  xm_run (fun _ _ h => h) oX8_count 7 0 0 0 [some (.ref a0), some (.int x1)] [] h H
set_option maxRecDepth 100000 in
theorem eX8_count {K K' : Nat} (hK : K < K') {h : xm_H} {P : Option Value → xm_H → Prop} {a0 : Nat} {x1 : Int32} (hr : ∃ fs, h[a0]? = some (.inr (8, fs))) (H :
    (if x1 = 0 then
      ∃ q1, xm_fld h a0 8 0 = some (.ref q1) ∧ /- now -/
      ∃ f2, xm_fld h q1 7 1 = some (.int f2) ∧ /- people -/
      P (some (.int f2)) h
    else
    (if x1 = 1 then
      xm_Call K sX8_howManyAssessed 8 [.ref a0] h (xm_pi fun c4 h3 =>
        P (some (.int c4)) h3)
    else
    (if x1 = 2 then
      ∃ q5, xm_fld h a0 8 3 = some (.ref q5) ∧ /- reader -/
      ∃ f6, xm_fld h q5 3 1 = some (.int f6) ∧ /- fed -/
      P (some (.int f6)) h
    else
    (if x1 = 3 then
      ∃ q7, xm_fld h a0 8 4 = some (.ref q7) ∧ /- changes -/
      ∃ f8, xm_fld h q7 2 3 = some (.int f8) ∧ /- done -/
      P (some (.int f8)) h
    else
    (if x1 = 4 then
      ∃ q9, xm_fld h a0 8 11 = some (.ref q9) ∧ /- bodies -/
      ∃ f10, xm_fld h q9 1 1 = some (.int f10) ∧ /- made -/
      P (some (.int f10)) h
    else
    (if x1 = 5 then
      ∃ q11, xm_fld h a0 8 11 = some (.ref q11) ∧ /- bodies -/
      ∃ f12, xm_fld h q11 1 3 = some (.int f12) ∧ /- ran -/
      P (some (.int f12)) h
    else
    P (some (.int (-1 : Int32))) h))))))) :
    xm_Call K' sX8_count 8 [.ref a0, .int x1] h P :=
  xm_call_of (C := kX8_count) hK (by decide +kernel) rfl (Nat.le_of_ble_eq_true rfl) (Or.inr ⟨a0, hr.choose, rfl, hr.choose_spec⟩) (xX8_count_0 H)

def kX8_howManyAssessed : List xm_I := [
  i_0 0 (.aload_n 0) 1 none,
  i_f 1 (.getfield 22) 3 none 8 2 [330] 1,
  i_0 4 (.aload_n 0) 1 none,
  i_f 5 (.getfield 10) 3 none 8 0 [328] 1,
  i_m 8 (.invokevirtual 163) 3 none 1 4 [546, 547, 548, 110, 549] 0 sX4_reckon,
  i_v 11 (.iconst 0) 1 none 0 [],
  i_0 12 (.istore_n 1) 1 none,
  i_v 13 (.iconst 0) 1 none 0 [],
  i_0 14 (.istore_n 2) 1 none,
  i_0 15 (.iload_n 2) 1 (some [true, true, true]),
  i_0 16 (.aload_n 0) 1 none,
  i_f 17 (.getfield 10) 3 none 8 0 [328] 1,
  i_f 20 (.getfield 89) 3 none 7 1 [140] 0,
  i_j 23 (.if_icmp .ge 29) 3 none 28,
  i_0 26 (.iload_n 1) 1 none,
  i_0 27 (.aload_n 0) 1 none,
  i_f 28 (.getfield 22) 3 none 8 2 [330] 1,
  i_f 31 (.getfield 226) 3 none 4 3 [175] 1,
  i_0 34 (.iload_n 2) 1 none,
  i_0 35 (.iaload) 1 none,
  i_j 36 (.ifCond .le 7) 3 none 23,
  i_v 39 (.iconst 1) 1 none 1 [],
  i_j 40 (.goto 4) 3 none 24,
  i_v 43 (.iconst 0) 1 none 0 [],
  i_0 44 (.iadd) 1 none,
  i_0 45 (.istore_n 1) 1 none,
  i_v 46 (.iinc 2 1) 3 none 1 [],
  i_j 49 (.goto (-34)) 3 none 9,
  i_0 52 (.iload_n 1) 1 none,
  i_0 53 (.ireturn) 1 none]
set_option maxRecDepth 100000 in
theorem oX8_howManyAssessed : xm_ok sX8_howManyAssessed sX8_howManyAssessed.1.cls kX8_howManyAssessed = true := by decide +kernel
set_option maxRecDepth 100000 in
set_option maxHeartbeats 4000000 in
theorem xX8_howManyAssessed_0 {K : Nat} {h : xm_H} {P : Option Value → xm_H → Prop} {a0 : Nat} (H :
    ∃ q1, xm_fld h a0 8 2 = some (.ref q1) ∧ /- reckoner -/
    ∃ q2, xm_fld h a0 8 0 = some (.ref q2) ∧ /- now -/
    xm_Call K sX4_reckon 4 [.ref q1, .ref q2] h (xm_pv fun h3 =>
      xm_L K sX8_howManyAssessed kX8_howManyAssessed 9 [some (.ref a0), some (.int (0 : Int32)), some (.int (0 : Int32))] [] h3 P)) :
    xm_L K sX8_howManyAssessed kX8_howManyAssessed 0 [some (.ref a0), none, none] [] h P :=
  xm_run (fun _ _ h => h) oX8_howManyAssessed 10 0 0 0 [some (.ref a0), none, none] [] h H
set_option maxRecDepth 100000 in
theorem eX8_howManyAssessed {K K' : Nat} (hK : K < K') {h : xm_H} {P : Option Value → xm_H → Prop} {a0 : Nat} (hr : ∃ fs, h[a0]? = some (.inr (8, fs))) (H :
    ∃ q1, xm_fld h a0 8 2 = some (.ref q1) ∧ /- reckoner -/
    ∃ q2, xm_fld h a0 8 0 = some (.ref q2) ∧ /- now -/
    xm_Call K sX4_reckon 4 [.ref q1, .ref q2] h (xm_pv fun h3 =>
      xm_L K sX8_howManyAssessed kX8_howManyAssessed 9 [some (.ref a0), some (.int (0 : Int32)), some (.int (0 : Int32))] [] h3 P)) :
    xm_Call K' sX8_howManyAssessed 8 [.ref a0] h P :=
  xm_call_of (C := kX8_howManyAssessed) hK (by decide +kernel) rfl (Nat.le_of_ble_eq_true rfl) (Or.inr ⟨a0, hr.choose, rfl, hr.choose_spec⟩) (xX8_howManyAssessed_0 H)

set_option maxRecDepth 100000 in
set_option maxHeartbeats 4000000 in
theorem xX8_howManyAssessed_9 {K : Nat} {h : xm_H} {P : Option Value → xm_H → Prop} {a0 : Nat} {x1 : Int32} {x2 : Int32} (H :
    ∃ q1, xm_fld h a0 8 0 = some (.ref q1) ∧ /- now -/
    ∃ f2, xm_fld h q1 7 1 = some (.int f2) ∧ /- people -/
    (if x2 < f2 then
      ∃ q3, xm_fld h a0 8 2 = some (.ref q3) ∧ /- reckoner -/
      ∃ q4, xm_fld h q3 4 3 = some (.ref q4) ∧ /- assessed -/
      ∃ e5, xm_ld xm_st h 0 q4 x2 = some e5 ∧
      (if 0 < e5 then
        xm_L K sX8_howManyAssessed kX8_howManyAssessed 9 [some (.ref a0), some (.int (x1 + (1 : Int32))), some (.int (x2 + (1 : Int32)))] [] h P
      else
        xm_L K sX8_howManyAssessed kX8_howManyAssessed 9 [some (.ref a0), some (.int (x1 + (0 : Int32))), some (.int (x2 + (1 : Int32)))] [] h P)
    else
      P (some (.int x1)) h)) :
    xm_L K sX8_howManyAssessed kX8_howManyAssessed 9 [some (.ref a0), some (.int x1), some (.int x2)] [] h P :=
  xm_run (fun _ _ h => h) oX8_howManyAssessed 19 9 0 0 [some (.ref a0), some (.int x1), some (.int x2)] [] h H

def kX8_isWithin : List xm_I := [
  i_0 0 (.iload_n 0) 1 none,
  i_j 1 (.ifCond .lt 31) 3 none 17,
  i_0 4 (.iload_n 0) 1 none,
  i_v 5 (.bipush 10) 2 none 10 [],
  i_j 7 (.if_icmp .gt 25) 3 none 17,
  i_0 10 (.iload_n 1) 1 none,
  i_f 11 (.getstatic 210) 3 none 0 0 [375] 0,
  i_0 14 (.iload_n 0) 1 none,
  i_0 15 (.iaload) 1 none,
  i_j 16 (.if_icmp .lt 16) 3 none 17,
  i_0 19 (.iload_n 1) 1 none,
  i_f 20 (.getstatic 213) 3 none 1 0 [377] 0,
  i_0 23 (.iload_n 0) 1 none,
  i_0 24 (.iaload) 1 none,
  i_j 25 (.if_icmp .gt 7) 3 none 17,
  i_v 28 (.iconst 1) 1 none 1 [],
  i_j 29 (.goto 4) 3 none 18,
  i_v 32 (.iconst 0) 1 none 0 [],
  i_0 33 (.ireturn) 1 none]
set_option maxRecDepth 100000 in
theorem oX8_isWithin : xm_ok sX8_isWithin sX8_isWithin.1.cls kX8_isWithin = true := by decide +kernel
set_option maxRecDepth 100000 in
set_option maxHeartbeats 4000000 in
theorem xX8_isWithin_0 {K : Nat} {h : xm_H} {P : Option Value → xm_H → Prop} {x0 : Int32} {x1 : Int32} (H :
    (if x0 < 0 then
      P (some (.int (0 : Int32))) h
    else
      (if (10 : Int32) < x0 then
        P (some (.int (0 : Int32))) h
      else
        ∃ e1, xm_ld xm_st h 0 (1000 + 0) x0 = some e1 ∧
        (if x1 < e1 then
          P (some (.int (0 : Int32))) h
        else
          ∃ e2, xm_ld xm_st h 0 (1000 + 1) x0 = some e2 ∧
          (if e2 < x1 then
            P (some (.int (0 : Int32))) h
          else
            P (some (.int (1 : Int32))) h))))) :
    xm_L K sX8_isWithin kX8_isWithin 0 [some (.int x0), some (.int x1)] [] h P :=
  xm_run (fun _ _ h => h) oX8_isWithin 19 0 0 0 [some (.int x0), some (.int x1)] [] h H
set_option maxRecDepth 100000 in
theorem eX8_isWithin {K K' : Nat} (hK : K < K') {h : xm_H} {P : Option Value → xm_H → Prop} {x0 : Int32} {x1 : Int32} (H :
    (if x0 < 0 then
      P (some (.int (0 : Int32))) h
    else
      (if (10 : Int32) < x0 then
        P (some (.int (0 : Int32))) h
      else
        ∃ e1, xm_ld xm_st h 0 (1000 + 0) x0 = some e1 ∧
        (if x1 < e1 then
          P (some (.int (0 : Int32))) h
        else
          ∃ e2, xm_ld xm_st h 0 (1000 + 1) x0 = some e2 ∧
          (if e2 < x1 then
            P (some (.int (0 : Int32))) h
          else
            P (some (.int (1 : Int32))) h))))) :
    xm_Call K' sX8_isWithin 99 [.int x0, .int x1] h P :=
  xm_call_of (C := kX8_isWithin) hK (by decide +kernel) rfl (Nat.le_of_ble_eq_true rfl) (Or.inl rfl) (xX8_isWithin_0 H)

def kX8_isKind : List xm_I := [
  i_0 0 (.iload_n 0) 1 none,
  i_j 1 (.ifCond .lt 13) 3 none 7,
  i_0 4 (.iload_n 0) 1 none,
  i_v 5 (.bipush 8) 2 none 8 [],
  i_j 7 (.if_icmp .ge 7) 3 none 7,
  i_v 10 (.iconst 1) 1 none 1 [],
  i_j 11 (.goto 4) 3 none 8,
  i_v 14 (.iconst 0) 1 none 0 [],
  i_0 15 (.ireturn) 1 none]
set_option maxRecDepth 100000 in
theorem oX8_isKind : xm_ok sX8_isKind sX8_isKind.1.cls kX8_isKind = true := by decide +kernel
set_option maxRecDepth 100000 in
set_option maxHeartbeats 4000000 in
theorem xX8_isKind_0 {K : Nat} {h : xm_H} {P : Option Value → xm_H → Prop} {x0 : Int32} (H :
    (if x0 < 0 then
      P (some (.int (0 : Int32))) h
    else
      (if x0 < (8 : Int32) then
        P (some (.int (1 : Int32))) h
      else
        P (some (.int (0 : Int32))) h))) :
    xm_L K sX8_isKind kX8_isKind 0 [some (.int x0)] [] h P :=
  xm_run (fun _ _ h => h) oX8_isKind 9 0 0 0 [some (.int x0)] [] h H
set_option maxRecDepth 100000 in
theorem eX8_isKind {K K' : Nat} (hK : K < K') {h : xm_H} {P : Option Value → xm_H → Prop} {x0 : Int32} (H :
    (if x0 < 0 then
      P (some (.int (0 : Int32))) h
    else
      (if x0 < (8 : Int32) then
        P (some (.int (1 : Int32))) h
      else
        P (some (.int (0 : Int32))) h))) :
    xm_Call K' sX8_isKind 99 [.int x0] h P :=
  xm_call_of (C := kX8_isKind) hK (by decide +kernel) rfl (Nat.le_of_ble_eq_true rfl) (Or.inl rfl) (xX8_isKind_0 H)

def kX8_shelfAt : List xm_I := [
  i_0 0 (.iload_n 1) 1 none,
  i_j 1 (.ifCond .lt 9) 3 none 5,
  i_0 4 (.iload_n 1) 1 none,
  i_v 5 (.bipush 6) 2 none 6 [],
  i_j 7 (.if_icmp .lt 7) 3 none 7,
  i_0 10 (.aconst_null) 1 none,
  i_j 11 (.goto 9) 3 none 11,
  i_0 14 (.aload_n 0) 1 none,
  i_f 15 (.getfield 73) 3 none 8 12 [340] 1,
  i_0 18 (.iload_n 1) 1 none,
  i_0 19 (.aaload) 1 none,
  i_0 20 (.areturn) 1 none]
set_option maxRecDepth 100000 in
theorem oX8_shelfAt : xm_ok sX8_shelfAt sX8_shelfAt.1.cls kX8_shelfAt = true := by decide +kernel
set_option maxRecDepth 100000 in
set_option maxHeartbeats 4000000 in
theorem xX8_shelfAt_0 {K : Nat} {h : xm_H} {P : Option Value → xm_H → Prop} {a0 : Nat} {x1 : Int32} (H :
    (if x1 < 0 then
      P (some (.null)) h
    else
      (if x1 < (6 : Int32) then
        ∃ q1, xm_fld h a0 8 12 = some (.ref q1) ∧ /- shelves -/
        ∃ q2, xm_ldR h q1 x1 = some q2 ∧
        P (some (.ref q2)) h
      else
        P (some (.null)) h))) :
    xm_L K sX8_shelfAt kX8_shelfAt 0 [some (.ref a0), some (.int x1)] [] h P :=
  xm_run (fun _ _ h => h) oX8_shelfAt 11 0 0 0 [some (.ref a0), some (.int x1)] [] h H
set_option maxRecDepth 100000 in
theorem eX8_shelfAt {K K' : Nat} (hK : K < K') {h : xm_H} {P : Option Value → xm_H → Prop} {a0 : Nat} {x1 : Int32} (hr : ∃ fs, h[a0]? = some (.inr (8, fs))) (H :
    (if x1 < 0 then
      P (some (.null)) h
    else
      (if x1 < (6 : Int32) then
        ∃ q1, xm_fld h a0 8 12 = some (.ref q1) ∧ /- shelves -/
        ∃ q2, xm_ldR h q1 x1 = some q2 ∧
        P (some (.ref q2)) h
      else
        P (some (.null)) h))) :
    xm_Call K' sX8_shelfAt 8 [.ref a0, .int x1] h P :=
  xm_call_of (C := kX8_shelfAt) hK (by decide +kernel) rfl (Nat.le_of_ble_eq_true rfl) (Or.inr ⟨a0, hr.choose, rfl, hr.choose_spec⟩) (xX8_shelfAt_0 H)

