def kX9_put : List xm_I := [
  i_0 0 (.aload_n 0) 1 none,
  i_0 1 (.iload_n 1) 1 none,
  i_0 2 (.iload_n 2) 1 none,
  i_m 3 (.invokevirtual 447) 3 none 2 9 [1577, 1579, 106, 117, 1580] 0 sX9_whyNoPlace,
  i_0 6 (.istore 5) 2 none,
  i_0 8 (.iload 5) 2 none,
  i_j 10 (.ifCond .ge 6) 3 none 9,
  i_0 13 (.iload 5) 2 none,
  i_0 15 (.ireturn) 1 none,
  i_v 16 (.bipush (-2)) 2 (some [true, true, true, true, false, false, false]) (-2) [],
  i_0 18 (.aload_n 0) 1 none,
  i_f 19 (.getfield 108) 3 none 9 54 [979] 1,
  i_0 22 (.iload_n 1) 1 none,
  i_0 23 (.iaload) 1 none,
  i_0 24 (.isub) 1 none,
  i_0 25 (.istore 6) 2 none,
  i_0 27 (.aload_n 0) 1 (some [true, true, true, true, false, false, true]),
  i_f 28 (.getfield 114) 3 none 9 56 [981] 1,
  i_v 31 (.bipush 60) 2 none 60 [],
  i_0 33 (.iload_n 1) 1 none,
  i_0 34 (.imul) 1 none,
  i_0 35 (.iload_n 2) 1 none,
  i_0 36 (.iadd) 1 none,
  i_0 37 (.iload 6) 2 (some [false, false, false, true, false, false, true]),
  i_j 39 (.ifCond .ne 10) 3 none 30,
  i_0 42 (.lload_n 3) 1 none,
  i_0 43 (.l2i) 1 none,
  i_0 44 (.i2b) 1 none,
  i_0 45 (.i2l) 1 none,
  i_j 46 (.goto 49) 3 none 57,
  i_0 49 (.iload 6) 2 (some [false, false, false, true, false, false, true]),
  i_v 51 (.iconst 1) 1 none 1 [],
  i_j 52 (.if_icmp .ne 10) 3 none 38,
  i_0 55 (.lload_n 3) 1 none,
  i_0 56 (.l2i) 1 none,
  i_0 57 (.i2s) 1 none,
  i_0 58 (.i2l) 1 none,
  i_j 59 (.goto 36) 3 none 57,
  i_0 62 (.iload 6) 2 (some [false, false, false, true, false, false, true]),
  i_v 64 (.iconst 2) 1 none 2 [],
  i_j 65 (.if_icmp .ne 9) 3 none 45,
  i_0 68 (.lload_n 3) 1 none,
  i_0 69 (.l2i) 1 none,
  i_0 70 (.i2l) 1 none,
  i_j 71 (.goto 24) 3 none 57,
  i_0 74 (.iload 6) 2 (some [false, false, false, true, false, false, true]),
  i_v 76 (.iconst 3) 1 none 3 [],
  i_j 77 (.if_icmp .ne 7) 3 none 50,
  i_0 80 (.lload_n 3) 1 none,
  i_j 81 (.goto 14) 3 none 57,
  i_0 84 (.lload_n 3) 1 (some [false, false, false, true, false, false, false]),
  i_w 85 (.lconst 0) 1 none 0 [],
  i_0 86 (.lcmp) 1 none,
  i_j 87 (.ifCond .eq 7) 3 none 56,
  i_w 90 (.lconst 1) 1 none 1 [],
  i_j 91 (.goto 4) 3 none 57,
  i_w 94 (.lconst 0) 1 none 0 [],
  i_0 95 (.lastore) 1 (some [false, false, false, false, false, false, false]),
  i_v 96 (.iconst 1) 1 none 1 [],
  i_0 97 (.ireturn) 1 none]
set_option maxRecDepth 100000 in
theorem oX9_put : xm_ok sX9_put sX9_put.1.cls kX9_put = true := by decide +kernel
set_option maxRecDepth 100000 in
set_option maxHeartbeats 4000000 in
theorem xX9_put_0 {K : Nat} {h : xm_H} {P : Option Value → xm_H → Prop} {a0 : Nat} {x1 : Int32} {x2 : Int32} {y3 : Int64} (H :
    xm_Call K sX9_whyNoPlace 9 [.ref a0, .int x1, .int x2] h (xm_pi fun c2 h1 =>
      (if c2 < 0 then
        P (some (.int c2)) h1
      else
        xm_L K sX9_put kX9_put 9 [some (.ref a0), some (.int x1), some (.int x2), some (.long y3), none, none, none] [] h1 P))) :
    xm_L K sX9_put kX9_put 0 [some (.ref a0), some (.int x1), some (.int x2), some (.long y3), none, none, none] [] h P :=
  xm_run (fun _ _ h => h) oX9_put 10 0 0 0 [some (.ref a0), some (.int x1), some (.int x2), some (.long y3), none, none, none] [] h H
set_option maxRecDepth 100000 in
theorem eX9_put {K K' : Nat} (hK : K < K') {h : xm_H} {P : Option Value → xm_H → Prop} {a0 : Nat} {x1 : Int32} {x2 : Int32} {y3 : Int64} (hr : ∃ fs, h[a0]? = some (.inr (9, fs))) (H :
    xm_Call K sX9_whyNoPlace 9 [.ref a0, .int x1, .int x2] h (xm_pi fun c2 h1 =>
      (if c2 < 0 then
        P (some (.int c2)) h1
      else
        xm_L K sX9_put kX9_put 9 [some (.ref a0), some (.int x1), some (.int x2), some (.long y3), none, none, none] [] h1 P))) :
    xm_Call K' sX9_put 9 [.ref a0, .int x1, .int x2, .long y3] h P :=
  xm_call_of (C := kX9_put) hK (by decide +kernel) rfl (Nat.le_of_ble_eq_true rfl) (Or.inr ⟨a0, hr.choose, rfl, hr.choose_spec⟩) (xX9_put_0 H)

set_option maxRecDepth 100000 in
set_option maxHeartbeats 4000000 in
theorem xX9_put_9 {K : Nat} {h : xm_H} {P : Option Value → xm_H → Prop} {a0 : Nat} {x1 : Int32} {x2 : Int32} {y3 : Int64} (H :
    ∃ q1, xm_fld h a0 9 54 = some (.ref q1) ∧ /- holds -/
    ∃ e2, xm_ld xm_st h 0 q1 x1 = some e2 ∧
    xm_L K sX9_put kX9_put 16 [some (.ref a0), some (.int x1), some (.int x2), some (.long y3), none, none, some (.int ((-2 : Int32) - e2))] [] h P) :
    xm_L K sX9_put kX9_put 9 [some (.ref a0), some (.int x1), some (.int x2), some (.long y3), none, none, none] [] h P :=
  xm_run (fun _ _ h => h) oX9_put 8 9 0 0 [some (.ref a0), some (.int x1), some (.int x2), some (.long y3), none, none, none] [] h H

set_option maxRecDepth 100000 in
set_option maxHeartbeats 4000000 in
theorem xX9_put_16 {K : Nat} {h : xm_H} {P : Option Value → xm_H → Prop} {a0 : Nat} {x1 : Int32} {x2 : Int32} {y3 : Int64} {x6 : Int32} (H :
    ∃ q1, xm_fld h a0 9 56 = some (.ref q1) ∧ /- elements -/
    xm_L K sX9_put kX9_put 23 [none, none, none, some (.long y3), none, none, some (.int x6)] [.int (((60 : Int32) * x1) + x2), .ref q1] h P) :
    xm_L K sX9_put kX9_put 16 [some (.ref a0), some (.int x1), some (.int x2), some (.long y3), none, none, some (.int x6)] [] h P :=
  xm_run (fun _ _ h => h) oX9_put 8 16 0 0 [some (.ref a0), some (.int x1), some (.int x2), some (.long y3), none, none, some (.int x6)] [] h H

set_option maxRecDepth 100000 in
set_option maxHeartbeats 4000000 in
theorem xX9_put_23 {K : Nat} {h : xm_H} {P : Option Value → xm_H → Prop} {y3 : Int64} {x6 : Int32} {b0 : Nat} {z1 : Int32} (H :
    (if x6 = 0 then
      xm_L K sX9_put kX9_put 57 [none, none, none, none, none, none, none] [.long (Int32.toInt64 ((Int32.toInt8 (Int64.toInt32 y3)).toInt32)), .int z1, .ref b0] h P
    else
      xm_L K sX9_put kX9_put 30 [none, none, none, some (.long y3), none, none, some (.int x6)] [.int z1, .ref b0] h P)) :
    xm_L K sX9_put kX9_put 23 [none, none, none, some (.long y3), none, none, some (.int x6)] [.int z1, .ref b0] h P :=
  xm_run (fun _ _ h => h) oX9_put 8 23 0 0 [none, none, none, some (.long y3), none, none, some (.int x6)] [.int z1, .ref b0] h H

set_option maxRecDepth 100000 in
set_option maxHeartbeats 4000000 in
theorem xX9_put_30 {K : Nat} {h : xm_H} {P : Option Value → xm_H → Prop} {y3 : Int64} {x6 : Int32} {b0 : Nat} {z1 : Int32} (H :
    (if x6 = (1 : Int32) then
      xm_L K sX9_put kX9_put 57 [none, none, none, none, none, none, none] [.long (Int32.toInt64 ((Int32.toInt16 (Int64.toInt32 y3)).toInt32)), .int z1, .ref b0] h P
    else
      xm_L K sX9_put kX9_put 38 [none, none, none, some (.long y3), none, none, some (.int x6)] [.int z1, .ref b0] h P)) :
    xm_L K sX9_put kX9_put 30 [none, none, none, some (.long y3), none, none, some (.int x6)] [.int z1, .ref b0] h P :=
  xm_run (fun _ _ h => h) oX9_put 9 30 0 0 [none, none, none, some (.long y3), none, none, some (.int x6)] [.int z1, .ref b0] h H

set_option maxRecDepth 100000 in
set_option maxHeartbeats 4000000 in
theorem xX9_put_38 {K : Nat} {h : xm_H} {P : Option Value → xm_H → Prop} {y3 : Int64} {x6 : Int32} {b0 : Nat} {z1 : Int32} (H :
    (if x6 = (2 : Int32) then
      xm_L K sX9_put kX9_put 57 [none, none, none, none, none, none, none] [.long (Int32.toInt64 (Int64.toInt32 y3)), .int z1, .ref b0] h P
    else
      xm_L K sX9_put kX9_put 45 [none, none, none, some (.long y3), none, none, some (.int x6)] [.int z1, .ref b0] h P)) :
    xm_L K sX9_put kX9_put 38 [none, none, none, some (.long y3), none, none, some (.int x6)] [.int z1, .ref b0] h P :=
  xm_run (fun _ _ h => h) oX9_put 8 38 0 0 [none, none, none, some (.long y3), none, none, some (.int x6)] [.int z1, .ref b0] h H

set_option maxRecDepth 100000 in
set_option maxHeartbeats 4000000 in
theorem xX9_put_45 {K : Nat} {h : xm_H} {P : Option Value → xm_H → Prop} {y3 : Int64} {x6 : Int32} {b0 : Nat} {z1 : Int32} (H :
    (if x6 = (3 : Int32) then
      xm_L K sX9_put kX9_put 57 [none, none, none, none, none, none, none] [.long y3, .int z1, .ref b0] h P
    else
      xm_L K sX9_put kX9_put 50 [none, none, none, some (.long y3), none, none, none] [.int z1, .ref b0] h P)) :
    xm_L K sX9_put kX9_put 45 [none, none, none, some (.long y3), none, none, some (.int x6)] [.int z1, .ref b0] h P :=
  xm_run (fun _ _ h => h) oX9_put 6 45 0 0 [none, none, none, some (.long y3), none, none, some (.int x6)] [.int z1, .ref b0] h H

set_option maxRecDepth 100000 in
set_option maxHeartbeats 4000000 in
theorem xX9_put_50 {K : Nat} {h : xm_H} {P : Option Value → xm_H → Prop} {y3 : Int64} {b0 : Nat} {z1 : Int32} (H :
    (if (lg_cmp y3 (0 : Int64)) = 0 then
      xm_L K sX9_put kX9_put 57 [none, none, none, none, none, none, none] [.long (0 : Int64), .int z1, .ref b0] h P
    else
      xm_L K sX9_put kX9_put 57 [none, none, none, none, none, none, none] [.long (1 : Int64), .int z1, .ref b0] h P)) :
    xm_L K sX9_put kX9_put 50 [none, none, none, some (.long y3), none, none, none] [.int z1, .ref b0] h P :=
  xm_run (fun _ _ h => h) oX9_put 7 50 0 0 [none, none, none, some (.long y3), none, none, none] [.int z1, .ref b0] h H

set_option maxRecDepth 100000 in
set_option maxHeartbeats 4000000 in
theorem xX9_put_57 {K : Nat} {h : xm_H} {P : Option Value → xm_H → Prop} {b0 : Nat} {z1 : Int32} {w2 : Int64} (H :
    ∃ h1, xm_stoL h b0 z1 w2 = some h1 ∧
    P (some (.int (1 : Int32))) h1) :
    xm_L K sX9_put kX9_put 57 [none, none, none, none, none, none, none] [.long w2, .int z1, .ref b0] h P :=
  xm_run (fun _ _ h => h) oX9_put 4 57 0 0 [none, none, none, none, none, none, none] [.long w2, .int z1, .ref b0] h H

