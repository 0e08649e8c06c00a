def kX3_init : List xm_I := [
  i_0 0 (.aload_n 0) 1 none,
  i_f 1 (.invokespecial 3) 3 none 0 0 [216, 127, 128] 2,
  i_0 4 (.aload_n 0) 1 none,
  i_v 5 (.bipush 120) 2 none 120 [],
  i_f 7 (.newarray .int) 2 none 0 120 [147] 120,
  i_f 9 (.putfield 9) 3 none 3 0 [217] 1,
  i_0 12 (.aload_n 0) 1 none,
  i_v 13 (.iconst 0) 1 none 0 [],
  i_f 14 (.putfield 15) 3 none 3 1 [218] 0,
  i_0 17 (.aload_n 0) 1 none,
  i_v 18 (.iconst 0) 1 none 0 [],
  i_f 19 (.putfield 19) 3 none 3 2 [220] 0,
  i_0 22 (.aload_n 0) 1 none,
  i_v 23 (.sipush 128) 3 none 128 [],
  i_f 26 (.newarray .int) 2 none 0 128 [147] 128,
  i_f 28 (.putfield 22) 3 none 3 3 [222] 1,
  i_0 31 (.aload_n 0) 1 none,
  i_v 32 (.iconst 0) 1 none 0 [],
  i_f 33 (.putfield 25) 3 none 3 4 [224] 0,
  i_0 36 (.return_) 1 none]
set_option maxRecDepth 100000 in
theorem oX3_init : xm_ok sX3_init sX3_init.1.cls kX3_init = true := by decide +kernel
set_option maxRecDepth 100000 in
set_option maxHeartbeats 4000000 in
theorem xX3_init_0 {K : Nat} {h : xm_H} {P : Option Value → xm_H → Prop} {a0 : Nat} (H :
    (0 + 1 ≤ 2 ∧ 0 + 120 ≤ 248) ∧ xm_va h [some (.ref a0)] [.ref a0] 1 ∧
    ∃ h1, xm_put (h ++ [xm_za 0 120]) a0 3 0 (.ref (List.length h)) = some h1 ∧ /- tape -/
    ∃ h2, xm_put h1 a0 3 1 (.int (0 : Int32)) = some h2 ∧ /- fed -/
    ∃ h3, xm_put h2 a0 3 2 (.int (0 : Int32)) = some h3 ∧ /- place -/
    (1 + 1 ≤ 2 ∧ 120 + 128 ≤ 248) ∧ xm_va h3 [some (.ref a0)] [.ref a0] 1 ∧
    ∃ h4, xm_put (h3 ++ [xm_za 0 128]) a0 3 3 (.ref (List.length h3)) = some h4 ∧ /- code -/
    ∃ h5, xm_put h4 a0 3 4 (.int (0 : Int32)) = some h5 ∧ /- length -/
    P none h5) :
    xm_At xm_st K sX3_init sX3_init.1.cls kX3_init 0 0 0 [some (.ref a0)] [] h P :=
  xm_run (fun _ _ h => h) oX3_init 21 0 0 0 [some (.ref a0)] [] h H
set_option maxRecDepth 100000 in
theorem eX3_init {K K' : Nat} (hK : K < K') {h : xm_H} {P : Option Value → xm_H → Prop} {a0 : Nat} (hr : ∃ fs, h[a0]? = some (.inr (3, fs))) (H :
    (0 + 1 ≤ 2 ∧ 0 + 120 ≤ 248) ∧ xm_va h [some (.ref a0)] [.ref a0] 1 ∧
    ∃ h1, xm_put (h ++ [xm_za 0 120]) a0 3 0 (.ref (List.length h)) = some h1 ∧ /- tape -/
    ∃ h2, xm_put h1 a0 3 1 (.int (0 : Int32)) = some h2 ∧ /- fed -/
    ∃ h3, xm_put h2 a0 3 2 (.int (0 : Int32)) = some h3 ∧ /- place -/
    (1 + 1 ≤ 2 ∧ 120 + 128 ≤ 248) ∧ xm_va h3 [some (.ref a0)] [.ref a0] 1 ∧
    ∃ h4, xm_put (h3 ++ [xm_za 0 128]) a0 3 3 (.ref (List.length h3)) = some h4 ∧ /- code -/
    ∃ h5, xm_put h4 a0 3 4 (.int (0 : Int32)) = some h5 ∧ /- length -/
    P none h5) :
    xm_Call K' sX3_init 3 [.ref a0] h P :=
  xm_call_of (C := kX3_init) hK (by decide +kernel) rfl (Nat.le_of_ble_eq_true rfl) (Or.inr ⟨a0, hr.choose, rfl, hr.choose_spec⟩) (xX3_init_0 H)

def kX3_hold : List xm_I := [
  i_0 0 (.aload_n 0) 1 none,
  i_f 1 (.getfield 15) 3 none 3 1 [218] 0,
  i_v 4 (.bipush 120) 2 none 120 [],
  i_j 6 (.if_icmp .lt 5) 3 none 6,
  i_v 9 (.iconst 0) 1 none 0 [],
  i_0 10 (.ireturn) 1 none,
  i_0 11 (.aload_n 0) 1 none,
  i_f 12 (.getfield 9) 3 none 3 0 [217] 1,
  i_0 15 (.aload_n 0) 1 none,
  i_f 16 (.getfield 15) 3 none 3 1 [218] 0,
  i_0 19 (.iload_n 1) 1 none,
  i_0 20 (.iastore) 1 none,
  i_0 21 (.aload_n 0) 1 none,
  i_0 22 (.dup) 1 none,
  i_f 23 (.getfield 15) 3 none 3 1 [218] 0,
  i_v 26 (.iconst 1) 1 none 1 [],
  i_0 27 (.iadd) 1 none,
  i_f 28 (.putfield 15) 3 none 3 1 [218] 0,
  i_v 31 (.iconst 1) 1 none 1 [],
  i_0 32 (.ireturn) 1 none]
set_option maxRecDepth 100000 in
theorem oX3_hold : xm_ok sX3_hold sX3_hold.1.cls kX3_hold = true := by decide +kernel
set_option maxRecDepth 100000 in
set_option maxHeartbeats 4000000 in
theorem xX3_hold_0 {K : Nat} {h : xm_H} {P : Option Value → xm_H → Prop} {a0 : Nat} {x1 : Int32} (H :
    ∃ f1, xm_fld h a0 3 1 = some (.int f1) ∧ /- fed -/
    (if f1 < (120 : Int32) then
      ∃ q2, xm_fld h a0 3 0 = some (.ref q2) ∧ /- tape -/
      ∃ f3, xm_fld h a0 3 1 = some (.int f3) ∧ /- fed -/
      ∃ h4, xm_sto h 0 q2 f3 x1 = some h4 ∧
      ∃ f5, xm_fld h4 a0 3 1 = some (.int f5) ∧ /- fed -/
      ∃ h6, xm_put h4 a0 3 1 (.int (f5 + (1 : Int32))) = some h6 ∧ /- fed -/
      P (some (.int (1 : Int32))) h6
    else
      P (some (.int (0 : Int32))) h)) :
    xm_L K sX3_hold kX3_hold 0 [some (.ref a0), some (.int x1)] [] h P :=
  xm_run (fun _ _ h => h) oX3_hold 19 0 0 0 [some (.ref a0), some (.int x1)] [] h H
set_option maxRecDepth 100000 in
theorem eX3_hold {K K' : Nat} (hK : K < K') {h : xm_H} {P : Option Value → xm_H → Prop} {a0 : Nat} {x1 : Int32} (hr : ∃ fs, h[a0]? = some (.inr (3, fs))) (H :
    ∃ f1, xm_fld h a0 3 1 = some (.int f1) ∧ /- fed -/
    (if f1 < (120 : Int32) then
      ∃ q2, xm_fld h a0 3 0 = some (.ref q2) ∧ /- tape -/
      ∃ f3, xm_fld h a0 3 1 = some (.int f3) ∧ /- fed -/
      ∃ h4, xm_sto h 0 q2 f3 x1 = some h4 ∧
      ∃ f5, xm_fld h4 a0 3 1 = some (.int f5) ∧ /- fed -/
      ∃ h6, xm_put h4 a0 3 1 (.int (f5 + (1 : Int32))) = some h6 ∧ /- fed -/
      P (some (.int (1 : Int32))) h6
    else
      P (some (.int (0 : Int32))) h)) :
    xm_Call K' sX3_hold 3 [.ref a0, .int x1] h P :=
  xm_call_of (C := kX3_hold) hK (by decide +kernel) rfl (Nat.le_of_ble_eq_true rfl) (Or.inr ⟨a0, hr.choose, rfl, hr.choose_spec⟩) (xX3_hold_0 H)

def kX3_next : List xm_I := [
  i_0 0 (.aload_n 0) 1 none,
  i_f 1 (.getfield 19) 3 none 3 2 [220] 0,
  i_j 4 (.ifCond .lt 35) 3 none 18,
  i_0 7 (.aload_n 0) 1 none,
  i_f 8 (.getfield 19) 3 none 3 2 [220] 0,
  i_0 11 (.aload_n 0) 1 none,
  i_f 12 (.getfield 15) 3 none 3 1 [218] 0,
  i_j 15 (.if_icmp .ge 24) 3 none 18,
  i_0 18 (.aload_n 0) 1 none,
  i_f 19 (.getfield 19) 3 none 3 2 [220] 0,
  i_v 22 (.bipush 120) 2 none 120 [],
  i_j 24 (.if_icmp .ge 15) 3 none 18,
  i_0 27 (.aload_n 0) 1 none,
  i_f 28 (.getfield 9) 3 none 3 0 [217] 1,
  i_0 31 (.aload_n 0) 1 none,
  i_f 32 (.getfield 19) 3 none 3 2 [220] 0,
  i_0 35 (.iaload) 1 none,
  i_j 36 (.goto 4) 3 none 19,
  i_v 39 (.iconst (-1)) 1 none (-1) [],
  i_0 40 (.ireturn) 1 none]
set_option maxRecDepth 100000 in
theorem oX3_next : xm_ok sX3_next sX3_next.1.cls kX3_next = true := by decide +kernel
set_option maxRecDepth 100000 in
set_option maxHeartbeats 4000000 in
theorem xX3_next_0 {K : Nat} {h : xm_H} {P : Option Value → xm_H → Prop} {a0 : Nat} (H :
    ∃ f1, xm_fld h a0 3 2 = some (.int f1) ∧ /- place -/
    (if f1 < 0 then
      P (some (.int (-1 : Int32))) h
    else
      ∃ f2, xm_fld h a0 3 2 = some (.int f2) ∧ /- place -/
      ∃ f3, xm_fld h a0 3 1 = some (.int f3) ∧ /- fed -/
      (if f2 < f3 then
        ∃ f4, xm_fld h a0 3 2 = some (.int f4) ∧ /- place -/
        (if f4 < (120 : Int32) then
          ∃ q5, xm_fld h a0 3 0 = some (.ref q5) ∧ /- tape -/
          ∃ f6, xm_fld h a0 3 2 = some (.int f6) ∧ /- place -/
          ∃ e7, xm_ld xm_st h 0 q5 f6 = some e7 ∧
          P (some (.int e7)) h
        else
          P (some (.int (-1 : Int32))) h)
      else
        P (some (.int (-1 : Int32))) h))) :
    xm_L K sX3_next kX3_next 0 [some (.ref a0)] [] h P :=
  xm_run (fun _ _ h => h) oX3_next 20 0 0 0 [some (.ref a0)] [] h H
set_option maxRecDepth 100000 in
theorem eX3_next {K K' : Nat} (hK : K < K') {h : xm_H} {P : Option Value → xm_H → Prop} {a0 : Nat} (hr : ∃ fs, h[a0]? = some (.inr (3, fs))) (H :
    ∃ f1, xm_fld h a0 3 2 = some (.int f1) ∧ /- place -/
    (if f1 < 0 then
      P (some (.int (-1 : Int32))) h
    else
      ∃ f2, xm_fld h a0 3 2 = some (.int f2) ∧ /- place -/
      ∃ f3, xm_fld h a0 3 1 = some (.int f3) ∧ /- fed -/
      (if f2 < f3 then
        ∃ f4, xm_fld h a0 3 2 = some (.int f4) ∧ /- place -/
        (if f4 < (120 : Int32) then
          ∃ q5, xm_fld h a0 3 0 = some (.ref q5) ∧ /- tape -/
          ∃ f6, xm_fld h a0 3 2 = some (.int f6) ∧ /- place -/
          ∃ e7, xm_ld xm_st h 0 q5 f6 = some e7 ∧
          P (some (.int e7)) h
        else
          P (some (.int (-1 : Int32))) h)
      else
        P (some (.int (-1 : Int32))) h))) :
    xm_Call K' sX3_next 3 [.ref a0] h P :=
  xm_call_of (C := kX3_next) hK (by decide +kernel) rfl (Nat.le_of_ble_eq_true rfl) (Or.inr ⟨a0, hr.choose, rfl, hr.choose_spec⟩) (xX3_next_0 H)

def kX3_accept : List xm_I := [
  i_0 0 (.aload_n 0) 1 none,
  i_m 1 (.invokevirtual 28) 3 none 0 3 [460, 461, 462, 112, 463] 0 sX3_next,
  i_0 4 (.iload_n 1) 1 none,
  i_j 5 (.if_icmp .eq 5) 3 none 6,
  i_v 8 (.iconst 0) 1 none 0 [],
  i_0 9 (.ireturn) 1 none,
  i_0 10 (.aload_n 0) 1 none,
  i_0 11 (.dup) 1 none,
  i_f 12 (.getfield 19) 3 none 3 2 [220] 0,
  i_v 15 (.iconst 1) 1 none 1 [],
  i_0 16 (.iadd) 1 none,
  i_f 17 (.putfield 19) 3 none 3 2 [220] 0,
  i_v 20 (.iconst 1) 1 none 1 [],
  i_0 21 (.ireturn) 1 none]
set_option maxRecDepth 100000 in
theorem oX3_accept : xm_ok sX3_accept sX3_accept.1.cls kX3_accept = true := by decide +kernel
set_option maxRecDepth 100000 in
set_option maxHeartbeats 4000000 in
theorem xX3_accept_0 {K : Nat} {h : xm_H} {P : Option Value → xm_H → Prop} {a0 : Nat} {x1 : Int32} (H :
    xm_Call K sX3_next 3 [.ref a0] h (xm_pi fun c2 h1 =>
      (if c2 = x1 then
        ∃ f3, xm_fld h1 a0 3 2 = some (.int f3) ∧ /- place -/
        ∃ h4, xm_put h1 a0 3 2 (.int (f3 + (1 : Int32))) = some h4 ∧ /- place -/
        P (some (.int (1 : Int32))) h4
      else
        P (some (.int (0 : Int32))) h1))) :
    xm_L K sX3_accept kX3_accept 0 [some (.ref a0), some (.int x1)] [] h P :=
  xm_run (fun _ _ h => h) oX3_accept 13 0 0 0 [some (.ref a0), some (.int x1)] [] h H
set_option maxRecDepth 100000 in
theorem eX3_accept {K K' : Nat} (hK : K < K') {h : xm_H} {P : Option Value → xm_H → Prop} {a0 : Nat} {x1 : Int32} (hr : ∃ fs, h[a0]? = some (.inr (3, fs))) (H :
    xm_Call K sX3_next 3 [.ref a0] h (xm_pi fun c2 h1 =>
      (if c2 = x1 then
        ∃ f3, xm_fld h1 a0 3 2 = some (.int f3) ∧ /- place -/
        ∃ h4, xm_put h1 a0 3 2 (.int (f3 + (1 : Int32))) = some h4 ∧ /- place -/
        P (some (.int (1 : Int32))) h4
      else
        P (some (.int (0 : Int32))) h1))) :
    xm_Call K' sX3_accept 3 [.ref a0, .int x1] h P :=
  xm_call_of (C := kX3_accept) hK (by decide +kernel) rfl (Nat.le_of_ble_eq_true rfl) (Or.inr ⟨a0, hr.choose, rfl, hr.choose_spec⟩) (xX3_accept_0 H)

def kX3_emit : List xm_I := [
  i_0 0 (.aload_n 0) 1 none,
  i_f 1 (.getfield 25) 3 none 3 4 [224] 0,
  i_v 4 (.sipush 128) 3 none 128 [],
  i_j 7 (.if_icmp .ge 23) 3 none 16,
  i_0 10 (.aload_n 0) 1 none,
  i_f 11 (.getfield 22) 3 none 3 3 [222] 1,
  i_0 14 (.aload_n 0) 1 none,
  i_f 15 (.getfield 25) 3 none 3 4 [224] 0,
  i_0 18 (.iload_n 1) 1 none,
  i_0 19 (.iastore) 1 none,
  i_0 20 (.aload_n 0) 1 none,
  i_0 21 (.dup) 1 none,
  i_f 22 (.getfield 25) 3 none 3 4 [224] 0,
  i_v 25 (.iconst 1) 1 none 1 [],
  i_0 26 (.iadd) 1 none,
  i_f 27 (.putfield 25) 3 none 3 4 [224] 0,
  i_0 30 (.return_) 1 none]
set_option maxRecDepth 100000 in
theorem oX3_emit : xm_ok sX3_emit sX3_emit.1.cls kX3_emit = true := by decide +kernel
set_option maxRecDepth 100000 in
set_option maxHeartbeats 4000000 in
theorem xX3_emit_0 {K : Nat} {h : xm_H} {P : Option Value → xm_H → Prop} {a0 : Nat} {x1 : Int32} (H :
    ∃ f1, xm_fld h a0 3 4 = some (.int f1) ∧ /- length -/
    (if f1 < (128 : Int32) then
      ∃ q2, xm_fld h a0 3 3 = some (.ref q2) ∧ /- code -/
      ∃ f3, xm_fld h a0 3 4 = some (.int f3) ∧ /- length -/
      ∃ h4, xm_sto h 0 q2 f3 x1 = some h4 ∧
      ∃ f5, xm_fld h4 a0 3 4 = some (.int f5) ∧ /- length -/
      ∃ h6, xm_put h4 a0 3 4 (.int (f5 + (1 : Int32))) = some h6 ∧ /- length -/
      P none h6
    else
      P none h)) :
    xm_L K sX3_emit kX3_emit 0 [some (.ref a0), some (.int x1)] [] h P :=
  xm_run (fun _ _ h => h) oX3_emit 18 0 0 0 [some (.ref a0), some (.int x1)] [] h H
set_option maxRecDepth 100000 in
theorem eX3_emit {K K' : Nat} (hK : K < K') {h : xm_H} {P : Option Value → xm_H → Prop} {a0 : Nat} {x1 : Int32} (hr : ∃ fs, h[a0]? = some (.inr (3, fs))) (H :
    ∃ f1, xm_fld h a0 3 4 = some (.int f1) ∧ /- length -/
    (if f1 < (128 : Int32) then
      ∃ q2, xm_fld h a0 3 3 = some (.ref q2) ∧ /- code -/
      ∃ f3, xm_fld h a0 3 4 = some (.int f3) ∧ /- length -/
      ∃ h4, xm_sto h 0 q2 f3 x1 = some h4 ∧
      ∃ f5, xm_fld h4 a0 3 4 = some (.int f5) ∧ /- length -/
      ∃ h6, xm_put h4 a0 3 4 (.int (f5 + (1 : Int32))) = some h6 ∧ /- length -/
      P none h6
    else
      P none h)) :
    xm_Call K' sX3_emit 3 [.ref a0, .int x1] h P :=
  xm_call_of (C := kX3_emit) hK (by decide +kernel) rfl (Nat.le_of_ble_eq_true rfl) (Or.inr ⟨a0, hr.choose, rfl, hr.choose_spec⟩) (xX3_emit_0 H)

def kX3_readText : List xm_I := [
  i_0 0 (.aload_n 0) 1 none,
  i_v 1 (.iconst 0) 1 none 0 [],
  i_f 2 (.putfield 19) 3 none 3 2 [220] 0,
  i_0 5 (.aload_n 0) 1 none,
  i_v 6 (.iconst 0) 1 none 0 [],
  i_f 7 (.putfield 25) 3 none 3 4 [224] 0,
  i_v 10 (.iconst 0) 1 none 0 [],
  i_0 11 (.istore_n 1) 1 none,
  i_0 12 (.iload_n 1) 1 (some [true, true]),
  i_v 13 (.bipush 120) 2 none 120 [],
  i_j 15 (.if_icmp .gt 42) 3 none 31,
  i_0 18 (.aload_n 0) 1 none,
  i_m 19 (.invokevirtual 32) 3 none 0 3 [448, 450, 3, 112, 451] 0 sX3_readLine,
  i_j 22 (.ifCond .ne 5) 3 none 16,
  i_v 25 (.iconst 0) 1 none 0 [],
  i_0 26 (.ireturn) 1 none,
  i_0 27 (.aload_n 0) 1 none,
  i_f 28 (.getfield 19) 3 none 3 2 [220] 0,
  i_0 31 (.aload_n 0) 1 none,
  i_f 32 (.getfield 15) 3 none 3 1 [218] 0,
  i_j 35 (.if_icmp .lt 5) 3 none 23,
  i_v 38 (.iconst 1) 1 none 1 [],
  i_0 39 (.ireturn) 1 none,
  i_0 40 (.aload_n 0) 1 none,
  i_v 41 (.bipush 59) 2 none 59 [],
  i_m 43 (.invokevirtual 36) 3 none 1 3 [478, 479, 480, 112, 481] 0 sX3_accept,
  i_j 46 (.ifCond .ne 5) 3 none 29,
  i_v 49 (.iconst 0) 1 none 0 [],
  i_0 50 (.ireturn) 1 none,
  i_v 51 (.iinc 1 1) 3 none 1 [],
  i_j 54 (.goto (-42)) 3 none 8,
  i_v 57 (.iconst 0) 1 none 0 [],
  i_0 58 (.ireturn) 1 none]
set_option maxRecDepth 100000 in
theorem oX3_readText : xm_ok sX3_readText sX3_readText.1.cls kX3_readText = true := by decide +kernel
set_option maxRecDepth 100000 in
set_option maxHeartbeats 4000000 in
theorem xX3_readText_0 {K : Nat} {h : xm_H} {P : Option Value → xm_H → Prop} {a0 : Nat} (H :
    ∃ h1, xm_put h a0 3 2 (.int (0 : Int32)) = some h1 ∧ /- place -/
    ∃ h2, xm_put h1 a0 3 4 (.int (0 : Int32)) = some h2 ∧ /- length -/
    xm_L K sX3_readText kX3_readText 8 [some (.ref a0), some (.int (0 : Int32))] [] h2 P) :
    xm_L K sX3_readText kX3_readText 0 [some (.ref a0), none] [] h P :=
  xm_run (fun _ _ h => h) oX3_readText 9 0 0 0 [some (.ref a0), none] [] h H
set_option maxRecDepth 100000 in
theorem eX3_readText {K K' : Nat} (hK : K < K') {h : xm_H} {P : Option Value → xm_H → Prop} {a0 : Nat} (hr : ∃ fs, h[a0]? = some (.inr (3, fs))) (H :
    ∃ h1, xm_put h a0 3 2 (.int (0 : Int32)) = some h1 ∧ /- place -/
    ∃ h2, xm_put h1 a0 3 4 (.int (0 : Int32)) = some h2 ∧ /- length -/
    xm_L K sX3_readText kX3_readText 8 [some (.ref a0), some (.int (0 : Int32))] [] h2 P) :
    xm_Call K' sX3_readText 3 [.ref a0] h P :=
  xm_call_of (C := kX3_readText) hK (by decide +kernel) rfl (Nat.le_of_ble_eq_true rfl) (Or.inr ⟨a0, hr.choose, rfl, hr.choose_spec⟩) (xX3_readText_0 H)

set_option maxRecDepth 100000 in
set_option maxHeartbeats 4000000 in
theorem xX3_readText_8 {K : Nat} {h : xm_H} {P : Option Value → xm_H → Prop} {a0 : Nat} {x1 : Int32} (H :
    (if (120 : Int32) < x1 then
      P (some (.int (0 : Int32))) h
    else
      xm_Call K sX3_readLine 3 [.ref a0] h (xm_pi fun c2 h1 =>
        (if c2 = 0 then
          P (some (.int (0 : Int32))) h1
        else
          ∃ f3, xm_fld h1 a0 3 2 = some (.int f3) ∧ /- place -/
          ∃ f4, xm_fld h1 a0 3 1 = some (.int f4) ∧ /- fed -/
          (if f3 < f4 then
            xm_Call K sX3_accept 3 [.ref a0, .int (59 : Int32)] h1 (xm_pi fun c6 h5 =>
              (if c6 = 0 then
                P (some (.int (0 : Int32))) h5
              else
                xm_L K sX3_readText kX3_readText 8 [some (.ref a0), some (.int (x1 + (1 : Int32)))] [] h5 P))
          else
            P (some (.int (1 : Int32))) h1))))) :
    xm_L K sX3_readText kX3_readText 8 [some (.ref a0), some (.int x1)] [] h P :=
  xm_run (fun _ _ h => h) oX3_readText 18 8 0 0 [some (.ref a0), some (.int x1)] [] h H

def kX3_readLine : List xm_I := [
  i_0 0 (.aload_n 0) 1 none,
  i_v 1 (.iconst 0) 1 none 0 [],
  i_v 2 (.iconst 0) 1 none 0 [],
  i_m 3 (.invokevirtual 40) 3 none 2 3 [452, 454, 4, 112, 455] 0 sX3_readRung,
  i_j 6 (.ifCond .ne 5) 3 none 7,
  i_v 9 (.iconst 0) 1 none 0 [],
  i_0 10 (.ireturn) 1 none,
  i_0 11 (.aload_n 0) 1 none,
  i_v 12 (.bipush 63) 2 none 63 [],
  i_m 14 (.invokevirtual 36) 3 none 1 3 [478, 479, 480, 112, 481] 0 sX3_accept,
  i_j 17 (.ifCond .eq 42) 3 none 34,
  i_0 20 (.aload_n 0) 1 none,
  i_f 21 (.getfield 25) 3 none 3 4 [224] 0,
  i_0 24 (.istore_n 1) 1 none,
  i_0 25 (.aload_n 0) 1 none,
  i_v 26 (.iconst 0) 1 none 0 [],
  i_m 27 (.invokevirtual 44) 3 none 1 3 [471, 472, 473, 112, 474] 0 sX3_emit,
  i_0 30 (.aload_n 0) 1 none,
  i_v 31 (.iconst 0) 1 none 0 [],
  i_v 32 (.iconst 0) 1 none 0 [],
  i_m 33 (.invokevirtual 40) 3 none 2 3 [452, 454, 4, 112, 455] 0 sX3_readRung,
  i_j 36 (.ifCond .ne 5) 3 none 24,
  i_v 39 (.iconst 0) 1 none 0 [],
  i_0 40 (.ireturn) 1 none,
  i_0 41 (.iload_n 1) 1 none,
  i_v 42 (.sipush 128) 3 none 128 [],
  i_j 45 (.if_icmp .ge 14) 3 none 34,
  i_0 48 (.aload_n 0) 1 none,
  i_f 49 (.getfield 22) 3 none 3 3 [222] 1,
  i_0 52 (.iload_n 1) 1 none,
  i_0 53 (.aload_n 0) 1 none,
  i_f 54 (.getfield 25) 3 none 3 4 [224] 0,
  i_0 57 (.ineg) 1 none,
  i_0 58 (.iastore) 1 none,
  i_0 59 (.aload_n 0) 1 none,
  i_v 60 (.bipush 59) 2 none 59 [],
  i_m 62 (.invokevirtual 44) 3 none 1 3 [471, 472, 473, 112, 474] 0 sX3_emit,
  i_v 65 (.iconst 1) 1 none 1 [],
  i_0 66 (.ireturn) 1 none]
set_option maxRecDepth 100000 in
theorem oX3_readLine : xm_ok sX3_readLine sX3_readLine.1.cls kX3_readLine = true := by decide +kernel
set_option maxRecDepth 100000 in
set_option maxHeartbeats 4000000 in
theorem xX3_readLine_0 {K : Nat} {h : xm_H} {P : Option Value → xm_H → Prop} {a0 : Nat} (H :
    xm_Call K sX3_readRung 3 [.ref a0, .int (0 : Int32), .int (0 : Int32)] h (xm_pi fun c2 h1 =>
      (if c2 = 0 then
        P (some (.int (0 : Int32))) h1
      else
        xm_Call K sX3_accept 3 [.ref a0, .int (63 : Int32)] h1 (xm_pi fun c4 h3 =>
          (if c4 = 0 then
            xm_Call K sX3_emit 3 [.ref a0, .int (59 : Int32)] h3 (xm_pv fun h5 =>
              P (some (.int (1 : Int32))) h5)
          else
            ∃ f6, xm_fld h3 a0 3 4 = some (.int f6) ∧ /- length -/
            xm_Call K sX3_emit 3 [.ref a0, .int (0 : Int32)] h3 (xm_pv fun h7 =>
              xm_Call K sX3_readRung 3 [.ref a0, .int (0 : Int32), .int (0 : Int32)] h7 (xm_pi fun c9 h8 =>
                (if c9 = 0 then
                  P (some (.int (0 : Int32))) h8
                else
                  (if f6 < (128 : Int32) then
                    ∃ q10, xm_fld h8 a0 3 3 = some (.ref q10) ∧ /- code -/
                    ∃ f11, xm_fld h8 a0 3 4 = some (.int f11) ∧ /- length -/
                    ∃ h12, xm_sto h8 0 q10 f6 (-f11) = some h12 ∧
                    xm_Call K sX3_emit 3 [.ref a0, .int (59 : Int32)] h12 (xm_pv fun h13 =>
                      P (some (.int (1 : Int32))) h13)
                  else
                    xm_Call K sX3_emit 3 [.ref a0, .int (59 : Int32)] h8 (xm_pv fun h14 =>
                      P (some (.int (1 : Int32))) h14)))))))))) :
    xm_L K sX3_readLine kX3_readLine 0 [some (.ref a0), none] [] h P :=
  xm_run (fun _ _ h => h) oX3_readLine 36 0 0 0 [some (.ref a0), none] [] h H
set_option maxRecDepth 100000 in
theorem eX3_readLine {K K' : Nat} (hK : K < K') {h : xm_H} {P : Option Value → xm_H → Prop} {a0 : Nat} (hr : ∃ fs, h[a0]? = some (.inr (3, fs))) (H :
    xm_Call K sX3_readRung 3 [.ref a0, .int (0 : Int32), .int (0 : Int32)] h (xm_pi fun c2 h1 =>
      (if c2 = 0 then
        P (some (.int (0 : Int32))) h1
      else
        xm_Call K sX3_accept 3 [.ref a0, .int (63 : Int32)] h1 (xm_pi fun c4 h3 =>
          (if c4 = 0 then
            xm_Call K sX3_emit 3 [.ref a0, .int (59 : Int32)] h3 (xm_pv fun h5 =>
              P (some (.int (1 : Int32))) h5)
          else
            ∃ f6, xm_fld h3 a0 3 4 = some (.int f6) ∧ /- length -/
            xm_Call K sX3_emit 3 [.ref a0, .int (0 : Int32)] h3 (xm_pv fun h7 =>
              xm_Call K sX3_readRung 3 [.ref a0, .int (0 : Int32), .int (0 : Int32)] h7 (xm_pi fun c9 h8 =>
                (if c9 = 0 then
                  P (some (.int (0 : Int32))) h8
                else
                  (if f6 < (128 : Int32) then
                    ∃ q10, xm_fld h8 a0 3 3 = some (.ref q10) ∧ /- code -/
                    ∃ f11, xm_fld h8 a0 3 4 = some (.int f11) ∧ /- length -/
                    ∃ h12, xm_sto h8 0 q10 f6 (-f11) = some h12 ∧
                    xm_Call K sX3_emit 3 [.ref a0, .int (59 : Int32)] h12 (xm_pv fun h13 =>
                      P (some (.int (1 : Int32))) h13)
                  else
                    xm_Call K sX3_emit 3 [.ref a0, .int (59 : Int32)] h8 (xm_pv fun h14 =>
                      P (some (.int (1 : Int32))) h14)))))))))) :
    xm_Call K' sX3_readLine 3 [.ref a0] h P :=
  xm_call_of (C := kX3_readLine) hK (by decide +kernel) rfl (Nat.le_of_ble_eq_true rfl) (Or.inr ⟨a0, hr.choose, rfl, hr.choose_spec⟩) (xX3_readLine_0 H)

def kX3_readRung : List xm_I := [
  i_0 0 (.iload_n 1) 1 none,
  i_v 1 (.iconst 5) 1 none 5 [],
  i_j 2 (.if_icmp .lt 9) 3 none 7,
  i_0 5 (.aload_n 0) 1 none,
  i_0 6 (.iload_n 2) 1 none,
  i_m 7 (.invokevirtual 48) 3 none 1 3 [456, 458, 5, 112, 459] 0 sX3_readOperand,
  i_0 10 (.ireturn) 1 none,
  i_0 11 (.aload_n 0) 1 none,
  i_0 12 (.iload_n 1) 1 none,
  i_v 13 (.iconst 1) 1 none 1 [],
  i_0 14 (.iadd) 1 none,
  i_0 15 (.iload_n 2) 1 none,
  i_m 16 (.invokevirtual 40) 3 none 2 3 [452, 454, 4, 112, 455] 0 sX3_readRung,
  i_j 19 (.ifCond .ne 5) 3 none 16,
  i_v 22 (.iconst 0) 1 none 0 [],
  i_0 23 (.ireturn) 1 none,
  i_0 24 (.iload_n 1) 1 none,
  i_v 25 (.iconst 2) 1 none 2 [],
  i_j 26 (.if_icmp .ne 7) 3 none 21,
  i_v 29 (.iconst 1) 1 none 1 [],
  i_j 30 (.goto 5) 3 none 22,
  i_v 33 (.bipush 120) 2 none 120 [],
  i_0 35 (.istore_n 3) 1 none,
  i_v 36 (.iconst 0) 1 none 0 [],
  i_0 37 (.istore 4) 2 none,
  i_0 39 (.iload 4) 2 (some [true, true, true, true, true, false]),
  i_0 41 (.iload_n 3) 1 none,
  i_j 42 (.if_icmp .ge 55) 3 none 56,
  i_0 45 (.aload_n 0) 1 none,
  i_m 46 (.invokevirtual 28) 3 none 0 3 [460, 461, 462, 112, 463] 0 sX3_next,
  i_m 49 (.invokestatic 51) 3 none 1 99 [482, 483, 112, 484] 0 sX3_rungOf,
  i_0 52 (.iload_n 1) 1 none,
  i_j 53 (.if_icmp .ne 44) 3 none 56,
  i_0 56 (.aload_n 0) 1 none,
  i_m 57 (.invokevirtual 28) 3 none 0 3 [460, 461, 462, 112, 463] 0 sX3_next,
  i_0 60 (.istore 5) 2 none,
  i_0 62 (.aload_n 0) 1 none,
  i_0 63 (.dup) 1 none,
  i_f 64 (.getfield 19) 3 none 3 2 [220] 0,
  i_v 67 (.iconst 1) 1 none 1 [],
  i_0 68 (.iadd) 1 none,
  i_f 69 (.putfield 19) 3 none 3 2 [220] 0,
  i_0 72 (.aload_n 0) 1 none,
  i_0 73 (.iload_n 1) 1 none,
  i_v 74 (.iconst 1) 1 none 1 [],
  i_0 75 (.iadd) 1 none,
  i_0 76 (.iload_n 2) 1 none,
  i_m 77 (.invokevirtual 40) 3 none 2 3 [452, 454, 4, 112, 455] 0 sX3_readRung,
  i_j 80 (.ifCond .ne 5) 3 none 51,
  i_v 83 (.iconst 0) 1 none 0 [],
  i_0 84 (.ireturn) 1 none,
  i_0 85 (.aload_n 0) 1 none,
  i_0 86 (.iload 5) 2 none,
  i_m 88 (.invokevirtual 44) 3 none 1 3 [471, 472, 473, 112, 474] 0 sX3_emit,
  i_v 91 (.iinc 4 1) 3 none 1 [],
  i_j 94 (.goto (-55)) 3 none 25,
  i_v 97 (.iconst 1) 1 none 1 [],
  i_0 98 (.ireturn) 1 none]
set_option maxRecDepth 100000 in
theorem oX3_readRung : xm_ok sX3_readRung sX3_readRung.1.cls kX3_readRung = true := by decide +kernel
set_option maxRecDepth 100000 in
set_option maxHeartbeats 4000000 in
theorem xX3_readRung_0 {K : Nat} {h : xm_H} {P : Option Value → xm_H → Prop} {a0 : Nat} {x1 : Int32} {x2 : Int32} (H :
    (if x1 < (5 : Int32) then
      xm_Call K sX3_readRung 3 [.ref a0, .int (x1 + (1 : Int32)), .int x2] h (xm_pi fun c2 h1 =>
        (if c2 = 0 then
          P (some (.int (0 : Int32))) h1
        else
          (if x1 = (2 : Int32) then
            xm_L K sX3_readRung kX3_readRung 25 [some (.ref a0), some (.int x1), some (.int x2), some (.int (1 : Int32)), some (.int (0 : Int32)), none] [] h1 P
          else
            xm_L K sX3_readRung kX3_readRung 25 [some (.ref a0), some (.int x1), some (.int x2), some (.int (120 : Int32)), some (.int (0 : Int32)), none] [] h1 P)))
    else
      xm_Call K sX3_readOperand 3 [.ref a0, .int x2] h (xm_pi fun c4 h3 =>
        (if c4 = 0 ∨ c4 = 1 then P (some (.int c4)) h3 else False)))) :
    xm_L K sX3_readRung kX3_readRung 0 [some (.ref a0), some (.int x1), some (.int x2), none, none, none] [] h P :=
  xm_run (fun _ _ h => h) oX3_readRung 19 0 0 0 [some (.ref a0), some (.int x1), some (.int x2), none, none, none] [] h H
set_option maxRecDepth 100000 in
theorem eX3_readRung {K K' : Nat} (hK : K < K') {h : xm_H} {P : Option Value → xm_H → Prop} {a0 : Nat} {x1 : Int32} {x2 : Int32} (hr : ∃ fs, h[a0]? = some (.inr (3, fs))) (H :
    (if x1 < (5 : Int32) then
      xm_Call K sX3_readRung 3 [.ref a0, .int (x1 + (1 : Int32)), .int x2] h (xm_pi fun c2 h1 =>
        (if c2 = 0 then
          P (some (.int (0 : Int32))) h1
        else
          (if x1 = (2 : Int32) then
            xm_L K sX3_readRung kX3_readRung 25 [some (.ref a0), some (.int x1), some (.int x2), some (.int (1 : Int32)), some (.int (0 : Int32)), none] [] h1 P
          else
            xm_L K sX3_readRung kX3_readRung 25 [some (.ref a0), some (.int x1), some (.int x2), some (.int (120 : Int32)), some (.int (0 : Int32)), none] [] h1 P)))
    else
      xm_Call K sX3_readOperand 3 [.ref a0, .int x2] h (xm_pi fun c4 h3 =>
        (if c4 = 0 ∨ c4 = 1 then P (some (.int c4)) h3 else False)))) :
    xm_Call K' sX3_readRung 3 [.ref a0, .int x1, .int x2] h P :=
  xm_call_of (C := kX3_readRung) hK (by decide +kernel) rfl (Nat.le_of_ble_eq_true rfl) (Or.inr ⟨a0, hr.choose, rfl, hr.choose_spec⟩) (xX3_readRung_0 H)

set_option maxRecDepth 100000 in
set_option maxHeartbeats 4000000 in
theorem xX3_readRung_25 {K : Nat} {h : xm_H} {P : Option Value → xm_H → Prop} {a0 : Nat} {x1 : Int32} {x2 : Int32} {x3 : Int32} {x4 : Int32} (H :
    (if x4 < x3 then
      xm_Call K sX3_next 3 [.ref a0] h (xm_pi fun c2 h1 =>
        xm_Call K sX3_rungOf 99 [.int c2] h1 (xm_pi fun c4 h3 =>
          (if c4 = x1 then
            xm_Call K sX3_next 3 [.ref a0] h3 (xm_pi fun c6 h5 =>
              ∃ f7, xm_fld h5 a0 3 2 = some (.int f7) ∧ /- place -/
              ∃ h8, xm_put h5 a0 3 2 (.int (f7 + (1 : Int32))) = some h8 ∧ /- place -/
              xm_Call K sX3_readRung 3 [.ref a0, .int (x1 + (1 : Int32)), .int x2] h8 (xm_pi fun c10 h9 =>
                (if c10 = 0 then
                  P (some (.int (0 : Int32))) h9
                else
                  xm_Call K sX3_emit 3 [.ref a0, .int c6] h9 (xm_pv fun h11 =>
                    xm_L K sX3_readRung kX3_readRung 25 [some (.ref a0), some (.int x1), some (.int x2), some (.int x3), some (.int (x4 + (1 : Int32))), none] [] h11 P))))
          else
            P (some (.int (1 : Int32))) h3)))
    else
      P (some (.int (1 : Int32))) h)) :
    xm_L K sX3_readRung kX3_readRung 25 [some (.ref a0), some (.int x1), some (.int x2), some (.int x3), some (.int x4), none] [] h P :=
  xm_run (fun _ _ h => h) oX3_readRung 30 25 0 0 [some (.ref a0), some (.int x1), some (.int x2), some (.int x3), some (.int x4), none] [] h H

def kX3_rungOf : List xm_I := [
  i_0 0 (.iload_n 0) 1 none,
  i_s 1 (.lookupswitch 101 #[(37, 99), (38, 93), (42, 99), (43, 97), (45, 97), (47, 99), (60, 95), (61, 95), (62, 95), (124, 91)]) 91 none 12 [(37, 10), (38, 4), (42, 10), (43, 8), (45, 8), (47, 10), (60, 6), (61, 6), (62, 6), (124, 2)],
  i_v 92 (.iconst 0) 1 none 0 [],
  i_0 93 (.ireturn) 1 none,
  i_v 94 (.iconst 1) 1 none 1 [],
  i_0 95 (.ireturn) 1 none,
  i_v 96 (.iconst 2) 1 none 2 [],
  i_0 97 (.ireturn) 1 none,
  i_v 98 (.iconst 3) 1 none 3 [],
  i_0 99 (.ireturn) 1 none,
  i_v 100 (.iconst 4) 1 none 4 [],
  i_0 101 (.ireturn) 1 none,
  i_v 102 (.iconst (-1)) 1 none (-1) [],
  i_0 103 (.ireturn) 1 none]
set_option maxRecDepth 100000 in
theorem oX3_rungOf : xm_ok sX3_rungOf sX3_rungOf.1.cls kX3_rungOf = true := by decide +kernel
set_option maxRecDepth 100000 in
set_option maxHeartbeats 4000000 in
theorem xX3_rungOf_0 {K : Nat} {h : xm_H} {P : Option Value → xm_H → Prop} {x0 : Int32} (H :
    (if x0 = 37 then
      P (some (.int (4 : Int32))) h
    else
    (if x0 = 38 then
      P (some (.int (1 : Int32))) h
    else
    (if x0 = 42 then
      P (some (.int (4 : Int32))) h
    else
    (if x0 = 43 then
      P (some (.int (3 : Int32))) h
    else
    (if x0 = 45 then
      P (some (.int (3 : Int32))) h
    else
    (if x0 = 47 then
      P (some (.int (4 : Int32))) h
    else
    (if x0 = 60 then
      P (some (.int (2 : Int32))) h
    else
    (if x0 = 61 then
      P (some (.int (2 : Int32))) h
    else
    (if x0 = 62 then
      P (some (.int (2 : Int32))) h
    else
    (if x0 = 124 then
      P (some (.int (0 : Int32))) h
    else
    P (some (.int (-1 : Int32))) h))))))))))) :
    xm_L K sX3_rungOf kX3_rungOf 0 [some (.int x0)] [] h P :=
  xm_run (fun _ _ h => h) oX3_rungOf 5 0 0 0 [some (.int x0)] [] h H
set_option maxRecDepth 100000 in
theorem eX3_rungOf {K K' : Nat} (hK : K < K') {h : xm_H} {P : Option Value → xm_H → Prop} {x0 : Int32} (H :
    (if x0 = 37 then
      P (some (.int (4 : Int32))) h
    else
    (if x0 = 38 then
      P (some (.int (1 : Int32))) h
    else
    (if x0 = 42 then
      P (some (.int (4 : Int32))) h
    else
    (if x0 = 43 then
      P (some (.int (3 : Int32))) h
    else
    (if x0 = 45 then
      P (some (.int (3 : Int32))) h
    else
    (if x0 = 47 then
      P (some (.int (4 : Int32))) h
    else
    (if x0 = 60 then
      P (some (.int (2 : Int32))) h
    else
    (if x0 = 61 then
      P (some (.int (2 : Int32))) h
    else
    (if x0 = 62 then
      P (some (.int (2 : Int32))) h
    else
    (if x0 = 124 then
      P (some (.int (0 : Int32))) h
    else
    P (some (.int (-1 : Int32))) h))))))))))) :
    xm_Call K' sX3_rungOf 99 [.int x0] h P :=
  xm_call_of (C := kX3_rungOf) hK (by decide +kernel) rfl (Nat.le_of_ble_eq_true rfl) (Or.inl rfl) (xX3_rungOf_0 H)

def kX3_readOperand : List xm_I := [
  i_0 0 (.aload_n 0) 1 none,
  i_m 1 (.invokevirtual 28) 3 none 0 3 [460, 461, 462, 112, 463] 0 sX3_next,
  i_0 4 (.istore_n 2) 1 none,
  i_0 5 (.iload_n 2) 1 none,
  i_m 6 (.invokestatic 55) 3 none 1 99 [464, 465, 112, 466] 0 sX3_isDigit,
  i_j 9 (.ifCond .eq 9) 3 none 10,
  i_0 12 (.aload_n 0) 1 none,
  i_m 13 (.invokevirtual 58) 3 none 0 3 [467, 469, 6, 112, 470] 0 sX3_readNumber,
  i_v 16 (.iconst 1) 1 none 1 [],
  i_0 17 (.ireturn) 1 none,
  i_0 18 (.iload_n 2) 1 none,
  i_m 19 (.invokestatic 61) 3 none 1 99 [475, 476, 112, 477] 0 sX3_nameOf,
  i_0 22 (.istore_n 3) 1 none,
  i_0 23 (.iload_n 3) 1 none,
  i_j 24 (.ifCond .lt 20) 3 none 26,
  i_0 27 (.aload_n 0) 1 none,
  i_0 28 (.dup) 1 none,
  i_f 29 (.getfield 19) 3 none 3 2 [220] 0,
  i_v 32 (.iconst 1) 1 none 1 [],
  i_0 33 (.iadd) 1 none,
  i_f 34 (.putfield 19) 3 none 3 2 [220] 0,
  i_0 37 (.aload_n 0) 1 none,
  i_0 38 (.iload_n 3) 1 none,
  i_m 39 (.invokevirtual 44) 3 none 1 3 [471, 472, 473, 112, 474] 0 sX3_emit,
  i_v 42 (.iconst 1) 1 none 1 [],
  i_0 43 (.ireturn) 1 none,
  i_0 44 (.iload_n 1) 1 none,
  i_v 45 (.bipush 6) 2 none 6 [],
  i_j 47 (.if_icmp .ge 21) 3 none 38,
  i_0 50 (.iload_n 2) 1 none,
  i_v 51 (.bipush 40) 2 none 40 [],
  i_j 53 (.if_icmp .eq 17) 3 none 40,
  i_0 56 (.iload_n 2) 1 none,
  i_v 57 (.bipush 33) 2 none 33 [],
  i_j 59 (.if_icmp .eq 11) 3 none 40,
  i_0 62 (.iload_n 2) 1 none,
  i_v 63 (.bipush 45) 2 none 45 [],
  i_j 65 (.if_icmp .eq 5) 3 none 40,
  i_v 68 (.iconst 0) 1 none 0 [],
  i_0 69 (.ireturn) 1 none,
  i_0 70 (.aload_n 0) 1 none,
  i_0 71 (.dup) 1 none,
  i_f 72 (.getfield 19) 3 none 3 2 [220] 0,
  i_v 75 (.iconst 1) 1 none 1 [],
  i_0 76 (.iadd) 1 none,
  i_f 77 (.putfield 19) 3 none 3 2 [220] 0,
  i_0 80 (.iload_n 2) 1 none,
  i_v 81 (.bipush 40) 2 none 40 [],
  i_j 83 (.if_icmp .ne 29) 3 none 64,
  i_0 86 (.aload_n 0) 1 none,
  i_v 87 (.iconst 0) 1 none 0 [],
  i_0 88 (.iload_n 1) 1 none,
  i_v 89 (.iconst 1) 1 none 1 [],
  i_0 90 (.iadd) 1 none,
  i_m 91 (.invokevirtual 40) 3 none 2 3 [452, 454, 4, 112, 455] 0 sX3_readRung,
  i_j 94 (.ifCond .eq 16) 3 none 62,
  i_0 97 (.aload_n 0) 1 none,
  i_v 98 (.bipush 41) 2 none 41 [],
  i_m 100 (.invokevirtual 36) 3 none 1 3 [478, 479, 480, 112, 481] 0 sX3_accept,
  i_j 103 (.ifCond .eq 7) 3 none 62,
  i_v 106 (.iconst 1) 1 none 1 [],
  i_j 107 (.goto 4) 3 none 63,
  i_v 110 (.iconst 0) 1 none 0 [],
  i_0 111 (.ireturn) 1 none,
  i_0 112 (.aload_n 0) 1 none,
  i_0 113 (.iload_n 1) 1 none,
  i_v 114 (.iconst 1) 1 none 1 [],
  i_0 115 (.iadd) 1 none,
  i_m 116 (.invokevirtual 48) 3 none 1 3 [456, 458, 5, 112, 459] 0 sX3_readOperand,
  i_j 119 (.ifCond .ne 5) 3 none 72,
  i_v 122 (.iconst 0) 1 none 0 [],
  i_0 123 (.ireturn) 1 none,
  i_0 124 (.aload_n 0) 1 none,
  i_0 125 (.iload_n 2) 1 none,
  i_v 126 (.bipush 45) 2 none 45 [],
  i_j 128 (.if_icmp .ne 8) 3 none 78,
  i_v 131 (.bipush 126) 2 none 126 [],
  i_j 133 (.goto 4) 3 none 79,
  i_0 136 (.iload_n 2) 1 none,
  i_m 137 (.invokevirtual 44) 3 none 1 3 [471, 472, 473, 112, 474] 0 sX3_emit,
  i_v 140 (.iconst 1) 1 none 1 [],
  i_0 141 (.ireturn) 1 none]
set_option maxRecDepth 100000 in
theorem oX3_readOperand : xm_ok sX3_readOperand sX3_readOperand.1.cls kX3_readOperand = true := by decide +kernel
set_option maxRecDepth 100000 in
set_option maxHeartbeats 4000000 in
theorem xX3_readOperand_0 {K : Nat} {h : xm_H} {P : Option Value → xm_H → Prop} {a0 : Nat} {x1 : Int32} (H :
    xm_Call K sX3_next 3 [.ref a0] h (xm_pi fun c2 h1 =>
      xm_Call K sX3_isDigit 99 [.int c2] h1 (xm_pi fun c4 h3 =>
        (if c4 = 0 then
          xm_Call K sX3_nameOf 99 [.int c2] h3 (xm_pi fun c6 h5 =>
            (if c6 < 0 then
              (if x1 < (6 : Int32) then
                (if c2 = (40 : Int32) then
                  ∃ f7, xm_fld h5 a0 3 2 = some (.int f7) ∧ /- place -/
                  ∃ h8, xm_put h5 a0 3 2 (.int (f7 + (1 : Int32))) = some h8 ∧ /- place -/
                  (if c2 = (40 : Int32) then
                    xm_Call K sX3_readRung 3 [.ref a0, .int (0 : Int32), .int (x1 + (1 : Int32))] h8 (xm_pi fun c10 h9 =>
                      (if c10 = 0 then
                        P (some (.int (0 : Int32))) h9
                      else
                        xm_Call K sX3_accept 3 [.ref a0, .int (41 : Int32)] h9 (xm_pi fun c12 h11 =>
                          (if c12 = 0 then
                            P (some (.int (0 : Int32))) h11
                          else
                            P (some (.int (1 : Int32))) h11))))
                  else
                    xm_Call K sX3_readOperand 3 [.ref a0, .int (x1 + (1 : Int32))] h8 (xm_pi fun c14 h13 =>
                      (if c14 = 0 then
                        P (some (.int (0 : Int32))) h13
                      else
                        (if c2 = (45 : Int32) then
                          xm_Call K sX3_emit 3 [.ref a0, .int (126 : Int32)] h13 (xm_pv fun h15 =>
                            P (some (.int (1 : Int32))) h15)
                        else
                          xm_Call K sX3_emit 3 [.ref a0, .int c2] h13 (xm_pv fun h16 =>
                            P (some (.int (1 : Int32))) h16)))))
                else
                  (if c2 = (33 : Int32) then
                    ∃ f17, xm_fld h5 a0 3 2 = some (.int f17) ∧ /- place -/
                    ∃ h18, xm_put h5 a0 3 2 (.int (f17 + (1 : Int32))) = some h18 ∧ /- place -/
                    (if c2 = (40 : Int32) then
                      xm_Call K sX3_readRung 3 [.ref a0, .int (0 : Int32), .int (x1 + (1 : Int32))] h18 (xm_pi fun c20 h19 =>
                        (if c20 = 0 then
                          P (some (.int (0 : Int32))) h19
                        else
                          xm_Call K sX3_accept 3 [.ref a0, .int (41 : Int32)] h19 (xm_pi fun c22 h21 =>
                            (if c22 = 0 then
                              P (some (.int (0 : Int32))) h21
                            else
                              P (some (.int (1 : Int32))) h21))))
                    else
                      xm_Call K sX3_readOperand 3 [.ref a0, .int (x1 + (1 : Int32))] h18 (xm_pi fun c24 h23 =>
                        (if c24 = 0 then
                          P (some (.int (0 : Int32))) h23
                        else
                          (if c2 = (45 : Int32) then
                            xm_Call K sX3_emit 3 [.ref a0, .int (126 : Int32)] h23 (xm_pv fun h25 =>
                              P (some (.int (1 : Int32))) h25)
                          else
                            xm_Call K sX3_emit 3 [.ref a0, .int c2] h23 (xm_pv fun h26 =>
                              P (some (.int (1 : Int32))) h26)))))
                  else
                    (if c2 = (45 : Int32) then
                      ∃ f27, xm_fld h5 a0 3 2 = some (.int f27) ∧ /- place -/
                      ∃ h28, xm_put h5 a0 3 2 (.int (f27 + (1 : Int32))) = some h28 ∧ /- place -/
                      (if c2 = (40 : Int32) then
                        xm_Call K sX3_readRung 3 [.ref a0, .int (0 : Int32), .int (x1 + (1 : Int32))] h28 (xm_pi fun c30 h29 =>
                          (if c30 = 0 then
                            P (some (.int (0 : Int32))) h29
                          else
                            xm_Call K sX3_accept 3 [.ref a0, .int (41 : Int32)] h29 (xm_pi fun c32 h31 =>
                              (if c32 = 0 then
                                P (some (.int (0 : Int32))) h31
                              else
                                P (some (.int (1 : Int32))) h31))))
                      else
                        xm_Call K sX3_readOperand 3 [.ref a0, .int (x1 + (1 : Int32))] h28 (xm_pi fun c34 h33 =>
                          (if c34 = 0 then
                            P (some (.int (0 : Int32))) h33
                          else
                            (if c2 = (45 : Int32) then
                              xm_Call K sX3_emit 3 [.ref a0, .int (126 : Int32)] h33 (xm_pv fun h35 =>
                                P (some (.int (1 : Int32))) h35)
                            else
                              xm_Call K sX3_emit 3 [.ref a0, .int c2] h33 (xm_pv fun h36 =>
                                P (some (.int (1 : Int32))) h36)))))
                    else
                      P (some (.int (0 : Int32))) h5)))
              else
                P (some (.int (0 : Int32))) h5)
            else
              ∃ f37, xm_fld h5 a0 3 2 = some (.int f37) ∧ /- place -/
              ∃ h38, xm_put h5 a0 3 2 (.int (f37 + (1 : Int32))) = some h38 ∧ /- place -/
              xm_Call K sX3_emit 3 [.ref a0, .int c6] h38 (xm_pv fun h39 =>
                P (some (.int (1 : Int32))) h39)))
        else
          xm_Call K sX3_readNumber 3 [.ref a0] h3 (xm_pv fun h40 =>
            P (some (.int (1 : Int32))) h40))))) :
    xm_L K sX3_readOperand kX3_readOperand 0 [some (.ref a0), some (.int x1), none, none] [] h P :=
  xm_run (fun _ _ h => h) oX3_readOperand 48 0 0 0 [some (.ref a0), some (.int x1), none, none] [] h H
set_option maxRecDepth 100000 in
theorem eX3_readOperand {K K' : Nat} (hK : K < K') {h : xm_H} {P : Option Value → xm_H → Prop} {a0 : Nat} {x1 : Int32} (hr : ∃ fs, h[a0]? = some (.inr (3, fs))) (H :
    xm_Call K sX3_next 3 [.ref a0] h (xm_pi fun c2 h1 =>
      xm_Call K sX3_isDigit 99 [.int c2] h1 (xm_pi fun c4 h3 =>
        (if c4 = 0 then
          xm_Call K sX3_nameOf 99 [.int c2] h3 (xm_pi fun c6 h5 =>
            (if c6 < 0 then
              (if x1 < (6 : Int32) then
                (if c2 = (40 : Int32) then
                  ∃ f7, xm_fld h5 a0 3 2 = some (.int f7) ∧ /- place -/
                  ∃ h8, xm_put h5 a0 3 2 (.int (f7 + (1 : Int32))) = some h8 ∧ /- place -/
                  (if c2 = (40 : Int32) then
                    xm_Call K sX3_readRung 3 [.ref a0, .int (0 : Int32), .int (x1 + (1 : Int32))] h8 (xm_pi fun c10 h9 =>
                      (if c10 = 0 then
                        P (some (.int (0 : Int32))) h9
                      else
                        xm_Call K sX3_accept 3 [.ref a0, .int (41 : Int32)] h9 (xm_pi fun c12 h11 =>
                          (if c12 = 0 then
                            P (some (.int (0 : Int32))) h11
                          else
                            P (some (.int (1 : Int32))) h11))))
                  else
                    xm_Call K sX3_readOperand 3 [.ref a0, .int (x1 + (1 : Int32))] h8 (xm_pi fun c14 h13 =>
                      (if c14 = 0 then
                        P (some (.int (0 : Int32))) h13
                      else
                        (if c2 = (45 : Int32) then
                          xm_Call K sX3_emit 3 [.ref a0, .int (126 : Int32)] h13 (xm_pv fun h15 =>
                            P (some (.int (1 : Int32))) h15)
                        else
                          xm_Call K sX3_emit 3 [.ref a0, .int c2] h13 (xm_pv fun h16 =>
                            P (some (.int (1 : Int32))) h16)))))
                else
                  (if c2 = (33 : Int32) then
                    ∃ f17, xm_fld h5 a0 3 2 = some (.int f17) ∧ /- place -/
                    ∃ h18, xm_put h5 a0 3 2 (.int (f17 + (1 : Int32))) = some h18 ∧ /- place -/
                    (if c2 = (40 : Int32) then
                      xm_Call K sX3_readRung 3 [.ref a0, .int (0 : Int32), .int (x1 + (1 : Int32))] h18 (xm_pi fun c20 h19 =>
                        (if c20 = 0 then
                          P (some (.int (0 : Int32))) h19
                        else
                          xm_Call K sX3_accept 3 [.ref a0, .int (41 : Int32)] h19 (xm_pi fun c22 h21 =>
                            (if c22 = 0 then
                              P (some (.int (0 : Int32))) h21
                            else
                              P (some (.int (1 : Int32))) h21))))
                    else
                      xm_Call K sX3_readOperand 3 [.ref a0, .int (x1 + (1 : Int32))] h18 (xm_pi fun c24 h23 =>
                        (if c24 = 0 then
                          P (some (.int (0 : Int32))) h23
                        else
                          (if c2 = (45 : Int32) then
                            xm_Call K sX3_emit 3 [.ref a0, .int (126 : Int32)] h23 (xm_pv fun h25 =>
                              P (some (.int (1 : Int32))) h25)
                          else
                            xm_Call K sX3_emit 3 [.ref a0, .int c2] h23 (xm_pv fun h26 =>
                              P (some (.int (1 : Int32))) h26)))))
                  else
                    (if c2 = (45 : Int32) then
                      ∃ f27, xm_fld h5 a0 3 2 = some (.int f27) ∧ /- place -/
                      ∃ h28, xm_put h5 a0 3 2 (.int (f27 + (1 : Int32))) = some h28 ∧ /- place -/
                      (if c2 = (40 : Int32) then
                        xm_Call K sX3_readRung 3 [.ref a0, .int (0 : Int32), .int (x1 + (1 : Int32))] h28 (xm_pi fun c30 h29 =>
                          (if c30 = 0 then
                            P (some (.int (0 : Int32))) h29
                          else
                            xm_Call K sX3_accept 3 [.ref a0, .int (41 : Int32)] h29 (xm_pi fun c32 h31 =>
                              (if c32 = 0 then
                                P (some (.int (0 : Int32))) h31
                              else
                                P (some (.int (1 : Int32))) h31))))
                      else
                        xm_Call K sX3_readOperand 3 [.ref a0, .int (x1 + (1 : Int32))] h28 (xm_pi fun c34 h33 =>
                          (if c34 = 0 then
                            P (some (.int (0 : Int32))) h33
                          else
                            (if c2 = (45 : Int32) then
                              xm_Call K sX3_emit 3 [.ref a0, .int (126 : Int32)] h33 (xm_pv fun h35 =>
                                P (some (.int (1 : Int32))) h35)
                            else
                              xm_Call K sX3_emit 3 [.ref a0, .int c2] h33 (xm_pv fun h36 =>
                                P (some (.int (1 : Int32))) h36)))))
                    else
                      P (some (.int (0 : Int32))) h5)))
              else
                P (some (.int (0 : Int32))) h5)
            else
              ∃ f37, xm_fld h5 a0 3 2 = some (.int f37) ∧ /- place -/
              ∃ h38, xm_put h5 a0 3 2 (.int (f37 + (1 : Int32))) = some h38 ∧ /- place -/
              xm_Call K sX3_emit 3 [.ref a0, .int c6] h38 (xm_pv fun h39 =>
                P (some (.int (1 : Int32))) h39)))
        else
          xm_Call K sX3_readNumber 3 [.ref a0] h3 (xm_pv fun h40 =>
            P (some (.int (1 : Int32))) h40))))) :
    xm_Call K' sX3_readOperand 3 [.ref a0, .int x1] h P :=
  xm_call_of (C := kX3_readOperand) hK (by decide +kernel) rfl (Nat.le_of_ble_eq_true rfl) (Or.inr ⟨a0, hr.choose, rfl, hr.choose_spec⟩) (xX3_readOperand_0 H)

def kX3_nameOf : List xm_I := [
  i_0 0 (.iload_n 0) 1 none,
  i_s 1 (.lookupswitch 71 #[(97, 63), (103, 69), (107, 59), (111, 65), (115, 67), (119, 61)]) 59 none 14 [(97, 6), (103, 12), (107, 2), (111, 8), (115, 10), (119, 4)],
  i_v 60 (.iconst 0) 1 none 0 [],
  i_0 61 (.ireturn) 1 none,
  i_v 62 (.iconst 1) 1 none 1 [],
  i_0 63 (.ireturn) 1 none,
  i_v 64 (.iconst 2) 1 none 2 [],
  i_0 65 (.ireturn) 1 none,
  i_v 66 (.iconst 3) 1 none 3 [],
  i_0 67 (.ireturn) 1 none,
  i_v 68 (.iconst 4) 1 none 4 [],
  i_0 69 (.ireturn) 1 none,
  i_v 70 (.iconst 5) 1 none 5 [],
  i_0 71 (.ireturn) 1 none,
  i_v 72 (.iconst (-1)) 1 none (-1) [],
  i_0 73 (.ireturn) 1 none]
set_option maxRecDepth 100000 in
theorem oX3_nameOf : xm_ok sX3_nameOf sX3_nameOf.1.cls kX3_nameOf = true := by decide +kernel
set_option maxRecDepth 100000 in
set_option maxHeartbeats 4000000 in
theorem xX3_nameOf_0 {K : Nat} {h : xm_H} {P : Option Value → xm_H → Prop} {x0 : Int32} (H :
    (if x0 = 97 then
      P (some (.int (2 : Int32))) h
    else
    (if x0 = 103 then
      P (some (.int (5 : Int32))) h
    else
    (if x0 = 107 then
      P (some (.int (0 : Int32))) h
    else
    (if x0 = 111 then
      P (some (.int (3 : Int32))) h
    else
    (if x0 = 115 then
      P (some (.int (4 : Int32))) h
    else
    (if x0 = 119 then
      P (some (.int (1 : Int32))) h
    else
    P (some (.int (-1 : Int32))) h))))))) :
    xm_L K sX3_nameOf kX3_nameOf 0 [some (.int x0)] [] h P :=
  xm_run (fun _ _ h => h) oX3_nameOf 5 0 0 0 [some (.int x0)] [] h H
set_option maxRecDepth 100000 in
theorem eX3_nameOf {K K' : Nat} (hK : K < K') {h : xm_H} {P : Option Value → xm_H → Prop} {x0 : Int32} (H :
    (if x0 = 97 then
      P (some (.int (2 : Int32))) h
    else
    (if x0 = 103 then
      P (some (.int (5 : Int32))) h
    else
    (if x0 = 107 then
      P (some (.int (0 : Int32))) h
    else
    (if x0 = 111 then
      P (some (.int (3 : Int32))) h
    else
    (if x0 = 115 then
      P (some (.int (4 : Int32))) h
    else
    (if x0 = 119 then
      P (some (.int (1 : Int32))) h
    else
    P (some (.int (-1 : Int32))) h))))))) :
    xm_Call K' sX3_nameOf 99 [.int x0] h P :=
  xm_call_of (C := kX3_nameOf) hK (by decide +kernel) rfl (Nat.le_of_ble_eq_true rfl) (Or.inl rfl) (xX3_nameOf_0 H)

def kX3_isDigit : List xm_I := [
  i_0 0 (.iload_n 0) 1 none,
  i_v 1 (.bipush 48) 2 none 48 [],
  i_j 3 (.if_icmp .lt 13) 3 none 8,
  i_0 6 (.iload_n 0) 1 none,
  i_v 7 (.bipush 57) 2 none 57 [],
  i_j 9 (.if_icmp .gt 7) 3 none 8,
  i_v 12 (.iconst 1) 1 none 1 [],
  i_j 13 (.goto 4) 3 none 9,
  i_v 16 (.iconst 0) 1 none 0 [],
  i_0 17 (.ireturn) 1 none]
set_option maxRecDepth 100000 in
theorem oX3_isDigit : xm_ok sX3_isDigit sX3_isDigit.1.cls kX3_isDigit = true := by decide +kernel
set_option maxRecDepth 100000 in
set_option maxHeartbeats 4000000 in
theorem xX3_isDigit_0 {K : Nat} {h : xm_H} {P : Option Value → xm_H → Prop} {x0 : Int32} (H :
    (if x0 < (48 : Int32) then
      P (some (.int (0 : Int32))) h
    else
      (if (57 : Int32) < x0 then
        P (some (.int (0 : Int32))) h
      else
        P (some (.int (1 : Int32))) h))) :
    xm_L K sX3_isDigit kX3_isDigit 0 [some (.int x0)] [] h P :=
  xm_run (fun _ _ h => h) oX3_isDigit 10 0 0 0 [some (.int x0)] [] h H
set_option maxRecDepth 100000 in
theorem eX3_isDigit {K K' : Nat} (hK : K < K') {h : xm_H} {P : Option Value → xm_H → Prop} {x0 : Int32} (H :
    (if x0 < (48 : Int32) then
      P (some (.int (0 : Int32))) h
    else
      (if (57 : Int32) < x0 then
        P (some (.int (0 : Int32))) h
      else
        P (some (.int (1 : Int32))) h))) :
    xm_Call K' sX3_isDigit 99 [.int x0] h P :=
  xm_call_of (C := kX3_isDigit) hK (by decide +kernel) rfl (Nat.le_of_ble_eq_true rfl) (Or.inl rfl) (xX3_isDigit_0 H)

def kX3_readNumber : List xm_I := [
  i_v 0 (.iconst 0) 1 none 0 [],
  i_0 1 (.istore_n 1) 1 none,
  i_v 2 (.iconst 0) 1 none 0 [],
  i_0 3 (.istore_n 2) 1 none,
  i_0 4 (.iload_n 2) 1 (some [true, true, true]),
  i_v 5 (.iconst 4) 1 none 4 [],
  i_j 6 (.if_icmp .ge 42) 3 none 28,
  i_0 9 (.aload_n 0) 1 none,
  i_m 10 (.invokevirtual 28) 3 none 0 3 [460, 461, 462, 112, 463] 0 sX3_next,
  i_m 13 (.invokestatic 55) 3 none 1 99 [464, 465, 112, 466] 0 sX3_isDigit,
  i_j 16 (.ifCond .eq 32) 3 none 28,
  i_0 19 (.iload_n 1) 1 none,
  i_v 20 (.bipush 10) 2 none 10 [],
  i_0 22 (.imul) 1 none,
  i_0 23 (.aload_n 0) 1 none,
  i_m 24 (.invokevirtual 28) 3 none 0 3 [460, 461, 462, 112, 463] 0 sX3_next,
  i_0 27 (.iadd) 1 none,
  i_v 28 (.bipush 48) 2 none 48 [],
  i_0 30 (.isub) 1 none,
  i_0 31 (.istore_n 1) 1 none,
  i_0 32 (.aload_n 0) 1 none,
  i_0 33 (.dup) 1 none,
  i_f 34 (.getfield 19) 3 none 3 2 [220] 0,
  i_v 37 (.iconst 1) 1 none 1 [],
  i_0 38 (.iadd) 1 none,
  i_f 39 (.putfield 19) 3 none 3 2 [220] 0,
  i_v 42 (.iinc 2 1) 3 none 1 [],
  i_j 45 (.goto (-41)) 3 none 4,
  i_0 48 (.aload_n 0) 1 none,
  i_v 49 (.sipush 1000) 3 none 1000 [],
  i_0 52 (.iload_n 1) 1 none,
  i_0 53 (.iadd) 1 none,
  i_m 54 (.invokevirtual 44) 3 none 1 3 [471, 472, 473, 112, 474] 0 sX3_emit,
  i_0 57 (.return_) 1 none]
set_option maxRecDepth 100000 in
theorem oX3_readNumber : xm_ok sX3_readNumber sX3_readNumber.1.cls kX3_readNumber = true := by decide +kernel
set_option maxRecDepth 100000 in
set_option maxHeartbeats 4000000 in
theorem xX3_readNumber_0 {K : Nat} {h : xm_H} {P : Option Value → xm_H → Prop} {a0 : Nat} (H :
    xm_L K sX3_readNumber kX3_readNumber 4 [some (.ref a0), some (.int (0 : Int32)), some (.int (0 : Int32))] [] h P) :
    xm_L K sX3_readNumber kX3_readNumber 0 [some (.ref a0), none, none] [] h P :=
  xm_run (fun _ _ h => h) oX3_readNumber 5 0 0 0 [some (.ref a0), none, none] [] h H
set_option maxRecDepth 100000 in
theorem eX3_readNumber {K K' : Nat} (hK : K < K') {h : xm_H} {P : Option Value → xm_H → Prop} {a0 : Nat} (hr : ∃ fs, h[a0]? = some (.inr (3, fs))) (H :
    xm_L K sX3_readNumber kX3_readNumber 4 [some (.ref a0), some (.int (0 : Int32)), some (.int (0 : Int32))] [] h P) :
    xm_Call K' sX3_readNumber 3 [.ref a0] h P :=
  xm_call_of (C := kX3_readNumber) hK (by decide +kernel) rfl (Nat.le_of_ble_eq_true rfl) (Or.inr ⟨a0, hr.choose, rfl, hr.choose_spec⟩) (xX3_readNumber_0 H)

set_option maxRecDepth 100000 in
set_option maxHeartbeats 4000000 in
theorem xX3_readNumber_4 {K : Nat} {h : xm_H} {P : Option Value → xm_H → Prop} {a0 : Nat} {x1 : Int32} {x2 : Int32} (H :
    (if x2 < (4 : Int32) then
      xm_Call K sX3_next 3 [.ref a0] h (xm_pi fun c2 h1 =>
        xm_Call K sX3_isDigit 99 [.int c2] h1 (xm_pi fun c4 h3 =>
          (if c4 = 0 then
            xm_Call K sX3_emit 3 [.ref a0, .int ((1000 : Int32) + x1)] h3 (xm_pv fun h5 =>
              P none h5)
          else
            xm_Call K sX3_next 3 [.ref a0] h3 (xm_pi fun c7 h6 =>
              ∃ f8, xm_fld h6 a0 3 2 = some (.int f8) ∧ /- place -/
              ∃ h9, xm_put h6 a0 3 2 (.int (f8 + (1 : Int32))) = some h9 ∧ /- place -/
              xm_L K sX3_readNumber kX3_readNumber 4 [some (.ref a0), some (.int (((x1 * (10 : Int32)) + c7) - (48 : Int32))), some (.int (x2 + (1 : Int32)))] [] h9 P))))
    else
      xm_Call K sX3_emit 3 [.ref a0, .int ((1000 : Int32) + x1)] h (xm_pv fun h10 =>
        P none h10))) :
    xm_L K sX3_readNumber kX3_readNumber 4 [some (.ref a0), some (.int x1), some (.int x2)] [] h P :=
  xm_run (fun _ _ h => h) oX3_readNumber 25 4 0 0 [some (.ref a0), some (.int x1), some (.int x2)] [] h H

