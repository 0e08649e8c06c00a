def kX7_init : List xm_I := [
  i_0 0 (.aload_n 0) 1 none,
  i_f 1 (.invokespecial 3) 3 none 0 0 [134, 127, 128] 2,
  i_0 4 (.aload_n 0) 1 none,
  i_v 5 (.bipush 67) 2 none 67 [],
  i_f 7 (.newarray .int) 2 none 0 67 [147] 67,
  i_f 9 (.putfield 9) 3 none 7 0 [137] 1,
  i_0 12 (.aload_n 0) 1 none,
  i_v 13 (.iconst 0) 1 none 0 [],
  i_f 14 (.putfield 15) 3 none 7 1 [139] 0,
  i_v 17 (.iconst 0) 1 none 0 [],
  i_0 18 (.istore_n 1) 1 none,
  i_0 19 (.iload_n 1) 1 (some [true, true]),
  i_v 20 (.bipush 8) 2 none 8 [],
  i_j 22 (.if_icmp .ge 24) 3 none 25,
  i_0 25 (.aload_n 0) 1 none,
  i_f 26 (.getfield 9) 3 none 7 0 [137] 1,
  i_v 29 (.bipush 56) 2 none 56 [],
  i_0 31 (.iload_n 1) 1 none,
  i_0 32 (.iadd) 1 none,
  i_f 33 (.getstatic 19) 3 none 2 0 [135] 1,
  i_v 36 (.bipush 7) 2 none 7 [],
  i_0 38 (.iaload) 1 none,
  i_0 39 (.iastore) 1 none,
  i_v 40 (.iinc 1 1) 3 none 1 [],
  i_j 43 (.goto (-24)) 3 none 11,
  i_v 46 (.bipush 8) 2 none 8 [],
  i_0 48 (.istore_n 1) 1 none,
  i_0 49 (.iload_n 1) 1 (some [true, true]),
  i_v 50 (.bipush 10) 2 none 10 [],
  i_j 52 (.if_icmp .gt 26) 3 none 43,
  i_0 55 (.aload_n 0) 1 none,
  i_f 56 (.getfield 9) 3 none 7 0 [137] 1,
  i_v 59 (.bipush 64) 2 none 64 [],
  i_0 61 (.iload_n 1) 1 none,
  i_0 62 (.iadd) 1 none,
  i_v 63 (.bipush 8) 2 none 8 [],
  i_0 65 (.isub) 1 none,
  i_f 66 (.getstatic 19) 3 none 2 0 [135] 1,
  i_0 69 (.iload_n 1) 1 none,
  i_0 70 (.iaload) 1 none,
  i_0 71 (.iastore) 1 none,
  i_v 72 (.iinc 1 1) 3 none 1 [],
  i_j 75 (.goto (-26)) 3 none 27,
  i_0 78 (.return_) 1 none]
set_option maxRecDepth 100000 in
theorem oX7_init : xm_ok sX7_init sX7_init.1.cls kX7_init = true := by decide +kernel
set_option maxRecDepth 100000 in
set_option maxHeartbeats 4000000 in
theorem xX7_init_0 {K : Nat} {h : xm_H} {P : Option Value → xm_H → Prop} {a0 : Nat} (H :
    (0 + 1 ≤ 1 ∧ 0 + 67 ≤ 67) ∧ xm_va h [some (.ref a0), none] [.ref a0] 1 ∧
    ∃ h1, xm_put (h ++ [xm_za 0 67]) a0 7 0 (.ref (List.length h)) = some h1 ∧ /- cells -/
    ∃ h2, xm_put h1 a0 7 1 (.int (0 : Int32)) = some h2 ∧ /- people -/
    xm_At xm_st K sX7_init sX7_init.1.cls kX7_init 11 1 67 [some (.ref a0), some (.int (0 : Int32))] [] h2 P) :
    xm_At xm_st K sX7_init sX7_init.1.cls kX7_init 0 0 0 [some (.ref a0), none] [] h P :=
  xm_run (fun _ _ h => h) oX7_init 12 0 0 0 [some (.ref a0), none] [] h H
set_option maxRecDepth 100000 in
theorem eX7_init {K K' : Nat} (hK : K < K') {h : xm_H} {P : Option Value → xm_H → Prop} {a0 : Nat} (hr : ∃ fs, h[a0]? = some (.inr (7, fs))) (H :
    (0 + 1 ≤ 1 ∧ 0 + 67 ≤ 67) ∧ xm_va h [some (.ref a0), none] [.ref a0] 1 ∧
    ∃ h1, xm_put (h ++ [xm_za 0 67]) a0 7 0 (.ref (List.length h)) = some h1 ∧ /- cells -/
    ∃ h2, xm_put h1 a0 7 1 (.int (0 : Int32)) = some h2 ∧ /- people -/
    xm_At xm_st K sX7_init sX7_init.1.cls kX7_init 11 1 67 [some (.ref a0), some (.int (0 : Int32))] [] h2 P) :
    xm_Call K' sX7_init 7 [.ref a0] h P :=
  xm_call_of (C := kX7_init) hK (by decide +kernel) rfl (Nat.le_of_ble_eq_true rfl) (Or.inr ⟨a0, hr.choose, rfl, hr.choose_spec⟩) (xX7_init_0 H)

set_option maxRecDepth 100000 in
set_option maxHeartbeats 4000000 in
theorem xX7_init_11 {K : Nat} {h : xm_H} {P : Option Value → xm_H → Prop} {a0 : Nat} {x1 : Int32} (H :
    (if x1 < (8 : Int32) then
      ∃ q1, xm_fld h a0 7 0 = some (.ref q1) ∧ /- cells -/
      ∃ e2, xm_ld xm_st h 0 (1000 + 2) (7 : Int32) = some e2 ∧
      ∃ h3, xm_sto h 0 q1 ((56 : Int32) + x1) e2 = some h3 ∧
      xm_At xm_st K sX7_init sX7_init.1.cls kX7_init 11 1 67 [some (.ref a0), some (.int (x1 + (1 : Int32)))] [] h3 P
    else
      xm_At xm_st K sX7_init sX7_init.1.cls kX7_init 27 1 67 [some (.ref a0), some (.int (8 : Int32))] [] h P)) :
    xm_At xm_st K sX7_init sX7_init.1.cls kX7_init 11 1 67 [some (.ref a0), some (.int x1)] [] h P :=
  xm_run (fun _ _ h => h) oX7_init 15 11 1 67 [some (.ref a0), some (.int x1)] [] h H

set_option maxRecDepth 100000 in
set_option maxHeartbeats 4000000 in
theorem xX7_init_27 {K : Nat} {h : xm_H} {P : Option Value → xm_H → Prop} {a0 : Nat} {x1 : Int32} (H :
    (if (10 : Int32) < x1 then
      P none h
    else
      ∃ q1, xm_fld h a0 7 0 = some (.ref q1) ∧ /- cells -/
      ∃ e2, xm_ld xm_st h 0 (1000 + 2) x1 = some e2 ∧
      ∃ h3, xm_sto h 0 q1 (((64 : Int32) + x1) - (8 : Int32)) e2 = some h3 ∧
      xm_At xm_st K sX7_init sX7_init.1.cls kX7_init 27 1 67 [some (.ref a0), some (.int (x1 + (1 : Int32)))] [] h3 P)) :
    xm_At xm_st K sX7_init sX7_init.1.cls kX7_init 27 1 67 [some (.ref a0), some (.int x1)] [] h P :=
  xm_run (fun _ _ h => h) oX7_init 17 27 1 67 [some (.ref a0), some (.int x1)] [] h H

def kX7_has : List xm_I := [
  i_0 0 (.iload_n 1) 1 none,
  i_j 1 (.ifCond .lt 15) 3 none 8,
  i_0 4 (.iload_n 1) 1 none,
  i_0 5 (.aload_n 0) 1 none,
  i_f 6 (.getfield 15) 3 none 7 1 [139] 0,
  i_j 9 (.if_icmp .ge 7) 3 none 8,
  i_v 12 (.iconst 1) 1 none 1 [],
  i_j 13 (.goto 4) 3 none 9,
  i_v 16 (.iconst 0) 1 none 0 [],
  i_0 17 (.ireturn) 1 none]
set_option maxRecDepth 100000 in
theorem oX7_has : xm_ok sX7_has sX7_has.1.cls kX7_has = true := by decide +kernel
set_option maxRecDepth 100000 in
set_option maxHeartbeats 4000000 in
theorem xX7_has_0 {K : Nat} {h : xm_H} {P : Option Value → xm_H → Prop} {a0 : Nat} {x1 : Int32} (H :
    (if x1 < 0 then
      P (some (.int (0 : Int32))) h
    else
      ∃ f1, xm_fld h a0 7 1 = some (.int f1) ∧ /- people -/
      (if x1 < f1 then
        P (some (.int (1 : Int32))) h
      else
        P (some (.int (0 : Int32))) h))) :
    xm_L K sX7_has kX7_has 0 [some (.ref a0), some (.int x1)] [] h P :=
  xm_run (fun _ _ h => h) oX7_has 10 0 0 0 [some (.ref a0), some (.int x1)] [] h H
set_option maxRecDepth 100000 in
theorem eX7_has {K K' : Nat} (hK : K < K') {h : xm_H} {P : Option Value → xm_H → Prop} {a0 : Nat} {x1 : Int32} (hr : ∃ fs, h[a0]? = some (.inr (7, fs))) (H :
    (if x1 < 0 then
      P (some (.int (0 : Int32))) h
    else
      ∃ f1, xm_fld h a0 7 1 = some (.int f1) ∧ /- people -/
      (if x1 < f1 then
        P (some (.int (1 : Int32))) h
      else
        P (some (.int (0 : Int32))) h))) :
    xm_Call K' sX7_has 7 [.ref a0, .int x1] h P :=
  xm_call_of (C := kX7_has) hK (by decide +kernel) rfl (Nat.le_of_ble_eq_true rfl) (Or.inr ⟨a0, hr.choose, rfl, hr.choose_spec⟩) (xX7_has_0 H)

def kX7_cellOf : List xm_I := [
  i_0 0 (.iload_n 1) 1 none,
  i_j 1 (.ifCond .lt 13) 3 none 7,
  i_0 4 (.iload_n 2) 1 none,
  i_j 5 (.ifCond .lt 9) 3 none 7,
  i_0 8 (.iload_n 2) 1 none,
  i_v 9 (.bipush 10) 2 none 10 [],
  i_j 11 (.if_icmp .le 5) 3 none 9,
  i_v 14 (.iconst (-1)) 1 none (-1) [],
  i_0 15 (.ireturn) 1 none,
  i_0 16 (.iload_n 2) 1 none,
  i_v 17 (.bipush 6) 2 none 6 [],
  i_j 19 (.if_icmp .gt 22) 3 none 24,
  i_0 22 (.iload_n 1) 1 none,
  i_0 23 (.aload_n 0) 1 none,
  i_f 24 (.getfield 15) 3 none 7 1 [139] 0,
  i_j 27 (.if_icmp .ge 12) 3 none 22,
  i_0 30 (.iload_n 2) 1 none,
  i_v 31 (.bipush 8) 2 none 8 [],
  i_0 33 (.imul) 1 none,
  i_0 34 (.iload_n 1) 1 none,
  i_0 35 (.iadd) 1 none,
  i_j 36 (.goto 4) 3 none 23,
  i_v 39 (.iconst (-1)) 1 none (-1) [],
  i_0 40 (.ireturn) 1 none,
  i_0 41 (.iload_n 2) 1 none,
  i_v 42 (.bipush 7) 2 none 7 [],
  i_j 44 (.if_icmp .ne 18) 3 none 36,
  i_0 47 (.iload_n 1) 1 none,
  i_v 48 (.bipush 8) 2 none 8 [],
  i_j 50 (.if_icmp .ge 10) 3 none 34,
  i_v 53 (.bipush 56) 2 none 56 [],
  i_0 55 (.iload_n 1) 1 none,
  i_0 56 (.iadd) 1 none,
  i_j 57 (.goto 4) 3 none 35,
  i_v 60 (.iconst (-1)) 1 none (-1) [],
  i_0 61 (.ireturn) 1 none,
  i_0 62 (.iload_n 1) 1 none,
  i_j 63 (.ifCond .ne 13) 3 none 44,
  i_v 66 (.bipush 64) 2 none 64 [],
  i_0 68 (.iload_n 2) 1 none,
  i_0 69 (.iadd) 1 none,
  i_v 70 (.bipush 8) 2 none 8 [],
  i_0 72 (.isub) 1 none,
  i_j 73 (.goto 4) 3 none 45,
  i_v 76 (.iconst (-1)) 1 none (-1) [],
  i_0 77 (.ireturn) 1 none]
set_option maxRecDepth 100000 in
theorem oX7_cellOf : xm_ok sX7_cellOf sX7_cellOf.1.cls kX7_cellOf = true := by decide +kernel
set_option maxRecDepth 100000 in
set_option maxHeartbeats 4000000 in
theorem xX7_cellOf_0 {K : Nat} {h : xm_H} {P : Option Value → xm_H → Prop} {a0 : Nat} {x1 : Int32} {x2 : Int32} (H :
    (if x1 < 0 then
      P (some (.int (-1 : Int32))) h
    else
      (if x2 < 0 then
        P (some (.int (-1 : Int32))) h
      else
        (if (10 : Int32) < x2 then
          P (some (.int (-1 : Int32))) h
        else
          (if (6 : Int32) < x2 then
            (if x2 = (7 : Int32) then
              (if x1 < (8 : Int32) then
                P (some (.int ((56 : Int32) + x1))) h
              else
                P (some (.int (-1 : Int32))) h)
            else
              (if x1 = 0 then
                P (some (.int (((64 : Int32) + x2) - (8 : Int32)))) h
              else
                P (some (.int (-1 : Int32))) h))
          else
            ∃ f1, xm_fld h a0 7 1 = some (.int f1) ∧ /- people -/
            (if x1 < f1 then
              P (some (.int ((x2 * (8 : Int32)) + x1))) h
            else
              P (some (.int (-1 : Int32))) h)))))) :
    xm_L K sX7_cellOf kX7_cellOf 0 [some (.ref a0), some (.int x1), some (.int x2)] [] h P :=
  xm_run (fun _ _ h => h) oX7_cellOf 23 0 0 0 [some (.ref a0), some (.int x1), some (.int x2)] [] h H
set_option maxRecDepth 100000 in
theorem eX7_cellOf {K K' : Nat} (hK : K < K') {h : xm_H} {P : Option Value → xm_H → Prop} {a0 : Nat} {x1 : Int32} {x2 : Int32} (hr : ∃ fs, h[a0]? = some (.inr (7, fs))) (H :
    (if x1 < 0 then
      P (some (.int (-1 : Int32))) h
    else
      (if x2 < 0 then
        P (some (.int (-1 : Int32))) h
      else
        (if (10 : Int32) < x2 then
          P (some (.int (-1 : Int32))) h
        else
          (if (6 : Int32) < x2 then
            (if x2 = (7 : Int32) then
              (if x1 < (8 : Int32) then
                P (some (.int ((56 : Int32) + x1))) h
              else
                P (some (.int (-1 : Int32))) h)
            else
              (if x1 = 0 then
                P (some (.int (((64 : Int32) + x2) - (8 : Int32)))) h
              else
                P (some (.int (-1 : Int32))) h))
          else
            ∃ f1, xm_fld h a0 7 1 = some (.int f1) ∧ /- people -/
            (if x1 < f1 then
              P (some (.int ((x2 * (8 : Int32)) + x1))) h
            else
              P (some (.int (-1 : Int32))) h)))))) :
    xm_Call K' sX7_cellOf 7 [.ref a0, .int x1, .int x2] h P :=
  xm_call_of (C := kX7_cellOf) hK (by decide +kernel) rfl (Nat.le_of_ble_eq_true rfl) (Or.inr ⟨a0, hr.choose, rfl, hr.choose_spec⟩) (xX7_cellOf_0 H)

def kX7_get : List xm_I := [
  i_0 0 (.aload_n 0) 1 none,
  i_0 1 (.iload_n 1) 1 none,
  i_0 2 (.iload_n 2) 1 none,
  i_m 3 (.invokevirtual 22) 3 none 2 7 [388, 389, 390, 109, 391] 0 sX7_cellOf,
  i_0 6 (.istore_n 3) 1 none,
  i_0 7 (.iload_n 3) 1 none,
  i_j 8 (.ifCond .ge 7) 3 none 9,
  i_v 11 (.iconst 0) 1 none 0 [],
  i_j 12 (.goto 9) 3 none 13,
  i_0 15 (.aload_n 0) 1 none,
  i_f 16 (.getfield 9) 3 none 7 0 [137] 1,
  i_0 19 (.iload_n 3) 1 none,
  i_0 20 (.iaload) 1 none,
  i_0 21 (.ireturn) 1 none]
set_option maxRecDepth 100000 in
theorem oX7_get : xm_ok sX7_get sX7_get.1.cls kX7_get = true := by decide +kernel
set_option maxRecDepth 100000 in
set_option maxHeartbeats 4000000 in
theorem xX7_get_0 {K : Nat} {h : xm_H} {P : Option Value → xm_H → Prop} {a0 : Nat} {x1 : Int32} {x2 : Int32} (H :
    xm_Call K sX7_cellOf 7 [.ref a0, .int x1, .int x2] h (xm_pi fun c2 h1 =>
      (if c2 < 0 then
        P (some (.int (0 : Int32))) h1
      else
        ∃ q3, xm_fld h1 a0 7 0 = some (.ref q3) ∧ /- cells -/
        ∃ e4, xm_ld xm_st h1 0 q3 c2 = some e4 ∧
        P (some (.int e4)) h1))) :
    xm_L K sX7_get kX7_get 0 [some (.ref a0), some (.int x1), some (.int x2), none] [] h P :=
  xm_run (fun _ _ h => h) oX7_get 13 0 0 0 [some (.ref a0), some (.int x1), some (.int x2), none] [] h H
set_option maxRecDepth 100000 in
theorem eX7_get {K K' : Nat} (hK : K < K') {h : xm_H} {P : Option Value → xm_H → Prop} {a0 : Nat} {x1 : Int32} {x2 : Int32} (hr : ∃ fs, h[a0]? = some (.inr (7, fs))) (H :
    xm_Call K sX7_cellOf 7 [.ref a0, .int x1, .int x2] h (xm_pi fun c2 h1 =>
      (if c2 < 0 then
        P (some (.int (0 : Int32))) h1
      else
        ∃ q3, xm_fld h1 a0 7 0 = some (.ref q3) ∧ /- cells -/
        ∃ e4, xm_ld xm_st h1 0 q3 c2 = some e4 ∧
        P (some (.int e4)) h1))) :
    xm_Call K' sX7_get 7 [.ref a0, .int x1, .int x2] h P :=
  xm_call_of (C := kX7_get) hK (by decide +kernel) rfl (Nat.le_of_ble_eq_true rfl) (Or.inr ⟨a0, hr.choose, rfl, hr.choose_spec⟩) (xX7_get_0 H)

def kX7_set : List xm_I := [
  i_0 0 (.aload_n 0) 1 none,
  i_0 1 (.iload_n 1) 1 none,
  i_0 2 (.iload_n 2) 1 none,
  i_m 3 (.invokevirtual 22) 3 none 2 7 [388, 389, 390, 109, 391] 0 sX7_cellOf,
  i_0 6 (.istore 4) 2 none,
  i_0 8 (.iload 4) 2 none,
  i_j 10 (.ifCond .lt 11) 3 none 12,
  i_0 13 (.aload_n 0) 1 none,
  i_f 14 (.getfield 9) 3 none 7 0 [137] 1,
  i_0 17 (.iload 4) 2 none,
  i_0 19 (.iload_n 3) 1 none,
  i_0 20 (.iastore) 1 none,
  i_0 21 (.return_) 1 none]
set_option maxRecDepth 100000 in
theorem oX7_set : xm_ok sX7_set sX7_set.1.cls kX7_set = true := by decide +kernel
set_option maxRecDepth 100000 in
set_option maxHeartbeats 4000000 in
theorem xX7_set_0 {K : Nat} {h : xm_H} {P : Option Value → xm_H → Prop} {a0 : Nat} {x1 : Int32} {x2 : Int32} {x3 : Int32} (H :
    xm_Call K sX7_cellOf 7 [.ref a0, .int x1, .int x2] h (xm_pi fun c2 h1 =>
      (if c2 < 0 then
        P none h1
      else
        ∃ q3, xm_fld h1 a0 7 0 = some (.ref q3) ∧ /- cells -/
        ∃ h4, xm_sto h1 0 q3 c2 x3 = some h4 ∧
        P none h4))) :
    xm_L K sX7_set kX7_set 0 [some (.ref a0), some (.int x1), some (.int x2), some (.int x3), none] [] h P :=
  xm_run (fun _ _ h => h) oX7_set 14 0 0 0 [some (.ref a0), some (.int x1), some (.int x2), some (.int x3), none] [] h H
set_option maxRecDepth 100000 in
theorem eX7_set {K K' : Nat} (hK : K < K') {h : xm_H} {P : Option Value → xm_H → Prop} {a0 : Nat} {x1 : Int32} {x2 : Int32} {x3 : Int32} (hr : ∃ fs, h[a0]? = some (.inr (7, fs))) (H :
    xm_Call K sX7_cellOf 7 [.ref a0, .int x1, .int x2] h (xm_pi fun c2 h1 =>
      (if c2 < 0 then
        P none h1
      else
        ∃ q3, xm_fld h1 a0 7 0 = some (.ref q3) ∧ /- cells -/
        ∃ h4, xm_sto h1 0 q3 c2 x3 = some h4 ∧
        P none h4))) :
    xm_Call K' sX7_set 7 [.ref a0, .int x1, .int x2, .int x3] h P :=
  xm_call_of (C := kX7_set) hK (by decide +kernel) rfl (Nat.le_of_ble_eq_true rfl) (Or.inr ⟨a0, hr.choose, rfl, hr.choose_spec⟩) (xX7_set_0 H)

def kX7_snow : List xm_I := [
  i_0 0 (.aload_n 0) 1 none,
  i_f 1 (.getfield 9) 3 none 7 0 [137] 1,
  i_v 4 (.bipush 56) 2 none 56 [],
  i_0 6 (.aload_n 0) 1 none,
  i_f 7 (.getfield 9) 3 none 7 0 [137] 1,
  i_v 10 (.bipush 64) 2 none 64 [],
  i_0 12 (.iaload) 1 none,
  i_v 13 (.bipush 8) 2 none 8 [],
  i_m 15 (.invokestatic 26) 3 none 2 99 [526, 527, 119, 528] 0 sJ9_floorMod_7cf53,
  i_0 18 (.iadd) 1 none,
  i_0 19 (.iaload) 1 none,
  i_0 20 (.ireturn) 1 none]
set_option maxRecDepth 100000 in
theorem oX7_snow : xm_ok sX7_snow sX7_snow.1.cls kX7_snow = true := by decide +kernel
set_option maxRecDepth 100000 in
set_option maxHeartbeats 4000000 in
theorem xX7_snow_0 {K : Nat} {h : xm_H} {P : Option Value → xm_H → Prop} {a0 : Nat} (H :
    ∃ q1, xm_fld h a0 7 0 = some (.ref q1) ∧ /- cells -/
    ∃ q2, xm_fld h a0 7 0 = some (.ref q2) ∧ /- cells -/
    ∃ e3, xm_ld xm_st h 0 q2 (64 : Int32) = some e3 ∧
    xm_Call K sJ9_floorMod_7cf53 99 [.int e3, .int (8 : Int32)] h (xm_pi fun c5 h4 =>
      ∃ e6, xm_ld xm_st h4 0 q1 ((56 : Int32) + c5) = some e6 ∧
      P (some (.int e6)) h4)) :
    xm_L K sX7_snow kX7_snow 0 [some (.ref a0)] [] h P :=
  xm_run (fun _ _ h => h) oX7_snow 13 0 0 0 [some (.ref a0)] [] h H
set_option maxRecDepth 100000 in
theorem eX7_snow {K K' : Nat} (hK : K < K') {h : xm_H} {P : Option Value → xm_H → Prop} {a0 : Nat} (hr : ∃ fs, h[a0]? = some (.inr (7, fs))) (H :
    ∃ q1, xm_fld h a0 7 0 = some (.ref q1) ∧ /- cells -/
    ∃ q2, xm_fld h a0 7 0 = some (.ref q2) ∧ /- cells -/
    ∃ e3, xm_ld xm_st h 0 q2 (64 : Int32) = some e3 ∧
    xm_Call K sJ9_floorMod_7cf53 99 [.int e3, .int (8 : Int32)] h (xm_pi fun c5 h4 =>
      ∃ e6, xm_ld xm_st h4 0 q1 ((56 : Int32) + c5) = some e6 ∧
      P (some (.int e6)) h4)) :
    xm_Call K' sX7_snow 7 [.ref a0] h P :=
  xm_call_of (C := kX7_snow) hK (by decide +kernel) rfl (Nat.le_of_ble_eq_true rfl) (Or.inr ⟨a0, hr.choose, rfl, hr.choose_spec⟩) (xX7_snow_0 H)

def kX7_setSnow : List xm_I := [
  i_0 0 (.aload_n 0) 1 none,
  i_f 1 (.getfield 9) 3 none 7 0 [137] 1,
  i_v 4 (.bipush 56) 2 none 56 [],
  i_0 6 (.aload_n 0) 1 none,
  i_f 7 (.getfield 9) 3 none 7 0 [137] 1,
  i_v 10 (.bipush 64) 2 none 64 [],
  i_0 12 (.iaload) 1 none,
  i_v 13 (.bipush 8) 2 none 8 [],
  i_m 15 (.invokestatic 26) 3 none 2 99 [526, 527, 119, 528] 0 sJ9_floorMod_7cf53,
  i_0 18 (.iadd) 1 none,
  i_0 19 (.iload_n 1) 1 none,
  i_0 20 (.iastore) 1 none,
  i_0 21 (.return_) 1 none]
set_option maxRecDepth 100000 in
theorem oX7_setSnow : xm_ok sX7_setSnow sX7_setSnow.1.cls kX7_setSnow = true := by decide +kernel
set_option maxRecDepth 100000 in
set_option maxHeartbeats 4000000 in
theorem xX7_setSnow_0 {K : Nat} {h : xm_H} {P : Option Value → xm_H → Prop} {a0 : Nat} {x1 : Int32} (H :
    ∃ q1, xm_fld h a0 7 0 = some (.ref q1) ∧ /- cells -/
    ∃ q2, xm_fld h a0 7 0 = some (.ref q2) ∧ /- cells -/
    ∃ e3, xm_ld xm_st h 0 q2 (64 : Int32) = some e3 ∧
    xm_Call K sJ9_floorMod_7cf53 99 [.int e3, .int (8 : Int32)] h (xm_pi fun c5 h4 =>
      ∃ h6, xm_sto h4 0 q1 ((56 : Int32) + c5) x1 = some h6 ∧
      P none h6)) :
    xm_L K sX7_setSnow kX7_setSnow 0 [some (.ref a0), some (.int x1)] [] h P :=
  xm_run (fun _ _ h => h) oX7_setSnow 14 0 0 0 [some (.ref a0), some (.int x1)] [] h H
set_option maxRecDepth 100000 in
theorem eX7_setSnow {K K' : Nat} (hK : K < K') {h : xm_H} {P : Option Value → xm_H → Prop} {a0 : Nat} {x1 : Int32} (hr : ∃ fs, h[a0]? = some (.inr (7, fs))) (H :
    ∃ q1, xm_fld h a0 7 0 = some (.ref q1) ∧ /- cells -/
    ∃ q2, xm_fld h a0 7 0 = some (.ref q2) ∧ /- cells -/
    ∃ e3, xm_ld xm_st h 0 q2 (64 : Int32) = some e3 ∧
    xm_Call K sJ9_floorMod_7cf53 99 [.int e3, .int (8 : Int32)] h (xm_pi fun c5 h4 =>
      ∃ h6, xm_sto h4 0 q1 ((56 : Int32) + c5) x1 = some h6 ∧
      P none h6)) :
    xm_Call K' sX7_setSnow 7 [.ref a0, .int x1] h P :=
  xm_call_of (C := kX7_setSnow) hK (by decide +kernel) rfl (Nat.le_of_ble_eq_true rfl) (Or.inr ⟨a0, hr.choose, rfl, hr.choose_spec⟩) (xX7_setSnow_0 H)

def kX7_join : List xm_I := [
  i_0 0 (.aload_n 0) 1 none,
  i_f 1 (.getfield 15) 3 none 7 1 [139] 0,
  i_v 4 (.bipush 8) 2 none 8 [],
  i_j 6 (.if_icmp .lt 5) 3 none 6,
  i_v 9 (.iconst 0) 1 none 0 [],
  i_0 10 (.ireturn) 1 none,
  i_0 11 (.aload_n 0) 1 none,
  i_0 12 (.dup) 1 none,
  i_f 13 (.getfield 15) 3 none 7 1 [139] 0,
  i_v 16 (.iconst 1) 1 none 1 [],
  i_0 17 (.iadd) 1 none,
  i_f 18 (.putfield 15) 3 none 7 1 [139] 0,
  i_v 21 (.iconst 0) 1 none 0 [],
  i_0 22 (.istore 4) 2 none,
  i_0 24 (.iload 4) 2 (some [true, true, true, true, true]),
  i_v 26 (.bipush 6) 2 none 6 [],
  i_j 28 (.if_icmp .gt 27) 3 none 29,
  i_0 31 (.aload_n 0) 1 none,
  i_0 32 (.aload_n 0) 1 none,
  i_f 33 (.getfield 15) 3 none 7 1 [139] 0,
  i_v 36 (.iconst 1) 1 none 1 [],
  i_0 37 (.isub) 1 none,
  i_0 38 (.iload 4) 2 none,
  i_f 40 (.getstatic 19) 3 none 2 0 [135] 1,
  i_0 43 (.iload 4) 2 none,
  i_0 45 (.iaload) 1 none,
  i_m 46 (.invokevirtual 31) 3 none 3 7 [384, 385, 386, 109, 387] 0 sX7_set,
  i_v 49 (.iinc 4 1) 3 none 1 [],
  i_j 52 (.goto (-28)) 3 none 14,
  i_0 55 (.aload_n 0) 1 none,
  i_0 56 (.aload_n 0) 1 none,
  i_f 57 (.getfield 15) 3 none 7 1 [139] 0,
  i_v 60 (.iconst 1) 1 none 1 [],
  i_0 61 (.isub) 1 none,
  i_v 62 (.iconst 0) 1 none 0 [],
  i_0 63 (.iload_n 1) 1 none,
  i_m 64 (.invokevirtual 31) 3 none 3 7 [384, 385, 386, 109, 387] 0 sX7_set,
  i_0 67 (.aload_n 0) 1 none,
  i_0 68 (.aload_n 0) 1 none,
  i_f 69 (.getfield 15) 3 none 7 1 [139] 0,
  i_v 72 (.iconst 1) 1 none 1 [],
  i_0 73 (.isub) 1 none,
  i_v 74 (.iconst 2) 1 none 2 [],
  i_0 75 (.iload_n 2) 1 none,
  i_m 76 (.invokevirtual 31) 3 none 3 7 [384, 385, 386, 109, 387] 0 sX7_set,
  i_0 79 (.aload_n 0) 1 none,
  i_0 80 (.aload_n 0) 1 none,
  i_f 81 (.getfield 15) 3 none 7 1 [139] 0,
  i_v 84 (.iconst 1) 1 none 1 [],
  i_0 85 (.isub) 1 none,
  i_v 86 (.iconst 3) 1 none 3 [],
  i_0 87 (.iload_n 3) 1 none,
  i_m 88 (.invokevirtual 31) 3 none 3 7 [384, 385, 386, 109, 387] 0 sX7_set,
  i_v 91 (.iconst 1) 1 none 1 [],
  i_0 92 (.ireturn) 1 none]
set_option maxRecDepth 100000 in
theorem oX7_join : xm_ok sX7_join sX7_join.1.cls kX7_join = true := by decide +kernel
set_option maxRecDepth 100000 in
set_option maxHeartbeats 4000000 in
theorem xX7_join_0 {K : Nat} {h : xm_H} {P : Option Value → xm_H → Prop} {a0 : Nat} {x1 : Int32} {x2 : Int32} {x3 : Int32} (H :
    ∃ f1, xm_fld h a0 7 1 = some (.int f1) ∧ /- people -/
    (if f1 < (8 : Int32) then
      ∃ f2, xm_fld h a0 7 1 = some (.int f2) ∧ /- people -/
      ∃ h3, xm_put h a0 7 1 (.int (f2 + (1 : Int32))) = some h3 ∧ /- people -/
      xm_L K sX7_join kX7_join 14 [some (.ref a0), some (.int x1), some (.int x2), some (.int x3), some (.int (0 : Int32))] [] h3 P
    else
      P (some (.int (0 : Int32))) h)) :
    xm_L K sX7_join kX7_join 0 [some (.ref a0), some (.int x1), some (.int x2), some (.int x3), none] [] h P :=
  xm_run (fun _ _ h => h) oX7_join 13 0 0 0 [some (.ref a0), some (.int x1), some (.int x2), some (.int x3), none] [] h H
set_option maxRecDepth 100000 in
theorem eX7_join {K K' : Nat} (hK : K < K') {h : xm_H} {P : Option Value → xm_H → Prop} {a0 : Nat} {x1 : Int32} {x2 : Int32} {x3 : Int32} (hr : ∃ fs, h[a0]? = some (.inr (7, fs))) (H :
    ∃ f1, xm_fld h a0 7 1 = some (.int f1) ∧ /- people -/
    (if f1 < (8 : Int32) then
      ∃ f2, xm_fld h a0 7 1 = some (.int f2) ∧ /- people -/
      ∃ h3, xm_put h a0 7 1 (.int (f2 + (1 : Int32))) = some h3 ∧ /- people -/
      xm_L K sX7_join kX7_join 14 [some (.ref a0), some (.int x1), some (.int x2), some (.int x3), some (.int (0 : Int32))] [] h3 P
    else
      P (some (.int (0 : Int32))) h)) :
    xm_Call K' sX7_join 7 [.ref a0, .int x1, .int x2, .int x3] h P :=
  xm_call_of (C := kX7_join) hK (by decide +kernel) rfl (Nat.le_of_ble_eq_true rfl) (Or.inr ⟨a0, hr.choose, rfl, hr.choose_spec⟩) (xX7_join_0 H)

set_option maxRecDepth 100000 in
set_option maxHeartbeats 4000000 in
theorem xX7_join_14 {K : Nat} {h : xm_H} {P : Option Value → xm_H → Prop} {a0 : Nat} {x1 : Int32} {x2 : Int32} {x3 : Int32} {x4 : Int32} (H :
    (if (6 : Int32) < x4 then
      ∃ f1, xm_fld h a0 7 1 = some (.int f1) ∧ /- people -/
      xm_Call K sX7_set 7 [.ref a0, .int (f1 - (1 : Int32)), .int (0 : Int32), .int x1] h (xm_pv fun h2 =>
        ∃ f3, xm_fld h2 a0 7 1 = some (.int f3) ∧ /- people -/
        xm_Call K sX7_set 7 [.ref a0, .int (f3 - (1 : Int32)), .int (2 : Int32), .int x2] h2 (xm_pv fun h4 =>
          ∃ f5, xm_fld h4 a0 7 1 = some (.int f5) ∧ /- people -/
          xm_Call K sX7_set 7 [.ref a0, .int (f5 - (1 : Int32)), .int (3 : Int32), .int x3] h4 (xm_pv fun h6 =>
            P (some (.int (1 : Int32))) h6)))
    else
      ∃ f7, xm_fld h a0 7 1 = some (.int f7) ∧ /- people -/
      ∃ e8, xm_ld xm_st h 0 (1000 + 2) x4 = some e8 ∧
      xm_Call K sX7_set 7 [.ref a0, .int (f7 - (1 : Int32)), .int x4, .int e8] h (xm_pv fun h9 =>
        xm_L K sX7_join kX7_join 14 [some (.ref a0), some (.int x1), some (.int x2), some (.int x3), some (.int (x4 + (1 : Int32)))] [] h9 P))) :
    xm_L K sX7_join kX7_join 14 [some (.ref a0), some (.int x1), some (.int x2), some (.int x3), some (.int x4)] [] h P :=
  xm_run (fun _ _ h => h) oX7_join 30 14 0 0 [some (.ref a0), some (.int x1), some (.int x2), some (.int x3), some (.int x4)] [] h H

def kX7_copy : List xm_I := [
  i_0 0 (.aload_n 1) 1 none,
  i_f 1 (.getfield 9) 3 none 7 0 [137] 1,
  i_v 4 (.iconst 0) 1 none 0 [],
  i_0 5 (.aload_n 0) 1 none,
  i_f 6 (.getfield 9) 3 none 7 0 [137] 1,
  i_v 9 (.iconst 0) 1 none 0 [],
  i_v 10 (.bipush 67) 2 none 67 [],
  i_f 12 (.invokestatic 35) 3 none 0 0 [599, 427, 426, 118] 3,
  i_0 15 (.aload_n 0) 1 none,
  i_0 16 (.aload_n 1) 1 none,
  i_f 17 (.getfield 15) 3 none 7 1 [139] 0,
  i_f 20 (.putfield 15) 3 none 7 1 [139] 0,
  i_0 23 (.return_) 1 none]
set_option maxRecDepth 100000 in
theorem oX7_copy : xm_ok sX7_copy sX7_copy.1.cls kX7_copy = true := by decide +kernel
set_option maxRecDepth 100000 in
set_option maxHeartbeats 4000000 in
theorem xX7_copy_0 {K : Nat} {h : xm_H} {P : Option Value → xm_H → Prop} {a0 : Nat} {a1 : Nat} (H :
    ∃ q1, xm_fld h a1 7 0 = some (.ref q1) ∧ /- cells -/
    ∃ q2, xm_fld h a0 7 0 = some (.ref q2) ∧ /- cells -/
    ∃ h3, xm_cpI h q1 (0 : Int32) q2 (0 : Int32) (67 : Int32) = some h3 ∧
    ∃ f4, xm_fld h3 a1 7 1 = some (.int f4) ∧ /- people -/
    ∃ h5, xm_put h3 a0 7 1 (.int f4) = some h5 ∧ /- people -/
    P none h5) :
    xm_L K sX7_copy kX7_copy 0 [some (.ref a0), some (.ref a1)] [] h P :=
  xm_run (fun _ _ h => h) oX7_copy 14 0 0 0 [some (.ref a0), some (.ref a1)] [] h H
set_option maxRecDepth 100000 in
theorem eX7_copy {K K' : Nat} (hK : K < K') {h : xm_H} {P : Option Value → xm_H → Prop} {a0 : Nat} {a1 : Nat} (hr : ∃ fs, h[a0]? = some (.inr (7, fs))) (H :
    ∃ q1, xm_fld h a1 7 0 = some (.ref q1) ∧ /- cells -/
    ∃ q2, xm_fld h a0 7 0 = some (.ref q2) ∧ /- cells -/
    ∃ h3, xm_cpI h q1 (0 : Int32) q2 (0 : Int32) (67 : Int32) = some h3 ∧
    ∃ f4, xm_fld h3 a1 7 1 = some (.int f4) ∧ /- people -/
    ∃ h5, xm_put h3 a0 7 1 (.int f4) = some h5 ∧ /- people -/
    P none h5) :
    xm_Call K' sX7_copy 7 [.ref a0, .ref a1] h P :=
  xm_call_of (C := kX7_copy) hK (by decide +kernel) rfl (Nat.le_of_ble_eq_true rfl) (Or.inr ⟨a0, hr.choose, rfl, hr.choose_spec⟩) (xX7_copy_0 H)

def kX7_ears : List xm_I := [
  i_v 0 (.iconst 0) 1 none 0 [],
  i_0 1 (.istore_n 1) 1 none,
  i_v 2 (.iconst 0) 1 none 0 [],
  i_0 3 (.istore_n 2) 1 none,
  i_0 4 (.iload_n 2) 1 (some [true, true, true]),
  i_0 5 (.aload_n 0) 1 none,
  i_f 6 (.getfield 15) 3 none 7 1 [139] 0,
  i_j 9 (.if_icmp .ge 20) 3 none 19,
  i_0 12 (.iload_n 1) 1 none,
  i_0 13 (.aload_n 0) 1 none,
  i_0 14 (.iload_n 2) 1 none,
  i_v 15 (.iconst 5) 1 none 5 [],
  i_m 16 (.invokevirtual 41) 3 none 2 7 [561, 509, 510, 109, 511] 0 sX7_get,
  i_0 19 (.iload_n 2) 1 none,
  i_0 20 (.ishl) 1 none,
  i_0 21 (.ior) 1 none,
  i_0 22 (.istore_n 1) 1 none,
  i_v 23 (.iinc 2 1) 3 none 1 [],
  i_j 26 (.goto (-22)) 3 none 4,
  i_0 29 (.iload_n 1) 1 none,
  i_0 30 (.ireturn) 1 none]
set_option maxRecDepth 100000 in
theorem oX7_ears : xm_ok sX7_ears sX7_ears.1.cls kX7_ears = true := by decide +kernel
set_option maxRecDepth 100000 in
set_option maxHeartbeats 4000000 in
theorem xX7_ears_0 {K : Nat} {h : xm_H} {P : Option Value → xm_H → Prop} {a0 : Nat} (H :
    xm_L K sX7_ears kX7_ears 4 [some (.ref a0), some (.int (0 : Int32)), some (.int (0 : Int32))] [] h P) :
    xm_L K sX7_ears kX7_ears 0 [some (.ref a0), none, none] [] h P :=
  xm_run (fun _ _ h => h) oX7_ears 5 0 0 0 [some (.ref a0), none, none] [] h H
set_option maxRecDepth 100000 in
theorem eX7_ears {K K' : Nat} (hK : K < K') {h : xm_H} {P : Option Value → xm_H → Prop} {a0 : Nat} (hr : ∃ fs, h[a0]? = some (.inr (7, fs))) (H :
    xm_L K sX7_ears kX7_ears 4 [some (.ref a0), some (.int (0 : Int32)), some (.int (0 : Int32))] [] h P) :
    xm_Call K' sX7_ears 7 [.ref a0] h P :=
  xm_call_of (C := kX7_ears) hK (by decide +kernel) rfl (Nat.le_of_ble_eq_true rfl) (Or.inr ⟨a0, hr.choose, rfl, hr.choose_spec⟩) (xX7_ears_0 H)

set_option maxRecDepth 100000 in
set_option maxHeartbeats 4000000 in
theorem xX7_ears_4 {K : Nat} {h : xm_H} {P : Option Value → xm_H → Prop} {a0 : Nat} {x1 : Int32} {x2 : Int32} (H :
    ∃ f1, xm_fld h a0 7 1 = some (.int f1) ∧ /- people -/
    (if x2 < f1 then
      xm_Call K sX7_get 7 [.ref a0, .int x2, .int (5 : Int32)] h (xm_pi fun c3 h2 =>
        xm_L K sX7_ears kX7_ears 4 [some (.ref a0), some (.int (x1 ||| (c3 <<< (x2 &&& 31)))), some (.int (x2 + (1 : Int32)))] [] h2 P)
    else
      P (some (.int x1)) h)) :
    xm_L K sX7_ears kX7_ears 4 [some (.ref a0), some (.int x1), some (.int x2)] [] h P :=
  xm_run (fun _ _ h => h) oX7_ears 16 4 0 0 [some (.ref a0), some (.int x1), some (.int x2)] [] h H

