def kX7_has : List xm_I := [
  i_0 0 (.iload_n 1) 1 none,
  i_j 1 (.ifCond .lt 15) 3 none 8,
  i_0 4 (.iload_n 1) 1 none,
  i_0 5 (.aload_n 0) 1 none,
  i_f 6 (.getfield 15) 3 none 7 1 [139] 0,
  i_j 9 (.if_icmp .ge 7) 3 none 8,
  i_v 12 (.iconst 1) 1 none 1 [],
  i_j 13 (.goto 4) 3 none 9,
  i_v 16 (.iconst 0) 1 none 0 [],
  i_0 17 (.ireturn) 1 none]
set_option maxRecDepth 100000 in
theorem oX7_has : xm_ok sX7_has sX7_has.1.cls kX7_has = true := by decide +kernel
set_option maxRecDepth 100000 in
set_option maxHeartbeats 4000000 in
theorem xX7_has_0 {K : Nat} {h : xm_H} {P : Option Value → xm_H → Prop} {a0 : Nat} {x1 : Int32} (H :
    (if x1 < 0 then
      P (some (.int (0 : Int32))) h
    else
      ∃ f1, xm_fld h a0 7 1 = some (.int f1) ∧ /- people -/
      (if x1 < f1 then
        P (some (.int (1 : Int32))) h
      else
        P (some (.int (0 : Int32))) h))) :
    xm_L K sX7_has kX7_has 0 [some (.ref a0), some (.int x1)] [] h P :=
  xm_run (fun _ _ h => h) oX7_has 10 0 0 0 [some (.ref a0), some (.int x1)] [] h H
set_option maxRecDepth 100000 in
theorem eX7_has {K K' : Nat} (hK : K < K') {h : xm_H} {P : Option Value → xm_H → Prop} {a0 : Nat} {x1 : Int32} (hr : ∃ fs, h[a0]? = some (.inr (7, fs))) (H :
    (if x1 < 0 then
      P (some (.int (0 : Int32))) h
    else
      ∃ f1, xm_fld h a0 7 1 = some (.int f1) ∧ /- people -/
      (if x1 < f1 then
        P (some (.int (1 : Int32))) h
      else
        P (some (.int (0 : Int32))) h))) :
    xm_Call K' sX7_has 7 [.ref a0, .int x1] h P :=
  xm_call_of (C := kX7_has) hK (by decide +kernel) rfl (Nat.le_of_ble_eq_true rfl) (Or.inr ⟨a0, hr.choose, rfl, hr.choose_spec⟩) (xX7_has_0 H)

def kX7_cellOf : List xm_I := [
  i_0 0 (.iload_n 1) 1 none,
  i_j 1 (.ifCond .lt 13) 3 none 7,
  i_0 4 (.iload_n 2) 1 none,
  i_j 5 (.ifCond .lt 9) 3 none 7,
  i_0 8 (.iload_n 2) 1 none,
  i_v 9 (.bipush 10) 2 none 10 [],
  i_j 11 (.if_icmp .le 5) 3 none 9,
  i_v 14 (.iconst (-1)) 1 none (-1) [],
  i_0 15 (.ireturn) 1 none,
  i_0 16 (.iload_n 2) 1 none,
  i_v 17 (.bipush 6) 2 none 6 [],
  i_j 19 (.if_icmp .gt 22) 3 none 24,
  i_0 22 (.iload_n 1) 1 none,
  i_0 23 (.aload_n 0) 1 none,
  i_f 24 (.getfield 15) 3 none 7 1 [139] 0,
  i_j 27 (.if_icmp .ge 12) 3 none 22,
  i_0 30 (.iload_n 2) 1 none,
  i_v 31 (.bipush 8) 2 none 8 [],
  i_0 33 (.imul) 1 none,
  i_0 34 (.iload_n 1) 1 none,
  i_0 35 (.iadd) 1 none,
  i_j 36 (.goto 4) 3 none 23,
  i_v 39 (.iconst (-1)) 1 none (-1) [],
  i_0 40 (.ireturn) 1 none,
  i_0 41 (.iload_n 2) 1 none,
  i_v 42 (.bipush 7) 2 none 7 [],
  i_j 44 (.if_icmp .ne 18) 3 none 36,
  i_0 47 (.iload_n 1) 1 none,
  i_v 48 (.bipush 8) 2 none 8 [],
  i_j 50 (.if_icmp .ge 10) 3 none 34,
  i_v 53 (.bipush 56) 2 none 56 [],
  i_0 55 (.iload_n 1) 1 none,
  i_0 56 (.iadd) 1 none,
  i_j 57 (.goto 4) 3 none 35,
  i_v 60 (.iconst (-1)) 1 none (-1) [],
  i_0 61 (.ireturn) 1 none,
  i_0 62 (.iload_n 1) 1 none,
  i_j 63 (.ifCond .ne 13) 3 none 44,
  i_v 66 (.bipush 64) 2 none 64 [],
  i_0 68 (.iload_n 2) 1 none,
  i_0 69 (.iadd) 1 none,
  i_v 70 (.bipush 8) 2 none 8 [],
  i_0 72 (.isub) 1 none,
  i_j 73 (.goto 4) 3 none 45,
  i_v 76 (.iconst (-1)) 1 none (-1) [],
  i_0 77 (.ireturn) 1 none]
set_option maxRecDepth 100000 in
theorem oX7_cellOf : xm_ok sX7_cellOf sX7_cellOf.1.cls kX7_cellOf = true := by decide +kernel
set_option maxRecDepth 100000 in
set_option maxHeartbeats 4000000 in
theorem xX7_cellOf_0 {K : Nat} {h : xm_H} {P : Option Value → xm_H → Prop} {a0 : Nat} {x1 : Int32} {x2 : Int32} (H :
    (if x1 < 0 then
      P (some (.int (-1 : Int32))) h
    else
      (if x2 < 0 then
        P (some (.int (-1 : Int32))) h
      else
        (if (10 : Int32) < x2 then
          P (some (.int (-1 : Int32))) h
        else
          (if (6 : Int32) < x2 then
            (if x2 = (7 : Int32) then
              (if x1 < (8 : Int32) then
                P (some (.int ((56 : Int32) + x1))) h
              else
                P (some (.int (-1 : Int32))) h)
            else
              (if x1 = 0 then
                P (some (.int (((64 : Int32) + x2) - (8 : Int32)))) h
              else
                P (some (.int (-1 : Int32))) h))
          else
            ∃ f1, xm_fld h a0 7 1 = some (.int f1) ∧ /- people -/
            (if x1 < f1 then
              P (some (.int ((x2 * (8 : Int32)) + x1))) h
            else
              P (some (.int (-1 : Int32))) h)))))) :
    xm_L K sX7_cellOf kX7_cellOf 0 [some (.ref a0), some (.int x1), some (.int x2)] [] h P :=
  xm_run (fun _ _ h => h) oX7_cellOf 23 0 0 0 [some (.ref a0), some (.int x1), some (.int x2)] [] h H
set_option maxRecDepth 100000 in
theorem eX7_cellOf {K K' : Nat} (hK : K < K') {h : xm_H} {P : Option Value → xm_H → Prop} {a0 : Nat} {x1 : Int32} {x2 : Int32} (hr : ∃ fs, h[a0]? = some (.inr (7, fs))) (H :
    (if x1 < 0 then
      P (some (.int (-1 : Int32))) h
    else
      (if x2 < 0 then
        P (some (.int (-1 : Int32))) h
      else
        (if (10 : Int32) < x2 then
          P (some (.int (-1 : Int32))) h
        else
          (if (6 : Int32) < x2 then
            (if x2 = (7 : Int32) then
              (if x1 < (8 : Int32) then
                P (some (.int ((56 : Int32) + x1))) h
              else
                P (some (.int (-1 : Int32))) h)
            else
              (if x1 = 0 then
                P (some (.int (((64 : Int32) + x2) - (8 : Int32)))) h
              else
                P (some (.int (-1 : Int32))) h))
          else
            ∃ f1, xm_fld h a0 7 1 = some (.int f1) ∧ /- people -/
            (if x1 < f1 then
              P (some (.int ((x2 * (8 : Int32)) + x1))) h
            else
              P (some (.int (-1 : Int32))) h)))))) :
    xm_Call K' sX7_cellOf 7 [.ref a0, .int x1, .int x2] h P :=
  xm_call_of (C := kX7_cellOf) hK (by decide +kernel) rfl (Nat.le_of_ble_eq_true rfl) (Or.inr ⟨a0, hr.choose, rfl, hr.choose_spec⟩) (xX7_cellOf_0 H)

def kX7_get : List xm_I := [
  i_0 0 (.aload_n 0) 1 none,
  i_0 1 (.iload_n 1) 1 none,
  i_0 2 (.iload_n 2) 1 none,
  i_m 3 (.invokevirtual 22) 3 none 2 7 [388, 389, 390, 109, 391] 0 sX7_cellOf,
  i_0 6 (.istore_n 3) 1 none,
  i_0 7 (.iload_n 3) 1 none,
  i_j 8 (.ifCond .ge 7) 3 none 9,
  i_v 11 (.iconst 0) 1 none 0 [],
  i_j 12 (.goto 9) 3 none 13,
  i_0 15 (.aload_n 0) 1 none,
  i_f 16 (.getfield 9) 3 none 7 0 [137] 1,
  i_0 19 (.iload_n 3) 1 none,
  i_0 20 (.iaload) 1 none,
  i_0 21 (.ireturn) 1 none]
set_option maxRecDepth 100000 in
theorem oX7_get : xm_ok sX7_get sX7_get.1.cls kX7_get = true := by decide +kernel
set_option maxRecDepth 100000 in
set_option maxHeartbeats 4000000 in
theorem xX7_get_0 {K : Nat} {h : xm_H} {P : Option Value → xm_H → Prop} {a0 : Nat} {x1 : Int32} {x2 : Int32} (H :
    xm_Call K sX7_cellOf 7 [.ref a0, .int x1, .int x2] h (xm_pi fun c2 h1 =>
      (if c2 < 0 then
        P (some (.int (0 : Int32))) h1
      else
        ∃ q3, xm_fld h1 a0 7 0 = some (.ref q3) ∧ /- cells -/
        ∃ e4, xm_ld xm_st h1 0 q3 c2 = some e4 ∧
        P (some (.int e4)) h1))) :
    xm_L K sX7_get kX7_get 0 [some (.ref a0), some (.int x1), some (.int x2), none] [] h P :=
  xm_run (fun _ _ h => h) oX7_get 13 0 0 0 [some (.ref a0), some (.int x1), some (.int x2), none] [] h H
set_option maxRecDepth 100000 in
theorem eX7_get {K K' : Nat} (hK : K < K') {h : xm_H} {P : Option Value → xm_H → Prop} {a0 : Nat} {x1 : Int32} {x2 : Int32} (hr : ∃ fs, h[a0]? = some (.inr (7, fs))) (H :
    xm_Call K sX7_cellOf 7 [.ref a0, .int x1, .int x2] h (xm_pi fun c2 h1 =>
      (if c2 < 0 then
        P (some (.int (0 : Int32))) h1
      else
        ∃ q3, xm_fld h1 a0 7 0 = some (.ref q3) ∧ /- cells -/
        ∃ e4, xm_ld xm_st h1 0 q3 c2 = some e4 ∧
        P (some (.int e4)) h1))) :
    xm_Call K' sX7_get 7 [.ref a0, .int x1, .int x2] h P :=
  xm_call_of (C := kX7_get) hK (by decide +kernel) rfl (Nat.le_of_ble_eq_true rfl) (Or.inr ⟨a0, hr.choose, rfl, hr.choose_spec⟩) (xX7_get_0 H)

def kX7_set : List xm_I := [
  i_0 0 (.aload_n 0) 1 none,
  i_0 1 (.iload_n 1) 1 none,
  i_0 2 (.iload_n 2) 1 none,
  i_m 3 (.invokevirtual 22) 3 none 2 7 [388, 389, 390, 109, 391] 0 sX7_cellOf,
  i_0 6 (.istore 4) 2 none,
  i_0 8 (.iload 4) 2 none,
  i_j 10 (.ifCond .lt 11) 3 none 12,
  i_0 13 (.aload_n 0) 1 none,
  i_f 14 (.getfield 9) 3 none 7 0 [137] 1,
  i_0 17 (.iload 4) 2 none,
  i_0 19 (.iload_n 3) 1 none,
  i_0 20 (.iastore) 1 none,
  i_0 21 (.return_) 1 none]
set_option maxRecDepth 100000 in
theorem oX7_set : xm_ok sX7_set sX7_set.1.cls kX7_set = true := by decide +kernel
set_option maxRecDepth 100000 in
set_option maxHeartbeats 4000000 in
theorem xX7_set_0 {K : Nat} {h : xm_H} {P : Option Value → xm_H → Prop} {a0 : Nat} {x1 : Int32} {x2 : Int32} {x3 : Int32} (H :
    xm_Call K sX7_cellOf 7 [.ref a0, .int x1, .int x2] h (xm_pi fun c2 h1 =>
      (if c2 < 0 then
        P none h1
      else
        ∃ q3, xm_fld h1 a0 7 0 = some (.ref q3) ∧ /- cells -/
        ∃ h4, xm_sto h1 0 q3 c2 x3 = some h4 ∧
        P none h4))) :
    xm_L K sX7_set kX7_set 0 [some (.ref a0), some (.int x1), some (.int x2), some (.int x3), none] [] h P :=
  xm_run (fun _ _ h => h) oX7_set 14 0 0 0 [some (.ref a0), some (.int x1), some (.int x2), some (.int x3), none] [] h H
set_option maxRecDepth 100000 in
theorem eX7_set {K K' : Nat} (hK : K < K') {h : xm_H} {P : Option Value → xm_H → Prop} {a0 : Nat} {x1 : Int32} {x2 : Int32} {x3 : Int32} (hr : ∃ fs, h[a0]? = some (.inr (7, fs))) (H :
    xm_Call K sX7_cellOf 7 [.ref a0, .int x1, .int x2] h (xm_pi fun c2 h1 =>
      (if c2 < 0 then
        P none h1
      else
        ∃ q3, xm_fld h1 a0 7 0 = some (.ref q3) ∧ /- cells -/
        ∃ h4, xm_sto h1 0 q3 c2 x3 = some h4 ∧
        P none h4))) :
    xm_Call K' sX7_set 7 [.ref a0, .int x1, .int x2, .int x3] h P :=
  xm_call_of (C := kX7_set) hK (by decide +kernel) rfl (Nat.le_of_ble_eq_true rfl) (Or.inr ⟨a0, hr.choose, rfl, hr.choose_spec⟩) (xX7_set_0 H)

def kX4_look : List xm_I := [
  i_0 0 (.aload_n 0) 1 none,
  i_v 1 (.iconst 0) 1 none 0 [],
  i_f 2 (.putfield 31) 3 none 4 5 [178] 0,
  i_0 5 (.aload_n 0) 1 none,
  i_v 6 (.iconst 0) 1 none 0 [],
  i_f 7 (.putfield 35) 3 none 4 6 [179] 0,
  i_v 10 (.iconst 0) 1 none 0 [],
  i_0 11 (.istore_n 2) 1 none,
  i_0 12 (.iload_n 2) 1 (some [0, 1, 2]),
  i_0 13 (.aload_n 1) 1 none,
  i_f 14 (.getfield 50) 3 none 7 1 [141] 0,
  i_j 17 (.if_icmp .ge 58) 3 none 41,
  i_0 20 (.aload_n 1) 1 none,
  i_0 21 (.iload_n 2) 1 none,
  i_v 22 (.iconst 3) 1 none 3 [],
  i_m 23 (.invokevirtual 55) 3 none 2 7 [508, 509, 510, 109, 511] 0 sX7_get,
  i_0 26 (.istore_n 3) 1 none,
  i_0 27 (.aload_n 0) 1 none,
  i_0 28 (.dup) 1 none,
  i_f 29 (.getfield 31) 3 none 4 5 [178] 0,
  i_0 32 (.iload_n 3) 1 none,
  i_m 33 (.invokestatic 59) 3 none 1 99 [512, 513, 110, 514] 0 sX4_isSaid,
  i_j 36 (.ifCond .eq 7) 3 none 25,
  i_v 39 (.iconst 1) 1 none 1 [],
  i_j 40 (.goto 4) 3 none 26,
  i_v 43 (.iconst 0) 1 none 0 [],
  i_0 44 (.iadd) 1 none,
  i_f 45 (.putfield 31) 3 none 4 5 [178] 0,
  i_0 48 (.aload_n 0) 1 none,
  i_0 49 (.dup) 1 none,
  i_f 50 (.getfield 35) 3 none 4 6 [179] 0,
  i_0 53 (.iload_n 3) 1 none,
  i_m 54 (.invokestatic 63) 3 none 1 99 [515, 516, 110, 517] 0 sX4_isGone,
  i_j 57 (.ifCond .eq 7) 3 none 36,
  i_v 60 (.iconst 1) 1 none 1 [],
  i_j 61 (.goto 4) 3 none 37,
  i_v 64 (.iconst 0) 1 none 0 [],
  i_0 65 (.iadd) 1 none,
  i_f 66 (.putfield 35) 3 none 4 6 [179] 0,
  i_v 69 (.iinc 2 1) 3 none 1 [],
  i_j 72 (.goto (-60)) 3 none 8,
  i_0 75 (.return_) 1 none]
set_option maxRecDepth 100000 in
theorem oX4_look : xm_ok sX4_look sX4_look.1.cls kX4_look = true := by decide +kernel
set_option maxRecDepth 100000 in
set_option maxHeartbeats 4000000 in
theorem xX4_look_0 {K : Nat} {h : xm_H} {P : Option Value → xm_H → Prop} {a0 : Nat} {a1 : Nat} (H :
    ∃ h1, xm_put h a0 4 5 (.int (0 : Int32)) = some h1 ∧ /- sayers -/
    ∃ h2, xm_put h1 a0 4 6 (.int (0 : Int32)) = some h2 ∧ /- goers -/
    xm_L K sX4_look kX4_look 8 [some (.ref a0), some (.ref a1), some (.int (0 : Int32)), none] [] h2 P) :
    xm_L K sX4_look kX4_look 0 [some (.ref a0), some (.ref a1), none, none] [] h P :=
  xm_run (fun _ _ h => h) oX4_look 9 0 0 0 [some (.ref a0), some (.ref a1), none, none] [] h H
set_option maxRecDepth 100000 in
theorem eX4_look {K K' : Nat} (hK : K < K') {h : xm_H} {P : Option Value → xm_H → Prop} {a0 : Nat} {a1 : Nat} (hr : ∃ fs, h[a0]? = some (.inr (4, fs))) (H :
    ∃ h1, xm_put h a0 4 5 (.int (0 : Int32)) = some h1 ∧ /- sayers -/
    ∃ h2, xm_put h1 a0 4 6 (.int (0 : Int32)) = some h2 ∧ /- goers -/
    xm_L K sX4_look kX4_look 8 [some (.ref a0), some (.ref a1), some (.int (0 : Int32)), none] [] h2 P) :
    xm_Call K' sX4_look 4 [.ref a0, .ref a1] h P :=
  xm_call_of (C := kX4_look) hK (by decide +kernel) rfl (Nat.le_of_ble_eq_true rfl) (Or.inr ⟨a0, hr.choose, rfl, hr.choose_spec⟩) (xX4_look_0 H)

set_option maxRecDepth 100000 in
set_option maxHeartbeats 4000000 in
theorem xX4_look_8 {K : Nat} {h : xm_H} {P : Option Value → xm_H → Prop} {a0 : Nat} {a1 : Nat} {x2 : Int32} (H :
    ∃ f1, xm_fld h a1 7 1 = some (.int f1) ∧ /- people -/
    (if x2 < f1 then
      xm_Call K sX7_get 7 [.ref a1, .int x2, .int (3 : Int32)] h (xm_pi fun c3 h2 =>
        ∃ f4, xm_fld h2 a0 4 5 = some (.int f4) ∧ /- sayers -/
        xm_Call K sX4_isSaid 99 [.int c3] h2 (xm_pi fun c6 h5 =>
          (if c6 = 0 then
            ∃ h7, xm_put h5 a0 4 5 (.int (f4 + (0 : Int32))) = some h7 ∧ /- sayers -/
            ∃ f8, xm_fld h7 a0 4 6 = some (.int f8) ∧ /- goers -/
            xm_Call K sX4_isGone 99 [.int c3] h7 (xm_pi fun c10 h9 =>
              (if c10 = 0 then
                ∃ h11, xm_put h9 a0 4 6 (.int (f8 + (0 : Int32))) = some h11 ∧ /- goers -/
                xm_L K sX4_look kX4_look 8 [some (.ref a0), some (.ref a1), some (.int (x2 + (1 : Int32))), none] [] h11 P
              else
                ∃ h12, xm_put h9 a0 4 6 (.int (f8 + (1 : Int32))) = some h12 ∧ /- goers -/
                xm_L K sX4_look kX4_look 8 [some (.ref a0), some (.ref a1), some (.int (x2 + (1 : Int32))), none] [] h12 P))
          else
            ∃ h13, xm_put h5 a0 4 5 (.int (f4 + (1 : Int32))) = some h13 ∧ /- sayers -/
            ∃ f14, xm_fld h13 a0 4 6 = some (.int f14) ∧ /- goers -/
            xm_Call K sX4_isGone 99 [.int c3] h13 (xm_pi fun c16 h15 =>
              (if c16 = 0 then
                ∃ h17, xm_put h15 a0 4 6 (.int (f14 + (0 : Int32))) = some h17 ∧ /- goers -/
                xm_L K sX4_look kX4_look 8 [some (.ref a0), some (.ref a1), some (.int (x2 + (1 : Int32))), none] [] h17 P
              else
                ∃ h18, xm_put h15 a0 4 6 (.int (f14 + (1 : Int32))) = some h18 ∧ /- goers -/
                xm_L K sX4_look kX4_look 8 [some (.ref a0), some (.ref a1), some (.int (x2 + (1 : Int32))), none] [] h18 P)))))
    else
      P none h)) :
    xm_L K sX4_look kX4_look 8 [some (.ref a0), some (.ref a1), some (.int x2), none] [] h P :=
  xm_run (fun _ _ h => h) oX4_look 32 8 0 0 [some (.ref a0), some (.ref a1), some (.int x2), none] [] h H


