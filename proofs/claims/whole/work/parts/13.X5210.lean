def kX5_init : List xm_I := [
  i_0 0 (.aload_n 0) 1 none,
  i_f 1 (.invokespecial 3) 3 none 0 0 [309, 127, 128] 2,
  i_0 4 (.aload_n 0) 1 none,
  i_v 5 (.iconst (-1)) 1 none (-1) [],
  i_f 6 (.putfield 9) 3 none 5 0 [310] 0,
  i_0 9 (.aload_n 0) 1 none,
  i_v 10 (.iconst (-1)) 1 none (-1) [],
  i_f 11 (.putfield 15) 3 none 5 1 [312] 0,
  i_0 14 (.aload_n 0) 1 none,
  i_v 15 (.iconst 0) 1 none 0 [],
  i_f 16 (.putfield 18) 3 none 5 2 [314] 0,
  i_0 19 (.aload_n 0) 1 none,
  i_v 20 (.bipush 60) 2 none 60 [],
  i_f 22 (.newarray .long) 2 none 3 60 [327] 60,
  i_f 24 (.putfield 21) 3 none 5 3 [316] 1,
  i_0 27 (.return_) 1 none]
set_option maxRecDepth 100000 in
theorem oX5_init : xm_ok sX5_init sX5_init.1.cls kX5_init = true := by decide +kernel
set_option maxRecDepth 100000 in
set_option maxHeartbeats 4000000 in
theorem xX5_init_0 {K : Nat} {h : xm_H} {P : Option Value → xm_H → Prop} {a0 : Nat} (H :
    ∃ h1, xm_put h a0 5 0 (.int (-1 : Int32)) = some h1 ∧ /- sort -/
    ∃ h2, xm_put h1 a0 5 1 (.int (-1 : Int32)) = some h2 ∧ /- body -/
    ∃ h3, xm_put h2 a0 5 2 (.int (0 : Int32)) = some h3 ∧ /- size -/
    (0 + 1 ≤ 1 ∧ 0 + 60 ≤ 60) ∧ xm_va h3 [some (.ref a0)] [.ref a0] 1 ∧
    ∃ h4, xm_put (h3 ++ [xm_za 3 60]) a0 5 3 (.ref (List.length h3)) = some h4 ∧ /- elements -/
    P none h4) :
    xm_At xm_st K sX5_init sX5_init.1.cls kX5_init 0 0 0 [some (.ref a0)] [] h P :=
  xm_run (fun _ _ h => h) oX5_init 17 0 0 0 [some (.ref a0)] [] h H
set_option maxRecDepth 100000 in
theorem eX5_init {K K' : Nat} (hK : K < K') {h : xm_H} {P : Option Value → xm_H → Prop} {a0 : Nat} (hr : ∃ fs, h[a0]? = some (.inr (5, fs))) (H :
    ∃ h1, xm_put h a0 5 0 (.int (-1 : Int32)) = some h1 ∧ /- sort -/
    ∃ h2, xm_put h1 a0 5 1 (.int (-1 : Int32)) = some h2 ∧ /- body -/
    ∃ h3, xm_put h2 a0 5 2 (.int (0 : Int32)) = some h3 ∧ /- size -/
    (0 + 1 ≤ 1 ∧ 0 + 60 ≤ 60) ∧ xm_va h3 [some (.ref a0)] [.ref a0] 1 ∧
    ∃ h4, xm_put (h3 ++ [xm_za 3 60]) a0 5 3 (.ref (List.length h3)) = some h4 ∧ /- elements -/
    P none h4) :
    xm_Call K' sX5_init 5 [.ref a0] h P :=
  xm_call_of (C := kX5_init) hK (by decide +kernel) rfl (Nat.le_of_ble_eq_true rfl) (Or.inr ⟨a0, hr.choose, rfl, hr.choose_spec⟩) (xX5_init_0 H)

def kX5_holdRow : List xm_I := [
  i_0 0 (.aload_n 0) 1 none,
  i_0 1 (.iload_n 1) 1 none,
  i_f 2 (.putfield 9) 3 none 5 0 [310] 0,
  i_0 5 (.aload_n 0) 1 none,
  i_v 6 (.iconst 0) 1 none 0 [],
  i_0 7 (.iload_n 2) 1 none,
  i_v 8 (.bipush 60) 2 none 60 [],
  i_m 10 (.invokestatic 25) 3 none 2 99 [877, 490, 119, 491] 0 sJ9_min_7cf53,
  i_m 13 (.invokestatic 31) 3 none 2 99 [878, 493, 119, 494] 0 sJ9_max_7cf53,
  i_f 16 (.putfield 18) 3 none 5 2 [314] 0,
  i_v 19 (.iconst 0) 1 none 0 [],
  i_0 20 (.istore_n 3) 1 none,
  i_0 21 (.iload_n 3) 1 (some [true, false, false, true]),
  i_v 22 (.bipush 60) 2 none 60 [],
  i_j 24 (.if_icmp .ge 16) 3 none 22,
  i_0 27 (.aload_n 0) 1 none,
  i_f 28 (.getfield 21) 3 none 5 3 [316] 1,
  i_0 31 (.iload_n 3) 1 none,
  i_w 32 (.lconst 0) 1 none 0 [],
  i_0 33 (.lastore) 1 none,
  i_v 34 (.iinc 3 1) 3 none 1 [],
  i_j 37 (.goto (-16)) 3 none 12,
  i_0 40 (.return_) 1 none]
set_option maxRecDepth 100000 in
theorem oX5_holdRow : xm_ok sX5_holdRow sX5_holdRow.1.cls kX5_holdRow = true := by decide +kernel
set_option maxRecDepth 100000 in
set_option maxHeartbeats 4000000 in
theorem xX5_holdRow_0 {K : Nat} {h : xm_H} {P : Option Value → xm_H → Prop} {a0 : Nat} {x1 : Int32} {x2 : Int32} (H :
    ∃ h1, xm_put h a0 5 0 (.int x1) = some h1 ∧ /- sort -/
    xm_Call K sJ9_min_7cf53 99 [.int x2, .int (60 : Int32)] h1 (xm_pi fun c3 h2 =>
      xm_Call K sJ9_max_7cf53 99 [.int (0 : Int32), .int c3] h2 (xm_pi fun c5 h4 =>
        ∃ h6, xm_put h4 a0 5 2 (.int c5) = some h6 ∧ /- size -/
        xm_L K sX5_holdRow kX5_holdRow 12 [some (.ref a0), none, none, some (.int (0 : Int32))] [] h6 P))) :
    xm_L K sX5_holdRow kX5_holdRow 0 [some (.ref a0), some (.int x1), some (.int x2), none] [] h P :=
  xm_run (fun _ _ h => h) oX5_holdRow 13 0 0 0 [some (.ref a0), some (.int x1), some (.int x2), none] [] h H
set_option maxRecDepth 100000 in
theorem eX5_holdRow {K K' : Nat} (hK : K < K') {h : xm_H} {P : Option Value → xm_H → Prop} {a0 : Nat} {x1 : Int32} {x2 : Int32} (hr : ∃ fs, h[a0]? = some (.inr (5, fs))) (H :
    ∃ h1, xm_put h a0 5 0 (.int x1) = some h1 ∧ /- sort -/
    xm_Call K sJ9_min_7cf53 99 [.int x2, .int (60 : Int32)] h1 (xm_pi fun c3 h2 =>
      xm_Call K sJ9_max_7cf53 99 [.int (0 : Int32), .int c3] h2 (xm_pi fun c5 h4 =>
        ∃ h6, xm_put h4 a0 5 2 (.int c5) = some h6 ∧ /- size -/
        xm_L K sX5_holdRow kX5_holdRow 12 [some (.ref a0), none, none, some (.int (0 : Int32))] [] h6 P))) :
    xm_Call K' sX5_holdRow 5 [.ref a0, .int x1, .int x2] h P :=
  xm_call_of (C := kX5_holdRow) hK (by decide +kernel) rfl (Nat.le_of_ble_eq_true rfl) (Or.inr ⟨a0, hr.choose, rfl, hr.choose_spec⟩) (xX5_holdRow_0 H)

set_option maxRecDepth 100000 in
set_option maxHeartbeats 4000000 in
theorem xX5_holdRow_12 {K : Nat} {h : xm_H} {P : Option Value → xm_H → Prop} {a0 : Nat} {x3 : Int32} (H :
    (if x3 < (60 : Int32) then
      ∃ q1, xm_fld h a0 5 3 = some (.ref q1) ∧ /- elements -/
      ∃ h2, xm_stoL h q1 x3 (0 : Int64) = some h2 ∧
      xm_L K sX5_holdRow kX5_holdRow 12 [some (.ref a0), none, none, some (.int (x3 + (1 : Int32)))] [] h2 P
    else
      P none h)) :
    xm_L K sX5_holdRow kX5_holdRow 12 [some (.ref a0), none, none, some (.int x3)] [] h P :=
  xm_run (fun _ _ h => h) oX5_holdRow 11 12 0 0 [some (.ref a0), none, none, some (.int x3)] [] h H

def kX5_refusalAt : List xm_I := [
  i_0 0 (.aload_n 0) 1 none,
  i_f 1 (.getfield 9) 3 none 5 0 [310] 0,
  i_v 4 (.iconst (-1)) 1 none (-1) [],
  i_j 5 (.if_icmp .ne 6) 3 none 6,
  i_v 8 (.bipush (-11)) 2 none (-11) [],
  i_0 10 (.ireturn) 1 none,
  i_0 11 (.aload_n 0) 1 none,
  i_f 12 (.getfield 9) 3 none 5 0 [310] 0,
  i_v 15 (.iconst 5) 1 none 5 [],
  i_j 16 (.if_icmp .ne 6) 3 none 12,
  i_v 19 (.bipush (-12)) 2 none (-12) [],
  i_0 21 (.ireturn) 1 none,
  i_0 22 (.iload_n 1) 1 none,
  i_j 23 (.ifCond .lt 11) 3 none 18,
  i_0 26 (.iload_n 1) 1 none,
  i_0 27 (.aload_n 0) 1 none,
  i_f 28 (.getfield 18) 3 none 5 2 [314] 0,
  i_j 31 (.if_icmp .lt 8) 3 none 20,
  i_v 34 (.bipush (-13)) 2 none (-13) [],
  i_j 36 (.goto 4) 3 none 21,
  i_v 39 (.iconst 0) 1 none 0 [],
  i_0 40 (.ireturn) 1 none]
set_option maxRecDepth 100000 in
theorem oX5_refusalAt : xm_ok sX5_refusalAt sX5_refusalAt.1.cls kX5_refusalAt = true := by decide +kernel
set_option maxRecDepth 100000 in
set_option maxHeartbeats 4000000 in
theorem xX5_refusalAt_0 {K : Nat} {h : xm_H} {P : Option Value → xm_H → Prop} {a0 : Nat} {x1 : Int32} (H :
    ∃ f1, xm_fld h a0 5 0 = some (.int f1) ∧ /- sort -/
    (if f1 = (-1 : Int32) then
      P (some (.int (-11 : Int32))) h
    else
      ∃ f2, xm_fld h a0 5 0 = some (.int f2) ∧ /- sort -/
      (if f2 = (5 : Int32) then
        P (some (.int (-12 : Int32))) h
      else
        (if x1 < 0 then
          P (some (.int (-13 : Int32))) h
        else
          ∃ f3, xm_fld h a0 5 2 = some (.int f3) ∧ /- size -/
          (if x1 < f3 then
            P (some (.int (0 : Int32))) h
          else
            P (some (.int (-13 : Int32))) h))))) :
    xm_L K sX5_refusalAt kX5_refusalAt 0 [some (.ref a0), some (.int x1)] [] h P :=
  xm_run (fun _ _ h => h) oX5_refusalAt 18 0 0 0 [some (.ref a0), some (.int x1)] [] h H
set_option maxRecDepth 100000 in
theorem eX5_refusalAt {K K' : Nat} (hK : K < K') {h : xm_H} {P : Option Value → xm_H → Prop} {a0 : Nat} {x1 : Int32} (hr : ∃ fs, h[a0]? = some (.inr (5, fs))) (H :
    ∃ f1, xm_fld h a0 5 0 = some (.int f1) ∧ /- sort -/
    (if f1 = (-1 : Int32) then
      P (some (.int (-11 : Int32))) h
    else
      ∃ f2, xm_fld h a0 5 0 = some (.int f2) ∧ /- sort -/
      (if f2 = (5 : Int32) then
        P (some (.int (-12 : Int32))) h
      else
        (if x1 < 0 then
          P (some (.int (-13 : Int32))) h
        else
          ∃ f3, xm_fld h a0 5 2 = some (.int f3) ∧ /- size -/
          (if x1 < f3 then
            P (some (.int (0 : Int32))) h
          else
            P (some (.int (-13 : Int32))) h))))) :
    xm_Call K' sX5_refusalAt 5 [.ref a0, .int x1] h P :=
  xm_call_of (C := kX5_refusalAt) hK (by decide +kernel) rfl (Nat.le_of_ble_eq_true rfl) (Or.inr ⟨a0, hr.choose, rfl, hr.choose_spec⟩) (xX5_refusalAt_0 H)

def kX5_hasPlaces : List xm_I := [
  i_0 0 (.iload_n 1) 1 none,
  i_j 1 (.ifCond .lt 29) 3 none 16,
  i_0 4 (.iload_n 2) 1 none,
  i_j 5 (.ifCond .lt 25) 3 none 16,
  i_0 8 (.iload_n 2) 1 none,
  i_0 9 (.aload_n 0) 1 none,
  i_f 10 (.getfield 18) 3 none 5 2 [314] 0,
  i_j 13 (.if_icmp .gt 17) 3 none 16,
  i_0 16 (.iload_n 1) 1 none,
  i_0 17 (.aload_n 0) 1 none,
  i_f 18 (.getfield 18) 3 none 5 2 [314] 0,
  i_0 21 (.iload_n 2) 1 none,
  i_0 22 (.isub) 1 none,
  i_j 23 (.if_icmp .gt 7) 3 none 16,
  i_v 26 (.iconst 1) 1 none 1 [],
  i_j 27 (.goto 4) 3 none 17,
  i_v 30 (.iconst 0) 1 none 0 [],
  i_0 31 (.ireturn) 1 none]
set_option maxRecDepth 100000 in
theorem oX5_hasPlaces : xm_ok sX5_hasPlaces sX5_hasPlaces.1.cls kX5_hasPlaces = true := by decide +kernel
set_option maxRecDepth 100000 in
set_option maxHeartbeats 4000000 in
theorem xX5_hasPlaces_0 {K : Nat} {h : xm_H} {P : Option Value → xm_H → Prop} {a0 : Nat} {x1 : Int32} {x2 : Int32} (H :
    (if x1 < 0 then
      P (some (.int (0 : Int32))) h
    else
      (if x2 < 0 then
        P (some (.int (0 : Int32))) h
      else
        ∃ f1, xm_fld h a0 5 2 = some (.int f1) ∧ /- size -/
        (if f1 < x2 then
          P (some (.int (0 : Int32))) h
        else
          ∃ f2, xm_fld h a0 5 2 = some (.int f2) ∧ /- size -/
          (if (f2 - x2) < x1 then
            P (some (.int (0 : Int32))) h
          else
            P (some (.int (1 : Int32))) h))))) :
    xm_L K sX5_hasPlaces kX5_hasPlaces 0 [some (.ref a0), some (.int x1), some (.int x2)] [] h P :=
  xm_run (fun _ _ h => h) oX5_hasPlaces 18 0 0 0 [some (.ref a0), some (.int x1), some (.int x2)] [] h H
set_option maxRecDepth 100000 in
theorem eX5_hasPlaces {K K' : Nat} (hK : K < K') {h : xm_H} {P : Option Value → xm_H → Prop} {a0 : Nat} {x1 : Int32} {x2 : Int32} (hr : ∃ fs, h[a0]? = some (.inr (5, fs))) (H :
    (if x1 < 0 then
      P (some (.int (0 : Int32))) h
    else
      (if x2 < 0 then
        P (some (.int (0 : Int32))) h
      else
        ∃ f1, xm_fld h a0 5 2 = some (.int f1) ∧ /- size -/
        (if f1 < x2 then
          P (some (.int (0 : Int32))) h
        else
          ∃ f2, xm_fld h a0 5 2 = some (.int f2) ∧ /- size -/
          (if (f2 - x2) < x1 then
            P (some (.int (0 : Int32))) h
          else
            P (some (.int (1 : Int32))) h))))) :
    xm_Call K' sX5_hasPlaces 5 [.ref a0, .int x1, .int x2] h P :=
  xm_call_of (C := kX5_hasPlaces) hK (by decide +kernel) rfl (Nat.le_of_ble_eq_true rfl) (Or.inr ⟨a0, hr.choose, rfl, hr.choose_spec⟩) (xX5_hasPlaces_0 H)

def kX5_get : List xm_I := [
  i_0 0 (.iload_n 1) 1 none,
  i_j 1 (.ifCond .lt 17) 3 none 9,
  i_0 4 (.iload_n 1) 1 none,
  i_0 5 (.aload_n 0) 1 none,
  i_f 6 (.getfield 18) 3 none 5 2 [314] 0,
  i_j 9 (.if_icmp .ge 9) 3 none 9,
  i_0 12 (.iload_n 1) 1 none,
  i_v 13 (.bipush 60) 2 none 60 [],
  i_j 15 (.if_icmp .lt 7) 3 none 11,
  i_w 18 (.lconst 0) 1 none 0 [],
  i_j 19 (.goto 9) 3 none 15,
  i_0 22 (.aload_n 0) 1 none,
  i_f 23 (.getfield 21) 3 none 5 3 [316] 1,
  i_0 26 (.iload_n 1) 1 none,
  i_0 27 (.laload) 1 none,
  i_0 28 (.lreturn) 1 none]
set_option maxRecDepth 100000 in
theorem oX5_get : xm_ok sX5_get sX5_get.1.cls kX5_get = true := by decide +kernel
set_option maxRecDepth 100000 in
set_option maxHeartbeats 4000000 in
theorem xX5_get_0 {K : Nat} {h : xm_H} {P : Option Value → xm_H → Prop} {a0 : Nat} {x1 : Int32} (H :
    (if x1 < 0 then
      P (some (.long (0 : Int64))) h
    else
      ∃ f1, xm_fld h a0 5 2 = some (.int f1) ∧ /- size -/
      (if x1 < f1 then
        (if x1 < (60 : Int32) then
          ∃ q2, xm_fld h a0 5 3 = some (.ref q2) ∧ /- elements -/
          ∃ e3, xm_ldL h q2 x1 = some e3 ∧
          P (some (.long e3)) h
        else
          P (some (.long (0 : Int64))) h)
      else
        P (some (.long (0 : Int64))) h))) :
    xm_L K sX5_get kX5_get 0 [some (.ref a0), some (.int x1)] [] h P :=
  xm_run (fun _ _ h => h) oX5_get 15 0 0 0 [some (.ref a0), some (.int x1)] [] h H
set_option maxRecDepth 100000 in
theorem eX5_get {K K' : Nat} (hK : K < K') {h : xm_H} {P : Option Value → xm_H → Prop} {a0 : Nat} {x1 : Int32} (hr : ∃ fs, h[a0]? = some (.inr (5, fs))) (H :
    (if x1 < 0 then
      P (some (.long (0 : Int64))) h
    else
      ∃ f1, xm_fld h a0 5 2 = some (.int f1) ∧ /- size -/
      (if x1 < f1 then
        (if x1 < (60 : Int32) then
          ∃ q2, xm_fld h a0 5 3 = some (.ref q2) ∧ /- elements -/
          ∃ e3, xm_ldL h q2 x1 = some e3 ∧
          P (some (.long e3)) h
        else
          P (some (.long (0 : Int64))) h)
      else
        P (some (.long (0 : Int64))) h))) :
    xm_Call K' sX5_get 5 [.ref a0, .int x1] h P :=
  xm_call_of (C := kX5_get) hK (by decide +kernel) rfl (Nat.le_of_ble_eq_true rfl) (Or.inr ⟨a0, hr.choose, rfl, hr.choose_spec⟩) (xX5_get_0 H)

def kX5_set : List xm_I := [
  i_0 0 (.iload_n 1) 1 none,
  i_j 1 (.ifCond .lt 28) 3 none 16,
  i_0 4 (.iload_n 1) 1 none,
  i_0 5 (.aload_n 0) 1 none,
  i_f 6 (.getfield 18) 3 none 5 2 [314] 0,
  i_j 9 (.if_icmp .ge 20) 3 none 16,
  i_0 12 (.iload_n 1) 1 none,
  i_v 13 (.bipush 60) 2 none 60 [],
  i_j 15 (.if_icmp .ge 14) 3 none 16,
  i_0 18 (.aload_n 0) 1 none,
  i_f 19 (.getfield 21) 3 none 5 3 [316] 1,
  i_0 22 (.iload_n 1) 1 none,
  i_0 23 (.aload_n 0) 1 none,
  i_0 24 (.lload_n 2) 1 none,
  i_m 25 (.invokevirtual 34) 3 none 1 5 [891, 893, 32, 116, 894] 0 sX5_lowest,
  i_0 28 (.lastore) 1 none,
  i_0 29 (.return_) 1 none]
set_option maxRecDepth 100000 in
theorem oX5_set : xm_ok sX5_set sX5_set.1.cls kX5_set = true := by decide +kernel
set_option maxRecDepth 100000 in
set_option maxHeartbeats 4000000 in
theorem xX5_set_0 {K : Nat} {h : xm_H} {P : Option Value → xm_H → Prop} {a0 : Nat} {x1 : Int32} {y2 : Int64} (H :
    (if x1 < 0 then
      P none h
    else
      ∃ f1, xm_fld h a0 5 2 = some (.int f1) ∧ /- size -/
      (if x1 < f1 then
        (if x1 < (60 : Int32) then
          ∃ q2, xm_fld h a0 5 3 = some (.ref q2) ∧ /- elements -/
          xm_Call K sX5_lowest 5 [.ref a0, .long y2] h (xm_pl fun c4 h3 =>
            ∃ h5, xm_stoL h3 q2 x1 c4 = some h5 ∧
            P none h5)
        else
          P none h)
      else
        P none h))) :
    xm_L K sX5_set kX5_set 0 [some (.ref a0), some (.int x1), some (.long y2), none] [] h P :=
  xm_run (fun _ _ h => h) oX5_set 18 0 0 0 [some (.ref a0), some (.int x1), some (.long y2), none] [] h H
set_option maxRecDepth 100000 in
theorem eX5_set {K K' : Nat} (hK : K < K') {h : xm_H} {P : Option Value → xm_H → Prop} {a0 : Nat} {x1 : Int32} {y2 : Int64} (hr : ∃ fs, h[a0]? = some (.inr (5, fs))) (H :
    (if x1 < 0 then
      P none h
    else
      ∃ f1, xm_fld h a0 5 2 = some (.int f1) ∧ /- size -/
      (if x1 < f1 then
        (if x1 < (60 : Int32) then
          ∃ q2, xm_fld h a0 5 3 = some (.ref q2) ∧ /- elements -/
          xm_Call K sX5_lowest 5 [.ref a0, .long y2] h (xm_pl fun c4 h3 =>
            ∃ h5, xm_stoL h3 q2 x1 c4 = some h5 ∧
            P none h5)
        else
          P none h)
      else
        P none h))) :
    xm_Call K' sX5_set 5 [.ref a0, .int x1, .long y2] h P :=
  xm_call_of (C := kX5_set) hK (by decide +kernel) rfl (Nat.le_of_ble_eq_true rfl) (Or.inr ⟨a0, hr.choose, rfl, hr.choose_spec⟩) (xX5_set_0 H)

def kX5_lowest : List xm_I := [
  i_0 0 (.aload_n 0) 1 none,
  i_f 1 (.getfield 9) 3 none 5 0 [310] 0,
  i_s 4 (.tableswitch 62 0 4 #[36, 41, 46, 62, 50]) 36 none 25 [(0, 3), (1, 8), (2, 13), (3, 25), (4, 17)],
  i_0 40 (.lload_n 1) 1 none,
  i_0 41 (.l2i) 1 none,
  i_0 42 (.i2b) 1 none,
  i_0 43 (.i2l) 1 none,
  i_0 44 (.lreturn) 1 none,
  i_0 45 (.lload_n 1) 1 none,
  i_0 46 (.l2i) 1 none,
  i_0 47 (.i2s) 1 none,
  i_0 48 (.i2l) 1 none,
  i_0 49 (.lreturn) 1 none,
  i_0 50 (.lload_n 1) 1 none,
  i_0 51 (.l2i) 1 none,
  i_0 52 (.i2l) 1 none,
  i_0 53 (.lreturn) 1 none,
  i_0 54 (.lload_n 1) 1 none,
  i_w 55 (.lconst 0) 1 none 0 [],
  i_0 56 (.lcmp) 1 none,
  i_j 57 (.ifCond .eq 7) 3 none 23,
  i_w 60 (.lconst 1) 1 none 1 [],
  i_j 61 (.goto 4) 3 none 24,
  i_w 64 (.lconst 0) 1 none 0 [],
  i_0 65 (.lreturn) 1 none,
  i_0 66 (.lload_n 1) 1 none,
  i_0 67 (.lreturn) 1 none]
set_option maxRecDepth 100000 in
theorem oX5_lowest : xm_ok sX5_lowest sX5_lowest.1.cls kX5_lowest = true := by decide +kernel
set_option maxRecDepth 100000 in
set_option maxHeartbeats 4000000 in
theorem xX5_lowest_0 {K : Nat} {h : xm_H} {P : Option Value → xm_H → Prop} {a0 : Nat} {y1 : Int64} (H :
    ∃ f1, xm_fld h a0 5 0 = some (.int f1) ∧ /- sort -/
    (if f1 = 0 then
      P (some (.long (Int32.toInt64 ((Int32.toInt8 (Int64.toInt32 y1)).toInt32)))) h
    else
    (if f1 = 1 then
      P (some (.long (Int32.toInt64 ((Int32.toInt16 (Int64.toInt32 y1)).toInt32)))) h
    else
    (if f1 = 2 then
      P (some (.long (Int32.toInt64 (Int64.toInt32 y1)))) h
    else
    (if f1 = 3 then
      P (some (.long y1)) h
    else
    (if f1 = 4 then
      (if (lg_cmp y1 (0 : Int64)) = 0 then
        P (some (.long (0 : Int64))) h
      else
        P (some (.long (1 : Int64))) h)
    else
    P (some (.long y1)) h)))))) :
    xm_L K sX5_lowest kX5_lowest 0 [some (.ref a0), some (.long y1), none] [] h P :=
  xm_run (fun _ _ h => h) oX5_lowest 11 0 0 0 [some (.ref a0), some (.long y1), none] [] h H
set_option maxRecDepth 100000 in
theorem eX5_lowest {K K' : Nat} (hK : K < K') {h : xm_H} {P : Option Value → xm_H → Prop} {a0 : Nat} {y1 : Int64} (hr : ∃ fs, h[a0]? = some (.inr (5, fs))) (H :
    ∃ f1, xm_fld h a0 5 0 = some (.int f1) ∧ /- sort -/
    (if f1 = 0 then
      P (some (.long (Int32.toInt64 ((Int32.toInt8 (Int64.toInt32 y1)).toInt32)))) h
    else
    (if f1 = 1 then
      P (some (.long (Int32.toInt64 ((Int32.toInt16 (Int64.toInt32 y1)).toInt32)))) h
    else
    (if f1 = 2 then
      P (some (.long (Int32.toInt64 (Int64.toInt32 y1)))) h
    else
    (if f1 = 3 then
      P (some (.long y1)) h
    else
    (if f1 = 4 then
      (if (lg_cmp y1 (0 : Int64)) = 0 then
        P (some (.long (0 : Int64))) h
      else
        P (some (.long (1 : Int64))) h)
    else
    P (some (.long y1)) h)))))) :
    xm_Call K' sX5_lowest 5 [.ref a0, .long y1] h P :=
  xm_call_of (C := kX5_lowest) hK (by decide +kernel) rfl (Nat.le_of_ble_eq_true rfl) (Or.inr ⟨a0, hr.choose, rfl, hr.choose_spec⟩) (xX5_lowest_0 H)

def kX2_init : List xm_I := [
  i_0 0 (.aload_n 0) 1 none,
  i_f 1 (.invokespecial 3) 3 none 0 0 [242, 127, 128] 2,
  i_0 4 (.aload_n 0) 1 none,
  i_v 5 (.bipush 40) 2 none 40 [],
  i_f 7 (.newarray .int) 2 none 0 40 [147] 40,
  i_f 9 (.putfield 9) 3 none 2 0 [243] 1,
  i_0 12 (.aload_n 0) 1 none,
  i_v 13 (.bipush 40) 2 none 40 [],
  i_f 15 (.newarray .int) 2 none 0 40 [147] 40,
  i_f 17 (.putfield 15) 3 none 2 1 [244] 1,
  i_0 20 (.aload_n 0) 1 none,
  i_v 21 (.bipush 40) 2 none 40 [],
  i_f 23 (.newarray .int) 2 none 0 40 [147] 40,
  i_f 25 (.putfield 18) 3 none 2 2 [245] 1,
  i_0 28 (.aload_n 0) 1 none,
  i_v 29 (.iconst 0) 1 none 0 [],
  i_f 30 (.putfield 21) 3 none 2 3 [246] 0,
  i_0 33 (.aload_n 0) 1 none,
  i_v 34 (.iconst 0) 1 none 0 [],
  i_f 35 (.putfield 25) 3 none 2 4 [248] 0,
  i_0 38 (.return_) 1 none]
set_option maxRecDepth 100000 in
theorem oX2_init : xm_ok sX2_init sX2_init.1.cls kX2_init = true := by decide +kernel
set_option maxRecDepth 100000 in
set_option maxHeartbeats 4000000 in
theorem xX2_init_0 {K : Nat} {h : xm_H} {P : Option Value → xm_H → Prop} {a0 : Nat} (H :
    (0 + 1 ≤ 3 ∧ 0 + 40 ≤ 120) ∧ xm_va h [some (.ref a0)] [.ref a0] 1 ∧
    ∃ h1, xm_put (h ++ [xm_za 0 40]) a0 2 0 (.ref (List.length h)) = some h1 ∧ /- changed -/
    (1 + 1 ≤ 3 ∧ 40 + 40 ≤ 120) ∧ xm_va h1 [some (.ref a0)] [.ref a0] 1 ∧
    ∃ h2, xm_put (h1 ++ [xm_za 0 40]) a0 2 1 (.ref (List.length h1)) = some h2 ∧ /- before -/
    (2 + 1 ≤ 3 ∧ 80 + 40 ≤ 120) ∧ xm_va h2 [some (.ref a0)] [.ref a0] 1 ∧
    ∃ h3, xm_put (h2 ++ [xm_za 0 40]) a0 2 2 (.ref (List.length h2)) = some h3 ∧ /- after -/
    ∃ h4, xm_put h3 a0 2 3 (.int (0 : Int32)) = some h4 ∧ /- done -/
    ∃ h5, xm_put h4 a0 2 4 (.int (0 : Int32)) = some h5 ∧ /- noted -/
    P none h5) :
    xm_At xm_st K sX2_init sX2_init.1.cls kX2_init 0 0 0 [some (.ref a0)] [] h P :=
  xm_run (fun _ _ h => h) oX2_init 22 0 0 0 [some (.ref a0)] [] h H
set_option maxRecDepth 100000 in
theorem eX2_init {K K' : Nat} (hK : K < K') {h : xm_H} {P : Option Value → xm_H → Prop} {a0 : Nat} (hr : ∃ fs, h[a0]? = some (.inr (2, fs))) (H :
    (0 + 1 ≤ 3 ∧ 0 + 40 ≤ 120) ∧ xm_va h [some (.ref a0)] [.ref a0] 1 ∧
    ∃ h1, xm_put (h ++ [xm_za 0 40]) a0 2 0 (.ref (List.length h)) = some h1 ∧ /- changed -/
    (1 + 1 ≤ 3 ∧ 40 + 40 ≤ 120) ∧ xm_va h1 [some (.ref a0)] [.ref a0] 1 ∧
    ∃ h2, xm_put (h1 ++ [xm_za 0 40]) a0 2 1 (.ref (List.length h1)) = some h2 ∧ /- before -/
    (2 + 1 ≤ 3 ∧ 80 + 40 ≤ 120) ∧ xm_va h2 [some (.ref a0)] [.ref a0] 1 ∧
    ∃ h3, xm_put (h2 ++ [xm_za 0 40]) a0 2 2 (.ref (List.length h2)) = some h3 ∧ /- after -/
    ∃ h4, xm_put h3 a0 2 3 (.int (0 : Int32)) = some h4 ∧ /- done -/
    ∃ h5, xm_put h4 a0 2 4 (.int (0 : Int32)) = some h5 ∧ /- noted -/
    P none h5) :
    xm_Call K' sX2_init 2 [.ref a0] h P :=
  xm_call_of (C := kX2_init) hK (by decide +kernel) rfl (Nat.le_of_ble_eq_true rfl) (Or.inr ⟨a0, hr.choose, rfl, hr.choose_spec⟩) (xX2_init_0 H)

def kX2_note : List xm_I := [
  i_0 0 (.aload_n 0) 1 none,
  i_f 1 (.getfield 21) 3 none 2 3 [246] 0,
  i_v 4 (.bipush 40) 2 none 40 [],
  i_j 6 (.if_icmp .lt 7) 3 none 6,
  i_0 9 (.aload_n 0) 1 none,
  i_m 10 (.invokevirtual 28) 3 none 0 2 [421, 423, 2, 113, 424] 0 sX2_forgetOldest,
  i_0 13 (.aload_n 0) 1 none,
  i_f 14 (.getfield 9) 3 none 2 0 [243] 1,
  i_0 17 (.aload_n 0) 1 none,
  i_f 18 (.getfield 21) 3 none 2 3 [246] 0,
  i_0 21 (.iload_n 1) 1 none,
  i_0 22 (.iastore) 1 none,
  i_0 23 (.aload_n 0) 1 none,
  i_f 24 (.getfield 15) 3 none 2 1 [244] 1,
  i_0 27 (.aload_n 0) 1 none,
  i_f 28 (.getfield 21) 3 none 2 3 [246] 0,
  i_0 31 (.iload_n 2) 1 none,
  i_0 32 (.iastore) 1 none,
  i_0 33 (.aload_n 0) 1 none,
  i_f 34 (.getfield 18) 3 none 2 2 [245] 1,
  i_0 37 (.aload_n 0) 1 none,
  i_f 38 (.getfield 21) 3 none 2 3 [246] 0,
  i_0 41 (.iload_n 3) 1 none,
  i_0 42 (.iastore) 1 none,
  i_0 43 (.aload_n 0) 1 none,
  i_0 44 (.dup) 1 none,
  i_f 45 (.getfield 21) 3 none 2 3 [246] 0,
  i_v 48 (.iconst 1) 1 none 1 [],
  i_0 49 (.iadd) 1 none,
  i_f 50 (.putfield 21) 3 none 2 3 [246] 0,
  i_0 53 (.aload_n 0) 1 none,
  i_0 54 (.aload_n 0) 1 none,
  i_f 55 (.getfield 21) 3 none 2 3 [246] 0,
  i_f 58 (.putfield 25) 3 none 2 4 [248] 0,
  i_0 61 (.return_) 1 none]
set_option maxRecDepth 100000 in
theorem oX2_note : xm_ok sX2_note sX2_note.1.cls kX2_note = true := by decide +kernel
set_option maxRecDepth 100000 in
set_option maxHeartbeats 4000000 in
theorem xX2_note_0 {K : Nat} {h : xm_H} {P : Option Value → xm_H → Prop} {a0 : Nat} {x1 : Int32} {x2 : Int32} {x3 : Int32} (H :
    ∃ f1, xm_fld h a0 2 3 = some (.int f1) ∧ /- done -/
    (if f1 < (40 : Int32) then
      ∃ q2, xm_fld h a0 2 0 = some (.ref q2) ∧ /- changed -/
      ∃ f3, xm_fld h a0 2 3 = some (.int f3) ∧ /- done -/
      ∃ h4, xm_sto h 0 q2 f3 x1 = some h4 ∧
      ∃ q5, xm_fld h4 a0 2 1 = some (.ref q5) ∧ /- before -/
      ∃ f6, xm_fld h4 a0 2 3 = some (.int f6) ∧ /- done -/
      ∃ h7, xm_sto h4 0 q5 f6 x2 = some h7 ∧
      ∃ q8, xm_fld h7 a0 2 2 = some (.ref q8) ∧ /- after -/
      ∃ f9, xm_fld h7 a0 2 3 = some (.int f9) ∧ /- done -/
      ∃ h10, xm_sto h7 0 q8 f9 x3 = some h10 ∧
      ∃ f11, xm_fld h10 a0 2 3 = some (.int f11) ∧ /- done -/
      ∃ h12, xm_put h10 a0 2 3 (.int (f11 + (1 : Int32))) = some h12 ∧ /- done -/
      ∃ f13, xm_fld h12 a0 2 3 = some (.int f13) ∧ /- done -/
      ∃ h14, xm_put h12 a0 2 4 (.int f13) = some h14 ∧ /- noted -/
      P none h14
    else
      xm_Call K sX2_forgetOldest 2 [.ref a0] h (xm_pv fun h15 =>
        ∃ q16, xm_fld h15 a0 2 0 = some (.ref q16) ∧ /- changed -/
        ∃ f17, xm_fld h15 a0 2 3 = some (.int f17) ∧ /- done -/
        ∃ h18, xm_sto h15 0 q16 f17 x1 = some h18 ∧
        ∃ q19, xm_fld h18 a0 2 1 = some (.ref q19) ∧ /- before -/
        ∃ f20, xm_fld h18 a0 2 3 = some (.int f20) ∧ /- done -/
        ∃ h21, xm_sto h18 0 q19 f20 x2 = some h21 ∧
        ∃ q22, xm_fld h21 a0 2 2 = some (.ref q22) ∧ /- after -/
        ∃ f23, xm_fld h21 a0 2 3 = some (.int f23) ∧ /- done -/
        ∃ h24, xm_sto h21 0 q22 f23 x3 = some h24 ∧
        ∃ f25, xm_fld h24 a0 2 3 = some (.int f25) ∧ /- done -/
        ∃ h26, xm_put h24 a0 2 3 (.int (f25 + (1 : Int32))) = some h26 ∧ /- done -/
        ∃ f27, xm_fld h26 a0 2 3 = some (.int f27) ∧ /- done -/
        ∃ h28, xm_put h26 a0 2 4 (.int f27) = some h28 ∧ /- noted -/
        P none h28))) :
    xm_L K sX2_note kX2_note 0 [some (.ref a0), some (.int x1), some (.int x2), some (.int x3)] [] h P :=
  xm_run (fun _ _ h => h) oX2_note 36 0 0 0 [some (.ref a0), some (.int x1), some (.int x2), some (.int x3)] [] h H
set_option maxRecDepth 100000 in
theorem eX2_note {K K' : Nat} (hK : K < K') {h : xm_H} {P : Option Value → xm_H → Prop} {a0 : Nat} {x1 : Int32} {x2 : Int32} {x3 : Int32} (hr : ∃ fs, h[a0]? = some (.inr (2, fs))) (H :
    ∃ f1, xm_fld h a0 2 3 = some (.int f1) ∧ /- done -/
    (if f1 < (40 : Int32) then
      ∃ q2, xm_fld h a0 2 0 = some (.ref q2) ∧ /- changed -/
      ∃ f3, xm_fld h a0 2 3 = some (.int f3) ∧ /- done -/
      ∃ h4, xm_sto h 0 q2 f3 x1 = some h4 ∧
      ∃ q5, xm_fld h4 a0 2 1 = some (.ref q5) ∧ /- before -/
      ∃ f6, xm_fld h4 a0 2 3 = some (.int f6) ∧ /- done -/
      ∃ h7, xm_sto h4 0 q5 f6 x2 = some h7 ∧
      ∃ q8, xm_fld h7 a0 2 2 = some (.ref q8) ∧ /- after -/
      ∃ f9, xm_fld h7 a0 2 3 = some (.int f9) ∧ /- done -/
      ∃ h10, xm_sto h7 0 q8 f9 x3 = some h10 ∧
      ∃ f11, xm_fld h10 a0 2 3 = some (.int f11) ∧ /- done -/
      ∃ h12, xm_put h10 a0 2 3 (.int (f11 + (1 : Int32))) = some h12 ∧ /- done -/
      ∃ f13, xm_fld h12 a0 2 3 = some (.int f13) ∧ /- done -/
      ∃ h14, xm_put h12 a0 2 4 (.int f13) = some h14 ∧ /- noted -/
      P none h14
    else
      xm_Call K sX2_forgetOldest 2 [.ref a0] h (xm_pv fun h15 =>
        ∃ q16, xm_fld h15 a0 2 0 = some (.ref q16) ∧ /- changed -/
        ∃ f17, xm_fld h15 a0 2 3 = some (.int f17) ∧ /- done -/
        ∃ h18, xm_sto h15 0 q16 f17 x1 = some h18 ∧
        ∃ q19, xm_fld h18 a0 2 1 = some (.ref q19) ∧ /- before -/
        ∃ f20, xm_fld h18 a0 2 3 = some (.int f20) ∧ /- done -/
        ∃ h21, xm_sto h18 0 q19 f20 x2 = some h21 ∧
        ∃ q22, xm_fld h21 a0 2 2 = some (.ref q22) ∧ /- after -/
        ∃ f23, xm_fld h21 a0 2 3 = some (.int f23) ∧ /- done -/
        ∃ h24, xm_sto h21 0 q22 f23 x3 = some h24 ∧
        ∃ f25, xm_fld h24 a0 2 3 = some (.int f25) ∧ /- done -/
        ∃ h26, xm_put h24 a0 2 3 (.int (f25 + (1 : Int32))) = some h26 ∧ /- done -/
        ∃ f27, xm_fld h26 a0 2 3 = some (.int f27) ∧ /- done -/
        ∃ h28, xm_put h26 a0 2 4 (.int f27) = some h28 ∧ /- noted -/
        P none h28))) :
    xm_Call K' sX2_note 2 [.ref a0, .int x1, .int x2, .int x3] h P :=
  xm_call_of (C := kX2_note) hK (by decide +kernel) rfl (Nat.le_of_ble_eq_true rfl) (Or.inr ⟨a0, hr.choose, rfl, hr.choose_spec⟩) (xX2_note_0 H)

def kX2_forgetOldest : List xm_I := [
  i_0 0 (.aload_n 0) 1 none,
  i_f 1 (.getfield 9) 3 none 2 0 [243] 1,
  i_v 4 (.iconst 1) 1 none 1 [],
  i_0 5 (.aload_n 0) 1 none,
  i_f 6 (.getfield 9) 3 none 2 0 [243] 1,
  i_v 9 (.iconst 0) 1 none 0 [],
  i_v 10 (.bipush 39) 2 none 39 [],
  i_f 12 (.invokestatic 31) 3 none 0 0 [425, 427, 426, 118] 3,
  i_0 15 (.aload_n 0) 1 none,
  i_f 16 (.getfield 15) 3 none 2 1 [244] 1,
  i_v 19 (.iconst 1) 1 none 1 [],
  i_0 20 (.aload_n 0) 1 none,
  i_f 21 (.getfield 15) 3 none 2 1 [244] 1,
  i_v 24 (.iconst 0) 1 none 0 [],
  i_v 25 (.bipush 39) 2 none 39 [],
  i_f 27 (.invokestatic 31) 3 none 0 0 [425, 427, 426, 118] 3,
  i_0 30 (.aload_n 0) 1 none,
  i_f 31 (.getfield 18) 3 none 2 2 [245] 1,
  i_v 34 (.iconst 1) 1 none 1 [],
  i_0 35 (.aload_n 0) 1 none,
  i_f 36 (.getfield 18) 3 none 2 2 [245] 1,
  i_v 39 (.iconst 0) 1 none 0 [],
  i_v 40 (.bipush 39) 2 none 39 [],
  i_f 42 (.invokestatic 31) 3 none 0 0 [425, 427, 426, 118] 3,
  i_0 45 (.aload_n 0) 1 none,
  i_v 46 (.bipush 39) 2 none 39 [],
  i_f 48 (.putfield 21) 3 none 2 3 [246] 0,
  i_0 51 (.return_) 1 none]
set_option maxRecDepth 100000 in
theorem oX2_forgetOldest : xm_ok sX2_forgetOldest sX2_forgetOldest.1.cls kX2_forgetOldest = true := by decide +kernel
set_option maxRecDepth 100000 in
set_option maxHeartbeats 4000000 in
theorem xX2_forgetOldest_0 {K : Nat} {h : xm_H} {P : Option Value → xm_H → Prop} {a0 : Nat} (H :
    ∃ q1, xm_fld h a0 2 0 = some (.ref q1) ∧ /- changed -/
    ∃ q2, xm_fld h a0 2 0 = some (.ref q2) ∧ /- changed -/
    ∃ h3, xm_cpI h q1 (1 : Int32) q2 (0 : Int32) (39 : Int32) = some h3 ∧
    ∃ q4, xm_fld h3 a0 2 1 = some (.ref q4) ∧ /- before -/
    ∃ q5, xm_fld h3 a0 2 1 = some (.ref q5) ∧ /- before -/
    ∃ h6, xm_cpI h3 q4 (1 : Int32) q5 (0 : Int32) (39 : Int32) = some h6 ∧
    ∃ q7, xm_fld h6 a0 2 2 = some (.ref q7) ∧ /- after -/
    ∃ q8, xm_fld h6 a0 2 2 = some (.ref q8) ∧ /- after -/
    ∃ h9, xm_cpI h6 q7 (1 : Int32) q8 (0 : Int32) (39 : Int32) = some h9 ∧
    ∃ h10, xm_put h9 a0 2 3 (.int (39 : Int32)) = some h10 ∧ /- done -/
    P none h10) :
    xm_L K sX2_forgetOldest kX2_forgetOldest 0 [some (.ref a0)] [] h P :=
  xm_run (fun _ _ h => h) oX2_forgetOldest 29 0 0 0 [some (.ref a0)] [] h H
set_option maxRecDepth 100000 in
theorem eX2_forgetOldest {K K' : Nat} (hK : K < K') {h : xm_H} {P : Option Value → xm_H → Prop} {a0 : Nat} (hr : ∃ fs, h[a0]? = some (.inr (2, fs))) (H :
    ∃ q1, xm_fld h a0 2 0 = some (.ref q1) ∧ /- changed -/
    ∃ q2, xm_fld h a0 2 0 = some (.ref q2) ∧ /- changed -/
    ∃ h3, xm_cpI h q1 (1 : Int32) q2 (0 : Int32) (39 : Int32) = some h3 ∧
    ∃ q4, xm_fld h3 a0 2 1 = some (.ref q4) ∧ /- before -/
    ∃ q5, xm_fld h3 a0 2 1 = some (.ref q5) ∧ /- before -/
    ∃ h6, xm_cpI h3 q4 (1 : Int32) q5 (0 : Int32) (39 : Int32) = some h6 ∧
    ∃ q7, xm_fld h6 a0 2 2 = some (.ref q7) ∧ /- after -/
    ∃ q8, xm_fld h6 a0 2 2 = some (.ref q8) ∧ /- after -/
    ∃ h9, xm_cpI h6 q7 (1 : Int32) q8 (0 : Int32) (39 : Int32) = some h9 ∧
    ∃ h10, xm_put h9 a0 2 3 (.int (39 : Int32)) = some h10 ∧ /- done -/
    P none h10) :
    xm_Call K' sX2_forgetOldest 2 [.ref a0] h P :=
  xm_call_of (C := kX2_forgetOldest) hK (by decide +kernel) rfl (Nat.le_of_ble_eq_true rfl) (Or.inr ⟨a0, hr.choose, rfl, hr.choose_spec⟩) (xX2_forgetOldest_0 H)

def kX2_stepBack : List xm_I := [
  i_0 0 (.aload_n 0) 1 none,
  i_f 1 (.getfield 21) 3 none 2 3 [246] 0,
  i_j 4 (.ifCond .le 35) 3 none 21,
  i_0 7 (.aload_n 0) 1 none,
  i_0 8 (.dup) 1 none,
  i_f 9 (.getfield 21) 3 none 2 3 [246] 0,
  i_v 12 (.iconst 1) 1 none 1 [],
  i_0 13 (.isub) 1 none,
  i_f 14 (.putfield 21) 3 none 2 3 [246] 0,
  i_0 17 (.aload_n 1) 1 none,
  i_0 18 (.aload_n 0) 1 none,
  i_f 19 (.getfield 9) 3 none 2 0 [243] 1,
  i_0 22 (.aload_n 0) 1 none,
  i_f 23 (.getfield 21) 3 none 2 3 [246] 0,
  i_0 26 (.iaload) 1 none,
  i_0 27 (.aload_n 0) 1 none,
  i_f 28 (.getfield 15) 3 none 2 1 [244] 1,
  i_0 31 (.aload_n 0) 1 none,
  i_f 32 (.getfield 21) 3 none 2 3 [246] 0,
  i_0 35 (.iaload) 1 none,
  i_m 36 (.invokestatic 37) 3 none 3 99 [805, 806, 113, 807] 0 sX2_lay,
  i_0 39 (.return_) 1 none]
set_option maxRecDepth 100000 in
theorem oX2_stepBack : xm_ok sX2_stepBack sX2_stepBack.1.cls kX2_stepBack = true := by decide +kernel
set_option maxRecDepth 100000 in
set_option maxHeartbeats 4000000 in
theorem xX2_stepBack_0 {K : Nat} {h : xm_H} {P : Option Value → xm_H → Prop} {a0 : Nat} {a1 : Nat} (H :
    ∃ f1, xm_fld h a0 2 3 = some (.int f1) ∧ /- done -/
    (if 0 < f1 then
      ∃ f2, xm_fld h a0 2 3 = some (.int f2) ∧ /- done -/
      ∃ h3, xm_put h a0 2 3 (.int (f2 - (1 : Int32))) = some h3 ∧ /- done -/
      ∃ q4, xm_fld h3 a0 2 0 = some (.ref q4) ∧ /- changed -/
      ∃ f5, xm_fld h3 a0 2 3 = some (.int f5) ∧ /- done -/
      ∃ e6, xm_ld xm_st h3 0 q4 f5 = some e6 ∧
      ∃ q7, xm_fld h3 a0 2 1 = some (.ref q7) ∧ /- before -/
      ∃ f8, xm_fld h3 a0 2 3 = some (.int f8) ∧ /- done -/
      ∃ e9, xm_ld xm_st h3 0 q7 f8 = some e9 ∧
      xm_Call K sX2_lay 99 [.ref a1, .int e6, .int e9] h3 (xm_pv fun h10 =>
        P none h10)
    else
      P none h)) :
    xm_L K sX2_stepBack kX2_stepBack 0 [some (.ref a0), some (.ref a1)] [] h P :=
  xm_run (fun _ _ h => h) oX2_stepBack 23 0 0 0 [some (.ref a0), some (.ref a1)] [] h H
set_option maxRecDepth 100000 in
theorem eX2_stepBack {K K' : Nat} (hK : K < K') {h : xm_H} {P : Option Value → xm_H → Prop} {a0 : Nat} {a1 : Nat} (hr : ∃ fs, h[a0]? = some (.inr (2, fs))) (H :
    ∃ f1, xm_fld h a0 2 3 = some (.int f1) ∧ /- done -/
    (if 0 < f1 then
      ∃ f2, xm_fld h a0 2 3 = some (.int f2) ∧ /- done -/
      ∃ h3, xm_put h a0 2 3 (.int (f2 - (1 : Int32))) = some h3 ∧ /- done -/
      ∃ q4, xm_fld h3 a0 2 0 = some (.ref q4) ∧ /- changed -/
      ∃ f5, xm_fld h3 a0 2 3 = some (.int f5) ∧ /- done -/
      ∃ e6, xm_ld xm_st h3 0 q4 f5 = some e6 ∧
      ∃ q7, xm_fld h3 a0 2 1 = some (.ref q7) ∧ /- before -/
      ∃ f8, xm_fld h3 a0 2 3 = some (.int f8) ∧ /- done -/
      ∃ e9, xm_ld xm_st h3 0 q7 f8 = some e9 ∧
      xm_Call K sX2_lay 99 [.ref a1, .int e6, .int e9] h3 (xm_pv fun h10 =>
        P none h10)
    else
      P none h)) :
    xm_Call K' sX2_stepBack 2 [.ref a0, .ref a1] h P :=
  xm_call_of (C := kX2_stepBack) hK (by decide +kernel) rfl (Nat.le_of_ble_eq_true rfl) (Or.inr ⟨a0, hr.choose, rfl, hr.choose_spec⟩) (xX2_stepBack_0 H)

def kX2_stepOn : List xm_I := [
  i_0 0 (.aload_n 0) 1 none,
  i_f 1 (.getfield 21) 3 none 2 3 [246] 0,
  i_0 4 (.aload_n 0) 1 none,
  i_f 5 (.getfield 25) 3 none 2 4 [248] 0,
  i_j 8 (.if_icmp .ge 35) 3 none 23,
  i_0 11 (.aload_n 1) 1 none,
  i_0 12 (.aload_n 0) 1 none,
  i_f 13 (.getfield 9) 3 none 2 0 [243] 1,
  i_0 16 (.aload_n 0) 1 none,
  i_f 17 (.getfield 21) 3 none 2 3 [246] 0,
  i_0 20 (.iaload) 1 none,
  i_0 21 (.aload_n 0) 1 none,
  i_f 22 (.getfield 18) 3 none 2 2 [245] 1,
  i_0 25 (.aload_n 0) 1 none,
  i_f 26 (.getfield 21) 3 none 2 3 [246] 0,
  i_0 29 (.iaload) 1 none,
  i_m 30 (.invokestatic 37) 3 none 3 99 [805, 806, 113, 807] 0 sX2_lay,
  i_0 33 (.aload_n 0) 1 none,
  i_0 34 (.dup) 1 none,
  i_f 35 (.getfield 21) 3 none 2 3 [246] 0,
  i_v 38 (.iconst 1) 1 none 1 [],
  i_0 39 (.iadd) 1 none,
  i_f 40 (.putfield 21) 3 none 2 3 [246] 0,
  i_0 43 (.return_) 1 none]
set_option maxRecDepth 100000 in
theorem oX2_stepOn : xm_ok sX2_stepOn sX2_stepOn.1.cls kX2_stepOn = true := by decide +kernel
set_option maxRecDepth 100000 in
set_option maxHeartbeats 4000000 in
theorem xX2_stepOn_0 {K : Nat} {h : xm_H} {P : Option Value → xm_H → Prop} {a0 : Nat} {a1 : Nat} (H :
    ∃ f1, xm_fld h a0 2 3 = some (.int f1) ∧ /- done -/
    ∃ f2, xm_fld h a0 2 4 = some (.int f2) ∧ /- noted -/
    (if f1 < f2 then
      ∃ q3, xm_fld h a0 2 0 = some (.ref q3) ∧ /- changed -/
      ∃ f4, xm_fld h a0 2 3 = some (.int f4) ∧ /- done -/
      ∃ e5, xm_ld xm_st h 0 q3 f4 = some e5 ∧
      ∃ q6, xm_fld h a0 2 2 = some (.ref q6) ∧ /- after -/
      ∃ f7, xm_fld h a0 2 3 = some (.int f7) ∧ /- done -/
      ∃ e8, xm_ld xm_st h 0 q6 f7 = some e8 ∧
      xm_Call K sX2_lay 99 [.ref a1, .int e5, .int e8] h (xm_pv fun h9 =>
        ∃ f10, xm_fld h9 a0 2 3 = some (.int f10) ∧ /- done -/
        ∃ h11, xm_put h9 a0 2 3 (.int (f10 + (1 : Int32))) = some h11 ∧ /- done -/
        P none h11)
    else
      P none h)) :
    xm_L K sX2_stepOn kX2_stepOn 0 [some (.ref a0), some (.ref a1)] [] h P :=
  xm_run (fun _ _ h => h) oX2_stepOn 25 0 0 0 [some (.ref a0), some (.ref a1)] [] h H
set_option maxRecDepth 100000 in
theorem eX2_stepOn {K K' : Nat} (hK : K < K') {h : xm_H} {P : Option Value → xm_H → Prop} {a0 : Nat} {a1 : Nat} (hr : ∃ fs, h[a0]? = some (.inr (2, fs))) (H :
    ∃ f1, xm_fld h a0 2 3 = some (.int f1) ∧ /- done -/
    ∃ f2, xm_fld h a0 2 4 = some (.int f2) ∧ /- noted -/
    (if f1 < f2 then
      ∃ q3, xm_fld h a0 2 0 = some (.ref q3) ∧ /- changed -/
      ∃ f4, xm_fld h a0 2 3 = some (.int f4) ∧ /- done -/
      ∃ e5, xm_ld xm_st h 0 q3 f4 = some e5 ∧
      ∃ q6, xm_fld h a0 2 2 = some (.ref q6) ∧ /- after -/
      ∃ f7, xm_fld h a0 2 3 = some (.int f7) ∧ /- done -/
      ∃ e8, xm_ld xm_st h 0 q6 f7 = some e8 ∧
      xm_Call K sX2_lay 99 [.ref a1, .int e5, .int e8] h (xm_pv fun h9 =>
        ∃ f10, xm_fld h9 a0 2 3 = some (.int f10) ∧ /- done -/
        ∃ h11, xm_put h9 a0 2 3 (.int (f10 + (1 : Int32))) = some h11 ∧ /- done -/
        P none h11)
    else
      P none h)) :
    xm_Call K' sX2_stepOn 2 [.ref a0, .ref a1] h P :=
  xm_call_of (C := kX2_stepOn) hK (by decide +kernel) rfl (Nat.le_of_ble_eq_true rfl) (Or.inr ⟨a0, hr.choose, rfl, hr.choose_spec⟩) (xX2_stepOn_0 H)

def kX2_lay : List xm_I := [
  i_0 0 (.iload_n 1) 1 none,
  i_j 1 (.ifCond .lt 13) 3 none 10,
  i_0 4 (.iload_n 1) 1 none,
  i_0 5 (.aload_n 0) 1 none,
  i_0 6 (.arraylength) 1 none,
  i_j 7 (.if_icmp .ge 7) 3 none 10,
  i_0 10 (.aload_n 0) 1 none,
  i_0 11 (.iload_n 1) 1 none,
  i_0 12 (.iload_n 2) 1 none,
  i_0 13 (.iastore) 1 none,
  i_0 14 (.return_) 1 none]
set_option maxRecDepth 100000 in
theorem oX2_lay : xm_ok sX2_lay sX2_lay.1.cls kX2_lay = true := by decide +kernel
set_option maxRecDepth 100000 in
set_option maxHeartbeats 4000000 in
theorem xX2_lay_0 {K : Nat} {h : xm_H} {P : Option Value → xm_H → Prop} {a0 : Nat} {x1 : Int32} {x2 : Int32} (H :
    (if x1 < 0 then
      P none h
    else
      ∃ n1, xm_len xm_st h a0 = some n1 ∧
      (if x1 < n1 then
        ∃ h2, xm_sto h 0 a0 x1 x2 = some h2 ∧
        P none h2
      else
        P none h))) :
    xm_L K sX2_lay kX2_lay 0 [some (.ref a0), some (.int x1), some (.int x2)] [] h P :=
  xm_run (fun _ _ h => h) oX2_lay 12 0 0 0 [some (.ref a0), some (.int x1), some (.int x2)] [] h H
set_option maxRecDepth 100000 in
theorem eX2_lay {K K' : Nat} (hK : K < K') {h : xm_H} {P : Option Value → xm_H → Prop} {a0 : Nat} {x1 : Int32} {x2 : Int32} (H :
    (if x1 < 0 then
      P none h
    else
      ∃ n1, xm_len xm_st h a0 = some n1 ∧
      (if x1 < n1 then
        ∃ h2, xm_sto h 0 a0 x1 x2 = some h2 ∧
        P none h2
      else
        P none h))) :
    xm_Call K' sX2_lay 99 [.ref a0, .int x1, .int x2] h P :=
  xm_call_of (C := kX2_lay) hK (by decide +kernel) rfl (Nat.le_of_ble_eq_true rfl) (Or.inl rfl) (xX2_lay_0 H)

def kX1_init : List xm_I := [
  i_0 0 (.aload_n 0) 1 none,
  i_f 1 (.invokespecial 3) 3 none 0 0 [282, 127, 128] 2,
  i_0 4 (.aload_n 0) 1 none,
  i_v 5 (.bipush 50) 2 none 50 [],
  i_f 7 (.newarray .int) 2 none 0 50 [147] 50,
  i_f 9 (.putfield 9) 3 none 1 0 [283] 1,
  i_0 12 (.aload_n 0) 1 none,
  i_v 13 (.iconst 0) 1 none 0 [],
  i_f 14 (.putfield 15) 3 none 1 1 [285] 0,
  i_0 17 (.aload_n 0) 1 none,
  i_v 18 (.bipush 24) 2 none 24 [],
  i_f 20 (.newarray .int) 2 none 0 24 [147] 24,
  i_f 22 (.putfield 19) 3 none 1 2 [287] 1,
  i_0 25 (.aload_n 0) 1 none,
  i_v 26 (.iconst 0) 1 none 0 [],
  i_f 27 (.putfield 22) 3 none 1 3 [289] 0,
  i_0 30 (.aload_n 0) 1 none,
  i_v 31 (.iconst 0) 1 none 0 [],
  i_f 32 (.putfield 25) 3 none 1 4 [291] 0,
  i_0 35 (.return_) 1 none]
set_option maxRecDepth 100000 in
theorem oX1_init : xm_ok sX1_init sX1_init.1.cls kX1_init = true := by decide +kernel
set_option maxRecDepth 100000 in
set_option maxHeartbeats 4000000 in
theorem xX1_init_0 {K : Nat} {h : xm_H} {P : Option Value → xm_H → Prop} {a0 : Nat} (H :
    (0 + 1 ≤ 2 ∧ 0 + 50 ≤ 74) ∧ xm_va h [some (.ref a0)] [.ref a0] 1 ∧
    ∃ h1, xm_put (h ++ [xm_za 0 50]) a0 1 0 (.ref (List.length h)) = some h1 ∧ /- kinds -/
    ∃ h2, xm_put h1 a0 1 1 (.int (0 : Int32)) = some h2 ∧ /- made -/
    (1 + 1 ≤ 2 ∧ 50 + 24 ≤ 74) ∧ xm_va h2 [some (.ref a0)] [.ref a0] 1 ∧
    ∃ h3, xm_put (h2 ++ [xm_za 0 24]) a0 1 2 (.ref (List.length h2)) = some h3 ∧ /- begun -/
    ∃ h4, xm_put h3 a0 1 3 (.int (0 : Int32)) = some h4 ∧ /- ran -/
    ∃ h5, xm_put h4 a0 1 4 (.int (0 : Int32)) = some h5 ∧ /- self -/
    P none h5) :
    xm_At xm_st K sX1_init sX1_init.1.cls kX1_init 0 0 0 [some (.ref a0)] [] h P :=
  xm_run (fun _ _ h => h) oX1_init 21 0 0 0 [some (.ref a0)] [] h H
set_option maxRecDepth 100000 in
theorem eX1_init {K K' : Nat} (hK : K < K') {h : xm_H} {P : Option Value → xm_H → Prop} {a0 : Nat} (hr : ∃ fs, h[a0]? = some (.inr (1, fs))) (H :
    (0 + 1 ≤ 2 ∧ 0 + 50 ≤ 74) ∧ xm_va h [some (.ref a0)] [.ref a0] 1 ∧
    ∃ h1, xm_put (h ++ [xm_za 0 50]) a0 1 0 (.ref (List.length h)) = some h1 ∧ /- kinds -/
    ∃ h2, xm_put h1 a0 1 1 (.int (0 : Int32)) = some h2 ∧ /- made -/
    (1 + 1 ≤ 2 ∧ 50 + 24 ≤ 74) ∧ xm_va h2 [some (.ref a0)] [.ref a0] 1 ∧
    ∃ h3, xm_put (h2 ++ [xm_za 0 24]) a0 1 2 (.ref (List.length h2)) = some h3 ∧ /- begun -/
    ∃ h4, xm_put h3 a0 1 3 (.int (0 : Int32)) = some h4 ∧ /- ran -/
    ∃ h5, xm_put h4 a0 1 4 (.int (0 : Int32)) = some h5 ∧ /- self -/
    P none h5) :
    xm_Call K' sX1_init 1 [.ref a0] h P :=
  xm_call_of (C := kX1_init) hK (by decide +kernel) rfl (Nat.le_of_ble_eq_true rfl) (Or.inr ⟨a0, hr.choose, rfl, hr.choose_spec⟩) (xX1_init_0 H)

def kX1_has : List xm_I := [
  i_0 0 (.iload_n 1) 1 none,
  i_j 1 (.ifCond .lt 15) 3 none 8,
  i_0 4 (.iload_n 1) 1 none,
  i_0 5 (.aload_n 0) 1 none,
  i_f 6 (.getfield 15) 3 none 1 1 [285] 0,
  i_j 9 (.if_icmp .ge 7) 3 none 8,
  i_v 12 (.iconst 1) 1 none 1 [],
  i_j 13 (.goto 4) 3 none 9,
  i_v 16 (.iconst 0) 1 none 0 [],
  i_0 17 (.ireturn) 1 none]
set_option maxRecDepth 100000 in
theorem oX1_has : xm_ok sX1_has sX1_has.1.cls kX1_has = true := by decide +kernel
set_option maxRecDepth 100000 in
set_option maxHeartbeats 4000000 in
theorem xX1_has_0 {K : Nat} {h : xm_H} {P : Option Value → xm_H → Prop} {a0 : Nat} {x1 : Int32} (H :
    (if x1 < 0 then
      P (some (.int (0 : Int32))) h
    else
      ∃ f1, xm_fld h a0 1 1 = some (.int f1) ∧ /- made -/
      (if x1 < f1 then
        P (some (.int (1 : Int32))) h
      else
        P (some (.int (0 : Int32))) h))) :
    xm_L K sX1_has kX1_has 0 [some (.ref a0), some (.int x1)] [] h P :=
  xm_run (fun _ _ h => h) oX1_has 10 0 0 0 [some (.ref a0), some (.int x1)] [] h H
set_option maxRecDepth 100000 in
theorem eX1_has {K K' : Nat} (hK : K < K') {h : xm_H} {P : Option Value → xm_H → Prop} {a0 : Nat} {x1 : Int32} (hr : ∃ fs, h[a0]? = some (.inr (1, fs))) (H :
    (if x1 < 0 then
      P (some (.int (0 : Int32))) h
    else
      ∃ f1, xm_fld h a0 1 1 = some (.int f1) ∧ /- made -/
      (if x1 < f1 then
        P (some (.int (1 : Int32))) h
      else
        P (some (.int (0 : Int32))) h))) :
    xm_Call K' sX1_has 1 [.ref a0, .int x1] h P :=
  xm_call_of (C := kX1_has) hK (by decide +kernel) rfl (Nat.le_of_ble_eq_true rfl) (Or.inr ⟨a0, hr.choose, rfl, hr.choose_spec⟩) (xX1_has_0 H)

def kX1_add : List xm_I := [
  i_0 0 (.aload_n 0) 1 none,
  i_f 1 (.getfield 15) 3 none 1 1 [285] 0,
  i_v 4 (.bipush 50) 2 none 50 [],
  i_j 6 (.if_icmp .lt 5) 3 none 6,
  i_v 9 (.iconst 0) 1 none 0 [],
  i_0 10 (.ireturn) 1 none,
  i_0 11 (.aload_n 0) 1 none,
  i_f 12 (.getfield 9) 3 none 1 0 [283] 1,
  i_0 15 (.aload_n 0) 1 none,
  i_f 16 (.getfield 15) 3 none 1 1 [285] 0,
  i_0 19 (.iload_n 1) 1 none,
  i_0 20 (.iastore) 1 none,
  i_0 21 (.aload_n 0) 1 none,
  i_0 22 (.dup) 1 none,
  i_f 23 (.getfield 15) 3 none 1 1 [285] 0,
  i_v 26 (.iconst 1) 1 none 1 [],
  i_0 27 (.iadd) 1 none,
  i_f 28 (.putfield 15) 3 none 1 1 [285] 0,
  i_v 31 (.iconst 1) 1 none 1 [],
  i_0 32 (.ireturn) 1 none]
set_option maxRecDepth 100000 in
theorem oX1_add : xm_ok sX1_add sX1_add.1.cls kX1_add = true := by decide +kernel
set_option maxRecDepth 100000 in
set_option maxHeartbeats 4000000 in
theorem xX1_add_0 {K : Nat} {h : xm_H} {P : Option Value → xm_H → Prop} {a0 : Nat} {x1 : Int32} (H :
    ∃ f1, xm_fld h a0 1 1 = some (.int f1) ∧ /- made -/
    (if f1 < (50 : Int32) then
      ∃ q2, xm_fld h a0 1 0 = some (.ref q2) ∧ /- kinds -/
      ∃ f3, xm_fld h a0 1 1 = some (.int f3) ∧ /- made -/
      ∃ h4, xm_sto h 0 q2 f3 x1 = some h4 ∧
      ∃ f5, xm_fld h4 a0 1 1 = some (.int f5) ∧ /- made -/
      ∃ h6, xm_put h4 a0 1 1 (.int (f5 + (1 : Int32))) = some h6 ∧ /- made -/
      P (some (.int (1 : Int32))) h6
    else
      P (some (.int (0 : Int32))) h)) :
    xm_L K sX1_add kX1_add 0 [some (.ref a0), some (.int x1)] [] h P :=
  xm_run (fun _ _ h => h) oX1_add 19 0 0 0 [some (.ref a0), some (.int x1)] [] h H
set_option maxRecDepth 100000 in
theorem eX1_add {K K' : Nat} (hK : K < K') {h : xm_H} {P : Option Value → xm_H → Prop} {a0 : Nat} {x1 : Int32} (hr : ∃ fs, h[a0]? = some (.inr (1, fs))) (H :
    ∃ f1, xm_fld h a0 1 1 = some (.int f1) ∧ /- made -/
    (if f1 < (50 : Int32) then
      ∃ q2, xm_fld h a0 1 0 = some (.ref q2) ∧ /- kinds -/
      ∃ f3, xm_fld h a0 1 1 = some (.int f3) ∧ /- made -/
      ∃ h4, xm_sto h 0 q2 f3 x1 = some h4 ∧
      ∃ f5, xm_fld h4 a0 1 1 = some (.int f5) ∧ /- made -/
      ∃ h6, xm_put h4 a0 1 1 (.int (f5 + (1 : Int32))) = some h6 ∧ /- made -/
      P (some (.int (1 : Int32))) h6
    else
      P (some (.int (0 : Int32))) h)) :
    xm_Call K' sX1_add 1 [.ref a0, .int x1] h P :=
  xm_call_of (C := kX1_add) hK (by decide +kernel) rfl (Nat.le_of_ble_eq_true rfl) (Or.inr ⟨a0, hr.choose, rfl, hr.choose_spec⟩) (xX1_add_0 H)

def kX1_isUnder : List xm_I := [
  i_0 0 (.iload_n 1) 1 none,
  i_0 1 (.istore_n 3) 1 none,
  i_v 2 (.iconst 0) 1 none 0 [],
  i_0 3 (.istore 4) 2 none,
  i_0 5 (.iload 4) 2 (some [false, false, true, true, true]),
  i_v 7 (.bipush 8) 2 none 8 [],
  i_j 9 (.if_icmp .ge 29) 3 none 21,
  i_0 12 (.iload_n 3) 1 none,
  i_m 13 (.invokestatic 28) 3 none 1 99 [847, 821, 108, 822] 1 sX8_isKind,
  i_j 16 (.ifCond .eq 22) 3 none 21,
  i_0 19 (.iload_n 3) 1 none,
  i_0 20 (.iload_n 2) 1 none,
  i_j 21 (.if_icmp .ne 5) 3 none 15,
  i_v 24 (.iconst 1) 1 none 1 [],
  i_0 25 (.ireturn) 1 none,
  i_f 26 (.getstatic 32) 3 none 3 0 [850] 1,
  i_0 29 (.iload_n 3) 1 none,
  i_0 30 (.iaload) 1 none,
  i_0 31 (.istore_n 3) 1 none,
  i_v 32 (.iinc 4 1) 3 none 1 [],
  i_j 35 (.goto (-30)) 3 none 4,
  i_v 38 (.iconst 0) 1 none 0 [],
  i_0 39 (.ireturn) 1 none]
set_option maxRecDepth 100000 in
theorem oX1_isUnder : xm_ok sX1_isUnder sX1_isUnder.1.cls kX1_isUnder = true := by decide +kernel
set_option maxRecDepth 100000 in
set_option maxHeartbeats 4000000 in
theorem xX1_isUnder_0 {K : Nat} {h : xm_H} {P : Option Value → xm_H → Prop} {a0 : Nat} {x1 : Int32} {x2 : Int32} (H :
    xm_L K sX1_isUnder kX1_isUnder 4 [none, none, some (.int x2), some (.int x1), some (.int (0 : Int32))] [] h P) :
    xm_L K sX1_isUnder kX1_isUnder 0 [some (.ref a0), some (.int x1), some (.int x2), none, none] [] h P :=
  xm_run (fun _ _ h => h) oX1_isUnder 5 0 0 0 [some (.ref a0), some (.int x1), some (.int x2), none, none] [] h H
set_option maxRecDepth 100000 in
theorem eX1_isUnder {K K' : Nat} (hK : K < K') {h : xm_H} {P : Option Value → xm_H → Prop} {a0 : Nat} {x1 : Int32} {x2 : Int32} (hr : ∃ fs, h[a0]? = some (.inr (1, fs))) (H :
    xm_L K sX1_isUnder kX1_isUnder 4 [none, none, some (.int x2), some (.int x1), some (.int (0 : Int32))] [] h P) :
    xm_Call K' sX1_isUnder 1 [.ref a0, .int x1, .int x2] h P :=
  xm_call_of (C := kX1_isUnder) hK (by decide +kernel) rfl (Nat.le_of_ble_eq_true rfl) (Or.inr ⟨a0, hr.choose, rfl, hr.choose_spec⟩) (xX1_isUnder_0 H)

set_option maxRecDepth 100000 in
set_option maxHeartbeats 4000000 in
theorem xX1_isUnder_4 {K : Nat} {h : xm_H} {P : Option Value → xm_H → Prop} {x2 : Int32} {x3 : Int32} {x4 : Int32} (H :
    (if x4 < (8 : Int32) then
      xm_Call K sX8_isKind 99 [.int x3] h (xm_pi fun c2 h1 =>
        (if c2 = 0 then
          P (some (.int (0 : Int32))) h1
        else
          (if x3 = x2 then
            P (some (.int (1 : Int32))) h1
          else
            ∃ e3, xm_ld xm_st h1 0 (1000 + 3) x3 = some e3 ∧
            xm_L K sX1_isUnder kX1_isUnder 4 [none, none, some (.int x2), some (.int e3), some (.int (x4 + (1 : Int32)))] [] h1 P)))
    else
      P (some (.int (0 : Int32))) h)) :
    xm_L K sX1_isUnder kX1_isUnder 4 [none, none, some (.int x2), some (.int x3), some (.int x4)] [] h P :=
  xm_run (fun _ _ h => h) oX1_isUnder 16 4 0 0 [none, none, some (.int x2), some (.int x3), some (.int x4)] [] h H

def kX1_ownerOf : List xm_I := [
  i_0 0 (.iload_n 1) 1 none,
  i_0 1 (.istore_n 3) 1 none,
  i_v 2 (.iconst 0) 1 none 0 [],
  i_0 3 (.istore 4) 2 none,
  i_0 5 (.iload 4) 2 (some [false, false, true, true, true]),
  i_v 7 (.bipush 8) 2 none 8 [],
  i_j 9 (.if_icmp .ge 36) 3 none 26,
  i_0 12 (.iload_n 3) 1 none,
  i_m 13 (.invokestatic 28) 3 none 1 99 [847, 821, 108, 822] 1 sX8_isKind,
  i_j 16 (.ifCond .eq 29) 3 none 26,
  i_f 19 (.getstatic 35) 3 none 4 0 [848] 1,
  i_0 22 (.iload_n 3) 1 none,
  i_v 23 (.iconst 4) 1 none 4 [],
  i_0 24 (.imul) 1 none,
  i_0 25 (.iload_n 2) 1 none,
  i_0 26 (.iadd) 1 none,
  i_0 27 (.iaload) 1 none,
  i_j 28 (.ifCond .eq 5) 3 none 20,
  i_0 31 (.iload_n 3) 1 none,
  i_0 32 (.ireturn) 1 none,
  i_f 33 (.getstatic 32) 3 none 3 0 [850] 1,
  i_0 36 (.iload_n 3) 1 none,
  i_0 37 (.iaload) 1 none,
  i_0 38 (.istore_n 3) 1 none,
  i_v 39 (.iinc 4 1) 3 none 1 [],
  i_j 42 (.goto (-37)) 3 none 4,
  i_v 45 (.iconst (-1)) 1 none (-1) [],
  i_0 46 (.ireturn) 1 none]
set_option maxRecDepth 100000 in
theorem oX1_ownerOf : xm_ok sX1_ownerOf sX1_ownerOf.1.cls kX1_ownerOf = true := by decide +kernel
set_option maxRecDepth 100000 in
set_option maxHeartbeats 4000000 in
theorem xX1_ownerOf_0 {K : Nat} {h : xm_H} {P : Option Value → xm_H → Prop} {a0 : Nat} {x1 : Int32} {x2 : Int32} (H :
    xm_L K sX1_ownerOf kX1_ownerOf 4 [none, none, some (.int x2), some (.int x1), some (.int (0 : Int32))] [] h P) :
    xm_L K sX1_ownerOf kX1_ownerOf 0 [some (.ref a0), some (.int x1), some (.int x2), none, none] [] h P :=
  xm_run (fun _ _ h => h) oX1_ownerOf 5 0 0 0 [some (.ref a0), some (.int x1), some (.int x2), none, none] [] h H
set_option maxRecDepth 100000 in
theorem eX1_ownerOf {K K' : Nat} (hK : K < K') {h : xm_H} {P : Option Value → xm_H → Prop} {a0 : Nat} {x1 : Int32} {x2 : Int32} (hr : ∃ fs, h[a0]? = some (.inr (1, fs))) (H :
    xm_L K sX1_ownerOf kX1_ownerOf 4 [none, none, some (.int x2), some (.int x1), some (.int (0 : Int32))] [] h P) :
    xm_Call K' sX1_ownerOf 1 [.ref a0, .int x1, .int x2] h P :=
  xm_call_of (C := kX1_ownerOf) hK (by decide +kernel) rfl (Nat.le_of_ble_eq_true rfl) (Or.inr ⟨a0, hr.choose, rfl, hr.choose_spec⟩) (xX1_ownerOf_0 H)

set_option maxRecDepth 100000 in
set_option maxHeartbeats 4000000 in
theorem xX1_ownerOf_4 {K : Nat} {h : xm_H} {P : Option Value → xm_H → Prop} {x2 : Int32} {x3 : Int32} {x4 : Int32} (H :
    (if x4 < (8 : Int32) then
      xm_Call K sX8_isKind 99 [.int x3] h (xm_pi fun c2 h1 =>
        (if c2 = 0 then
          P (some (.int (-1 : Int32))) h1
        else
          ∃ e3, xm_ld xm_st h1 0 (1000 + 4) ((x3 * (4 : Int32)) + x2) = some e3 ∧
          (if e3 = 0 then
            ∃ e4, xm_ld xm_st h1 0 (1000 + 3) x3 = some e4 ∧
            xm_L K sX1_ownerOf kX1_ownerOf 4 [none, none, some (.int x2), some (.int e4), some (.int (x4 + (1 : Int32)))] [] h1 P
          else
            P (some (.int x3)) h1)))
    else
      P (some (.int (-1 : Int32))) h)) :
    xm_L K sX1_ownerOf kX1_ownerOf 4 [none, none, some (.int x2), some (.int x3), some (.int x4)] [] h P :=
  xm_run (fun _ _ h => h) oX1_ownerOf 21 4 0 0 [none, none, some (.int x2), some (.int x3), some (.int x4)] [] h H

def kX1_begin : List xm_I := [
  i_0 0 (.aload_n 0) 1 none,
  i_f 1 (.getfield 22) 3 none 1 3 [289] 0,
  i_v 4 (.bipush 24) 2 none 24 [],
  i_j 6 (.if_icmp .ge 13) 3 none 10,
  i_0 9 (.aload_n 0) 1 none,
  i_f 10 (.getfield 19) 3 none 1 2 [287] 1,
  i_0 13 (.aload_n 0) 1 none,
  i_f 14 (.getfield 22) 3 none 1 3 [289] 0,
  i_0 17 (.iload_n 1) 1 none,
  i_0 18 (.iastore) 1 none,
  i_0 19 (.aload_n 0) 1 none,
  i_0 20 (.dup) 1 none,
  i_f 21 (.getfield 22) 3 none 1 3 [289] 0,
  i_v 24 (.iconst 1) 1 none 1 [],
  i_0 25 (.iadd) 1 none,
  i_f 26 (.putfield 22) 3 none 1 3 [289] 0,
  i_0 29 (.return_) 1 none]
set_option maxRecDepth 100000 in
theorem oX1_begin : xm_ok sX1_begin sX1_begin.1.cls kX1_begin = true := by decide +kernel
set_option maxRecDepth 100000 in
set_option maxHeartbeats 4000000 in
theorem xX1_begin_0 {K : Nat} {h : xm_H} {P : Option Value → xm_H → Prop} {a0 : Nat} {x1 : Int32} (H :
    ∃ f1, xm_fld h a0 1 3 = some (.int f1) ∧ /- ran -/
    (if f1 < (24 : Int32) then
      ∃ q2, xm_fld h a0 1 2 = some (.ref q2) ∧ /- begun -/
      ∃ f3, xm_fld h a0 1 3 = some (.int f3) ∧ /- ran -/
      ∃ h4, xm_sto h 0 q2 f3 x1 = some h4 ∧
      ∃ f5, xm_fld h4 a0 1 3 = some (.int f5) ∧ /- ran -/
      ∃ h6, xm_put h4 a0 1 3 (.int (f5 + (1 : Int32))) = some h6 ∧ /- ran -/
      P none h6
    else
      ∃ f7, xm_fld h a0 1 3 = some (.int f7) ∧ /- ran -/
      ∃ h8, xm_put h a0 1 3 (.int (f7 + (1 : Int32))) = some h8 ∧ /- ran -/
      P none h8)) :
    xm_L K sX1_begin kX1_begin 0 [some (.ref a0), some (.int x1)] [] h P :=
  xm_run (fun _ _ h => h) oX1_begin 18 0 0 0 [some (.ref a0), some (.int x1)] [] h H
set_option maxRecDepth 100000 in
theorem eX1_begin {K K' : Nat} (hK : K < K') {h : xm_H} {P : Option Value → xm_H → Prop} {a0 : Nat} {x1 : Int32} (hr : ∃ fs, h[a0]? = some (.inr (1, fs))) (H :
    ∃ f1, xm_fld h a0 1 3 = some (.int f1) ∧ /- ran -/
    (if f1 < (24 : Int32) then
      ∃ q2, xm_fld h a0 1 2 = some (.ref q2) ∧ /- begun -/
      ∃ f3, xm_fld h a0 1 3 = some (.int f3) ∧ /- ran -/
      ∃ h4, xm_sto h 0 q2 f3 x1 = some h4 ∧
      ∃ f5, xm_fld h4 a0 1 3 = some (.int f5) ∧ /- ran -/
      ∃ h6, xm_put h4 a0 1 3 (.int (f5 + (1 : Int32))) = some h6 ∧ /- ran -/
      P none h6
    else
      ∃ f7, xm_fld h a0 1 3 = some (.int f7) ∧ /- ran -/
      ∃ h8, xm_put h a0 1 3 (.int (f7 + (1 : Int32))) = some h8 ∧ /- ran -/
      P none h8)) :
    xm_Call K' sX1_begin 1 [.ref a0, .int x1] h P :=
  xm_call_of (C := kX1_begin) hK (by decide +kernel) rfl (Nat.le_of_ble_eq_true rfl) (Or.inr ⟨a0, hr.choose, rfl, hr.choose_spec⟩) (xX1_begin_0 H)

def kX1_start : List xm_I := [
  i_0 0 (.aload_n 0) 1 none,
  i_v 1 (.iconst 0) 1 none 0 [],
  i_f 2 (.putfield 22) 3 none 1 3 [289] 0,
  i_0 5 (.aload_n 0) 1 none,
  i_0 6 (.iload_n 1) 1 none,
  i_m 7 (.invokevirtual 38) 3 none 1 1 [835, 836, 837, 115, 838] 0 sX1_has,
  i_j 10 (.ifCond .eq 12) 3 none 12,
  i_0 13 (.iload_n 2) 1 none,
  i_j 14 (.ifCond .lt 8) 3 none 12,
  i_0 17 (.iload_n 2) 1 none,
  i_v 18 (.iconst 4) 1 none 4 [],
  i_j 19 (.if_icmp .lt 5) 3 none 14,
  i_v 22 (.iconst 0) 1 none 0 [],
  i_0 23 (.ireturn) 1 none,
  i_0 24 (.aload_n 0) 1 none,
  i_0 25 (.iload_n 1) 1 none,
  i_f 26 (.putfield 25) 3 none 1 4 [291] 0,
  i_0 29 (.aload_n 0) 1 none,
  i_0 30 (.aload_n 0) 1 none,
  i_f 31 (.getfield 9) 3 none 1 0 [283] 1,
  i_0 34 (.iload_n 1) 1 none,
  i_0 35 (.iaload) 1 none,
  i_0 36 (.iload_n 2) 1 none,
  i_0 37 (.iload_n 3) 1 none,
  i_v 38 (.iconst 0) 1 none 0 [],
  i_m 39 (.invokevirtual 41) 3 none 4 1 [839, 841, 28, 115, 842] 0 sX1_perform,
  i_0 42 (.ireturn) 1 none]
set_option maxRecDepth 100000 in
theorem oX1_start : xm_ok sX1_start sX1_start.1.cls kX1_start = true := by decide +kernel
set_option maxRecDepth 100000 in
set_option maxHeartbeats 4000000 in
theorem xX1_start_0 {K : Nat} {h : xm_H} {P : Option Value → xm_H → Prop} {a0 : Nat} {x1 : Int32} {x2 : Int32} {x3 : Int32} (H :
    ∃ h1, xm_put h a0 1 3 (.int (0 : Int32)) = some h1 ∧ /- ran -/
    xm_Call K sX1_has 1 [.ref a0, .int x1] h1 (xm_pi fun c3 h2 =>
      (if c3 = 0 then
        P (some (.int (0 : Int32))) h2
      else
        (if x2 < 0 then
          P (some (.int (0 : Int32))) h2
        else
          (if x2 < (4 : Int32) then
            ∃ h4, xm_put h2 a0 1 4 (.int x1) = some h4 ∧ /- self -/
            ∃ q5, xm_fld h4 a0 1 0 = some (.ref q5) ∧ /- kinds -/
            ∃ e6, xm_ld xm_st h4 0 q5 x1 = some e6 ∧
            xm_Call K sX1_perform 1 [.ref a0, .int e6, .int x2, .int x3, .int (0 : Int32)] h4 (xm_pi fun c8 h7 =>
              P (some (.int c8)) h7)
          else
            P (some (.int (0 : Int32))) h2))))) :
    xm_L K sX1_start kX1_start 0 [some (.ref a0), some (.int x1), some (.int x2), some (.int x3)] [] h P :=
  xm_run (fun _ _ h => h) oX1_start 26 0 0 0 [some (.ref a0), some (.int x1), some (.int x2), some (.int x3)] [] h H
set_option maxRecDepth 100000 in
theorem eX1_start {K K' : Nat} (hK : K < K') {h : xm_H} {P : Option Value → xm_H → Prop} {a0 : Nat} {x1 : Int32} {x2 : Int32} {x3 : Int32} (hr : ∃ fs, h[a0]? = some (.inr (1, fs))) (H :
    ∃ h1, xm_put h a0 1 3 (.int (0 : Int32)) = some h1 ∧ /- ran -/
    xm_Call K sX1_has 1 [.ref a0, .int x1] h1 (xm_pi fun c3 h2 =>
      (if c3 = 0 then
        P (some (.int (0 : Int32))) h2
      else
        (if x2 < 0 then
          P (some (.int (0 : Int32))) h2
        else
          (if x2 < (4 : Int32) then
            ∃ h4, xm_put h2 a0 1 4 (.int x1) = some h4 ∧ /- self -/
            ∃ q5, xm_fld h4 a0 1 0 = some (.ref q5) ∧ /- kinds -/
            ∃ e6, xm_ld xm_st h4 0 q5 x1 = some e6 ∧
            xm_Call K sX1_perform 1 [.ref a0, .int e6, .int x2, .int x3, .int (0 : Int32)] h4 (xm_pi fun c8 h7 =>
              P (some (.int c8)) h7)
          else
            P (some (.int (0 : Int32))) h2))))) :
    xm_Call K' sX1_start 1 [.ref a0, .int x1, .int x2, .int x3] h P :=
  xm_call_of (C := kX1_start) hK (by decide +kernel) rfl (Nat.le_of_ble_eq_true rfl) (Or.inr ⟨a0, hr.choose, rfl, hr.choose_spec⟩) (xX1_start_0 H)

def kX1_perform : List xm_I := [
  i_0 0 (.iload_n 2) 1 none,
  i_j 1 (.ifCond .lt 8) 3 none 5,
  i_0 4 (.iload_n 2) 1 none,
  i_v 5 (.iconst 4) 1 none 4 [],
  i_j 6 (.if_icmp .lt 7) 3 none 7,
  i_v 9 (.iconst (-1)) 1 none (-1) [],
  i_j 10 (.goto 9) 3 none 11,
  i_0 13 (.aload_n 0) 1 none,
  i_0 14 (.iload_n 1) 1 none,
  i_0 15 (.iload_n 2) 1 none,
  i_m 16 (.invokevirtual 45) 3 none 2 1 [843, 845, 29, 115, 846] 0 sX1_ownerOf,
  i_0 19 (.istore 5) 2 none,
  i_0 21 (.iload 5) 2 none,
  i_j 23 (.ifCond .lt 10) 3 none 17,
  i_0 26 (.iload 4) 2 none,
  i_v 28 (.bipush 40) 2 none 40 [],
  i_j 30 (.if_icmp .le 5) 3 none 19,
  i_v 33 (.iconst 0) 1 none 0 [],
  i_0 34 (.ireturn) 1 none,
  i_f 35 (.getstatic 35) 3 none 4 0 [848] 1,
  i_0 38 (.iload 5) 2 none,
  i_v 40 (.iconst 4) 1 none 4 [],
  i_0 41 (.imul) 1 none,
  i_0 42 (.iload_n 2) 1 none,
  i_0 43 (.iadd) 1 none,
  i_0 44 (.iaload) 1 none,
  i_0 45 (.istore 6) 2 none,
  i_f 47 (.getstatic 32) 3 none 3 0 [850] 1,
  i_0 50 (.iload 5) 2 none,
  i_0 52 (.iaload) 1 none,
  i_0 53 (.istore 7) 2 none,
  i_0 55 (.iload 4) 2 none,
  i_v 57 (.iconst 1) 1 none 1 [],
  i_0 58 (.iadd) 1 none,
  i_0 59 (.istore 8) 2 none,
  i_0 61 (.aload_n 0) 1 none,
  i_0 62 (.iload 6) 2 none,
  i_m 64 (.invokevirtual 49) 3 none 1 1 [852, 854, 30, 115, 855] 0 sX1_begin,
  i_0 67 (.iload 6) 2 none,
  i_s 69 (.lookupswitch 309 #[(1, 123), (2, 130), (10, 148), (11, 159), (20, 166), (30, 179), (40, 191), (41, 204), (50, 217), (60, 230), (61, 250), (70, 263), (80, 276), (81, 296)]) 123 none 167 [(1, 40), (2, 45), (10, 57), (11, 65), (20, 70), (30, 79), (40, 87), (41, 96), (50, 105), (60, 114), (61, 127), (70, 136), (80, 145), (81, 158)],
  i_0 192 (.iload_n 3) 1 none,
  i_0 193 (.aload_n 0) 1 none,
  i_f 194 (.getfield 25) 3 none 1 4 [291] 0,
  i_0 197 (.iadd) 1 none,
  i_0 198 (.ireturn) 1 none,
  i_0 199 (.aload_n 0) 1 none,
  i_v 200 (.iconst 1) 1 none 1 [],
  i_0 201 (.iload_n 3) 1 none,
  i_0 202 (.iload 8) 2 none,
  i_m 204 (.invokevirtual 53) 3 none 3 1 [856, 858, 31, 115, 859] 0 sX1_again,
  i_0 207 (.aload_n 0) 1 none,
  i_v 208 (.iconst 2) 1 none 2 [],
  i_v 209 (.iconst 1) 1 none 1 [],
  i_0 210 (.iload 8) 2 none,
  i_m 212 (.invokevirtual 53) 3 none 3 1 [856, 858, 31, 115, 859] 0 sX1_again,
  i_0 215 (.isub) 1 none,
  i_0 216 (.ireturn) 1 none,
  i_0 217 (.aload_n 0) 1 none,
  i_v 218 (.iconst 0) 1 none 0 [],
  i_0 219 (.iload_n 3) 1 none,
  i_0 220 (.iload 8) 2 none,
  i_m 222 (.invokevirtual 53) 3 none 3 1 [856, 858, 31, 115, 859] 0 sX1_again,
  i_v 225 (.iconst 2) 1 none 2 [],
  i_0 226 (.imul) 1 none,
  i_0 227 (.ireturn) 1 none,
  i_0 228 (.iload_n 3) 1 none,
  i_0 229 (.aload_n 0) 1 none,
  i_f 230 (.getfield 25) 3 none 1 4 [291] 0,
  i_0 233 (.ixor) 1 none,
  i_0 234 (.ireturn) 1 none,
  i_0 235 (.aload_n 0) 1 none,
  i_0 236 (.iload 7) 2 none,
  i_v 238 (.iconst 0) 1 none 0 [],
  i_0 239 (.iload_n 3) 1 none,
  i_0 240 (.iload 8) 2 none,
  i_m 242 (.invokevirtual 41) 3 none 4 1 [839, 841, 28, 115, 842] 0 sX1_perform,
  i_v 245 (.iconst 3) 1 none 3 [],
  i_0 246 (.iadd) 1 none,
  i_0 247 (.ireturn) 1 none,
  i_0 248 (.aload_n 0) 1 none,
  i_0 249 (.iload 7) 2 none,
  i_v 251 (.iconst 1) 1 none 1 [],
  i_0 252 (.iload_n 3) 1 none,
  i_0 253 (.iload 8) 2 none,
  i_m 255 (.invokevirtual 41) 3 none 4 1 [839, 841, 28, 115, 842] 0 sX1_perform,
  i_0 258 (.ineg) 1 none,
  i_0 259 (.ireturn) 1 none,
  i_0 260 (.aload_n 0) 1 none,
  i_0 261 (.iload 7) 2 none,
  i_v 263 (.iconst 2) 1 none 2 [],
  i_0 264 (.iload_n 3) 1 none,
  i_0 265 (.iload 8) 2 none,
  i_m 267 (.invokevirtual 41) 3 none 4 1 [839, 841, 28, 115, 842] 0 sX1_perform,
  i_v 270 (.iconst 3) 1 none 3 [],
  i_0 271 (.imul) 1 none,
  i_0 272 (.ireturn) 1 none,
  i_0 273 (.aload_n 0) 1 none,
  i_0 274 (.iload 7) 2 none,
  i_v 276 (.iconst 1) 1 none 1 [],
  i_0 277 (.iload_n 3) 1 none,
  i_v 278 (.iconst 1) 1 none 1 [],
  i_0 279 (.iadd) 1 none,
  i_0 280 (.iload 8) 2 none,
  i_m 282 (.invokevirtual 41) 3 none 4 1 [839, 841, 28, 115, 842] 0 sX1_perform,
  i_0 285 (.ireturn) 1 none,
  i_0 286 (.aload_n 0) 1 none,
  i_0 287 (.iload 7) 2 none,
  i_v 289 (.iconst 3) 1 none 3 [],
  i_0 290 (.iload_n 3) 1 none,
  i_0 291 (.iload 8) 2 none,
  i_m 293 (.invokevirtual 41) 3 none 4 1 [839, 841, 28, 115, 842] 0 sX1_perform,
  i_v 296 (.iconst 5) 1 none 5 [],
  i_0 297 (.ixor) 1 none,
  i_0 298 (.ireturn) 1 none,
  i_0 299 (.aload_n 0) 1 none,
  i_0 300 (.iload 7) 2 none,
  i_v 302 (.iconst 2) 1 none 2 [],
  i_0 303 (.iload_n 3) 1 none,
  i_0 304 (.iload 8) 2 none,
  i_m 306 (.invokevirtual 41) 3 none 4 1 [839, 841, 28, 115, 842] 0 sX1_perform,
  i_0 309 (.aload_n 0) 1 none,
  i_v 310 (.iconst 0) 1 none 0 [],
  i_v 311 (.iconst 2) 1 none 2 [],
  i_0 312 (.iload 8) 2 none,
  i_m 314 (.invokevirtual 53) 3 none 3 1 [856, 858, 31, 115, 859] 0 sX1_again,
  i_0 317 (.isub) 1 none,
  i_0 318 (.ireturn) 1 none,
  i_0 319 (.aload_n 0) 1 none,
  i_0 320 (.iload 7) 2 none,
  i_v 322 (.iconst 3) 1 none 3 [],
  i_0 323 (.iload_n 3) 1 none,
  i_0 324 (.iload 8) 2 none,
  i_m 326 (.invokevirtual 41) 3 none 4 1 [839, 841, 28, 115, 842] 0 sX1_perform,
  i_v 329 (.iconst 1) 1 none 1 [],
  i_0 330 (.iadd) 1 none,
  i_0 331 (.ireturn) 1 none,
  i_0 332 (.aload_n 0) 1 none,
  i_0 333 (.iload 7) 2 none,
  i_v 335 (.iconst 0) 1 none 0 [],
  i_0 336 (.iload_n 3) 1 none,
  i_0 337 (.iload 8) 2 none,
  i_m 339 (.invokevirtual 41) 3 none 4 1 [839, 841, 28, 115, 842] 0 sX1_perform,
  i_v 342 (.iconst 2) 1 none 2 [],
  i_0 343 (.imul) 1 none,
  i_0 344 (.ireturn) 1 none,
  i_0 345 (.aload_n 0) 1 none,
  i_0 346 (.iload 7) 2 none,
  i_v 348 (.iconst 1) 1 none 1 [],
  i_0 349 (.iload_n 3) 1 none,
  i_0 350 (.iload 8) 2 none,
  i_m 352 (.invokevirtual 41) 3 none 4 1 [839, 841, 28, 115, 842] 0 sX1_perform,
  i_0 355 (.aload_n 0) 1 none,
  i_v 356 (.iconst 2) 1 none 2 [],
  i_v 357 (.iconst 2) 1 none 2 [],
  i_0 358 (.iload 8) 2 none,
  i_m 360 (.invokevirtual 53) 3 none 3 1 [856, 858, 31, 115, 859] 0 sX1_again,
  i_0 363 (.iadd) 1 none,
  i_0 364 (.ireturn) 1 none,
  i_0 365 (.aload_n 0) 1 none,
  i_0 366 (.iload 7) 2 none,
  i_v 368 (.iconst 0) 1 none 0 [],
  i_0 369 (.iload_n 3) 1 none,
  i_0 370 (.iload 8) 2 none,
  i_m 372 (.invokevirtual 41) 3 none 4 1 [839, 841, 28, 115, 842] 0 sX1_perform,
  i_v 375 (.iconst 1) 1 none 1 [],
  i_0 376 (.isub) 1 none,
  i_0 377 (.ireturn) 1 none,
  i_v 378 (.iconst 0) 1 none 0 [],
  i_0 379 (.ireturn) 1 none]
set_option maxRecDepth 100000 in
theorem oX1_perform : xm_ok sX1_perform sX1_perform.1.cls kX1_perform = true := by decide +kernel
set_option maxRecDepth 100000 in
set_option maxHeartbeats 4000000 in
theorem xX1_perform_0 {K : Nat} {h : xm_H} {P : Option Value → xm_H → Prop} {a0 : Nat} {x1 : Int32} {x2 : Int32} {x3 : Int32} {x4 : Int32} (H :
    (if x2 < 0 then
      P (some (.int (0 : Int32))) h
    else
      (if x2 < (4 : Int32) then
        xm_Call K sX1_ownerOf 1 [.ref a0, .int x1, .int x2] h (xm_pi fun c2 h1 =>
          (if c2 < 0 then
            P (some (.int (0 : Int32))) h1
          else
            (if (40 : Int32) < x4 then
              P (some (.int (0 : Int32))) h1
            else
              ∃ e3, xm_ld xm_st h1 0 (1000 + 4) ((c2 * (4 : Int32)) + x2) = some e3 ∧
              ∃ e4, xm_ld xm_st h1 0 (1000 + 3) c2 = some e4 ∧
              xm_Call K sX1_begin 1 [.ref a0, .int e3] h1 (xm_pv fun h5 =>
                (if e3 = 1 then
                  ∃ f6, xm_fld h5 a0 1 4 = some (.int f6) ∧ /- self -/
                  P (some (.int (x3 + f6))) h5
                else
                (if e3 = 2 then
                  xm_Call K sX1_again 1 [.ref a0, .int (1 : Int32), .int x3, .int (x4 + (1 : Int32))] h5 (xm_pi fun c8 h7 =>
                    xm_Call K sX1_again 1 [.ref a0, .int (2 : Int32), .int (1 : Int32), .int (x4 + (1 : Int32))] h7 (xm_pi fun c10 h9 =>
                      P (some (.int (c8 - c10))) h9))
                else
                (if e3 = 10 then
                  xm_Call K sX1_again 1 [.ref a0, .int (0 : Int32), .int x3, .int (x4 + (1 : Int32))] h5 (xm_pi fun c12 h11 =>
                    P (some (.int (c12 * (2 : Int32)))) h11)
                else
                (if e3 = 11 then
                  ∃ f13, xm_fld h5 a0 1 4 = some (.int f13) ∧ /- self -/
                  P (some (.int (x3 ^^^ f13))) h5
                else
                (if e3 = 20 then
                  xm_Call K sX1_perform 1 [.ref a0, .int e4, .int (0 : Int32), .int x3, .int (x4 + (1 : Int32))] h5 (xm_pi fun c15 h14 =>
                    P (some (.int (c15 + (3 : Int32)))) h14)
                else
                (if e3 = 30 then
                  xm_Call K sX1_perform 1 [.ref a0, .int e4, .int (1 : Int32), .int x3, .int (x4 + (1 : Int32))] h5 (xm_pi fun c17 h16 =>
                    P (some (.int (-c17))) h16)
                else
                (if e3 = 40 then
                  xm_Call K sX1_perform 1 [.ref a0, .int e4, .int (2 : Int32), .int x3, .int (x4 + (1 : Int32))] h5 (xm_pi fun c19 h18 =>
                    P (some (.int (c19 * (3 : Int32)))) h18)
                else
                (if e3 = 41 then
                  xm_Call K sX1_perform 1 [.ref a0, .int e4, .int (1 : Int32), .int (x3 + (1 : Int32)), .int (x4 + (1 : Int32))] h5 (xm_pi fun c21 h20 =>
                    P (some (.int c21)) h20)
                else
                (if e3 = 50 then
                  xm_Call K sX1_perform 1 [.ref a0, .int e4, .int (3 : Int32), .int x3, .int (x4 + (1 : Int32))] h5 (xm_pi fun c23 h22 =>
                    P (some (.int (c23 ^^^ (5 : Int32)))) h22)
                else
                (if e3 = 60 then
                  xm_Call K sX1_perform 1 [.ref a0, .int e4, .int (2 : Int32), .int x3, .int (x4 + (1 : Int32))] h5 (xm_pi fun c25 h24 =>
                    xm_Call K sX1_again 1 [.ref a0, .int (0 : Int32), .int (2 : Int32), .int (x4 + (1 : Int32))] h24 (xm_pi fun c27 h26 =>
                      P (some (.int (c25 - c27))) h26))
                else
                (if e3 = 61 then
                  xm_Call K sX1_perform 1 [.ref a0, .int e4, .int (3 : Int32), .int x3, .int (x4 + (1 : Int32))] h5 (xm_pi fun c29 h28 =>
                    P (some (.int (c29 + (1 : Int32)))) h28)
                else
                (if e3 = 70 then
                  xm_Call K sX1_perform 1 [.ref a0, .int e4, .int (0 : Int32), .int x3, .int (x4 + (1 : Int32))] h5 (xm_pi fun c31 h30 =>
                    P (some (.int (c31 * (2 : Int32)))) h30)
                else
                (if e3 = 80 then
                  xm_Call K sX1_perform 1 [.ref a0, .int e4, .int (1 : Int32), .int x3, .int (x4 + (1 : Int32))] h5 (xm_pi fun c33 h32 =>
                    xm_Call K sX1_again 1 [.ref a0, .int (2 : Int32), .int (2 : Int32), .int (x4 + (1 : Int32))] h32 (xm_pi fun c35 h34 =>
                      P (some (.int (c33 + c35))) h34))
                else
                (if e3 = 81 then
                  xm_Call K sX1_perform 1 [.ref a0, .int e4, .int (0 : Int32), .int x3, .int (x4 + (1 : Int32))] h5 (xm_pi fun c37 h36 =>
                    P (some (.int (c37 - (1 : Int32)))) h36)
                else
                P (some (.int (0 : Int32))) h5))))))))))))))))))
      else
        P (some (.int (0 : Int32))) h))) :
    xm_L K sX1_perform kX1_perform 0 [some (.ref a0), some (.int x1), some (.int x2), some (.int x3), some (.int x4), none, none, none, none] [] h P :=
  xm_run (fun _ _ h => h) oX1_perform 50 0 0 0 [some (.ref a0), some (.int x1), some (.int x2), some (.int x3), some (.int x4), none, none, none, none] [] h H
set_option maxRecDepth 100000 in
theorem eX1_perform {K K' : Nat} (hK : K < K') {h : xm_H} {P : Option Value → xm_H → Prop} {a0 : Nat} {x1 : Int32} {x2 : Int32} {x3 : Int32} {x4 : Int32} (hr : ∃ fs, h[a0]? = some (.inr (1, fs))) (H :
    (if x2 < 0 then
      P (some (.int (0 : Int32))) h
    else
      (if x2 < (4 : Int32) then
        xm_Call K sX1_ownerOf 1 [.ref a0, .int x1, .int x2] h (xm_pi fun c2 h1 =>
          (if c2 < 0 then
            P (some (.int (0 : Int32))) h1
          else
            (if (40 : Int32) < x4 then
              P (some (.int (0 : Int32))) h1
            else
              ∃ e3, xm_ld xm_st h1 0 (1000 + 4) ((c2 * (4 : Int32)) + x2) = some e3 ∧
              ∃ e4, xm_ld xm_st h1 0 (1000 + 3) c2 = some e4 ∧
              xm_Call K sX1_begin 1 [.ref a0, .int e3] h1 (xm_pv fun h5 =>
                (if e3 = 1 then
                  ∃ f6, xm_fld h5 a0 1 4 = some (.int f6) ∧ /- self -/
                  P (some (.int (x3 + f6))) h5
                else
                (if e3 = 2 then
                  xm_Call K sX1_again 1 [.ref a0, .int (1 : Int32), .int x3, .int (x4 + (1 : Int32))] h5 (xm_pi fun c8 h7 =>
                    xm_Call K sX1_again 1 [.ref a0, .int (2 : Int32), .int (1 : Int32), .int (x4 + (1 : Int32))] h7 (xm_pi fun c10 h9 =>
                      P (some (.int (c8 - c10))) h9))
                else
                (if e3 = 10 then
                  xm_Call K sX1_again 1 [.ref a0, .int (0 : Int32), .int x3, .int (x4 + (1 : Int32))] h5 (xm_pi fun c12 h11 =>
                    P (some (.int (c12 * (2 : Int32)))) h11)
                else
                (if e3 = 11 then
                  ∃ f13, xm_fld h5 a0 1 4 = some (.int f13) ∧ /- self -/
                  P (some (.int (x3 ^^^ f13))) h5
                else
                (if e3 = 20 then
                  xm_Call K sX1_perform 1 [.ref a0, .int e4, .int (0 : Int32), .int x3, .int (x4 + (1 : Int32))] h5 (xm_pi fun c15 h14 =>
                    P (some (.int (c15 + (3 : Int32)))) h14)
                else
                (if e3 = 30 then
                  xm_Call K sX1_perform 1 [.ref a0, .int e4, .int (1 : Int32), .int x3, .int (x4 + (1 : Int32))] h5 (xm_pi fun c17 h16 =>
                    P (some (.int (-c17))) h16)
                else
                (if e3 = 40 then
                  xm_Call K sX1_perform 1 [.ref a0, .int e4, .int (2 : Int32), .int x3, .int (x4 + (1 : Int32))] h5 (xm_pi fun c19 h18 =>
                    P (some (.int (c19 * (3 : Int32)))) h18)
                else
                (if e3 = 41 then
                  xm_Call K sX1_perform 1 [.ref a0, .int e4, .int (1 : Int32), .int (x3 + (1 : Int32)), .int (x4 + (1 : Int32))] h5 (xm_pi fun c21 h20 =>
                    P (some (.int c21)) h20)
                else
                (if e3 = 50 then
                  xm_Call K sX1_perform 1 [.ref a0, .int e4, .int (3 : Int32), .int x3, .int (x4 + (1 : Int32))] h5 (xm_pi fun c23 h22 =>
                    P (some (.int (c23 ^^^ (5 : Int32)))) h22)
                else
                (if e3 = 60 then
                  xm_Call K sX1_perform 1 [.ref a0, .int e4, .int (2 : Int32), .int x3, .int (x4 + (1 : Int32))] h5 (xm_pi fun c25 h24 =>
                    xm_Call K sX1_again 1 [.ref a0, .int (0 : Int32), .int (2 : Int32), .int (x4 + (1 : Int32))] h24 (xm_pi fun c27 h26 =>
                      P (some (.int (c25 - c27))) h26))
                else
                (if e3 = 61 then
                  xm_Call K sX1_perform 1 [.ref a0, .int e4, .int (3 : Int32), .int x3, .int (x4 + (1 : Int32))] h5 (xm_pi fun c29 h28 =>
                    P (some (.int (c29 + (1 : Int32)))) h28)
                else
                (if e3 = 70 then
                  xm_Call K sX1_perform 1 [.ref a0, .int e4, .int (0 : Int32), .int x3, .int (x4 + (1 : Int32))] h5 (xm_pi fun c31 h30 =>
                    P (some (.int (c31 * (2 : Int32)))) h30)
                else
                (if e3 = 80 then
                  xm_Call K sX1_perform 1 [.ref a0, .int e4, .int (1 : Int32), .int x3, .int (x4 + (1 : Int32))] h5 (xm_pi fun c33 h32 =>
                    xm_Call K sX1_again 1 [.ref a0, .int (2 : Int32), .int (2 : Int32), .int (x4 + (1 : Int32))] h32 (xm_pi fun c35 h34 =>
                      P (some (.int (c33 + c35))) h34))
                else
                (if e3 = 81 then
                  xm_Call K sX1_perform 1 [.ref a0, .int e4, .int (0 : Int32), .int x3, .int (x4 + (1 : Int32))] h5 (xm_pi fun c37 h36 =>
                    P (some (.int (c37 - (1 : Int32)))) h36)
                else
                P (some (.int (0 : Int32))) h5))))))))))))))))))
      else
        P (some (.int (0 : Int32))) h))) :
    xm_Call K' sX1_perform 1 [.ref a0, .int x1, .int x2, .int x3, .int x4] h P :=
  xm_call_of (C := kX1_perform) hK (by decide +kernel) rfl (Nat.le_of_ble_eq_true rfl) (Or.inr ⟨a0, hr.choose, rfl, hr.choose_spec⟩) (xX1_perform_0 H)

def kX1_again : List xm_I := [
  i_0 0 (.aload_n 0) 1 none,
  i_0 1 (.aload_n 0) 1 none,
  i_f 2 (.getfield 25) 3 none 1 4 [291] 0,
  i_m 5 (.invokevirtual 38) 3 none 1 1 [835, 836, 837, 115, 838] 0 sX1_has,
  i_j 8 (.ifCond .eq 22) 3 none 16,
  i_0 11 (.aload_n 0) 1 none,
  i_0 12 (.aload_n 0) 1 none,
  i_f 13 (.getfield 9) 3 none 1 0 [283] 1,
  i_0 16 (.aload_n 0) 1 none,
  i_f 17 (.getfield 25) 3 none 1 4 [291] 0,
  i_0 20 (.iaload) 1 none,
  i_0 21 (.iload_n 1) 1 none,
  i_0 22 (.iload_n 2) 1 none,
  i_0 23 (.iload_n 3) 1 none,
  i_m 24 (.invokevirtual 41) 3 none 4 1 [839, 841, 28, 115, 842] 0 sX1_perform,
  i_j 27 (.goto 4) 3 none 17,
  i_v 30 (.iconst 0) 1 none 0 [],
  i_0 31 (.ireturn) 1 none]
set_option maxRecDepth 100000 in
theorem oX1_again : xm_ok sX1_again sX1_again.1.cls kX1_again = true := by decide +kernel
set_option maxRecDepth 100000 in
set_option maxHeartbeats 4000000 in
theorem xX1_again_0 {K : Nat} {h : xm_H} {P : Option Value → xm_H → Prop} {a0 : Nat} {x1 : Int32} {x2 : Int32} {x3 : Int32} (H :
    ∃ f1, xm_fld h a0 1 4 = some (.int f1) ∧ /- self -/
    xm_Call K sX1_has 1 [.ref a0, .int f1] h (xm_pi fun c3 h2 =>
      (if c3 = 0 then
        P (some (.int (0 : Int32))) h2
      else
        ∃ q4, xm_fld h2 a0 1 0 = some (.ref q4) ∧ /- kinds -/
        ∃ f5, xm_fld h2 a0 1 4 = some (.int f5) ∧ /- self -/
        ∃ e6, xm_ld xm_st h2 0 q4 f5 = some e6 ∧
        xm_Call K sX1_perform 1 [.ref a0, .int e6, .int x1, .int x2, .int x3] h2 (xm_pi fun c8 h7 =>
          P (some (.int c8)) h7)))) :
    xm_L K sX1_again kX1_again 0 [some (.ref a0), some (.int x1), some (.int x2), some (.int x3)] [] h P :=
  xm_run (fun _ _ h => h) oX1_again 18 0 0 0 [some (.ref a0), some (.int x1), some (.int x2), some (.int x3)] [] h H
set_option maxRecDepth 100000 in
theorem eX1_again {K K' : Nat} (hK : K < K') {h : xm_H} {P : Option Value → xm_H → Prop} {a0 : Nat} {x1 : Int32} {x2 : Int32} {x3 : Int32} (hr : ∃ fs, h[a0]? = some (.inr (1, fs))) (H :
    ∃ f1, xm_fld h a0 1 4 = some (.int f1) ∧ /- self -/
    xm_Call K sX1_has 1 [.ref a0, .int f1] h (xm_pi fun c3 h2 =>
      (if c3 = 0 then
        P (some (.int (0 : Int32))) h2
      else
        ∃ q4, xm_fld h2 a0 1 0 = some (.ref q4) ∧ /- kinds -/
        ∃ f5, xm_fld h2 a0 1 4 = some (.int f5) ∧ /- self -/
        ∃ e6, xm_ld xm_st h2 0 q4 f5 = some e6 ∧
        xm_Call K sX1_perform 1 [.ref a0, .int e6, .int x1, .int x2, .int x3] h2 (xm_pi fun c8 h7 =>
          P (some (.int c8)) h7)))) :
    xm_Call K' sX1_again 1 [.ref a0, .int x1, .int x2, .int x3] h P :=
  xm_call_of (C := kX1_again) hK (by decide +kernel) rfl (Nat.le_of_ble_eq_true rfl) (Or.inr ⟨a0, hr.choose, rfl, hr.choose_spec⟩) (xX1_again_0 H)

def kX0_init : List xm_I := [
  i_0 0 (.aload_n 0) 1 none,
  i_f 1 (.invokespecial 3) 3 none 0 0 [266, 127, 128] 2,
  i_0 4 (.aload_n 0) 1 none,
  i_v 5 (.bipush 20) 2 none 20 [],
  i_f 7 (.newarray .int) 2 none 0 20 [147] 20,
  i_f 9 (.putfield 9) 3 none 0 0 [267] 1,
  i_0 12 (.aload_n 0) 1 none,
  i_v 13 (.bipush 20) 2 none 20 [],
  i_f 15 (.newarray .int) 2 none 0 20 [147] 20,
  i_f 17 (.putfield 15) 3 none 0 1 [268] 1,
  i_0 20 (.aload_n 0) 1 none,
  i_v 21 (.iconst 0) 1 none 0 [],
  i_f 22 (.putfield 18) 3 none 0 2 [269] 0,
  i_0 25 (.return_) 1 none]
set_option maxRecDepth 100000 in
theorem oX0_init : xm_ok sX0_init sX0_init.1.cls kX0_init = true := by decide +kernel
set_option maxRecDepth 100000 in
set_option maxHeartbeats 4000000 in
theorem xX0_init_0 {K : Nat} {h : xm_H} {P : Option Value → xm_H → Prop} {a0 : Nat} (H :
    (0 + 1 ≤ 2 ∧ 0 + 20 ≤ 40) ∧ xm_va h [some (.ref a0)] [.ref a0] 1 ∧
    ∃ h1, xm_put (h ++ [xm_za 0 20]) a0 0 0 (.ref (List.length h)) = some h1 ∧ /- who -/
    (1 + 1 ≤ 2 ∧ 20 + 20 ≤ 40) ∧ xm_va h1 [some (.ref a0)] [.ref a0] 1 ∧
    ∃ h2, xm_put (h1 ++ [xm_za 0 20]) a0 0 1 (.ref (List.length h1)) = some h2 ∧ /- told -/
    ∃ h3, xm_put h2 a0 0 2 (.int (0 : Int32)) = some h3 ∧ /- twos -/
    P none h3) :
    xm_At xm_st K sX0_init sX0_init.1.cls kX0_init 0 0 0 [some (.ref a0)] [] h P :=
  xm_run (fun _ _ h => h) oX0_init 15 0 0 0 [some (.ref a0)] [] h H
set_option maxRecDepth 100000 in
theorem eX0_init {K K' : Nat} (hK : K < K') {h : xm_H} {P : Option Value → xm_H → Prop} {a0 : Nat} (hr : ∃ fs, h[a0]? = some (.inr (0, fs))) (H :
    (0 + 1 ≤ 2 ∧ 0 + 20 ≤ 40) ∧ xm_va h [some (.ref a0)] [.ref a0] 1 ∧
    ∃ h1, xm_put (h ++ [xm_za 0 20]) a0 0 0 (.ref (List.length h)) = some h1 ∧ /- who -/
    (1 + 1 ≤ 2 ∧ 20 + 20 ≤ 40) ∧ xm_va h1 [some (.ref a0)] [.ref a0] 1 ∧
    ∃ h2, xm_put (h1 ++ [xm_za 0 20]) a0 0 1 (.ref (List.length h1)) = some h2 ∧ /- told -/
    ∃ h3, xm_put h2 a0 0 2 (.int (0 : Int32)) = some h3 ∧ /- twos -/
    P none h3) :
    xm_Call K' sX0_init 0 [.ref a0] h P :=
  xm_call_of (C := kX0_init) hK (by decide +kernel) rfl (Nat.le_of_ble_eq_true rfl) (Or.inr ⟨a0, hr.choose, rfl, hr.choose_spec⟩) (xX0_init_0 H)

def kX0_readTwos : List xm_I := [
  i_0 0 (.aload_n 0) 1 none,
  i_v 1 (.iconst 0) 1 none 0 [],
  i_f 2 (.putfield 18) 3 none 0 2 [269] 0,
  i_v 5 (.iconst 0) 1 none 0 [],
  i_0 6 (.istore_n 3) 1 none,
  i_0 7 (.iload_n 3) 1 (some [true, true, true, true, false, false]),
  i_v 8 (.bipush 20) 2 none 20 [],
  i_j 10 (.if_icmp .ge 83) 3 none 57,
  i_v 13 (.iconst 2) 1 none 2 [],
  i_0 14 (.iload_n 3) 1 none,
  i_0 15 (.imul) 1 none,
  i_v 16 (.iconst 1) 1 none 1 [],
  i_0 17 (.iadd) 1 none,
  i_0 18 (.aload_n 1) 1 none,
  i_f 19 (.getfield 22) 3 none 5 2 [315] 0,
  i_j 22 (.if_icmp .ge 71) 3 none 57,
  i_0 25 (.aload_n 1) 1 none,
  i_v 26 (.iconst 2) 1 none 2 [],
  i_0 27 (.iload_n 3) 1 none,
  i_0 28 (.imul) 1 none,
  i_m 29 (.invokevirtual 27) 3 none 1 5 [690, 409, 410, 116, 411] 0 sX5_get,
  i_0 32 (.l2i) 1 none,
  i_0 33 (.istore 4) 2 none,
  i_0 35 (.aload_n 1) 1 none,
  i_v 36 (.iconst 2) 1 none 2 [],
  i_0 37 (.iload_n 3) 1 none,
  i_0 38 (.imul) 1 none,
  i_v 39 (.iconst 1) 1 none 1 [],
  i_0 40 (.iadd) 1 none,
  i_m 41 (.invokevirtual 27) 3 none 1 5 [690, 409, 410, 116, 411] 0 sX5_get,
  i_0 44 (.l2i) 1 none,
  i_0 45 (.istore 5) 2 none,
  i_0 47 (.iload 4) 2 none,
  i_j 49 (.ifCond .lt 14) 3 none 39,
  i_0 52 (.iload 4) 2 none,
  i_0 54 (.iload_n 2) 1 none,
  i_j 55 (.if_icmp .ge 8) 3 none 39,
  i_0 58 (.iload 5) 2 none,
  i_j 60 (.ifCond .ge 4) 3 none 40,
  i_0 63 (.return_) 1 none,
  i_0 64 (.aload_n 0) 1 none,
  i_f 65 (.getfield 9) 3 none 0 0 [267] 1,
  i_0 68 (.iload_n 3) 1 none,
  i_0 69 (.iload 4) 2 none,
  i_0 71 (.iastore) 1 none,
  i_0 72 (.aload_n 0) 1 none,
  i_f 73 (.getfield 15) 3 none 0 1 [268] 1,
  i_0 76 (.iload_n 3) 1 none,
  i_0 77 (.iload 5) 2 none,
  i_0 79 (.iastore) 1 none,
  i_0 80 (.aload_n 0) 1 none,
  i_0 81 (.iload_n 3) 1 none,
  i_v 82 (.iconst 1) 1 none 1 [],
  i_0 83 (.iadd) 1 none,
  i_f 84 (.putfield 18) 3 none 0 2 [269] 0,
  i_v 87 (.iinc 3 1) 3 none 1 [],
  i_j 90 (.goto (-83)) 3 none 5,
  i_0 93 (.return_) 1 none]
set_option maxRecDepth 100000 in
theorem oX0_readTwos : xm_ok sX0_readTwos sX0_readTwos.1.cls kX0_readTwos = true := by decide +kernel
set_option maxRecDepth 100000 in
set_option maxHeartbeats 4000000 in
theorem xX0_readTwos_0 {K : Nat} {h : xm_H} {P : Option Value → xm_H → Prop} {a0 : Nat} {a1 : Nat} {x2 : Int32} (H :
    ∃ h1, xm_put h a0 0 2 (.int (0 : Int32)) = some h1 ∧ /- twos -/
    xm_L K sX0_readTwos kX0_readTwos 5 [some (.ref a0), some (.ref a1), some (.int x2), some (.int (0 : Int32)), none, none] [] h1 P) :
    xm_L K sX0_readTwos kX0_readTwos 0 [some (.ref a0), some (.ref a1), some (.int x2), none, none, none] [] h P :=
  xm_run (fun _ _ h => h) oX0_readTwos 6 0 0 0 [some (.ref a0), some (.ref a1), some (.int x2), none, none, none] [] h H
set_option maxRecDepth 100000 in
theorem eX0_readTwos {K K' : Nat} (hK : K < K') {h : xm_H} {P : Option Value → xm_H → Prop} {a0 : Nat} {a1 : Nat} {x2 : Int32} (hr : ∃ fs, h[a0]? = some (.inr (0, fs))) (H :
    ∃ h1, xm_put h a0 0 2 (.int (0 : Int32)) = some h1 ∧ /- twos -/
    xm_L K sX0_readTwos kX0_readTwos 5 [some (.ref a0), some (.ref a1), some (.int x2), some (.int (0 : Int32)), none, none] [] h1 P) :
    xm_Call K' sX0_readTwos 0 [.ref a0, .ref a1, .int x2] h P :=
  xm_call_of (C := kX0_readTwos) hK (by decide +kernel) rfl (Nat.le_of_ble_eq_true rfl) (Or.inr ⟨a0, hr.choose, rfl, hr.choose_spec⟩) (xX0_readTwos_0 H)

set_option maxRecDepth 100000 in
set_option maxHeartbeats 4000000 in
theorem xX0_readTwos_5 {K : Nat} {h : xm_H} {P : Option Value → xm_H → Prop} {a0 : Nat} {a1 : Nat} {x2 : Int32} {x3 : Int32} (H :
    (if x3 < (20 : Int32) then
      ∃ f1, xm_fld h a1 5 2 = some (.int f1) ∧ /- size -/
      (if (((2 : Int32) * x3) + (1 : Int32)) < f1 then
        xm_Call K sX5_get 5 [.ref a1, .int ((2 : Int32) * x3)] h (xm_pl fun c3 h2 =>
          xm_Call K sX5_get 5 [.ref a1, .int (((2 : Int32) * x3) + (1 : Int32))] h2 (xm_pl fun c5 h4 =>
            (if (Int64.toInt32 c3) < 0 then
              P none h4
            else
              (if (Int64.toInt32 c3) < x2 then
                (if (Int64.toInt32 c5) < 0 then
                  P none h4
                else
                  ∃ q6, xm_fld h4 a0 0 0 = some (.ref q6) ∧ /- who -/
                  ∃ h7, xm_sto h4 0 q6 x3 (Int64.toInt32 c3) = some h7 ∧
                  ∃ q8, xm_fld h7 a0 0 1 = some (.ref q8) ∧ /- told -/
                  ∃ h9, xm_sto h7 0 q8 x3 (Int64.toInt32 c5) = some h9 ∧
                  ∃ h10, xm_put h9 a0 0 2 (.int (x3 + (1 : Int32))) = some h10 ∧ /- twos -/
                  xm_L K sX0_readTwos kX0_readTwos 5 [some (.ref a0), some (.ref a1), some (.int x2), some (.int (x3 + (1 : Int32))), none, none] [] h10 P)
              else
                P none h4))))
      else
        P none h)
    else
      P none h)) :
    xm_L K sX0_readTwos kX0_readTwos 5 [some (.ref a0), some (.ref a1), some (.int x2), some (.int x3), none, none] [] h P :=
  xm_run (fun _ _ h => h) oX0_readTwos 52 5 0 0 [some (.ref a0), some (.ref a1), some (.int x2), some (.int x3), none, none] [] h H

def kX0_firstWrong : List xm_I := [
  i_v 0 (.iconst 0) 1 none 0 [],
  i_0 1 (.istore_n 2) 1 none,
  i_0 2 (.iload_n 2) 1 (some [true, true, true, false]),
  i_0 3 (.aload_n 0) 1 none,
  i_f 4 (.getfield 18) 3 none 0 2 [269] 0,
  i_j 7 (.if_icmp .ge 40) 3 none 29,
  i_0 10 (.aload_n 0) 1 none,
  i_f 11 (.getfield 9) 3 none 0 0 [267] 1,
  i_0 14 (.iload_n 2) 1 none,
  i_0 15 (.iaload) 1 none,
  i_0 16 (.istore_n 3) 1 none,
  i_0 17 (.iload_n 3) 1 none,
  i_j 18 (.ifCond .lt 21) 3 none 25,
  i_0 21 (.iload_n 3) 1 none,
  i_0 22 (.aload_n 1) 1 none,
  i_0 23 (.arraylength) 1 none,
  i_j 24 (.if_icmp .ge 15) 3 none 25,
  i_0 27 (.aload_n 1) 1 none,
  i_0 28 (.iload_n 3) 1 none,
  i_0 29 (.iaload) 1 none,
  i_0 30 (.aload_n 0) 1 none,
  i_f 31 (.getfield 15) 3 none 0 1 [268] 1,
  i_0 34 (.iload_n 2) 1 none,
  i_0 35 (.iaload) 1 none,
  i_j 36 (.if_icmp .eq 5) 3 none 27,
  i_0 39 (.iload_n 2) 1 none,
  i_0 40 (.ireturn) 1 none,
  i_v 41 (.iinc 2 1) 3 none 1 [],
  i_j 44 (.goto (-42)) 3 none 2,
  i_v 47 (.iconst (-1)) 1 none (-1) [],
  i_0 48 (.ireturn) 1 none]
set_option maxRecDepth 100000 in
theorem oX0_firstWrong : xm_ok sX0_firstWrong sX0_firstWrong.1.cls kX0_firstWrong = true := by decide +kernel
set_option maxRecDepth 100000 in
set_option maxHeartbeats 4000000 in
theorem xX0_firstWrong_0 {K : Nat} {h : xm_H} {P : Option Value → xm_H → Prop} {a0 : Nat} {a1 : Nat} (H :
    xm_L K sX0_firstWrong kX0_firstWrong 2 [some (.ref a0), some (.ref a1), some (.int (0 : Int32)), none] [] h P) :
    xm_L K sX0_firstWrong kX0_firstWrong 0 [some (.ref a0), some (.ref a1), none, none] [] h P :=
  xm_run (fun _ _ h => h) oX0_firstWrong 3 0 0 0 [some (.ref a0), some (.ref a1), none, none] [] h H
set_option maxRecDepth 100000 in
theorem eX0_firstWrong {K K' : Nat} (hK : K < K') {h : xm_H} {P : Option Value → xm_H → Prop} {a0 : Nat} {a1 : Nat} (hr : ∃ fs, h[a0]? = some (.inr (0, fs))) (H :
    xm_L K sX0_firstWrong kX0_firstWrong 2 [some (.ref a0), some (.ref a1), some (.int (0 : Int32)), none] [] h P) :
    xm_Call K' sX0_firstWrong 0 [.ref a0, .ref a1] h P :=
  xm_call_of (C := kX0_firstWrong) hK (by decide +kernel) rfl (Nat.le_of_ble_eq_true rfl) (Or.inr ⟨a0, hr.choose, rfl, hr.choose_spec⟩) (xX0_firstWrong_0 H)

set_option maxRecDepth 100000 in
set_option maxHeartbeats 4000000 in
theorem xX0_firstWrong_2 {K : Nat} {h : xm_H} {P : Option Value → xm_H → Prop} {a0 : Nat} {a1 : Nat} {x2 : Int32} (H :
    ∃ f1, xm_fld h a0 0 2 = some (.int f1) ∧ /- twos -/
    (if x2 < f1 then
      ∃ q2, xm_fld h a0 0 0 = some (.ref q2) ∧ /- who -/
      ∃ e3, xm_ld xm_st h 0 q2 x2 = some e3 ∧
      (if e3 < 0 then
        P (some (.int x2)) h
      else
        ∃ n4, xm_len xm_st h a1 = some n4 ∧
        (if e3 < n4 then
          ∃ e5, xm_ld xm_st h 0 a1 e3 = some e5 ∧
          ∃ q6, xm_fld h a0 0 1 = some (.ref q6) ∧ /- told -/
          ∃ e7, xm_ld xm_st h 0 q6 x2 = some e7 ∧
          (if e5 = e7 then
            xm_L K sX0_firstWrong kX0_firstWrong 2 [some (.ref a0), some (.ref a1), some (.int (x2 + (1 : Int32))), none] [] h P
          else
            P (some (.int x2)) h)
        else
          P (some (.int x2)) h))
    else
      P (some (.int (-1 : Int32))) h)) :
    xm_L K sX0_firstWrong kX0_firstWrong 2 [some (.ref a0), some (.ref a1), some (.int x2), none] [] h P :=
  xm_run (fun _ _ h => h) oX0_firstWrong 26 2 0 0 [some (.ref a0), some (.ref a1), some (.int x2), none] [] h H

