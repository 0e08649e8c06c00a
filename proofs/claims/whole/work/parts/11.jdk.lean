def kJ6_bitCount_0f7a4 : List xm_I := [
  i_0 0 (.iload_n 0) 1 none,
  i_0 1 (.iload_n 0) 1 none,
  i_v 2 (.iconst 1) 1 none 1 [],
  i_0 3 (.iushr) 1 none,
  i_v 4 (.ldc_w 265) 3 none 1431655765 [732],
  i_0 7 (.iand) 1 none,
  i_0 8 (.isub) 1 none,
  i_0 9 (.istore_n 0) 1 none,
  i_0 10 (.iload_n 0) 1 none,
  i_v 11 (.ldc_w 266) 3 none 858993459 [733],
  i_0 14 (.iand) 1 none,
  i_0 15 (.iload_n 0) 1 none,
  i_v 16 (.iconst 2) 1 none 2 [],
  i_0 17 (.iushr) 1 none,
  i_v 18 (.ldc_w 266) 3 none 858993459 [733],
  i_0 21 (.iand) 1 none,
  i_0 22 (.iadd) 1 none,
  i_0 23 (.istore_n 0) 1 none,
  i_0 24 (.iload_n 0) 1 none,
  i_0 25 (.iload_n 0) 1 none,
  i_v 26 (.iconst 4) 1 none 4 [],
  i_0 27 (.iushr) 1 none,
  i_0 28 (.iadd) 1 none,
  i_v 29 (.ldc_w 267) 3 none 252645135 [734],
  i_0 32 (.iand) 1 none,
  i_0 33 (.istore_n 0) 1 none,
  i_0 34 (.iload_n 0) 1 none,
  i_0 35 (.iload_n 0) 1 none,
  i_v 36 (.bipush 8) 2 none 8 [],
  i_0 38 (.iushr) 1 none,
  i_0 39 (.iadd) 1 none,
  i_0 40 (.istore_n 0) 1 none,
  i_0 41 (.iload_n 0) 1 none,
  i_0 42 (.iload_n 0) 1 none,
  i_v 43 (.bipush 16) 2 none 16 [],
  i_0 45 (.iushr) 1 none,
  i_0 46 (.iadd) 1 none,
  i_0 47 (.istore_n 0) 1 none,
  i_0 48 (.iload_n 0) 1 none,
  i_v 49 (.bipush 63) 2 none 63 [],
  i_0 51 (.iand) 1 none,
  i_0 52 (.ireturn) 1 none]
set_option maxRecDepth 100000 in
theorem oJ6_bitCount_0f7a4 : xm_ok sJ6_bitCount_0f7a4 sJ6_bitCount_0f7a4.1.cls kJ6_bitCount_0f7a4 = true := by decide +kernel
set_option maxRecDepth 100000 in
set_option maxHeartbeats 4000000 in
theorem xJ6_bitCount_0f7a4_0 {K : Nat} {h : xm_H} {P : Option Value → xm_H → Prop} {x0 : Int32} (H :
    P (some (.int ((((((((x0 - ((((Int32.toUInt32 x0) >>> ((Int32.toUInt32 (1 : Int32)) &&& Int32.toUInt32 31)).toInt32) &&& (1431655765 : Int32))) &&& (858993459 : Int32)) + ((((Int32.toUInt32 (x0 - ((((Int32.toUInt32 x0) >>> ((Int32.toUInt32 (1 : Int32)) &&& Int32.toUInt32 31)).toInt32) &&& (1431655765 : Int32)))) >>> ((Int32.toUInt32 (2 : Int32)) &&& Int32.toUInt32 31)).toInt32) &&& (858993459 : Int32))) + (((Int32.toUInt32 (((x0 - ((((Int32.toUInt32 x0) >>> ((Int32.toUInt32 (1 : Int32)) &&& Int32.toUInt32 31)).toInt32) &&& (1431655765 : Int32))) &&& (858993459 : Int32)) + ((((Int32.toUInt32 (x0 - ((((Int32.toUInt32 x0) >>> ((Int32.toUInt32 (1 : Int32)) &&& Int32.toUInt32 31)).toInt32) &&& (1431655765 : Int32)))) >>> ((Int32.toUInt32 (2 : Int32)) &&& Int32.toUInt32 31)).toInt32) &&& (858993459 : Int32)))) >>> ((Int32.toUInt32 (4 : Int32)) &&& Int32.toUInt32 31)).toInt32)) &&& (252645135 : Int32)) + (((Int32.toUInt32 (((((x0 - ((((Int32.toUInt32 x0) >>> ((Int32.toUInt32 (1 : Int32)) &&& Int32.toUInt32 31)).toInt32) &&& (1431655765 : Int32))) &&& (858993459 : Int32)) + ((((Int32.toUInt32 (x0 - ((((Int32.toUInt32 x0) >>> ((Int32.toUInt32 (1 : Int32)) &&& Int32.toUInt32 31)).toInt32) &&& (1431655765 : Int32)))) >>> ((Int32.toUInt32 (2 : Int32)) &&& Int32.toUInt32 31)).toInt32) &&& (858993459 : Int32))) + (((Int32.toUInt32 (((x0 - ((((Int32.toUInt32 x0) >>> ((Int32.toUInt32 (1 : Int32)) &&& Int32.toUInt32 31)).toInt32) &&& (1431655765 : Int32))) &&& (858993459 : Int32)) + ((((Int32.toUInt32 (x0 - ((((Int32.toUInt32 x0) >>> ((Int32.toUInt32 (1 : Int32)) &&& Int32.toUInt32 31)).toInt32) &&& (1431655765 : Int32)))) >>> ((Int32.toUInt32 (2 : Int32)) &&& Int32.toUInt32 31)).toInt32) &&& (858993459 : Int32)))) >>> ((Int32.toUInt32 (4 : Int32)) &&& Int32.toUInt32 31)).toInt32)) &&& (252645135 : Int32))) >>> ((Int32.toUInt32 (8 : Int32)) &&& Int32.toUInt32 31)).toInt32)) + (((Int32.toUInt32 ((((((x0 - ((((Int32.toUInt32 x0) >>> ((Int32.toUInt32 (1 : Int32)) &&& Int32.toUInt32 31)).toInt32) &&& (1431655765 : Int32))) &&& (858993459 : Int32)) + ((((Int32.toUInt32 (x0 - ((((Int32.toUInt32 x0) >>> ((Int32.toUInt32 (1 : Int32)) &&& Int32.toUInt32 31)).toInt32) &&& (1431655765 : Int32)))) >>> ((Int32.toUInt32 (2 : Int32)) &&& Int32.toUInt32 31)).toInt32) &&& (858993459 : Int32))) + (((Int32.toUInt32 (((x0 - ((((Int32.toUInt32 x0) >>> ((Int32.toUInt32 (1 : Int32)) &&& Int32.toUInt32 31)).toInt32) &&& (1431655765 : Int32))) &&& (858993459 : Int32)) + ((((Int32.toUInt32 (x0 - ((((Int32.toUInt32 x0) >>> ((Int32.toUInt32 (1 : Int32)) &&& Int32.toUInt32 31)).toInt32) &&& (1431655765 : Int32)))) >>> ((Int32.toUInt32 (2 : Int32)) &&& Int32.toUInt32 31)).toInt32) &&& (858993459 : Int32)))) >>> ((Int32.toUInt32 (4 : Int32)) &&& Int32.toUInt32 31)).toInt32)) &&& (252645135 : Int32)) + (((Int32.toUInt32 (((((x0 - ((((Int32.toUInt32 x0) >>> ((Int32.toUInt32 (1 : Int32)) &&& Int32.toUInt32 31)).toInt32) &&& (1431655765 : Int32))) &&& (858993459 : Int32)) + ((((Int32.toUInt32 (x0 - ((((Int32.toUInt32 x0) >>> ((Int32.toUInt32 (1 : Int32)) &&& Int32.toUInt32 31)).toInt32) &&& (1431655765 : Int32)))) >>> ((Int32.toUInt32 (2 : Int32)) &&& Int32.toUInt32 31)).toInt32) &&& (858993459 : Int32))) + (((Int32.toUInt32 (((x0 - ((((Int32.toUInt32 x0) >>> ((Int32.toUInt32 (1 : Int32)) &&& Int32.toUInt32 31)).toInt32) &&& (1431655765 : Int32))) &&& (858993459 : Int32)) + ((((Int32.toUInt32 (x0 - ((((Int32.toUInt32 x0) >>> ((Int32.toUInt32 (1 : Int32)) &&& Int32.toUInt32 31)).toInt32) &&& (1431655765 : Int32)))) >>> ((Int32.toUInt32 (2 : Int32)) &&& Int32.toUInt32 31)).toInt32) &&& (858993459 : Int32)))) >>> ((Int32.toUInt32 (4 : Int32)) &&& Int32.toUInt32 31)).toInt32)) &&& (252645135 : Int32))) >>> ((Int32.toUInt32 (8 : Int32)) &&& Int32.toUInt32 31)).toInt32))) >>> ((Int32.toUInt32 (16 : Int32)) &&& Int32.toUInt32 31)).toInt32)) &&& (63 : Int32)))) h) :
    xm_L K sJ6_bitCount_0f7a4 kJ6_bitCount_0f7a4 0 [some (.int x0)] [] h P :=
  xm_run (fun _ _ h => h) oJ6_bitCount_0f7a4 43 0 0 0 [some (.int x0)] [] h H
set_option maxRecDepth 100000 in
theorem eJ6_bitCount_0f7a4 {K K' : Nat} (hK : K < K') {h : xm_H} {P : Option Value → xm_H → Prop} {x0 : Int32} (H :
    P (some (.int ((((((((x0 - ((((Int32.toUInt32 x0) >>> ((Int32.toUInt32 (1 : Int32)) &&& Int32.toUInt32 31)).toInt32) &&& (1431655765 : Int32))) &&& (858993459 : Int32)) + ((((Int32.toUInt32 (x0 - ((((Int32.toUInt32 x0) >>> ((Int32.toUInt32 (1 : Int32)) &&& Int32.toUInt32 31)).toInt32) &&& (1431655765 : Int32)))) >>> ((Int32.toUInt32 (2 : Int32)) &&& Int32.toUInt32 31)).toInt32) &&& (858993459 : Int32))) + (((Int32.toUInt32 (((x0 - ((((Int32.toUInt32 x0) >>> ((Int32.toUInt32 (1 : Int32)) &&& Int32.toUInt32 31)).toInt32) &&& (1431655765 : Int32))) &&& (858993459 : Int32)) + ((((Int32.toUInt32 (x0 - ((((Int32.toUInt32 x0) >>> ((Int32.toUInt32 (1 : Int32)) &&& Int32.toUInt32 31)).toInt32) &&& (1431655765 : Int32)))) >>> ((Int32.toUInt32 (2 : Int32)) &&& Int32.toUInt32 31)).toInt32) &&& (858993459 : Int32)))) >>> ((Int32.toUInt32 (4 : Int32)) &&& Int32.toUInt32 31)).toInt32)) &&& (252645135 : Int32)) + (((Int32.toUInt32 (((((x0 - ((((Int32.toUInt32 x0) >>> ((Int32.toUInt32 (1 : Int32)) &&& Int32.toUInt32 31)).toInt32) &&& (1431655765 : Int32))) &&& (858993459 : Int32)) + ((((Int32.toUInt32 (x0 - ((((Int32.toUInt32 x0) >>> ((Int32.toUInt32 (1 : Int32)) &&& Int32.toUInt32 31)).toInt32) &&& (1431655765 : Int32)))) >>> ((Int32.toUInt32 (2 : Int32)) &&& Int32.toUInt32 31)).toInt32) &&& (858993459 : Int32))) + (((Int32.toUInt32 (((x0 - ((((Int32.toUInt32 x0) >>> ((Int32.toUInt32 (1 : Int32)) &&& Int32.toUInt32 31)).toInt32) &&& (1431655765 : Int32))) &&& (858993459 : Int32)) + ((((Int32.toUInt32 (x0 - ((((Int32.toUInt32 x0) >>> ((Int32.toUInt32 (1 : Int32)) &&& Int32.toUInt32 31)).toInt32) &&& (1431655765 : Int32)))) >>> ((Int32.toUInt32 (2 : Int32)) &&& Int32.toUInt32 31)).toInt32) &&& (858993459 : Int32)))) >>> ((Int32.toUInt32 (4 : Int32)) &&& Int32.toUInt32 31)).toInt32)) &&& (252645135 : Int32))) >>> ((Int32.toUInt32 (8 : Int32)) &&& Int32.toUInt32 31)).toInt32)) + (((Int32.toUInt32 ((((((x0 - ((((Int32.toUInt32 x0) >>> ((Int32.toUInt32 (1 : Int32)) &&& Int32.toUInt32 31)).toInt32) &&& (1431655765 : Int32))) &&& (858993459 : Int32)) + ((((Int32.toUInt32 (x0 - ((((Int32.toUInt32 x0) >>> ((Int32.toUInt32 (1 : Int32)) &&& Int32.toUInt32 31)).toInt32) &&& (1431655765 : Int32)))) >>> ((Int32.toUInt32 (2 : Int32)) &&& Int32.toUInt32 31)).toInt32) &&& (858993459 : Int32))) + (((Int32.toUInt32 (((x0 - ((((Int32.toUInt32 x0) >>> ((Int32.toUInt32 (1 : Int32)) &&& Int32.toUInt32 31)).toInt32) &&& (1431655765 : Int32))) &&& (858993459 : Int32)) + ((((Int32.toUInt32 (x0 - ((((Int32.toUInt32 x0) >>> ((Int32.toUInt32 (1 : Int32)) &&& Int32.toUInt32 31)).toInt32) &&& (1431655765 : Int32)))) >>> ((Int32.toUInt32 (2 : Int32)) &&& Int32.toUInt32 31)).toInt32) &&& (858993459 : Int32)))) >>> ((Int32.toUInt32 (4 : Int32)) &&& Int32.toUInt32 31)).toInt32)) &&& (252645135 : Int32)) + (((Int32.toUInt32 (((((x0 - ((((Int32.toUInt32 x0) >>> ((Int32.toUInt32 (1 : Int32)) &&& Int32.toUInt32 31)).toInt32) &&& (1431655765 : Int32))) &&& (858993459 : Int32)) + ((((Int32.toUInt32 (x0 - ((((Int32.toUInt32 x0) >>> ((Int32.toUInt32 (1 : Int32)) &&& Int32.toUInt32 31)).toInt32) &&& (1431655765 : Int32)))) >>> ((Int32.toUInt32 (2 : Int32)) &&& Int32.toUInt32 31)).toInt32) &&& (858993459 : Int32))) + (((Int32.toUInt32 (((x0 - ((((Int32.toUInt32 x0) >>> ((Int32.toUInt32 (1 : Int32)) &&& Int32.toUInt32 31)).toInt32) &&& (1431655765 : Int32))) &&& (858993459 : Int32)) + ((((Int32.toUInt32 (x0 - ((((Int32.toUInt32 x0) >>> ((Int32.toUInt32 (1 : Int32)) &&& Int32.toUInt32 31)).toInt32) &&& (1431655765 : Int32)))) >>> ((Int32.toUInt32 (2 : Int32)) &&& Int32.toUInt32 31)).toInt32) &&& (858993459 : Int32)))) >>> ((Int32.toUInt32 (4 : Int32)) &&& Int32.toUInt32 31)).toInt32)) &&& (252645135 : Int32))) >>> ((Int32.toUInt32 (8 : Int32)) &&& Int32.toUInt32 31)).toInt32))) >>> ((Int32.toUInt32 (16 : Int32)) &&& Int32.toUInt32 31)).toInt32)) &&& (63 : Int32)))) h) :
    xm_Call K' sJ6_bitCount_0f7a4 99 [.int x0] h P :=
  xm_call_of (C := kJ6_bitCount_0f7a4) hK (by decide +kernel) rfl (Nat.le_of_ble_eq_true rfl) (Or.inl rfl) (xJ6_bitCount_0f7a4_0 H)

def kJ9_floorMod_7cf53 : List xm_I := [
  i_0 0 (.iload_n 0) 1 none,
  i_0 1 (.iload_n 1) 1 none,
  i_0 2 (.irem) 1 none,
  i_0 3 (.istore_n 2) 1 none,
  i_0 4 (.iload_n 0) 1 none,
  i_0 5 (.iload_n 1) 1 none,
  i_0 6 (.ixor) 1 none,
  i_j 7 (.ifCond .ge 11) 3 none 14,
  i_0 10 (.iload_n 2) 1 none,
  i_j 11 (.ifCond .eq 7) 3 none 14,
  i_0 14 (.iload_n 2) 1 none,
  i_0 15 (.iload_n 1) 1 none,
  i_0 16 (.iadd) 1 none,
  i_0 17 (.ireturn) 1 none,
  i_0 18 (.iload_n 2) 1 none,
  i_0 19 (.ireturn) 1 none]
set_option maxRecDepth 100000 in
theorem oJ9_floorMod_7cf53 : xm_ok sJ9_floorMod_7cf53 sJ9_floorMod_7cf53.1.cls kJ9_floorMod_7cf53 = true := by decide +kernel
set_option maxRecDepth 100000 in
set_option maxHeartbeats 4000000 in
theorem xJ9_floorMod_7cf53_0 {K : Nat} {h : xm_H} {P : Option Value → xm_H → Prop} {x0 : Int32} {x1 : Int32} (H :
    ¬ x1 = 0 ∧
    (if (x0 ^^^ x1) < 0 then
      (if (x0 - x0 / x1 * x1) = 0 then
        P (some (.int (x0 - x0 / x1 * x1))) h
      else
        P (some (.int ((x0 - x0 / x1 * x1) + x1))) h)
    else
      P (some (.int (x0 - x0 / x1 * x1))) h)) :
    xm_L K sJ9_floorMod_7cf53 kJ9_floorMod_7cf53 0 [some (.int x0), some (.int x1), none] [] h P :=
  xm_run (fun _ _ h => h) oJ9_floorMod_7cf53 15 0 0 0 [some (.int x0), some (.int x1), none] [] h H
set_option maxRecDepth 100000 in
theorem eJ9_floorMod_7cf53 {K K' : Nat} (hK : K < K') {h : xm_H} {P : Option Value → xm_H → Prop} {x0 : Int32} {x1 : Int32} (H :
    ¬ x1 = 0 ∧
    (if (x0 ^^^ x1) < 0 then
      (if (x0 - x0 / x1 * x1) = 0 then
        P (some (.int (x0 - x0 / x1 * x1))) h
      else
        P (some (.int ((x0 - x0 / x1 * x1) + x1))) h)
    else
      P (some (.int (x0 - x0 / x1 * x1))) h)) :
    xm_Call K' sJ9_floorMod_7cf53 99 [.int x0, .int x1] h P :=
  xm_call_of (C := kJ9_floorMod_7cf53) hK (by decide +kernel) rfl (Nat.le_of_ble_eq_true rfl) (Or.inl rfl) (xJ9_floorMod_7cf53_0 H)

def kJ9_max_7cf53 : List xm_I := [
  i_0 0 (.iload_n 0) 1 none,
  i_0 1 (.iload_n 1) 1 none,
  i_j 2 (.if_icmp .lt 7) 3 none 5,
  i_0 5 (.iload_n 0) 1 none,
  i_j 6 (.goto 4) 3 none 6,
  i_0 9 (.iload_n 1) 1 none,
  i_0 10 (.ireturn) 1 none]
set_option maxRecDepth 100000 in
theorem oJ9_max_7cf53 : xm_ok sJ9_max_7cf53 sJ9_max_7cf53.1.cls kJ9_max_7cf53 = true := by decide +kernel
set_option maxRecDepth 100000 in
set_option maxHeartbeats 4000000 in
theorem xJ9_max_7cf53_0 {K : Nat} {h : xm_H} {P : Option Value → xm_H → Prop} {x0 : Int32} {x1 : Int32} (H :
    (if x0 < x1 then
      P (some (.int x1)) h
    else
      P (some (.int x0)) h)) :
    xm_L K sJ9_max_7cf53 kJ9_max_7cf53 0 [some (.int x0), some (.int x1)] [] h P :=
  xm_run (fun _ _ h => h) oJ9_max_7cf53 7 0 0 0 [some (.int x0), some (.int x1)] [] h H
set_option maxRecDepth 100000 in
theorem eJ9_max_7cf53 {K K' : Nat} (hK : K < K') {h : xm_H} {P : Option Value → xm_H → Prop} {x0 : Int32} {x1 : Int32} (H :
    (if x0 < x1 then
      P (some (.int x1)) h
    else
      P (some (.int x0)) h)) :
    xm_Call K' sJ9_max_7cf53 99 [.int x0, .int x1] h P :=
  xm_call_of (C := kJ9_max_7cf53) hK (by decide +kernel) rfl (Nat.le_of_ble_eq_true rfl) (Or.inl rfl) (xJ9_max_7cf53_0 H)

def kJ9_min_7cf53 : List xm_I := [
  i_0 0 (.iload_n 0) 1 none,
  i_0 1 (.iload_n 1) 1 none,
  i_j 2 (.if_icmp .gt 7) 3 none 5,
  i_0 5 (.iload_n 0) 1 none,
  i_j 6 (.goto 4) 3 none 6,
  i_0 9 (.iload_n 1) 1 none,
  i_0 10 (.ireturn) 1 none]
set_option maxRecDepth 100000 in
theorem oJ9_min_7cf53 : xm_ok sJ9_min_7cf53 sJ9_min_7cf53.1.cls kJ9_min_7cf53 = true := by decide +kernel
set_option maxRecDepth 100000 in
set_option maxHeartbeats 4000000 in
theorem xJ9_min_7cf53_0 {K : Nat} {h : xm_H} {P : Option Value → xm_H → Prop} {x0 : Int32} {x1 : Int32} (H :
    (if x1 < x0 then
      P (some (.int x1)) h
    else
      P (some (.int x0)) h)) :
    xm_L K sJ9_min_7cf53 kJ9_min_7cf53 0 [some (.int x0), some (.int x1)] [] h P :=
  xm_run (fun _ _ h => h) oJ9_min_7cf53 7 0 0 0 [some (.int x0), some (.int x1)] [] h H
set_option maxRecDepth 100000 in
theorem eJ9_min_7cf53 {K K' : Nat} (hK : K < K') {h : xm_H} {P : Option Value → xm_H → Prop} {x0 : Int32} {x1 : Int32} (H :
    (if x1 < x0 then
      P (some (.int x1)) h
    else
      P (some (.int x0)) h)) :
    xm_Call K' sJ9_min_7cf53 99 [.int x0, .int x1] h P :=
  xm_call_of (C := kJ9_min_7cf53) hK (by decide +kernel) rfl (Nat.le_of_ble_eq_true rfl) (Or.inl rfl) (xJ9_min_7cf53_0 H)

