set_option maxRecDepth 100000 in
theorem oL_21 : xm_okR sL_law RL kL_law (21 * 40) 40 = true := by decide +kernel
set_option maxRecDepth 100000 in
theorem oL_22 : xm_okR sL_law RL kL_law (22 * 40) 40 = true := by decide +kernel
set_option maxRecDepth 100000 in
theorem oL_23 : xm_okR sL_law RL kL_law (23 * 40) 40 = true := by decide +kernel
set_option maxRecDepth 100000 in
theorem oL_24 : xm_okR sL_law RL kL_law (24 * 40) 40 = true := by decide +kernel
set_option maxRecDepth 100000 in
theorem oL_25 : xm_okR sL_law RL kL_law (25 * 40) 40 = true := by decide +kernel
set_option maxRecDepth 100000 in
theorem oL_law : xm_ok sL_law RL kL_law = true := by
  refine xm_okJ 40 26 (by omega) (by decide +kernel) (fun j hj => ?_)
  match j, hj with
  | 0, _ => exact oL_0
  | 1, _ => exact oL_1
  | 2, _ => exact oL_2
  | 3, _ => exact oL_3
  | 4, _ => exact oL_4
  | 5, _ => exact oL_5
  | 6, _ => exact oL_6
  | 7, _ => exact oL_7
  | 8, _ => exact oL_8
  | 9, _ => exact oL_9
  | 10, _ => exact oL_10
  | 11, _ => exact oL_11
  | 12, _ => exact oL_12
  | 13, _ => exact oL_13
  | 14, _ => exact oL_14
  | 15, _ => exact oL_15
  | 16, _ => exact oL_16
  | 17, _ => exact oL_17
  | 18, _ => exact oL_18
  | 19, _ => exact oL_19
  | 20, _ => exact oL_20
  | 21, _ => exact oL_21
  | 22, _ => exact oL_22
  | 23, _ => exact oL_23
  | 24, _ => exact oL_24
  | 25, _ => exact oL_25
  | j + 26, hj => exact absurd hj (by omega)
