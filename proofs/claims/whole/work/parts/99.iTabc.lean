set_option maxRecDepth 100000 in
theorem oL_7 : xm_okR sL_law RL kL_law (7 * 40) 40 = true := by decide +kernel
set_option maxRecDepth 100000 in
theorem oL_8 : xm_okR sL_law RL kL_law (8 * 40) 40 = true := by decide +kernel
set_option maxRecDepth 100000 in
theorem oL_9 : xm_okR sL_law RL kL_law (9 * 40) 40 = true := by decide +kernel
set_option maxRecDepth 100000 in
theorem oL_10 : xm_okR sL_law RL kL_law (10 * 40) 40 = true := by decide +kernel
set_option maxRecDepth 100000 in
theorem oL_11 : xm_okR sL_law RL kL_law (11 * 40) 40 = true := by decide +kernel
set_option maxRecDepth 100000 in
theorem oL_12 : xm_okR sL_law RL kL_law (12 * 40) 40 = true := by decide +kernel
set_option maxRecDepth 100000 in
theorem oL_13 : xm_okR sL_law RL kL_law (13 * 40) 40 = true := by decide +kernel
