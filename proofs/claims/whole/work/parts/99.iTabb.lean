set_option maxRecDepth 100000 in
theorem oL_0 : xm_okR sL_law RL kL_law (0 * 40) 40 = true := by decide +kernel
set_option maxRecDepth 100000 in
theorem oL_1 : xm_okR sL_law RL kL_law (1 * 40) 40 = true := by decide +kernel
set_option maxRecDepth 100000 in
theorem oL_2 : xm_okR sL_law RL kL_law (2 * 40) 40 = true := by decide +kernel
set_option maxRecDepth 100000 in
theorem oL_3 : xm_okR sL_law RL kL_law (3 * 40) 40 = true := by decide +kernel
set_option maxRecDepth 100000 in
theorem oL_4 : xm_okR sL_law RL kL_law (4 * 40) 40 = true := by decide +kernel
set_option maxRecDepth 100000 in
theorem oL_5 : xm_okR sL_law RL kL_law (5 * 40) 40 = true := by decide +kernel
set_option maxRecDepth 100000 in
theorem oL_6 : xm_okR sL_law RL kL_law (6 * 40) 40 = true := by decide +kernel
