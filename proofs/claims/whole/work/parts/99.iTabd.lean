set_option maxRecDepth 100000 in
theorem oL_14 : xm_okR sL_law RL kL_law (14 * 40) 40 = true := by decide +kernel
set_option maxRecDepth 100000 in
theorem oL_15 : xm_okR sL_law RL kL_law (15 * 40) 40 = true := by decide +kernel
set_option maxRecDepth 100000 in
theorem oL_16 : xm_okR sL_law RL kL_law (16 * 40) 40 = true := by decide +kernel
set_option maxRecDepth 100000 in
theorem oL_17 : xm_okR sL_law RL kL_law (17 * 40) 40 = true := by decide +kernel
set_option maxRecDepth 100000 in
theorem oL_18 : xm_okR sL_law RL kL_law (18 * 40) 40 = true := by decide +kernel
set_option maxRecDepth 100000 in
theorem oL_19 : xm_okR sL_law RL kL_law (19 * 40) 40 = true := by decide +kernel
set_option maxRecDepth 100000 in
theorem oL_20 : xm_okR sL_law RL kL_law (20 * 40) 40 = true := by decide +kernel
