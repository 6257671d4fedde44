-- PRINTED by wip/whole/gen2.py
theorem kg_281 : kgood 11 prog_14_method_57_code kc_M_answer = true := by decide +kernel
theorem kg_282 : kgood 11 prog_14_method_56_code kc_M_both = true := by decide +kernel
theorem kg_283 : kgood 11 prog_14_method_55_code kc_M_truth = true := by decide +kernel
theorem kg_284 : kgood 11 prog_14_method_117_code kc_M_heard = true := by decide +kernel
theorem kg_285 : kgood 11 prog_14_method_118_code kc_M_seed = true := by decide +kernel
theorem kg_286 : kgood 11 prog_14_method_122_code kc_M_floods = true := by decide +kernel
theorem kg_287 : kgood 11 prog_14_method_120_code kc_M_drawnFlood = true := by decide +kernel
theorem kg_288 : kgood 11 prog_14_method_119_code kc_M_draws = true := by decide +kernel
theorem kg_289 : kgood 11 prog_14_method_121_code kc_M_gets = true := by decide +kernel
theorem kg_290 : kgood 11 prog_14_method_123_code kc_M_count = true := by decide +kernel
theorem kg_291 : kgood 11 prog_14_method_126_code kc_M_image = true := by decide +kernel
theorem kg_292 : kgood 11 prog_14_method_125_code kc_M_carriesAll = true := by decide +kernel
theorem kg_293 : kgood 11 prog_14_method_124_code kc_M_carry = true := by decide +kernel
theorem kg_294 : kgood 11 prog_14_method_127_code kc_M_back = true := by decide +kernel
