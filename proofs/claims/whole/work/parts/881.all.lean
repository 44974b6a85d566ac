/-! every method's heap only grows -/
set_option maxRecDepth 20000 in
theorem kg_0 : kt_gr kX0_init := by
  intro pc
  show kt_g1 (kX0_init pc)
  unfold kX0_init
  exact kt_g1b (kt_g1b (kt_g1b (kt_g1b (kt_g1l (g_al _ _)) (kt_g1b (kt_g1l (g_obj _)) (kt_g1l (g_al _ _)))) (kt_g1b (kt_g1b (kt_g1l (g_nul _)) (kt_g1l (g_pf _ _ _ _))) (kt_g1b (kt_g1l (g_al _ _)) (kt_g1l (g_ic _ _))))) (kt_g1b (kt_g1b (kt_g1l (g_pf _ _ _ _)) (kt_g1b (kt_g1l (g_al _ _)) (kt_g1l (g_ic _ _)))) (kt_g1b (kt_g1b (kt_g1l (g_pf _ _ _ _)) (kt_g1l (g_al _ _))) (kt_g1b (kt_g1l (g_ic _ _)) (kt_g1l (g_pf _ _ _ _)))))) (kt_g1b (kt_g1b (kt_g1b (kt_g1l (g_al _ _)) (kt_g1b (kt_g1l (g_ic _ _)) (kt_g1l (g_pf _ _ _ _)))) (kt_g1b (kt_g1b (kt_g1l (g_al _ _)) (kt_g1l (g_ic _ _))) (kt_g1b (kt_g1l (g_pf _ _ _ _)) (kt_g1l (g_al _ _))))) (kt_g1b (kt_g1b (kt_g1l (g_ic _ _)) (kt_g1b (kt_g1l (g_pf _ _ _ _)) (kt_g1l (g_al _ _)))) (kt_g1b (kt_g1b (kt_g1l (g_ic _ _)) (kt_g1l (g_nai _))) (kt_g1b (kt_g1l (g_pf _ _ _ _)) (kt_g1l (g_rv))))))
set_option maxRecDepth 20000 in
theorem kg_1 : kt_gr kX0_begin := by
  intro pc
  show kt_g1 (kX0_begin pc)
  unfold kX0_begin
  exact kt_g1b (kt_g1b (kt_g1b (kt_g1l (g_al _ _)) (kt_g1l (g_al _ _))) (kt_g1b (kt_g1l (g_pf _ _ _ _)) (kt_g1b (kt_g1l (g_al _ _)) (kt_g1l (g_il _ _))))) (kt_g1b (kt_g1b (kt_g1l (g_pf _ _ _ _)) (kt_g1l (g_al _ _))) (kt_g1b (kt_g1l (g_ic _ _)) (kt_g1b (kt_g1l (g_pf _ _ _ _)) (kt_g1l (g_rv)))))
set_option maxRecDepth 20000 in
theorem kg_2 : kt_gr kX0_weigh := by
  intro pc
  show kt_g1 (kX0_weigh pc)
  unfold kX0_weigh
  exact kt_g1b (kt_g1b (kt_g1b (kt_g1b (kt_g1b (kt_g1l (g_al _ _)) (kt_g1b (kt_g1l (g_gf _ _ _)) (kt_g1l (g_feq _ _)))) (kt_g1b (kt_g1b (kt_g1l (g_il _ _)) (kt_g1l (g_al _ _))) (kt_g1b (kt_g1l (g_gf _ _ _)) (kt_g1l (g_cgt _ _))))) (kt_g1b (kt_g1b (kt_g1b (kt_g1l (g_rv)) (kt_g1l (g_al _ _))) (kt_g1b (kt_g1l (g_gf _ _ _)) (kt_g1l (g_fnn _ _)))) (kt_g1b (kt_g1b (kt_g1l (g_ic _ _)) (kt_g1l (g_goto _))) (kt_g1b (kt_g1l (g_al _ _)) (kt_g1l (g_gf _ _ _)))))) (kt_g1b (kt_g1b (kt_g1b (kt_g1l (g_al _ _)) (kt_g1b (kt_g1l (g_al _ _)) (kt_g1l (g_gf _ _ _)))) (kt_g1b (kt_g1b (kt_g1l (g_cv _ _ _)) (kt_g1l (g_is _ _))) (kt_g1b (kt_g1l (g_al _ _)) (kt_g1l (g_gf _ _ _))))) (kt_g1b (kt_g1b (kt_g1b (kt_g1l (g_feq _ _)) (kt_g1l (g_il _ _))) (kt_g1b (kt_g1l (g_il _ _)) (kt_g1l (g_sub _)))) (kt_g1b (kt_g1b (kt_g1l (g_al _ _)) (kt_g1l (g_gf _ _ _))) (kt_g1b (kt_g1l (g_cgt _ _)) (kt_g1l (g_rv))))))) (kt_g1b (kt_g1b (kt_g1b (kt_g1b (kt_g1l (g_al _ _)) (kt_g1b (kt_g1l (g_ic _ _)) (kt_g1l (g_pf _ _ _ _)))) (kt_g1b (kt_g1b (kt_g1l (g_al _ _)) (kt_g1l (g_il _ _))) (kt_g1b (kt_g1l (g_il _ _)) (kt_g1l (g_sub _))))) (kt_g1b (kt_g1b (kt_g1b (kt_g1l (g_pf _ _ _ _)) (kt_g1l (g_al _ _))) (kt_g1b (kt_g1l (g_il _ _)) (kt_g1l (g_pf _ _ _ _)))) (kt_g1b (kt_g1b (kt_g1l (g_al _ _)) (kt_g1l (g_il _ _))) (kt_g1b (kt_g1l (g_pf _ _ _ _)) (kt_g1l (g_al _ _)))))) (kt_g1b (kt_g1b (kt_g1b (kt_g1l (g_al _ _)) (kt_g1b (kt_g1l (g_ic _ _)) (kt_g1l (g_ial _)))) (kt_g1b (kt_g1b (kt_g1l (g_pf _ _ _ _)) (kt_g1l (g_al _ _))) (kt_g1b (kt_g1l (g_gf _ _ _)) (kt_g1l (g_ic _ _))))) (kt_g1b (kt_g1b (kt_g1b (kt_g1l (g_al _ _)) (kt_g1l (g_gf _ _ _))) (kt_g1b (kt_g1l (g_ic _ _)) (kt_g1l (g_al _ _)))) (kt_g1b (kt_g1b (kt_g1l (g_gf _ _ _)) (kt_g1l (g_len _))) (kt_g1b (kt_g1l (g_cp _)) (kt_g1l (g_rv)))))))
set_option maxRecDepth 20000 in
theorem kg_3 : kt_gr kX1_init := by
  intro pc
  show kt_g1 (kX1_init pc)
  unfold kX1_init
  exact kt_g1b (kt_g1b (kt_g1l (g_al _ _)) (kt_g1l (g_il _ _))) (kt_g1b (kt_g1l (g_ci _ _ _)) (kt_g1l (g_rv)))
set_option maxRecDepth 20000 in
theorem kg_4 : kt_gr kX1_kindNumber := by
  intro pc
  show kt_g1 (kX1_kindNumber pc)
  unfold kX1_kindNumber
  exact kt_g1b (kt_g1l (g_ic _ _)) (kt_g1l (g_ri))
set_option maxRecDepth 20000 in
theorem kg_5 : kt_gr kX1_measured := by
  intro pc
  show kt_g1 (kX1_measured pc)
  unfold kX1_measured
  exact kt_g1b (kt_g1b (kt_g1b (kt_g1b (kt_g1l (g_al _ _)) (kt_g1l (g_cv _ _ _))) (kt_g1b (kt_g1l (g_as _ _)) (kt_g1l (g_al _ _)))) (kt_g1b (kt_g1b (kt_g1l (g_ic _ _)) (kt_g1l (g_ic _ _))) (kt_g1b (kt_g1l (g_ias _)) (kt_g1b (kt_g1l (g_al _ _)) (kt_g1l (g_ic _ _)))))) (kt_g1b (kt_g1b (kt_g1b (kt_g1l (g_dup2 _)) (kt_g1l (g_ial _))) (kt_g1b (kt_g1l (g_al _ _)) (kt_g1l (g_ic _ _)))) (kt_g1b (kt_g1b (kt_g1l (g_ial _)) (kt_g1l (g_add _))) (kt_g1b (kt_g1l (g_ias _)) (kt_g1b (kt_g1l (g_al _ _)) (kt_g1l (g_ra))))))
set_option maxRecDepth 20000 in
theorem kg_6 : kt_gr kX1_told := by
  intro pc
  show kt_g1 (kX1_told pc)
  unfold kX1_told
  exact kt_g1b (kt_g1b (kt_g1b (kt_g1l (g_al _ _)) (kt_g1l (g_ic _ _))) (kt_g1b (kt_g1l (g_cv _ _ _)) (kt_g1l (g_al _ _)))) (kt_g1b (kt_g1b (kt_g1l (g_al _ _)) (kt_g1l (g_cv _ _ _))) (kt_g1b (kt_g1l (g_ic _ _)) (kt_g1b (kt_g1l (g_add _)) (kt_g1l (g_ri)))))
set_option maxRecDepth 20000 in
theorem kg_7 : kt_gr kX2_init := by
  intro pc
  show kt_g1 (kX2_init pc)
  unfold kX2_init
  exact kt_g1b (kt_g1b (kt_g1b (kt_g1b (kt_g1l (g_al _ _)) (kt_g1l (g_obj _))) (kt_g1b (kt_g1l (g_al _ _)) (kt_g1l (g_ic _ _)))) (kt_g1b (kt_g1b (kt_g1l (g_nai _)) (kt_g1l (g_pf _ _ _ _))) (kt_g1b (kt_g1l (g_al _ _)) (kt_g1l (g_ic _ _))))) (kt_g1b (kt_g1b (kt_g1b (kt_g1l (g_pf _ _ _ _)) (kt_g1l (g_al _ _))) (kt_g1b (kt_g1l (g_ic _ _)) (kt_g1l (g_nai _)))) (kt_g1b (kt_g1b (kt_g1l (g_pf _ _ _ _)) (kt_g1l (g_al _ _))) (kt_g1b (kt_g1l (g_il _ _)) (kt_g1b (kt_g1l (g_pf _ _ _ _)) (kt_g1l (g_rv))))))
set_option maxRecDepth 20000 in
theorem kg_8 : kt_gr kX2_kindNumber := by
  intro pc
  show kt_g1 (kX2_kindNumber pc)
  unfold kX2_kindNumber
  exact kt_g1b (kt_g1l (g_ic _ _)) (kt_g1l (g_ri))
set_option maxRecDepth 20000 in
theorem kg_9 : kt_gr kX2_hasStation := by
  intro pc
  show kt_g1 (kX2_hasStation pc)
  unfold kX2_hasStation
  exact kt_g1b (kt_g1b (kt_g1b (kt_g1l (g_il _ _)) (kt_g1l (g_flt _ _))) (kt_g1b (kt_g1l (g_il _ _)) (kt_g1b (kt_g1l (g_al _ _)) (kt_g1l (g_gf _ _ _))))) (kt_g1b (kt_g1b (kt_g1l (g_cge _ _)) (kt_g1l (g_ic _ _))) (kt_g1b (kt_g1l (g_goto _)) (kt_g1b (kt_g1l (g_ic _ _)) (kt_g1l (g_rz)))))
set_option maxRecDepth 20000 in
theorem kg_10 : kt_gr kX2_takeParts := by
  intro pc
  show kt_g1 (kX2_takeParts pc)
  unfold kX2_takeParts
  exact kt_g1b (kt_g1b (kt_g1b (kt_g1l (g_al _ _)) (kt_g1b (kt_g1l (g_il _ _)) (kt_g1l (g_pf _ _ _ _)))) (kt_g1b (kt_g1l (g_al _ _)) (kt_g1b (kt_g1l (g_il _ _)) (kt_g1l (g_al _ _))))) (kt_g1b (kt_g1b (kt_g1l (g_gf _ _ _)) (kt_g1b (kt_g1l (g_ic _ _)) (kt_g1l (g_ic _ _)))) (kt_g1b (kt_g1b (kt_g1l (g_il _ _)) (kt_g1l (g_mul _))) (kt_g1b (kt_g1l (g_cp _)) (kt_g1l (g_rv)))))
set_option maxRecDepth 20000 in
theorem kg_11 : kt_gr kX2_takeTurned := by
  intro pc
  show kt_g1 (kX2_takeTurned pc)
  unfold kX2_takeTurned
  exact kt_g1b (kt_g1b (kt_g1b (kt_g1b (kt_g1b (kt_g1l (g_al _ _)) (kt_g1b (kt_g1l (g_al _ _)) (kt_g1l (g_gf _ _ _)))) (kt_g1b (kt_g1l (g_pf _ _ _ _)) (kt_g1b (kt_g1l (g_ic _ _)) (kt_g1l (g_is _ _))))) (kt_g1b (kt_g1b (kt_g1l (g_il _ _)) (kt_g1b (kt_g1l (g_al _ _)) (kt_g1l (g_gf _ _ _)))) (kt_g1b (kt_g1l (g_cge _ _)) (kt_g1b (kt_g1l (g_al _ _)) (kt_g1l (g_gf _ _ _)))))) (kt_g1b (kt_g1b (kt_g1b (kt_g1l (g_ic _ _)) (kt_g1b (kt_g1l (g_sub _)) (kt_g1l (g_il _ _)))) (kt_g1b (kt_g1l (g_sub _)) (kt_g1b (kt_g1l (g_is _ _)) (kt_g1l (g_al _ _))))) (kt_g1b (kt_g1b (kt_g1l (g_gf _ _ _)) (kt_g1b (kt_g1l (g_ic _ _)) (kt_g1l (g_il _ _)))) (kt_g1b (kt_g1l (g_mul _)) (kt_g1b (kt_g1l (g_al _ _)) (kt_g1l (g_gf _ _ _))))))) (kt_g1b (kt_g1b (kt_g1b (kt_g1b (kt_g1l (g_ic _ _)) (kt_g1b (kt_g1l (g_il _ _)) (kt_g1l (g_mul _)))) (kt_g1b (kt_g1l (g_ial _)) (kt_g1b (kt_g1l (g_ias _)) (kt_g1l (g_al _ _))))) (kt_g1b (kt_g1b (kt_g1l (g_gf _ _ _)) (kt_g1b (kt_g1l (g_ic _ _)) (kt_g1l (g_il _ _)))) (kt_g1b (kt_g1l (g_mul _)) (kt_g1b (kt_g1l (g_ic _ _)) (kt_g1l (g_add _)))))) (kt_g1b (kt_g1b (kt_g1b (kt_g1l (g_al _ _)) (kt_g1b (kt_g1l (g_gf _ _ _)) (kt_g1l (g_ic _ _)))) (kt_g1b (kt_g1l (g_il _ _)) (kt_g1b (kt_g1l (g_mul _)) (kt_g1l (g_ic _ _))))) (kt_g1b (kt_g1b (kt_g1l (g_add _)) (kt_g1b (kt_g1l (g_ial _)) (kt_g1l (g_ias _)))) (kt_g1b (kt_g1l (g_inc _ _ _)) (kt_g1b (kt_g1l (g_goto _)) (kt_g1l (g_rv)))))))
set_option maxRecDepth 20000 in
theorem kg_12 : kt_gr kX2_measured := by
  intro pc
  show kt_g1 (kX2_measured pc)
  unfold kX2_measured
  exact kt_g1b (kt_g1b (kt_g1b (kt_g1b (kt_g1b (kt_g1b (kt_g1l (g_ic _ _)) (kt_g1b (kt_g1l (g_is _ _)) (kt_g1l (g_ic _ _)))) (kt_g1b (kt_g1b (kt_g1l (g_is _ _)) (kt_g1l (g_ic _ _))) (kt_g1b (kt_g1l (g_is _ _)) (kt_g1l (g_ic _ _))))) (kt_g1b (kt_g1b (kt_g1b (kt_g1l (g_is _ _)) (kt_g1l (g_ic _ _))) (kt_g1b (kt_g1l (g_is _ _)) (kt_g1l (g_ic _ _)))) (kt_g1b (kt_g1b (kt_g1l (g_is _ _)) (kt_g1l (g_il _ _))) (kt_g1b (kt_g1l (g_ic _ _)) (kt_g1l (g_al _ _)))))) (kt_g1b (kt_g1b (kt_g1b (kt_g1l (g_gf _ _ _)) (kt_g1b (kt_g1l (g_mul _)) (kt_g1l (g_cge _ _)))) (kt_g1b (kt_g1b (kt_g1l (g_al _ _)) (kt_g1l (g_gf _ _ _))) (kt_g1b (kt_g1l (g_il _ _)) (kt_g1l (g_ial _))))) (kt_g1b (kt_g1b (kt_g1b (kt_g1l (g_is _ _)) (kt_g1l (g_al _ _))) (kt_g1b (kt_g1l (g_gf _ _ _)) (kt_g1l (g_il _ _)))) (kt_g1b (kt_g1b (kt_g1l (g_ic _ _)) (kt_g1l (g_add _))) (kt_g1b (kt_g1l (g_ial _)) (kt_g1l (g_is _ _))))))) (kt_g1b (kt_g1b (kt_g1b (kt_g1b (kt_g1l (g_il _ _)) (kt_g1b (kt_g1l (g_il _ _)) (kt_g1l (g_add _)))) (kt_g1b (kt_g1b (kt_g1l (g_is _ _)) (kt_g1l (g_il _ _))) (kt_g1b (kt_g1l (g_il _ _)) (kt_g1l (g_add _))))) (kt_g1b (kt_g1b (kt_g1b (kt_g1l (g_is _ _)) (kt_g1l (g_il _ _))) (kt_g1b (kt_g1l (g_il _ _)) (kt_g1l (g_il _ _)))) (kt_g1b (kt_g1b (kt_g1l (g_mul _)) (kt_g1l (g_add _))) (kt_g1b (kt_g1l (g_is _ _)) (kt_g1l (g_il _ _)))))) (kt_g1b (kt_g1b (kt_g1b (kt_g1l (g_il _ _)) (kt_g1b (kt_g1l (g_cle _ _)) (kt_g1l (g_il _ _)))) (kt_g1b (kt_g1b (kt_g1l (g_is _ _)) (kt_g1l (g_il _ _))) (kt_g1b (kt_g1l (g_il _ _)) (kt_g1l (g_cle _ _))))) (kt_g1b (kt_g1b (kt_g1b (kt_g1l (g_il _ _)) (kt_g1l (g_is _ _))) (kt_g1b (kt_g1l (g_inc _ _ _)) (kt_g1l (g_goto _)))) (kt_g1b (kt_g1b (kt_g1l (g_ic _ _)) (kt_g1l (g_al _ _))) (kt_g1b (kt_g1l (g_gf _ _ _)) (kt_g1l (g_ic _ _)))))))) (kt_g1b (kt_g1b (kt_g1b (kt_g1b (kt_g1b (kt_g1l (g_div _)) (kt_g1b (kt_g1l (g_mul _)) (kt_g1l (g_is _ _)))) (kt_g1b (kt_g1b (kt_g1l (g_al _ _)) (kt_g1l (g_gf _ _ _))) (kt_g1b (kt_g1l (g_ic _ _)) (kt_g1l (g_al _ _))))) (kt_g1b (kt_g1b (kt_g1b (kt_g1l (g_gf _ _ _)) (kt_g1l (g_ias _))) (kt_g1b (kt_g1l (g_al _ _)) (kt_g1l (g_gf _ _ _)))) (kt_g1b (kt_g1b (kt_g1l (g_ic _ _)) (kt_g1l (g_il _ _))) (kt_g1b (kt_g1l (g_ias _)) (kt_g1l (g_al _ _)))))) (kt_g1b (kt_g1b (kt_g1b (kt_g1l (g_gf _ _ _)) (kt_g1b (kt_g1l (g_ic _ _)) (kt_g1l (g_al _ _)))) (kt_g1b (kt_g1b (kt_g1l (g_gf _ _ _)) (kt_g1l (g_il _ _))) (kt_g1b (kt_g1l (g_ial _)) (kt_g1l (g_ias _))))) (kt_g1b (kt_g1b (kt_g1b (kt_g1l (g_al _ _)) (kt_g1l (g_gf _ _ _))) (kt_g1b (kt_g1l (g_ic _ _)) (kt_g1l (g_il _ _)))) (kt_g1b (kt_g1b (kt_g1l (g_ias _)) (kt_g1l (g_al _ _))) (kt_g1b (kt_g1l (g_gf _ _ _)) (kt_g1l (g_ic _ _))))))) (kt_g1b (kt_g1b (kt_g1b (kt_g1b (kt_g1l (g_il _ _)) (kt_g1b (kt_g1l (g_ias _)) (kt_g1l (g_al _ _)))) (kt_g1b (kt_g1b (kt_g1l (g_gf _ _ _)) (kt_g1l (g_ic _ _))) (kt_g1b (kt_g1l (g_al _ _)) (kt_g1l (g_gf _ _ _))))) (kt_g1b (kt_g1b (kt_g1b (kt_g1l (g_il _ _)) (kt_g1l (g_ic _ _))) (kt_g1b (kt_g1l (g_add _)) (kt_g1l (g_ial _)))) (kt_g1b (kt_g1b (kt_g1l (g_ias _)) (kt_g1l (g_al _ _))) (kt_g1b (kt_g1l (g_gf _ _ _)) (kt_g1l (g_ic _ _)))))) (kt_g1b (kt_g1b (kt_g1b (kt_g1l (g_il _ _)) (kt_g1b (kt_g1l (g_ias _)) (kt_g1l (g_al _ _)))) (kt_g1b (kt_g1b (kt_g1l (g_gf _ _ _)) (kt_g1l (g_ic _ _))) (kt_g1b (kt_g1l (g_ic _ _)) (kt_g1l (g_ias _))))) (kt_g1b (kt_g1b (kt_g1b (kt_g1l (g_al _ _)) (kt_g1l (g_gf _ _ _))) (kt_g1b (kt_g1l (g_ic _ _)) (kt_g1l (g_il _ _)))) (kt_g1b (kt_g1b (kt_g1l (g_ias _)) (kt_g1l (g_al _ _))) (kt_g1b (kt_g1l (g_gf _ _ _)) (kt_g1l (g_ra))))))))
set_option maxRecDepth 20000 in
theorem kg_13 : kt_gr kX2_drowned := by
  intro pc
  show kt_g1 (kX2_drowned pc)
  unfold kX2_drowned
  exact kt_g1b (kt_g1b (kt_g1b (kt_g1b (kt_g1l (g_ic _ _)) (kt_g1b (kt_g1l (g_is _ _)) (kt_g1l (g_ic _ _)))) (kt_g1b (kt_g1b (kt_g1l (g_is _ _)) (kt_g1l (g_il _ _))) (kt_g1b (kt_g1l (g_ic _ _)) (kt_g1l (g_al _ _))))) (kt_g1b (kt_g1b (kt_g1b (kt_g1l (g_gf _ _ _)) (kt_g1l (g_mul _))) (kt_g1b (kt_g1l (g_cge _ _)) (kt_g1l (g_il _ _)))) (kt_g1b (kt_g1b (kt_g1l (g_ic _ _)) (kt_g1l (g_al _ _))) (kt_g1b (kt_g1l (g_gf _ _ _)) (kt_g1l (g_il _ _)))))) (kt_g1b (kt_g1b (kt_g1b (kt_g1l (g_ic _ _)) (kt_g1b (kt_g1l (g_add _)) (kt_g1l (g_ial _)))) (kt_g1b (kt_g1b (kt_g1l (g_al _ _)) (kt_g1l (g_gf _ _ _))) (kt_g1b (kt_g1l (g_il _ _)) (kt_g1l (g_ial _))))) (kt_g1b (kt_g1b (kt_g1b (kt_g1l (g_sub _)) (kt_g1l (g_max _))) (kt_g1b (kt_g1l (g_add _)) (kt_g1l (g_is _ _)))) (kt_g1b (kt_g1b (kt_g1l (g_inc _ _ _)) (kt_g1l (g_goto _))) (kt_g1b (kt_g1l (g_il _ _)) (kt_g1l (g_ri))))))
set_option maxRecDepth 20000 in
theorem kg_14 : kt_gr kX2_told := by
  intro pc
  show kt_g1 (kX2_told pc)
  unfold kX2_told
  exact kt_g1b (kt_g1b (kt_g1l (g_al _ _)) (kt_g1l (g_al _ _))) (kt_g1b (kt_g1l (g_cv _ _ _)) (kt_g1l (g_ri)))
set_option maxRecDepth 20000 in
theorem kg_15 : kt_gr kX2_toldAsHull := by
  intro pc
  show kt_g1 (kX2_toldAsHull pc)
  unfold kX2_toldAsHull
  exact kt_g1b (kt_g1b (kt_g1l (g_al _ _)) (kt_g1b (kt_g1l (g_ic _ _)) (kt_g1l (g_cv _ _ _)))) (kt_g1b (kt_g1l (g_al _ _)) (kt_g1b (kt_g1l (g_gf _ _ _)) (kt_g1l (g_ri))))
set_option maxRecDepth 20000 in
theorem kg_16 : kt_gr kX2_launched := by
  intro pc
  show kt_g1 (kX2_launched pc)
  unfold kX2_launched
  exact kt_g1b (kt_g1b (kt_g1l (g_al _ _)) (kt_g1b (kt_g1l (g_ic _ _)) (kt_g1l (g_cv _ _ _)))) (kt_g1b (kt_g1l (g_al _ _)) (kt_g1b (kt_g1l (g_gf _ _ _)) (kt_g1l (g_ri))))
set_option maxRecDepth 20000 in
theorem kg_17 : kt_gr kX3_init := by
  intro pc
  show kt_g1 (kX3_init pc)
  unfold kX3_init
  exact kt_g1b (kt_g1b (kt_g1b (kt_g1b (kt_g1b (kt_g1l (g_al _ _)) (kt_g1l (g_obj _))) (kt_g1b (kt_g1l (g_al _ _)) (kt_g1l (g_ic _ _)))) (kt_g1b (kt_g1b (kt_g1l (g_naq _ _)) (kt_g1l (g_dup _))) (kt_g1b (kt_g1l (g_ic _ _)) (kt_g1l (g_new _ _ _))))) (kt_g1b (kt_g1b (kt_g1b (kt_g1l (g_dup _)) (kt_g1l (g_ci _ _ _))) (kt_g1b (kt_g1l (g_aas _)) (kt_g1l (g_dup _)))) (kt_g1b (kt_g1b (kt_g1l (g_ic _ _)) (kt_g1l (g_new _ _ _))) (kt_g1b (kt_g1l (g_dup _)) (kt_g1b (kt_g1l (g_ci _ _ _)) (kt_g1l (g_aas _))))))) (kt_g1b (kt_g1b (kt_g1b (kt_g1b (kt_g1l (g_dup _)) (kt_g1l (g_ic _ _))) (kt_g1b (kt_g1l (g_new _ _ _)) (kt_g1l (g_dup _)))) (kt_g1b (kt_g1b (kt_g1l (g_ci _ _ _)) (kt_g1l (g_aas _))) (kt_g1b (kt_g1l (g_dup _)) (kt_g1l (g_ic _ _))))) (kt_g1b (kt_g1b (kt_g1b (kt_g1l (g_new _ _ _)) (kt_g1l (g_dup _))) (kt_g1b (kt_g1l (g_ci _ _ _)) (kt_g1l (g_aas _)))) (kt_g1b (kt_g1b (kt_g1l (g_pf _ _ _ _)) (kt_g1l (g_al _ _))) (kt_g1b (kt_g1l (g_ic _ _)) (kt_g1b (kt_g1l (g_pf _ _ _ _)) (kt_g1l (g_rv)))))))
set_option maxRecDepth 20000 in
theorem kg_18 : kt_gr kX3_hasWord := by
  intro pc
  show kt_g1 (kX3_hasWord pc)
  unfold kX3_hasWord
  exact kt_g1b (kt_g1b (kt_g1b (kt_g1l (g_il _ _)) (kt_g1l (g_flt _ _))) (kt_g1b (kt_g1l (g_il _ _)) (kt_g1b (kt_g1l (g_al _ _)) (kt_g1l (g_gf _ _ _))))) (kt_g1b (kt_g1b (kt_g1l (g_cge _ _)) (kt_g1l (g_ic _ _))) (kt_g1b (kt_g1l (g_goto _)) (kt_g1b (kt_g1l (g_ic _ _)) (kt_g1l (g_rz)))))
set_option maxRecDepth 20000 in
theorem kg_19 : kt_gr kX3_owedBy := by
  intro pc
  show kt_g1 (kX3_owedBy pc)
  unfold kX3_owedBy
  exact kt_g1b (kt_g1b (kt_g1b (kt_g1b (kt_g1l (g_ic _ _)) (kt_g1b (kt_g1l (g_is _ _)) (kt_g1l (g_ic _ _)))) (kt_g1b (kt_g1l (g_is _ _)) (kt_g1b (kt_g1l (g_il _ _)) (kt_g1l (g_al _ _))))) (kt_g1b (kt_g1b (kt_g1l (g_gf _ _ _)) (kt_g1b (kt_g1l (g_cge _ _)) (kt_g1l (g_il _ _)))) (kt_g1b (kt_g1l (g_il _ _)) (kt_g1b (kt_g1l (g_ceq _ _)) (kt_g1l (g_il _ _)))))) (kt_g1b (kt_g1b (kt_g1b (kt_g1l (g_al _ _)) (kt_g1b (kt_g1l (g_gf _ _ _)) (kt_g1l (g_il _ _)))) (kt_g1b (kt_g1l (g_aal _)) (kt_g1b (kt_g1l (g_al _ _)) (kt_g1l (g_cv _ _ _))))) (kt_g1b (kt_g1b (kt_g1l (g_add _)) (kt_g1b (kt_g1l (g_is _ _)) (kt_g1l (g_inc _ _ _)))) (kt_g1b (kt_g1l (g_goto _)) (kt_g1b (kt_g1l (g_il _ _)) (kt_g1l (g_ri))))))
set_option maxRecDepth 20000 in
theorem kg_20 : kt_gr kX4_init := by
  intro pc
  show kt_g1 (kX4_init pc)
  unfold kX4_init
  exact kt_g1b (kt_g1b (kt_g1b (kt_g1b (kt_g1l (g_al _ _)) (kt_g1l (g_obj _))) (kt_g1b (kt_g1l (g_al _ _)) (kt_g1l (g_nul _)))) (kt_g1b (kt_g1b (kt_g1l (g_pf _ _ _ _)) (kt_g1l (g_al _ _))) (kt_g1b (kt_g1l (g_ic _ _)) (kt_g1b (kt_g1l (g_pf _ _ _ _)) (kt_g1l (g_al _ _)))))) (kt_g1b (kt_g1b (kt_g1b (kt_g1l (g_ic _ _)) (kt_g1l (g_pf _ _ _ _))) (kt_g1b (kt_g1l (g_al _ _)) (kt_g1l (g_ic _ _)))) (kt_g1b (kt_g1b (kt_g1l (g_pf _ _ _ _)) (kt_g1l (g_al _ _))) (kt_g1b (kt_g1l (g_ic _ _)) (kt_g1b (kt_g1l (g_pf _ _ _ _)) (kt_g1l (g_rv))))))
set_option maxRecDepth 20000 in
theorem kg_21 : kt_gr kX4_read := by
  intro pc
  show kt_g1 (kX4_read pc)
  unfold kX4_read
  exact kt_g1b (kt_g1b (kt_g1b (kt_g1b (kt_g1b (kt_g1b (kt_g1l (g_al _ _)) (kt_g1l (g_al _ _))) (kt_g1b (kt_g1l (g_pf _ _ _ _)) (kt_g1l (g_al _ _)))) (kt_g1b (kt_g1b (kt_g1l (g_il _ _)) (kt_g1l (g_pf _ _ _ _))) (kt_g1b (kt_g1l (g_al _ _)) (kt_g1l (g_il _ _))))) (kt_g1b (kt_g1b (kt_g1b (kt_g1l (g_pf _ _ _ _)) (kt_g1l (g_al _ _))) (kt_g1b (kt_g1l (g_ic _ _)) (kt_g1l (g_pf _ _ _ _)))) (kt_g1b (kt_g1b (kt_g1l (g_al _ _)) (kt_g1l (g_ic _ _))) (kt_g1b (kt_g1l (g_pf _ _ _ _)) (kt_g1l (g_al _ _)))))) (kt_g1b (kt_g1b (kt_g1b (kt_g1b (kt_g1l (g_ic _ _)) (kt_g1l (g_pf _ _ _ _))) (kt_g1b (kt_g1l (g_ic _ _)) (kt_g1l (g_is _ _)))) (kt_g1b (kt_g1b (kt_g1l (g_ic _ _)) (kt_g1l (g_is _ _))) (kt_g1b (kt_g1l (g_il _ _)) (kt_g1l (g_ic _ _))))) (kt_g1b (kt_g1b (kt_g1b (kt_g1l (g_cge _ _)) (kt_g1l (g_il _ _))) (kt_g1b (kt_g1l (g_feq _ _)) (kt_g1l (g_al _ _)))) (kt_g1b (kt_g1b (kt_g1l (g_al _ _)) (kt_g1l (g_gf _ _ _))) (kt_g1b (kt_g1l (g_il _ _)) (kt_g1l (g_aal _))))))) (kt_g1b (kt_g1b (kt_g1b (kt_g1b (kt_g1b (kt_g1l (g_cv _ _ _)) (kt_g1l (g_al _ _))) (kt_g1b (kt_g1l (g_il _ _)) (kt_g1l (g_ic _ _)))) (kt_g1b (kt_g1b (kt_g1l (g_add _)) (kt_g1l (g_pf _ _ _ _))) (kt_g1b (kt_g1l (g_il _ _)) (kt_g1l (g_ic _ _))))) (kt_g1b (kt_g1b (kt_g1b (kt_g1l (g_add _)) (kt_g1l (g_ic _ _))) (kt_g1b (kt_g1l (g_cge _ _)) (kt_g1l (g_al _ _)))) (kt_g1b (kt_g1b (kt_g1l (g_ic _ _)) (kt_g1l (g_cv _ _ _))) (kt_g1b (kt_g1l (g_feq _ _)) (kt_g1l (g_ic _ _)))))) (kt_g1b (kt_g1b (kt_g1b (kt_g1b (kt_g1l (g_goto _)) (kt_g1l (g_ic _ _))) (kt_g1b (kt_g1l (g_is _ _)) (kt_g1l (g_inc _ _ _)))) (kt_g1b (kt_g1b (kt_g1l (g_goto _)) (kt_g1l (g_al _ _))) (kt_g1b (kt_g1l (g_gf _ _ _)) (kt_g1l (g_al _ _))))) (kt_g1b (kt_g1b (kt_g1b (kt_g1l (g_gf _ _ _)) (kt_g1l (g_cge _ _))) (kt_g1b (kt_g1l (g_al _ _)) (kt_g1l (g_al _ _)))) (kt_g1b (kt_g1b (kt_g1l (g_gf _ _ _)) (kt_g1l (g_cv _ _ _))) (kt_g1b (kt_g1l (g_al _ _)) (kt_g1b (kt_g1l (g_gf _ _ _)) (kt_g1l (g_ri))))))))
set_option maxRecDepth 20000 in
theorem kg_22 : kt_gr kX4_readWord := by
  intro pc
  show kt_g1 (kX4_readWord pc)
  unfold kX4_readWord
  exact kt_g1b (kt_g1b (kt_g1b (kt_g1b (kt_g1b (kt_g1l (g_al _ _)) (kt_g1l (g_cv _ _ _))) (kt_g1b (kt_g1l (g_al _ _)) (kt_g1b (kt_g1l (g_al _ _)) (kt_g1l (g_cv _ _ _))))) (kt_g1b (kt_g1b (kt_g1l (g_ic _ _)) (kt_g1l (g_is _ _))) (kt_g1b (kt_g1l (g_il _ _)) (kt_g1b (kt_g1l (g_ic _ _)) (kt_g1l (g_cge _ _)))))) (kt_g1b (kt_g1b (kt_g1b (kt_g1l (g_al _ _)) (kt_g1l (g_ic _ _))) (kt_g1b (kt_g1l (g_cv _ _ _)) (kt_g1b (kt_g1l (g_feq _ _)) (kt_g1l (g_al _ _))))) (kt_g1b (kt_g1b (kt_g1l (g_al _ _)) (kt_g1l (g_cv _ _ _))) (kt_g1b (kt_g1l (g_inc _ _ _)) (kt_g1b (kt_g1l (g_goto _)) (kt_g1l (g_al _ _))))))) (kt_g1b (kt_g1b (kt_g1b (kt_g1b (kt_g1l (g_ic _ _)) (kt_g1l (g_cv _ _ _))) (kt_g1b (kt_g1l (g_feq _ _)) (kt_g1b (kt_g1l (g_al _ _)) (kt_g1l (g_al _ _))))) (kt_g1b (kt_g1b (kt_g1l (g_ic _ _)) (kt_g1l (g_ic _ _))) (kt_g1b (kt_g1l (g_cv _ _ _)) (kt_g1b (kt_g1l (g_pf _ _ _ _)) (kt_g1l (g_al _ _)))))) (kt_g1b (kt_g1b (kt_g1b (kt_g1l (g_ic _ _)) (kt_g1l (g_cv _ _ _))) (kt_g1b (kt_g1l (g_feq _ _)) (kt_g1b (kt_g1l (g_al _ _)) (kt_g1l (g_al _ _))))) (kt_g1b (kt_g1b (kt_g1l (g_ic _ _)) (kt_g1l (g_ic _ _))) (kt_g1b (kt_g1l (g_cv _ _ _)) (kt_g1b (kt_g1l (g_pf _ _ _ _)) (kt_g1l (g_rv)))))))
set_option maxRecDepth 20000 in
theorem kg_23 : kt_gr kX4_readFactor := by
  intro pc
  show kt_g1 (kX4_readFactor pc)
  unfold kX4_readFactor
  exact kt_g1b (kt_g1b (kt_g1b (kt_g1b (kt_g1b (kt_g1l (g_al _ _)) (kt_g1l (g_cv _ _ _))) (kt_g1b (kt_g1l (g_cs _ _ _)) (kt_g1l (g_feq _ _)))) (kt_g1b (kt_g1b (kt_g1l (g_al _ _)) (kt_g1l (g_al _ _))) (kt_g1b (kt_g1l (g_ic _ _)) (kt_g1l (g_ic _ _))))) (kt_g1b (kt_g1b (kt_g1b (kt_g1l (g_cv _ _ _)) (kt_g1l (g_cv _ _ _))) (kt_g1b (kt_g1l (g_rv)) (kt_g1l (g_al _ _)))) (kt_g1b (kt_g1b (kt_g1l (g_cv _ _ _)) (kt_g1l (g_cs _ _ _))) (kt_g1b (kt_g1l (g_is _ _)) (kt_g1l (g_il _ _)))))) (kt_g1b (kt_g1b (kt_g1b (kt_g1b (kt_g1l (g_ic _ _)) (kt_g1l (g_cne _ _))) (kt_g1b (kt_g1l (g_al _ _)) (kt_g1l (g_al _ _)))) (kt_g1b (kt_g1b (kt_g1l (g_gf _ _ _)) (kt_g1l (g_cv _ _ _))) (kt_g1b (kt_g1l (g_rv)) (kt_g1l (g_al _ _))))) (kt_g1b (kt_g1b (kt_g1b (kt_g1l (g_il _ _)) (kt_g1l (g_cv _ _ _))) (kt_g1b (kt_g1l (g_al _ _)) (kt_g1l (g_dup _)))) (kt_g1b (kt_g1b (kt_g1l (g_gf _ _ _)) (kt_g1l (g_ic _ _))) (kt_g1b (kt_g1l (g_add _)) (kt_g1b (kt_g1l (g_pf _ _ _ _)) (kt_g1l (g_rv)))))))
set_option maxRecDepth 20000 in
theorem kg_24 : kt_gr kX4_readNumber := by
  intro pc
  show kt_g1 (kX4_readNumber pc)
  unfold kX4_readNumber
  exact kt_g1b (kt_g1b (kt_g1b (kt_g1b (kt_g1b (kt_g1l (g_al _ _)) (kt_g1l (g_gf _ _ _))) (kt_g1b (kt_g1l (g_is _ _)) (kt_g1b (kt_g1l (g_ic _ _)) (kt_g1l (g_is _ _))))) (kt_g1b (kt_g1b (kt_g1l (g_ic _ _)) (kt_g1l (g_is _ _))) (kt_g1b (kt_g1l (g_il _ _)) (kt_g1b (kt_g1l (g_il _ _)) (kt_g1l (g_cge _ _)))))) (kt_g1b (kt_g1b (kt_g1b (kt_g1l (g_al _ _)) (kt_g1l (g_cv _ _ _))) (kt_g1b (kt_g1l (g_cs _ _ _)) (kt_g1b (kt_g1l (g_feq _ _)) (kt_g1l (g_ic _ _))))) (kt_g1b (kt_g1b (kt_g1l (g_il _ _)) (kt_g1b (kt_g1l (g_mul _)) (kt_g1l (g_al _ _)))) (kt_g1b (kt_g1l (g_cv _ _ _)) (kt_g1b (kt_g1l (g_add _)) (kt_g1l (g_ic _ _))))))) (kt_g1b (kt_g1b (kt_g1b (kt_g1b (kt_g1l (g_sub _)) (kt_g1l (g_is _ _))) (kt_g1b (kt_g1l (g_al _ _)) (kt_g1b (kt_g1l (g_dup _)) (kt_g1l (g_gf _ _ _))))) (kt_g1b (kt_g1b (kt_g1l (g_ic _ _)) (kt_g1b (kt_g1l (g_add _)) (kt_g1l (g_pf _ _ _ _)))) (kt_g1b (kt_g1l (g_inc _ _ _)) (kt_g1b (kt_g1l (g_goto _)) (kt_g1l (g_al _ _)))))) (kt_g1b (kt_g1b (kt_g1b (kt_g1l (g_gf _ _ _)) (kt_g1l (g_il _ _))) (kt_g1b (kt_g1l (g_ceq _ _)) (kt_g1b (kt_g1l (g_il _ _)) (kt_g1l (g_il _ _))))) (kt_g1b (kt_g1b (kt_g1l (g_cge _ _)) (kt_g1b (kt_g1l (g_al _ _)) (kt_g1l (g_il _ _)))) (kt_g1b (kt_g1l (g_cv _ _ _)) (kt_g1b (kt_g1l (g_il _ _)) (kt_g1l (g_ri)))))))
set_option maxRecDepth 20000 in
theorem kg_25 : kt_gr kX4_takes := by
  intro pc
  show kt_g1 (kX4_takes pc)
  unfold kX4_takes
  exact kt_g1b (kt_g1b (kt_g1b (kt_g1b (kt_g1l (g_al _ _)) (kt_g1l (g_cv _ _ _))) (kt_g1b (kt_g1l (g_il _ _)) (kt_g1l (g_cne _ _)))) (kt_g1b (kt_g1b (kt_g1l (g_ic _ _)) (kt_g1l (g_goto _))) (kt_g1b (kt_g1l (g_ic _ _)) (kt_g1b (kt_g1l (g_is _ _)) (kt_g1l (g_il _ _)))))) (kt_g1b (kt_g1b (kt_g1b (kt_g1l (g_feq _ _)) (kt_g1l (g_al _ _))) (kt_g1b (kt_g1l (g_dup _)) (kt_g1l (g_gf _ _ _)))) (kt_g1b (kt_g1b (kt_g1l (g_ic _ _)) (kt_g1l (g_add _))) (kt_g1b (kt_g1l (g_pf _ _ _ _)) (kt_g1b (kt_g1l (g_il _ _)) (kt_g1l (g_rz))))))
set_option maxRecDepth 20000 in
theorem kg_26 : kt_gr kX4_code := by
  intro pc
  show kt_g1 (kX4_code pc)
  unfold kX4_code
  exact kt_g1b (kt_g1b (kt_g1b (kt_g1b (kt_g1l (g_al _ _)) (kt_g1l (g_gf _ _ _))) (kt_g1b (kt_g1l (g_ic _ _)) (kt_g1b (kt_g1l (g_cne _ _)) (kt_g1l (g_al _ _))))) (kt_g1b (kt_g1b (kt_g1l (g_gf _ _ _)) (kt_g1l (g_al _ _))) (kt_g1b (kt_g1l (g_gf _ _ _)) (kt_g1b (kt_g1l (g_cge _ _)) (kt_g1l (g_al _ _)))))) (kt_g1b (kt_g1b (kt_g1b (kt_g1l (g_gf _ _ _)) (kt_g1l (g_gf _ _ _))) (kt_g1b (kt_g1l (g_al _ _)) (kt_g1b (kt_g1l (g_gf _ _ _)) (kt_g1l (g_al _ _))))) (kt_g1b (kt_g1b (kt_g1l (g_gf _ _ _)) (kt_g1b (kt_g1l (g_add _)) (kt_g1l (g_ial _)))) (kt_g1b (kt_g1l (g_goto _)) (kt_g1b (kt_g1l (g_ic _ _)) (kt_g1l (g_ri))))))
set_option maxRecDepth 20000 in
theorem kg_27 : kt_gr kX4_failAt := by
  intro pc
  show kt_g1 (kX4_failAt pc)
  unfold kX4_failAt
  exact kt_g1b (kt_g1b (kt_g1b (kt_g1l (g_al _ _)) (kt_g1l (g_gf _ _ _))) (kt_g1b (kt_g1l (g_ic _ _)) (kt_g1l (g_cne _ _)))) (kt_g1b (kt_g1b (kt_g1l (g_al _ _)) (kt_g1l (g_il _ _))) (kt_g1b (kt_g1l (g_pf _ _ _ _)) (kt_g1l (g_rv))))
set_option maxRecDepth 20000 in
theorem kg_28 : kt_gr kX4_isDigit := by
  intro pc
  show kt_g1 (kX4_isDigit pc)
  unfold kX4_isDigit
  exact kt_g1b (kt_g1b (kt_g1b (kt_g1l (g_il _ _)) (kt_g1l (g_ic _ _))) (kt_g1b (kt_g1l (g_clt _ _)) (kt_g1b (kt_g1l (g_il _ _)) (kt_g1l (g_ic _ _))))) (kt_g1b (kt_g1b (kt_g1l (g_cgt _ _)) (kt_g1l (g_ic _ _))) (kt_g1b (kt_g1l (g_goto _)) (kt_g1b (kt_g1l (g_ic _ _)) (kt_g1l (g_rz)))))
set_option maxRecDepth 20000 in
theorem kg_29 : kt_gr kX4_measureOf := by
  intro pc
  show kt_g1 (kX4_measureOf pc)
  unfold kX4_measureOf
  exact kt_g1b (kt_g1b (kt_g1b (kt_g1b (kt_g1l (g_il _ _)) (kt_g1l (g_tsw _ _ _ _))) (kt_g1b (kt_g1l (g_ic _ _)) (kt_g1b (kt_g1l (g_ri)) (kt_g1l (g_ic _ _))))) (kt_g1b (kt_g1b (kt_g1l (g_ri)) (kt_g1l (g_ic _ _))) (kt_g1b (kt_g1l (g_ri)) (kt_g1b (kt_g1l (g_ic _ _)) (kt_g1l (g_ri)))))) (kt_g1b (kt_g1b (kt_g1b (kt_g1l (g_ic _ _)) (kt_g1l (g_ri))) (kt_g1b (kt_g1l (g_ic _ _)) (kt_g1b (kt_g1l (g_ri)) (kt_g1l (g_ic _ _))))) (kt_g1b (kt_g1b (kt_g1l (g_ri)) (kt_g1l (g_ic _ _))) (kt_g1b (kt_g1l (g_ri)) (kt_g1b (kt_g1l (g_ic _ _)) (kt_g1l (g_ri))))))
set_option maxRecDepth 20000 in
theorem kg_30 : kt_gr kX5_init := by
  intro pc
  show kt_g1 (kX5_init pc)
  unfold kX5_init
  exact kt_g1b (kt_g1b (kt_g1b (kt_g1b (kt_g1l (g_al _ _)) (kt_g1b (kt_g1l (g_obj _)) (kt_g1l (g_al _ _)))) (kt_g1b (kt_g1b (kt_g1l (g_ic _ _)) (kt_g1l (g_nai _))) (kt_g1b (kt_g1l (g_dup _)) (kt_g1l (g_ic _ _))))) (kt_g1b (kt_g1b (kt_g1b (kt_g1l (g_ic _ _)) (kt_g1l (g_ias _))) (kt_g1b (kt_g1l (g_dup _)) (kt_g1l (g_ic _ _)))) (kt_g1b (kt_g1b (kt_g1l (g_ic _ _)) (kt_g1l (g_ias _))) (kt_g1b (kt_g1l (g_dup _)) (kt_g1l (g_ic _ _)))))) (kt_g1b (kt_g1b (kt_g1b (kt_g1b (kt_g1l (g_ic _ _)) (kt_g1l (g_ias _))) (kt_g1b (kt_g1l (g_dup _)) (kt_g1l (g_ic _ _)))) (kt_g1b (kt_g1b (kt_g1l (g_ic _ _)) (kt_g1l (g_ias _))) (kt_g1b (kt_g1l (g_dup _)) (kt_g1l (g_ic _ _))))) (kt_g1b (kt_g1b (kt_g1b (kt_g1l (g_ic _ _)) (kt_g1l (g_ias _))) (kt_g1b (kt_g1l (g_dup _)) (kt_g1l (g_ic _ _)))) (kt_g1b (kt_g1b (kt_g1l (g_ic _ _)) (kt_g1l (g_ias _))) (kt_g1b (kt_g1l (g_pf _ _ _ _)) (kt_g1l (g_rv))))))
set_option maxRecDepth 20000 in
theorem kg_31 : kt_gr kX5_has := by
  intro pc
  show kt_g1 (kX5_has pc)
  unfold kX5_has
  exact kt_g1b (kt_g1b (kt_g1b (kt_g1l (g_il _ _)) (kt_g1l (g_flt _ _))) (kt_g1b (kt_g1l (g_il _ _)) (kt_g1b (kt_g1l (g_al _ _)) (kt_g1l (g_gf _ _ _))))) (kt_g1b (kt_g1b (kt_g1l (g_len _)) (kt_g1b (kt_g1l (g_cge _ _)) (kt_g1l (g_ic _ _)))) (kt_g1b (kt_g1l (g_goto _)) (kt_g1b (kt_g1l (g_ic _ _)) (kt_g1l (g_rz)))))
set_option maxRecDepth 20000 in
theorem kg_32 : kt_gr kX5_allows := by
  intro pc
  show kt_g1 (kX5_allows pc)
  unfold kX5_allows
  exact kt_g1b (kt_g1b (kt_g1b (kt_g1l (g_il _ _)) (kt_g1b (kt_g1l (g_gs _ _)) (kt_g1l (g_il _ _)))) (kt_g1b (kt_g1b (kt_g1l (g_ialT _)) (kt_g1l (g_clt _ _))) (kt_g1b (kt_g1l (g_il _ _)) (kt_g1l (g_gs _ _))))) (kt_g1b (kt_g1b (kt_g1l (g_il _ _)) (kt_g1b (kt_g1l (g_ialT _)) (kt_g1l (g_cgt _ _)))) (kt_g1b (kt_g1b (kt_g1l (g_ic _ _)) (kt_g1l (g_goto _))) (kt_g1b (kt_g1l (g_ic _ _)) (kt_g1l (g_rz)))))
set_option maxRecDepth 20000 in
theorem kg_33 : kt_gr kX5_costOf := by
  intro pc
  show kt_g1 (kX5_costOf pc)
  unfold kX5_costOf
  exact kt_g1b (kt_g1b (kt_g1b (kt_g1l (g_al _ _)) (kt_g1b (kt_g1l (g_gf _ _ _)) (kt_g1l (g_ic _ _)))) (kt_g1b (kt_g1b (kt_g1l (g_ial _)) (kt_g1l (g_al _ _))) (kt_g1b (kt_g1l (g_ic _ _)) (kt_g1l (g_ial _))))) (kt_g1b (kt_g1b (kt_g1b (kt_g1l (g_ic _ _)) (kt_g1l (g_al _ _))) (kt_g1b (kt_g1l (g_ic _ _)) (kt_g1l (g_ial _)))) (kt_g1b (kt_g1b (kt_g1l (g_mul _)) (kt_g1l (g_add _))) (kt_g1b (kt_g1l (g_mul _)) (kt_g1l (g_ri)))))
set_option maxRecDepth 20000 in
theorem kg_34 : kt_gr kX5_freeWorth := by
  intro pc
  show kt_g1 (kX5_freeWorth pc)
  unfold kX5_freeWorth
  exact kt_g1b (kt_g1b (kt_g1b (kt_g1l (g_il _ _)) (kt_g1l (g_al _ _))) (kt_g1b (kt_g1l (g_ic _ _)) (kt_g1b (kt_g1l (g_ial _)) (kt_g1l (g_mul _))))) (kt_g1b (kt_g1b (kt_g1l (g_al _ _)) (kt_g1l (g_al _ _))) (kt_g1b (kt_g1l (g_cv _ _ _)) (kt_g1b (kt_g1l (g_sub _)) (kt_g1l (g_ri)))))
set_option maxRecDepth 20000 in
theorem kg_35 : kt_gr kX5_firstBroken := by
  intro pc
  show kt_g1 (kX5_firstBroken pc)
  unfold kX5_firstBroken
  exact kt_g1b (kt_g1b (kt_g1b (kt_g1b (kt_g1b (kt_g1b (kt_g1l (g_al _ _)) (kt_g1b (kt_g1l (g_gf _ _ _)) (kt_g1l (g_ic _ _)))) (kt_g1b (kt_g1l (g_sub _)) (kt_g1b (kt_g1l (g_is _ _)) (kt_g1l (g_ic _ _))))) (kt_g1b (kt_g1b (kt_g1l (g_is _ _)) (kt_g1b (kt_g1l (g_il _ _)) (kt_g1l (g_il _ _)))) (kt_g1b (kt_g1b (kt_g1l (g_cge _ _)) (kt_g1l (g_al _ _))) (kt_g1b (kt_g1l (g_gf _ _ _)) (kt_g1l (g_ic _ _)))))) (kt_g1b (kt_g1b (kt_g1b (kt_g1l (g_il _ _)) (kt_g1b (kt_g1l (g_mul _)) (kt_g1l (g_ial _)))) (kt_g1b (kt_g1b (kt_g1l (g_al _ _)) (kt_g1l (g_gf _ _ _))) (kt_g1b (kt_g1l (g_ic _ _)) (kt_g1l (g_il _ _))))) (kt_g1b (kt_g1b (kt_g1l (g_mul _)) (kt_g1b (kt_g1l (g_ic _ _)) (kt_g1l (g_add _)))) (kt_g1b (kt_g1b (kt_g1l (g_ial _)) (kt_g1l (g_sub _))) (kt_g1b (kt_g1l (g_abs _)) (kt_g1l (g_al _ _))))))) (kt_g1b (kt_g1b (kt_g1b (kt_g1b (kt_g1l (g_gf _ _ _)) (kt_g1b (kt_g1l (g_ic _ _)) (kt_g1l (g_ial _)))) (kt_g1b (kt_g1b (kt_g1l (g_cle _ _)) (kt_g1l (g_ic _ _))) (kt_g1b (kt_g1l (g_il _ _)) (kt_g1l (g_add _))))) (kt_g1b (kt_g1b (kt_g1l (g_ri)) (kt_g1b (kt_g1l (g_inc _ _ _)) (kt_g1l (g_goto _)))) (kt_g1b (kt_g1b (kt_g1l (g_ic _ _)) (kt_g1l (g_is _ _))) (kt_g1b (kt_g1l (g_il _ _)) (kt_g1l (g_il _ _)))))) (kt_g1b (kt_g1b (kt_g1b (kt_g1l (g_cgt _ _)) (kt_g1b (kt_g1l (g_al _ _)) (kt_g1l (g_gf _ _ _)))) (kt_g1b (kt_g1b (kt_g1l (g_ic _ _)) (kt_g1l (g_il _ _))) (kt_g1b (kt_g1l (g_mul _)) (kt_g1l (g_ic _ _))))) (kt_g1b (kt_g1b (kt_g1l (g_add _)) (kt_g1b (kt_g1l (g_ial _)) (kt_g1l (g_al _ _)))) (kt_g1b (kt_g1b (kt_g1l (g_gf _ _ _)) (kt_g1l (g_ic _ _))) (kt_g1b (kt_g1l (g_il _ _)) (kt_g1l (g_mul _)))))))) (kt_g1b (kt_g1b (kt_g1b (kt_g1b (kt_g1b (kt_g1l (g_ial _)) (kt_g1b (kt_g1l (g_sub _)) (kt_g1l (g_al _ _)))) (kt_g1b (kt_g1l (g_gf _ _ _)) (kt_g1b (kt_g1l (g_ic _ _)) (kt_g1l (g_ial _))))) (kt_g1b (kt_g1b (kt_g1l (g_cle _ _)) (kt_g1b (kt_g1l (g_ic _ _)) (kt_g1l (g_il _ _)))) (kt_g1b (kt_g1b (kt_g1l (g_add _)) (kt_g1l (g_ri))) (kt_g1b (kt_g1l (g_inc _ _ _)) (kt_g1l (g_goto _)))))) (kt_g1b (kt_g1b (kt_g1b (kt_g1l (g_il _ _)) (kt_g1b (kt_g1l (g_flt _ _)) (kt_g1l (g_al _ _)))) (kt_g1b (kt_g1b (kt_g1l (g_gf _ _ _)) (kt_g1l (g_ic _ _))) (kt_g1b (kt_g1l (g_ial _)) (kt_g1l (g_al _ _))))) (kt_g1b (kt_g1b (kt_g1l (g_gf _ _ _)) (kt_g1b (kt_g1l (g_ic _ _)) (kt_g1l (g_ial _)))) (kt_g1b (kt_g1b (kt_g1l (g_cle _ _)) (kt_g1l (g_ic _ _))) (kt_g1b (kt_g1l (g_ri)) (kt_g1l (g_il _ _))))))) (kt_g1b (kt_g1b (kt_g1b (kt_g1b (kt_g1l (g_flt _ _)) (kt_g1b (kt_g1l (g_al _ _)) (kt_g1l (g_gf _ _ _)))) (kt_g1b (kt_g1b (kt_g1l (g_ic _ _)) (kt_g1l (g_il _ _))) (kt_g1b (kt_g1l (g_mul _)) (kt_g1l (g_ial _))))) (kt_g1b (kt_g1b (kt_g1l (g_al _ _)) (kt_g1b (kt_g1l (g_gf _ _ _)) (kt_g1l (g_ic _ _)))) (kt_g1b (kt_g1b (kt_g1l (g_ial _)) (kt_g1l (g_cle _ _))) (kt_g1b (kt_g1l (g_ic _ _)) (kt_g1l (g_il _ _)))))) (kt_g1b (kt_g1b (kt_g1b (kt_g1l (g_add _)) (kt_g1b (kt_g1l (g_ri)) (kt_g1l (g_al _ _)))) (kt_g1b (kt_g1b (kt_g1l (g_ic _ _)) (kt_g1l (g_ial _))) (kt_g1b (kt_g1l (g_al _ _)) (kt_g1l (g_gf _ _ _))))) (kt_g1b (kt_g1b (kt_g1l (g_ic _ _)) (kt_g1b (kt_g1l (g_ial _)) (kt_g1l (g_cge _ _)))) (kt_g1b (kt_g1b (kt_g1l (g_ic _ _)) (kt_g1l (g_goto _))) (kt_g1b (kt_g1l (g_ic _ _)) (kt_g1l (g_ri))))))))
set_option maxRecDepth 20000 in
theorem kg_36 : kt_gr kX6_init := by
  intro pc
  show kt_g1 (kX6_init pc)
  unfold kX6_init
  exact kt_g1b (kt_g1b (kt_g1l (g_al _ _)) (kt_g1l (g_il _ _))) (kt_g1b (kt_g1l (g_ci _ _ _)) (kt_g1l (g_rv)))
set_option maxRecDepth 20000 in
theorem kg_37 : kt_gr kX6_kindNumber := by
  intro pc
  show kt_g1 (kX6_kindNumber pc)
  unfold kX6_kindNumber
  exact kt_g1b (kt_g1l (g_ic _ _)) (kt_g1l (g_ri))
set_option maxRecDepth 20000 in
theorem kg_38 : kt_gr kX6_measured := by
  intro pc
  show kt_g1 (kX6_measured pc)
  unfold kX6_measured
  exact kt_g1b (kt_g1b (kt_g1b (kt_g1l (g_al _ _)) (kt_g1b (kt_g1l (g_cv _ _ _)) (kt_g1l (g_as _ _)))) (kt_g1b (kt_g1b (kt_g1l (g_al _ _)) (kt_g1l (g_ic _ _))) (kt_g1b (kt_g1l (g_ic _ _)) (kt_g1l (g_al _ _))))) (kt_g1b (kt_g1b (kt_g1b (kt_g1l (g_ic _ _)) (kt_g1l (g_ial _))) (kt_g1b (kt_g1l (g_ic _ _)) (kt_g1l (g_sub _)))) (kt_g1b (kt_g1b (kt_g1l (g_max _)) (kt_g1l (g_ias _))) (kt_g1b (kt_g1l (g_al _ _)) (kt_g1l (g_ra)))))
set_option maxRecDepth 20000 in
theorem kg_39 : kt_gr kX6_told := by
  intro pc
  show kt_g1 (kX6_told pc)
  unfold kX6_told
  exact kt_g1b (kt_g1b (kt_g1b (kt_g1l (g_al _ _)) (kt_g1b (kt_g1l (g_ic _ _)) (kt_g1l (g_cv _ _ _)))) (kt_g1b (kt_g1l (g_al _ _)) (kt_g1b (kt_g1l (g_al _ _)) (kt_g1l (g_cv _ _ _))))) (kt_g1b (kt_g1b (kt_g1l (g_is _ _)) (kt_g1b (kt_g1l (g_il _ _)) (kt_g1l (g_al _ _)))) (kt_g1b (kt_g1b (kt_g1l (g_al _ _)) (kt_g1l (g_cv _ _ _))) (kt_g1b (kt_g1l (g_add _)) (kt_g1l (g_ri)))))
set_option maxRecDepth 20000 in
theorem kg_40 : kt_gr kX6_launched := by
  intro pc
  show kt_g1 (kX6_launched pc)
  unfold kX6_launched
  exact kt_g1b (kt_g1b (kt_g1l (g_al _ _)) (kt_g1l (g_ic _ _))) (kt_g1b (kt_g1l (g_cv _ _ _)) (kt_g1b (kt_g1l (g_ic _ _)) (kt_g1l (g_ri))))
set_option maxRecDepth 20000 in
theorem kg_41 : kt_gr kX7_init := by
  intro pc
  show kt_g1 (kX7_init pc)
  unfold kX7_init
  exact kt_g1b (kt_g1b (kt_g1b (kt_g1b (kt_g1l (g_al _ _)) (kt_g1b (kt_g1l (g_obj _)) (kt_g1l (g_al _ _)))) (kt_g1b (kt_g1b (kt_g1l (g_new _ _ _)) (kt_g1l (g_dup _))) (kt_g1b (kt_g1l (g_ci _ _ _)) (kt_g1l (g_pf _ _ _ _))))) (kt_g1b (kt_g1b (kt_g1b (kt_g1l (g_al _ _)) (kt_g1l (g_ic _ _))) (kt_g1b (kt_g1l (g_naq _ _)) (kt_g1l (g_pf _ _ _ _)))) (kt_g1b (kt_g1b (kt_g1l (g_al _ _)) (kt_g1l (g_ic _ _))) (kt_g1b (kt_g1l (g_pf _ _ _ _)) (kt_g1l (g_ic _ _)))))) (kt_g1b (kt_g1b (kt_g1b (kt_g1b (kt_g1l (g_is _ _)) (kt_g1l (g_il _ _))) (kt_g1b (kt_g1l (g_al _ _)) (kt_g1l (g_gf _ _ _)))) (kt_g1b (kt_g1b (kt_g1l (g_len _)) (kt_g1l (g_cge _ _))) (kt_g1b (kt_g1l (g_al _ _)) (kt_g1l (g_gf _ _ _))))) (kt_g1b (kt_g1b (kt_g1b (kt_g1l (g_il _ _)) (kt_g1l (g_new _ _ _))) (kt_g1b (kt_g1l (g_dup _)) (kt_g1l (g_ci _ _ _)))) (kt_g1b (kt_g1b (kt_g1l (g_aas _)) (kt_g1l (g_inc _ _ _))) (kt_g1b (kt_g1l (g_goto _)) (kt_g1l (g_rv))))))
set_option maxRecDepth 20000 in
theorem kg_42 : kt_gr kX7_clear := by
  intro pc
  show kt_g1 (kX7_clear pc)
  unfold kX7_clear
  exact kt_g1b (kt_g1b (kt_g1b (kt_g1l (g_al _ _)) (kt_g1l (g_ic _ _))) (kt_g1b (kt_g1l (g_pf _ _ _ _)) (kt_g1l (g_al _ _)))) (kt_g1b (kt_g1b (kt_g1l (g_gf _ _ _)) (kt_g1l (g_nul _))) (kt_g1b (kt_g1l (g_ic _ _)) (kt_g1b (kt_g1l (g_cv _ _ _)) (kt_g1l (g_rv)))))
set_option maxRecDepth 20000 in
theorem kg_43 : kt_gr kX7_seek := by
  intro pc
  show kt_g1 (kX7_seek pc)
  unfold kX7_seek
  exact kt_g1b (kt_g1b (kt_g1b (kt_g1b (kt_g1l (g_al _ _)) (kt_g1b (kt_g1l (g_gf _ _ _)) (kt_g1l (g_al _ _)))) (kt_g1b (kt_g1l (g_gf _ _ _)) (kt_g1b (kt_g1l (g_len _)) (kt_g1l (g_clt _ _))))) (kt_g1b (kt_g1b (kt_g1l (g_al _ _)) (kt_g1b (kt_g1l (g_gf _ _ _)) (kt_g1l (g_ra)))) (kt_g1b (kt_g1b (kt_g1l (g_al _ _)) (kt_g1l (g_gf _ _ _))) (kt_g1b (kt_g1l (g_al _ _)) (kt_g1l (g_gf _ _ _)))))) (kt_g1b (kt_g1b (kt_g1b (kt_g1l (g_aal _)) (kt_g1b (kt_g1l (g_as _ _)) (kt_g1l (g_al _ _)))) (kt_g1b (kt_g1b (kt_g1l (g_al _ _)) (kt_g1l (g_il _ _))) (kt_g1b (kt_g1l (g_cv _ _ _)) (kt_g1l (g_al _ _))))) (kt_g1b (kt_g1b (kt_g1l (g_dup _)) (kt_g1b (kt_g1l (g_gf _ _ _)) (kt_g1l (g_ic _ _)))) (kt_g1b (kt_g1b (kt_g1l (g_add _)) (kt_g1l (g_pf _ _ _ _))) (kt_g1b (kt_g1l (g_al _ _)) (kt_g1l (g_ra))))))
set_option maxRecDepth 20000 in
theorem kg_44 : kt_gr kX7_run := by
  intro pc
  show kt_g1 (kX7_run pc)
  unfold kX7_run
  exact kt_g1b (kt_g1b (kt_g1b (kt_g1b (kt_g1b (kt_g1l (g_al _ _)) (kt_g1b (kt_g1l (g_il _ _)) (kt_g1l (g_il _ _)))) (kt_g1b (kt_g1l (g_cs _ _ _)) (kt_g1b (kt_g1l (g_is _ _)) (kt_g1l (g_il _ _))))) (kt_g1b (kt_g1b (kt_g1l (g_fle _ _)) (kt_g1b (kt_g1l (g_al _ _)) (kt_g1l (g_cv _ _ _)))) (kt_g1b (kt_g1b (kt_g1l (g_as _ _)) (kt_g1l (g_al _ _))) (kt_g1b (kt_g1l (g_al _ _)) (kt_g1l (g_al _ _)))))) (kt_g1b (kt_g1b (kt_g1b (kt_g1l (g_cv _ _ _)) (kt_g1b (kt_g1l (g_ic _ _)) (kt_g1l (g_cne _ _)))) (kt_g1b (kt_g1l (g_al _ _)) (kt_g1b (kt_g1l (g_al _ _)) (kt_g1l (g_al _ _))))) (kt_g1b (kt_g1b (kt_g1l (g_gf _ _ _)) (kt_g1b (kt_g1l (g_ic _ _)) (kt_g1l (g_ial _)))) (kt_g1b (kt_g1b (kt_g1l (g_cv _ _ _)) (kt_g1l (g_is _ _))) (kt_g1b (kt_g1l (g_al _ _)) (kt_g1l (g_gf _ _ _))))))) (kt_g1b (kt_g1b (kt_g1b (kt_g1b (kt_g1l (g_al _ _)) (kt_g1b (kt_g1l (g_al _ _)) (kt_g1l (g_il _ _)))) (kt_g1b (kt_g1l (g_cv _ _ _)) (kt_g1b (kt_g1l (g_ic _ _)) (kt_g1l (g_is _ _))))) (kt_g1b (kt_g1b (kt_g1l (g_il _ _)) (kt_g1b (kt_g1l (g_al _ _)) (kt_g1l (g_gf _ _ _)))) (kt_g1b (kt_g1b (kt_g1l (g_cge _ _)) (kt_g1l (g_al _ _))) (kt_g1b (kt_g1l (g_gf _ _ _)) (kt_g1l (g_il _ _)))))) (kt_g1b (kt_g1b (kt_g1b (kt_g1l (g_aal _)) (kt_g1b (kt_g1l (g_al _ _)) (kt_g1l (g_al _ _)))) (kt_g1b (kt_g1l (g_il _ _)) (kt_g1b (kt_g1l (g_cv _ _ _)) (kt_g1l (g_inc _ _ _))))) (kt_g1b (kt_g1b (kt_g1l (g_goto _)) (kt_g1b (kt_g1l (g_al _ _)) (kt_g1l (g_il _ _)))) (kt_g1b (kt_g1b (kt_g1l (g_cs _ _ _)) (kt_g1l (g_inc _ _ _))) (kt_g1b (kt_g1l (g_goto _)) (kt_g1l (g_rv)))))))
set_option maxRecDepth 20000 in
theorem kg_45 : kt_gr kX7_lossOf := by
  intro pc
  show kt_g1 (kX7_lossOf pc)
  unfold kX7_lossOf
  exact kt_g1b (kt_g1b (kt_g1l (g_al _ _)) (kt_g1b (kt_g1l (g_gf _ _ _)) (kt_g1l (g_gf _ _ _)))) (kt_g1b (kt_g1b (kt_g1l (g_al _ _)) (kt_g1l (g_gf _ _ _))) (kt_g1b (kt_g1l (g_sub _)) (kt_g1l (g_ri))))
set_option maxRecDepth 20000 in
theorem kg_46 : kt_gr kX7_leastLoss := by
  intro pc
  show kt_g1 (kX7_leastLoss pc)
  unfold kX7_leastLoss
  exact kt_g1b (kt_g1b (kt_g1b (kt_g1b (kt_g1b (kt_g1l (g_ic _ _)) (kt_g1l (g_is _ _))) (kt_g1b (kt_g1l (g_ic _ _)) (kt_g1l (g_is _ _)))) (kt_g1b (kt_g1b (kt_g1l (g_ic _ _)) (kt_g1l (g_is _ _))) (kt_g1b (kt_g1l (g_il _ _)) (kt_g1b (kt_g1l (g_al _ _)) (kt_g1l (g_gf _ _ _)))))) (kt_g1b (kt_g1b (kt_g1b (kt_g1l (g_cge _ _)) (kt_g1l (g_al _ _))) (kt_g1b (kt_g1l (g_al _ _)) (kt_g1b (kt_g1l (g_gf _ _ _)) (kt_g1l (g_il _ _))))) (kt_g1b (kt_g1b (kt_g1l (g_aal _)) (kt_g1l (g_cv _ _ _))) (kt_g1b (kt_g1l (g_is _ _)) (kt_g1b (kt_g1l (g_al _ _)) (kt_g1l (g_gf _ _ _))))))) (kt_g1b (kt_g1b (kt_g1b (kt_g1b (kt_g1l (g_il _ _)) (kt_g1l (g_aal _))) (kt_g1b (kt_g1l (g_gf _ _ _)) (kt_g1l (g_il _ _)))) (kt_g1b (kt_g1b (kt_g1l (g_clt _ _)) (kt_g1l (g_il _ _))) (kt_g1b (kt_g1l (g_ic _ _)) (kt_g1b (kt_g1l (g_ceq _ _)) (kt_g1l (g_il _ _)))))) (kt_g1b (kt_g1b (kt_g1b (kt_g1l (g_il _ _)) (kt_g1l (g_cge _ _))) (kt_g1b (kt_g1l (g_il _ _)) (kt_g1b (kt_g1l (g_is _ _)) (kt_g1l (g_il _ _))))) (kt_g1b (kt_g1b (kt_g1l (g_is _ _)) (kt_g1l (g_inc _ _ _))) (kt_g1b (kt_g1l (g_goto _)) (kt_g1b (kt_g1l (g_il _ _)) (kt_g1l (g_ri)))))))
set_option maxRecDepth 20000 in
theorem kg_47 : kt_gr kX7_countAll := by
  intro pc
  show kt_g1 (kX7_countAll pc)
  unfold kX7_countAll
  exact kt_g1b (kt_g1b (kt_g1b (kt_g1b (kt_g1l (g_ic _ _)) (kt_g1b (kt_g1l (g_is _ _)) (kt_g1l (g_al _ _)))) (kt_g1b (kt_g1l (g_il _ _)) (kt_g1b (kt_g1l (g_il _ _)) (kt_g1l (g_cs _ _ _))))) (kt_g1b (kt_g1b (kt_g1l (g_is _ _)) (kt_g1b (kt_g1l (g_il _ _)) (kt_g1l (g_fle _ _)))) (kt_g1b (kt_g1l (g_al _ _)) (kt_g1b (kt_g1l (g_al _ _)) (kt_g1l (g_al _ _)))))) (kt_g1b (kt_g1b (kt_g1b (kt_g1l (g_cv _ _ _)) (kt_g1b (kt_g1l (g_cv _ _ _)) (kt_g1l (g_ic _ _)))) (kt_g1b (kt_g1l (g_cne _ _)) (kt_g1b (kt_g1l (g_inc _ _ _)) (kt_g1l (g_al _ _))))) (kt_g1b (kt_g1b (kt_g1l (g_il _ _)) (kt_g1b (kt_g1l (g_cs _ _ _)) (kt_g1l (g_inc _ _ _)))) (kt_g1b (kt_g1l (g_goto _)) (kt_g1b (kt_g1l (g_il _ _)) (kt_g1l (g_ri))))))
set_option maxRecDepth 20000 in
theorem kg_48 : kt_gr kX7_countOwing := by
  intro pc
  show kt_g1 (kX7_countOwing pc)
  unfold kX7_countOwing
  exact kt_g1b (kt_g1b (kt_g1b (kt_g1b (kt_g1b (kt_g1l (g_ic _ _)) (kt_g1l (g_is _ _))) (kt_g1b (kt_g1l (g_al _ _)) (kt_g1l (g_il _ _)))) (kt_g1b (kt_g1b (kt_g1l (g_il _ _)) (kt_g1l (g_cs _ _ _))) (kt_g1b (kt_g1l (g_is _ _)) (kt_g1l (g_il _ _))))) (kt_g1b (kt_g1b (kt_g1b (kt_g1l (g_fle _ _)) (kt_g1l (g_al _ _))) (kt_g1b (kt_g1l (g_cv _ _ _)) (kt_g1l (g_as _ _)))) (kt_g1b (kt_g1b (kt_g1l (g_al _ _)) (kt_g1l (g_al _ _))) (kt_g1b (kt_g1l (g_ic _ _)) (kt_g1l (g_cv _ _ _)))))) (kt_g1b (kt_g1b (kt_g1b (kt_g1b (kt_g1l (g_il _ _)) (kt_g1l (g_cne _ _))) (kt_g1b (kt_g1l (g_al _ _)) (kt_g1l (g_al _ _)))) (kt_g1b (kt_g1b (kt_g1l (g_al _ _)) (kt_g1l (g_cv _ _ _))) (kt_g1b (kt_g1l (g_ic _ _)) (kt_g1l (g_cne _ _))))) (kt_g1b (kt_g1b (kt_g1b (kt_g1l (g_inc _ _ _)) (kt_g1l (g_al _ _))) (kt_g1b (kt_g1l (g_il _ _)) (kt_g1l (g_cs _ _ _)))) (kt_g1b (kt_g1b (kt_g1l (g_inc _ _ _)) (kt_g1l (g_goto _))) (kt_g1b (kt_g1l (g_il _ _)) (kt_g1l (g_ri))))))
set_option maxRecDepth 20000 in
theorem kg_49 : kt_gr kX7_firstShape := by
  intro pc
  show kt_g1 (kX7_firstShape pc)
  unfold kX7_firstShape
  exact kt_g1b (kt_g1b (kt_g1b (kt_g1b (kt_g1l (g_al _ _)) (kt_g1b (kt_g1l (g_il _ _)) (kt_g1l (g_pf _ _ _ _)))) (kt_g1b (kt_g1l (g_ic _ _)) (kt_g1b (kt_g1l (g_is _ _)) (kt_g1l (g_ic _ _))))) (kt_g1b (kt_g1b (kt_g1l (g_is _ _)) (kt_g1b (kt_g1l (g_il _ _)) (kt_g1l (g_ic _ _)))) (kt_g1b (kt_g1l (g_il _ _)) (kt_g1b (kt_g1l (g_mul _)) (kt_g1l (g_cge _ _)))))) (kt_g1b (kt_g1b (kt_g1b (kt_g1l (g_al _ _)) (kt_g1b (kt_g1l (g_gf _ _ _)) (kt_g1l (g_il _ _)))) (kt_g1b (kt_g1l (g_ic _ _)) (kt_g1b (kt_g1l (g_ias _)) (kt_g1l (g_il _ _))))) (kt_g1b (kt_g1b (kt_g1l (g_il _ _)) (kt_g1b (kt_g1l (g_mul _)) (kt_g1l (g_is _ _)))) (kt_g1b (kt_g1b (kt_g1l (g_inc _ _ _)) (kt_g1l (g_goto _))) (kt_g1b (kt_g1l (g_il _ _)) (kt_g1l (g_ri))))))
set_option maxRecDepth 20000 in
theorem kg_50 : kt_gr kX7_nextShape := by
  intro pc
  show kt_g1 (kX7_nextShape pc)
  unfold kX7_nextShape
  exact kt_g1b (kt_g1b (kt_g1b (kt_g1b (kt_g1b (kt_g1l (g_ic _ _)) (kt_g1l (g_al _ _))) (kt_g1b (kt_g1l (g_gf _ _ _)) (kt_g1l (g_mul _)))) (kt_g1b (kt_g1b (kt_g1l (g_ic _ _)) (kt_g1l (g_sub _))) (kt_g1b (kt_g1l (g_is _ _)) (kt_g1l (g_il _ _))))) (kt_g1b (kt_g1b (kt_g1b (kt_g1l (g_flt _ _)) (kt_g1l (g_al _ _))) (kt_g1b (kt_g1l (g_gf _ _ _)) (kt_g1l (g_il _ _)))) (kt_g1b (kt_g1b (kt_g1l (g_ial _)) (kt_g1l (g_il _ _))) (kt_g1b (kt_g1l (g_cge _ _)) (kt_g1l (g_al _ _)))))) (kt_g1b (kt_g1b (kt_g1b (kt_g1b (kt_g1l (g_gf _ _ _)) (kt_g1l (g_il _ _))) (kt_g1b (kt_g1l (g_dup2 _)) (kt_g1l (g_ial _)))) (kt_g1b (kt_g1b (kt_g1l (g_ic _ _)) (kt_g1l (g_add _))) (kt_g1b (kt_g1l (g_ias _)) (kt_g1l (g_rv))))) (kt_g1b (kt_g1b (kt_g1b (kt_g1l (g_al _ _)) (kt_g1l (g_gf _ _ _))) (kt_g1b (kt_g1l (g_il _ _)) (kt_g1l (g_ic _ _)))) (kt_g1b (kt_g1b (kt_g1l (g_ias _)) (kt_g1l (g_inc _ _ _))) (kt_g1b (kt_g1l (g_goto _)) (kt_g1l (g_rv))))))
set_option maxRecDepth 20000 in
theorem kg_51 : kt_gr kX8_init := by
  intro pc
  show kt_g1 (kX8_init pc)
  unfold kX8_init
  exact kt_g1b (kt_g1b (kt_g1b (kt_g1b (kt_g1l (g_al _ _)) (kt_g1l (g_obj _))) (kt_g1b (kt_g1l (g_al _ _)) (kt_g1l (g_ic _ _)))) (kt_g1b (kt_g1b (kt_g1l (g_nai _)) (kt_g1l (g_pf _ _ _ _))) (kt_g1b (kt_g1l (g_al _ _)) (kt_g1l (g_ic _ _))))) (kt_g1b (kt_g1b (kt_g1b (kt_g1l (g_pf _ _ _ _)) (kt_g1l (g_al _ _))) (kt_g1b (kt_g1l (g_ic _ _)) (kt_g1l (g_pf _ _ _ _)))) (kt_g1b (kt_g1b (kt_g1l (g_al _ _)) (kt_g1l (g_ic _ _))) (kt_g1b (kt_g1l (g_pf _ _ _ _)) (kt_g1l (g_rv)))))
set_option maxRecDepth 20000 in
theorem kg_52 : kt_gr kX8_begin := by
  intro pc
  show kt_g1 (kX8_begin pc)
  unfold kX8_begin
  exact kt_g1b (kt_g1b (kt_g1b (kt_g1b (kt_g1l (g_al _ _)) (kt_g1l (g_ic _ _))) (kt_g1b (kt_g1l (g_pf _ _ _ _)) (kt_g1b (kt_g1l (g_al _ _)) (kt_g1l (g_il _ _))))) (kt_g1b (kt_g1b (kt_g1l (g_pf _ _ _ _)) (kt_g1b (kt_g1l (g_al _ _)) (kt_g1l (g_il _ _)))) (kt_g1b (kt_g1l (g_pf _ _ _ _)) (kt_g1b (kt_g1l (g_ic _ _)) (kt_g1l (g_is _ _)))))) (kt_g1b (kt_g1b (kt_g1b (kt_g1l (g_il _ _)) (kt_g1l (g_il _ _))) (kt_g1b (kt_g1l (g_cge _ _)) (kt_g1b (kt_g1l (g_al _ _)) (kt_g1l (g_gf _ _ _))))) (kt_g1b (kt_g1b (kt_g1l (g_il _ _)) (kt_g1b (kt_g1l (g_ic _ _)) (kt_g1l (g_ias _)))) (kt_g1b (kt_g1l (g_inc _ _ _)) (kt_g1b (kt_g1l (g_goto _)) (kt_g1l (g_rv))))))
set_option maxRecDepth 20000 in
theorem kg_53 : kt_gr kX8_store := by
  intro pc
  show kt_g1 (kX8_store pc)
  unfold kX8_store
  exact kt_g1b (kt_g1b (kt_g1b (kt_g1b (kt_g1l (g_al _ _)) (kt_g1b (kt_g1l (g_gf _ _ _)) (kt_g1l (g_fne _ _)))) (kt_g1b (kt_g1l (g_al _ _)) (kt_g1b (kt_g1l (g_gf _ _ _)) (kt_g1l (g_il _ _))))) (kt_g1b (kt_g1b (kt_g1l (g_il _ _)) (kt_g1b (kt_g1l (g_i2b _)) (kt_g1l (g_ias _)))) (kt_g1b (kt_g1b (kt_g1l (g_goto _)) (kt_g1l (g_al _ _))) (kt_g1b (kt_g1l (g_gf _ _ _)) (kt_g1l (g_ic _ _)))))) (kt_g1b (kt_g1b (kt_g1b (kt_g1l (g_cne _ _)) (kt_g1b (kt_g1l (g_al _ _)) (kt_g1l (g_gf _ _ _)))) (kt_g1b (kt_g1b (kt_g1l (g_il _ _)) (kt_g1l (g_il _ _))) (kt_g1b (kt_g1l (g_i2s _)) (kt_g1l (g_ias _))))) (kt_g1b (kt_g1b (kt_g1l (g_goto _)) (kt_g1b (kt_g1l (g_al _ _)) (kt_g1l (g_gf _ _ _)))) (kt_g1b (kt_g1b (kt_g1l (g_il _ _)) (kt_g1l (g_il _ _))) (kt_g1b (kt_g1l (g_ias _)) (kt_g1l (g_rv))))))
set_option maxRecDepth 20000 in
theorem kg_54 : kt_gr kX8_hasCells := by
  intro pc
  show kt_g1 (kX8_hasCells pc)
  unfold kX8_hasCells
  exact kt_g1b (kt_g1b (kt_g1b (kt_g1b (kt_g1l (g_il _ _)) (kt_g1l (g_flt _ _))) (kt_g1b (kt_g1l (g_il _ _)) (kt_g1b (kt_g1l (g_al _ _)) (kt_g1l (g_gf _ _ _))))) (kt_g1b (kt_g1b (kt_g1l (g_cgt _ _)) (kt_g1b (kt_g1l (g_ll _ _)) (kt_g1l (g_lc _ _)))) (kt_g1b (kt_g1l (g_lcmp _)) (kt_g1b (kt_g1l (g_flt _ _)) (kt_g1l (g_ll _ _)))))) (kt_g1b (kt_g1b (kt_g1b (kt_g1l (g_al _ _)) (kt_g1l (g_gf _ _ _))) (kt_g1b (kt_g1l (g_il _ _)) (kt_g1b (kt_g1l (g_sub _)) (kt_g1l (g_i2l _))))) (kt_g1b (kt_g1b (kt_g1l (g_lcmp _)) (kt_g1b (kt_g1l (g_fgt _ _)) (kt_g1l (g_ic _ _)))) (kt_g1b (kt_g1l (g_goto _)) (kt_g1b (kt_g1l (g_ic _ _)) (kt_g1l (g_rz))))))
set_option maxRecDepth 20000 in
theorem kg_55 : kt_gr kX8_faultOfCells := by
  intro pc
  show kt_g1 (kX8_faultOfCells pc)
  unfold kX8_faultOfCells
  exact kt_g1b (kt_g1b (kt_g1b (kt_g1b (kt_g1l (g_al _ _)) (kt_g1b (kt_g1l (g_gf _ _ _)) (kt_g1l (g_feq _ _)))) (kt_g1b (kt_g1b (kt_g1l (g_al _ _)) (kt_g1l (g_gf _ _ _))) (kt_g1b (kt_g1l (g_il _ _)) (kt_g1l (g_ceq _ _))))) (kt_g1b (kt_g1b (kt_g1b (kt_g1l (g_ic _ _)) (kt_g1l (g_ri))) (kt_g1b (kt_g1l (g_al _ _)) (kt_g1l (g_gf _ _ _)))) (kt_g1b (kt_g1b (kt_g1l (g_fne _ _)) (kt_g1l (g_ic _ _))) (kt_g1b (kt_g1l (g_ri)) (kt_g1l (g_il _ _)))))) (kt_g1b (kt_g1b (kt_g1b (kt_g1b (kt_g1l (g_fge _ _)) (kt_g1l (g_ic _ _))) (kt_g1b (kt_g1l (g_ri)) (kt_g1l (g_al _ _)))) (kt_g1b (kt_g1b (kt_g1l (g_il _ _)) (kt_g1l (g_il _ _))) (kt_g1b (kt_g1l (g_i2l _)) (kt_g1l (g_il _ _))))) (kt_g1b (kt_g1b (kt_g1b (kt_g1l (g_i2l _)) (kt_g1l (g_lmul _))) (kt_g1b (kt_g1l (g_cv _ _ _)) (kt_g1l (g_feq _ _)))) (kt_g1b (kt_g1b (kt_g1l (g_ic _ _)) (kt_g1l (g_goto _))) (kt_g1b (kt_g1l (g_ic _ _)) (kt_g1l (g_ri))))))
set_option maxRecDepth 20000 in
theorem kg_56 : kt_gr kX8_hasOnlyParts := by
  intro pc
  show kt_g1 (kX8_hasOnlyParts pc)
  unfold kX8_hasOnlyParts
  exact kt_g1b (kt_g1b (kt_g1b (kt_g1b (kt_g1l (g_il _ _)) (kt_g1l (g_is _ _))) (kt_g1b (kt_g1l (g_il _ _)) (kt_g1l (g_il _ _)))) (kt_g1b (kt_g1b (kt_g1l (g_il _ _)) (kt_g1l (g_add _))) (kt_g1b (kt_g1l (g_cge _ _)) (kt_g1b (kt_g1l (g_al _ _)) (kt_g1l (g_gf _ _ _)))))) (kt_g1b (kt_g1b (kt_g1b (kt_g1l (g_il _ _)) (kt_g1l (g_ial _))) (kt_g1b (kt_g1l (g_cs _ _ _)) (kt_g1b (kt_g1l (g_fne _ _)) (kt_g1l (g_ic _ _))))) (kt_g1b (kt_g1b (kt_g1l (g_rz)) (kt_g1l (g_inc _ _ _))) (kt_g1b (kt_g1l (g_goto _)) (kt_g1b (kt_g1l (g_ic _ _)) (kt_g1l (g_rz))))))
set_option maxRecDepth 20000 in
theorem kg_57 : kt_gr kX9_init := by
  intro pc
  show kt_g1 (kX9_init pc)
  unfold kX9_init
  exact kt_g1b (kt_g1b (kt_g1l (g_al _ _)) (kt_g1b (kt_g1l (g_obj _)) (kt_g1l (g_al _ _)))) (kt_g1b (kt_g1l (g_ic _ _)) (kt_g1b (kt_g1l (g_pf _ _ _ _)) (kt_g1l (g_rv))))
set_option maxRecDepth 20000 in
theorem kg_58 : kt_gr kX9_leave := by
  intro pc
  show kt_g1 (kX9_leave pc)
  unfold kX9_leave
  exact kt_g1b (kt_g1b (kt_g1b (kt_g1l (g_al _ _)) (kt_g1l (g_ic _ _))) (kt_g1b (kt_g1l (g_al _ _)) (kt_g1l (g_gf _ _ _)))) (kt_g1b (kt_g1b (kt_g1l (g_mul _)) (kt_g1l (g_il _ _))) (kt_g1b (kt_g1l (g_add _)) (kt_g1b (kt_g1l (g_pf _ _ _ _)) (kt_g1l (g_rv)))))
set_option maxRecDepth 20000 in
theorem kg_59 : kt_gr kX10_init := by
  intro pc
  show kt_g1 (kX10_init pc)
  unfold kX10_init
  exact kt_g1b (kt_g1b (kt_g1b (kt_g1b (kt_g1l (g_al _ _)) (kt_g1l (g_obj _))) (kt_g1b (kt_g1l (g_al _ _)) (kt_g1l (g_ic _ _)))) (kt_g1b (kt_g1b (kt_g1l (g_pf _ _ _ _)) (kt_g1l (g_al _ _))) (kt_g1b (kt_g1l (g_ic _ _)) (kt_g1b (kt_g1l (g_nai _)) (kt_g1l (g_pf _ _ _ _)))))) (kt_g1b (kt_g1b (kt_g1b (kt_g1l (g_al _ _)) (kt_g1l (g_ic _ _))) (kt_g1b (kt_g1l (g_pf _ _ _ _)) (kt_g1b (kt_g1l (g_al _ _)) (kt_g1l (g_ic _ _))))) (kt_g1b (kt_g1b (kt_g1l (g_pf _ _ _ _)) (kt_g1l (g_al _ _))) (kt_g1b (kt_g1l (g_ic _ _)) (kt_g1b (kt_g1l (g_pf _ _ _ _)) (kt_g1l (g_rv))))))
set_option maxRecDepth 20000 in
theorem kg_60 : kt_gr kX10_clear := by
  intro pc
  show kt_g1 (kX10_clear pc)
  unfold kX10_clear
  exact kt_g1b (kt_g1b (kt_g1b (kt_g1l (g_al _ _)) (kt_g1b (kt_g1l (g_ic _ _)) (kt_g1l (g_pf _ _ _ _)))) (kt_g1b (kt_g1l (g_al _ _)) (kt_g1b (kt_g1l (g_ic _ _)) (kt_g1l (g_pf _ _ _ _))))) (kt_g1b (kt_g1b (kt_g1l (g_al _ _)) (kt_g1b (kt_g1l (g_ic _ _)) (kt_g1l (g_pf _ _ _ _)))) (kt_g1b (kt_g1b (kt_g1l (g_al _ _)) (kt_g1l (g_ic _ _))) (kt_g1b (kt_g1l (g_pf _ _ _ _)) (kt_g1l (g_rv)))))
set_option maxRecDepth 20000 in
theorem kg_61 : kt_gr kX10_addNumber := by
  intro pc
  show kt_g1 (kX10_addNumber pc)
  unfold kX10_addNumber
  exact kt_g1b (kt_g1b (kt_g1l (g_al _ _)) (kt_g1b (kt_g1l (g_dup _)) (kt_g1l (g_gf _ _ _)))) (kt_g1b (kt_g1b (kt_g1l (g_il _ _)) (kt_g1l (g_mul _))) (kt_g1b (kt_g1l (g_pf _ _ _ _)) (kt_g1l (g_rv))))
set_option maxRecDepth 20000 in
theorem kg_62 : kt_gr kX10_addLetter := by
  intro pc
  show kt_g1 (kX10_addLetter pc)
  unfold kX10_addLetter
  exact kt_g1b (kt_g1b (kt_g1b (kt_g1b (kt_g1l (g_al _ _)) (kt_g1l (g_gf _ _ _))) (kt_g1b (kt_g1l (g_al _ _)) (kt_g1l (g_gf _ _ _)))) (kt_g1b (kt_g1b (kt_g1l (g_len _)) (kt_g1l (g_cge _ _))) (kt_g1b (kt_g1l (g_al _ _)) (kt_g1b (kt_g1l (g_gf _ _ _)) (kt_g1l (g_al _ _)))))) (kt_g1b (kt_g1b (kt_g1b (kt_g1l (g_gf _ _ _)) (kt_g1l (g_il _ _))) (kt_g1b (kt_g1l (g_ias _)) (kt_g1b (kt_g1l (g_al _ _)) (kt_g1l (g_dup _))))) (kt_g1b (kt_g1b (kt_g1l (g_gf _ _ _)) (kt_g1l (g_ic _ _))) (kt_g1b (kt_g1l (g_add _)) (kt_g1b (kt_g1l (g_pf _ _ _ _)) (kt_g1l (g_rv))))))
set_option maxRecDepth 20000 in
theorem kg_63 : kt_gr kX10_makes := by
  intro pc
  show kt_g1 (kX10_makes pc)
  unfold kX10_makes
  exact kt_g1b (kt_g1b (kt_g1b (kt_g1b (kt_g1b (kt_g1l (g_al _ _)) (kt_g1l (g_gf _ _ _))) (kt_g1b (kt_g1l (g_is _ _)) (kt_g1l (g_ic _ _)))) (kt_g1b (kt_g1b (kt_g1l (g_is _ _)) (kt_g1l (g_il _ _))) (kt_g1b (kt_g1l (g_al _ _)) (kt_g1b (kt_g1l (g_gf _ _ _)) (kt_g1l (g_cge _ _)))))) (kt_g1b (kt_g1b (kt_g1b (kt_g1l (g_il _ _)) (kt_g1l (g_al _ _))) (kt_g1b (kt_g1l (g_al _ _)) (kt_g1b (kt_g1l (g_gf _ _ _)) (kt_g1l (g_il _ _))))) (kt_g1b (kt_g1b (kt_g1l (g_ial _)) (kt_g1l (g_ial _))) (kt_g1b (kt_g1l (g_mul _)) (kt_g1b (kt_g1l (g_is _ _)) (kt_g1l (g_inc _ _ _))))))) (kt_g1b (kt_g1b (kt_g1b (kt_g1b (kt_g1l (g_goto _)) (kt_g1l (g_al _ _))) (kt_g1b (kt_g1l (g_gf _ _ _)) (kt_g1l (g_ic _ _)))) (kt_g1b (kt_g1b (kt_g1l (g_cle _ _)) (kt_g1l (g_il _ _))) (kt_g1b (kt_g1l (g_al _ _)) (kt_g1b (kt_g1l (g_gf _ _ _)) (kt_g1l (g_div _)))))) (kt_g1b (kt_g1b (kt_g1b (kt_g1l (g_is _ _)) (kt_g1l (g_il _ _))) (kt_g1b (kt_g1l (g_al _ _)) (kt_g1b (kt_g1l (g_gf _ _ _)) (kt_g1l (g_cge _ _))))) (kt_g1b (kt_g1b (kt_g1l (g_il _ _)) (kt_g1l (g_goto _))) (kt_g1b (kt_g1l (g_al _ _)) (kt_g1b (kt_g1l (g_gf _ _ _)) (kt_g1l (g_ri)))))))
set_option maxRecDepth 20000 in
theorem kg_64 : kt_gr kX11_init := by
  intro pc
  show kt_g1 (kX11_init pc)
  unfold kX11_init
  exact kt_g1b (kt_g1b (kt_g1b (kt_g1b (kt_g1b (kt_g1b (kt_g1l (g_al _ _)) (kt_g1b (kt_g1l (g_obj _)) (kt_g1l (g_al _ _)))) (kt_g1b (kt_g1l (g_ic _ _)) (kt_g1b (kt_g1l (g_naq _ _)) (kt_g1l (g_pf _ _ _ _))))) (kt_g1b (kt_g1b (kt_g1l (g_al _ _)) (kt_g1b (kt_g1l (g_ic _ _)) (kt_g1l (g_pf _ _ _ _)))) (kt_g1b (kt_g1l (g_al _ _)) (kt_g1b (kt_g1l (g_ic _ _)) (kt_g1l (g_naq _ _)))))) (kt_g1b (kt_g1b (kt_g1b (kt_g1l (g_pf _ _ _ _)) (kt_g1b (kt_g1l (g_al _ _)) (kt_g1l (g_ic _ _)))) (kt_g1b (kt_g1l (g_pf _ _ _ _)) (kt_g1b (kt_g1l (g_al _ _)) (kt_g1l (g_ic _ _))))) (kt_g1b (kt_g1b (kt_g1l (g_naq _ _)) (kt_g1b (kt_g1l (g_pf _ _ _ _)) (kt_g1l (g_al _ _)))) (kt_g1b (kt_g1b (kt_g1l (g_new _ _ _)) (kt_g1l (g_dup _))) (kt_g1b (kt_g1l (g_ci _ _ _)) (kt_g1l (g_pf _ _ _ _))))))) (kt_g1b (kt_g1b (kt_g1b (kt_g1b (kt_g1l (g_al _ _)) (kt_g1b (kt_g1l (g_ic _ _)) (kt_g1l (g_naq _ _)))) (kt_g1b (kt_g1l (g_dup _)) (kt_g1b (kt_g1l (g_ic _ _)) (kt_g1l (g_new _ _ _))))) (kt_g1b (kt_g1b (kt_g1l (g_dup _)) (kt_g1b (kt_g1l (g_ic _ _)) (kt_g1l (g_ci _ _ _)))) (kt_g1b (kt_g1l (g_aas _)) (kt_g1b (kt_g1l (g_dup _)) (kt_g1l (g_ic _ _)))))) (kt_g1b (kt_g1b (kt_g1b (kt_g1l (g_new _ _ _)) (kt_g1b (kt_g1l (g_dup _)) (kt_g1l (g_ic _ _)))) (kt_g1b (kt_g1l (g_ci _ _ _)) (kt_g1b (kt_g1l (g_aas _)) (kt_g1l (g_dup _))))) (kt_g1b (kt_g1b (kt_g1l (g_ic _ _)) (kt_g1b (kt_g1l (g_new _ _ _)) (kt_g1l (g_dup _)))) (kt_g1b (kt_g1b (kt_g1l (g_ic _ _)) (kt_g1l (g_ci _ _ _))) (kt_g1b (kt_g1l (g_aas _)) (kt_g1l (g_pf _ _ _ _)))))))) (kt_g1b (kt_g1b (kt_g1b (kt_g1b (kt_g1b (kt_g1l (g_al _ _)) (kt_g1b (kt_g1l (g_new _ _ _)) (kt_g1l (g_dup _)))) (kt_g1b (kt_g1l (g_ci _ _ _)) (kt_g1b (kt_g1l (g_pf _ _ _ _)) (kt_g1l (g_al _ _))))) (kt_g1b (kt_g1b (kt_g1l (g_new _ _ _)) (kt_g1b (kt_g1l (g_dup _)) (kt_g1l (g_ci _ _ _)))) (kt_g1b (kt_g1l (g_pf _ _ _ _)) (kt_g1b (kt_g1l (g_al _ _)) (kt_g1l (g_new _ _ _)))))) (kt_g1b (kt_g1b (kt_g1b (kt_g1l (g_dup _)) (kt_g1b (kt_g1l (g_ci _ _ _)) (kt_g1l (g_pf _ _ _ _)))) (kt_g1b (kt_g1l (g_al _ _)) (kt_g1b (kt_g1l (g_ic _ _)) (kt_g1l (g_pf _ _ _ _))))) (kt_g1b (kt_g1b (kt_g1l (g_ic _ _)) (kt_g1b (kt_g1l (g_is _ _)) (kt_g1l (g_il _ _)))) (kt_g1b (kt_g1b (kt_g1l (g_al _ _)) (kt_g1l (g_gf _ _ _))) (kt_g1b (kt_g1l (g_len _)) (kt_g1l (g_cge _ _))))))) (kt_g1b (kt_g1b (kt_g1b (kt_g1b (kt_g1l (g_al _ _)) (kt_g1b (kt_g1l (g_gf _ _ _)) (kt_g1l (g_il _ _)))) (kt_g1b (kt_g1l (g_new _ _ _)) (kt_g1b (kt_g1l (g_dup _)) (kt_g1l (g_ci _ _ _))))) (kt_g1b (kt_g1b (kt_g1l (g_aas _)) (kt_g1b (kt_g1l (g_inc _ _ _)) (kt_g1l (g_goto _)))) (kt_g1b (kt_g1b (kt_g1l (g_ic _ _)) (kt_g1l (g_is _ _))) (kt_g1b (kt_g1l (g_il _ _)) (kt_g1l (g_al _ _)))))) (kt_g1b (kt_g1b (kt_g1b (kt_g1l (g_gf _ _ _)) (kt_g1b (kt_g1l (g_len _)) (kt_g1l (g_cge _ _)))) (kt_g1b (kt_g1l (g_al _ _)) (kt_g1b (kt_g1l (g_gf _ _ _)) (kt_g1l (g_il _ _))))) (kt_g1b (kt_g1b (kt_g1l (g_new _ _ _)) (kt_g1b (kt_g1l (g_dup _)) (kt_g1l (g_ci _ _ _)))) (kt_g1b (kt_g1b (kt_g1l (g_aas _)) (kt_g1l (g_inc _ _ _))) (kt_g1b (kt_g1l (g_goto _)) (kt_g1l (g_rv))))))))
set_option maxRecDepth 20000 in
theorem kg_65 : kt_gr kX11_hull := by
  intro pc
  show kt_g1 (kX11_hull pc)
  unfold kX11_hull
  exact kt_g1b (kt_g1b (kt_g1b (kt_g1b (kt_g1b (kt_g1b (kt_g1l (g_al _ _)) (kt_g1l (g_ic _ _))) (kt_g1b (kt_g1l (g_pf _ _ _ _)) (kt_g1b (kt_g1l (g_al _ _)) (kt_g1l (g_il _ _))))) (kt_g1b (kt_g1b (kt_g1l (g_cv _ _ _)) (kt_g1l (g_as _ _))) (kt_g1b (kt_g1l (g_al _ _)) (kt_g1b (kt_g1l (g_fnn _ _)) (kt_g1l (g_ic _ _)))))) (kt_g1b (kt_g1b (kt_g1b (kt_g1l (g_ri)) (kt_g1l (g_il _ _))) (kt_g1b (kt_g1l (g_cs _ _ _)) (kt_g1b (kt_g1l (g_feq _ _)) (kt_g1l (g_il _ _))))) (kt_g1b (kt_g1b (kt_g1l (g_cs _ _ _)) (kt_g1l (g_fne _ _))) (kt_g1b (kt_g1l (g_ic _ _)) (kt_g1b (kt_g1l (g_ri)) (kt_g1l (g_al _ _))))))) (kt_g1b (kt_g1b (kt_g1b (kt_g1b (kt_g1l (g_il _ _)) (kt_g1l (g_il _ _))) (kt_g1b (kt_g1l (g_il _ _)) (kt_g1b (kt_g1l (g_ic _ _)) (kt_g1l (g_cv _ _ _))))) (kt_g1b (kt_g1b (kt_g1l (g_is _ _)) (kt_g1l (g_il _ _))) (kt_g1b (kt_g1l (g_feq _ _)) (kt_g1b (kt_g1l (g_al _ _)) (kt_g1l (g_il _ _)))))) (kt_g1b (kt_g1b (kt_g1b (kt_g1l (g_cv _ _ _)) (kt_g1l (g_ri))) (kt_g1b (kt_g1l (g_il _ _)) (kt_g1b (kt_g1l (g_ic _ _)) (kt_g1l (g_clt _ _))))) (kt_g1b (kt_g1b (kt_g1l (g_il _ _)) (kt_g1l (g_ic _ _))) (kt_g1b (kt_g1l (g_cgt _ _)) (kt_g1b (kt_g1l (g_al _ _)) (kt_g1l (g_il _ _)))))))) (kt_g1b (kt_g1b (kt_g1b (kt_g1b (kt_g1b (kt_g1l (g_ic _ _)) (kt_g1l (g_il _ _))) (kt_g1b (kt_g1l (g_mul _)) (kt_g1b (kt_g1l (g_cv _ _ _)) (kt_g1l (g_fne _ _))))) (kt_g1b (kt_g1b (kt_g1l (g_ic _ _)) (kt_g1l (g_ri))) (kt_g1b (kt_g1l (g_al _ _)) (kt_g1b (kt_g1l (g_gf _ _ _)) (kt_g1l (g_ic _ _)))))) (kt_g1b (kt_g1b (kt_g1b (kt_g1l (g_clt _ _)) (kt_g1l (g_ic _ _))) (kt_g1b (kt_g1l (g_ri)) (kt_g1b (kt_g1l (g_il _ _)) (kt_g1l (g_al _ _))))) (kt_g1b (kt_g1b (kt_g1l (g_gf _ _ _)) (kt_g1l (g_cs _ _ _))) (kt_g1b (kt_g1l (g_as _ _)) (kt_g1b (kt_g1l (g_al _ _)) (kt_g1l (g_al _ _))))))) (kt_g1b (kt_g1b (kt_g1b (kt_g1b (kt_g1l (g_gf _ _ _)) (kt_g1l (g_il _ _))) (kt_g1b (kt_g1l (g_il _ _)) (kt_g1b (kt_g1l (g_cv _ _ _)) (kt_g1l (g_al _ _))))) (kt_g1b (kt_g1b (kt_g1l (g_gf _ _ _)) (kt_g1l (g_al _ _))) (kt_g1b (kt_g1l (g_gf _ _ _)) (kt_g1b (kt_g1l (g_al _ _)) (kt_g1l (g_aas _)))))) (kt_g1b (kt_g1b (kt_g1b (kt_g1l (g_al _ _)) (kt_g1l (g_dup _))) (kt_g1b (kt_g1l (g_gf _ _ _)) (kt_g1b (kt_g1l (g_ic _ _)) (kt_g1l (g_add _))))) (kt_g1b (kt_g1b (kt_g1l (g_pf _ _ _ _)) (kt_g1b (kt_g1l (g_al _ _)) (kt_g1l (g_gf _ _ _)))) (kt_g1b (kt_g1l (g_ic _ _)) (kt_g1b (kt_g1l (g_sub _)) (kt_g1l (g_ri))))))))
set_option maxRecDepth 20000 in
theorem kg_66 : kt_gr kX11_ofHull := by
  intro pc
  show kt_g1 (kX11_ofHull pc)
  unfold kX11_ofHull
  exact kt_g1b (kt_g1b (kt_g1b (kt_g1b (kt_g1b (kt_g1l (g_al _ _)) (kt_g1l (g_il _ _))) (kt_g1b (kt_g1l (g_cv _ _ _)) (kt_g1l (g_as _ _)))) (kt_g1b (kt_g1b (kt_g1l (g_al _ _)) (kt_g1l (g_fnn _ _))) (kt_g1b (kt_g1l (g_ic _ _)) (kt_g1b (kt_g1l (g_ri)) (kt_g1l (g_il _ _)))))) (kt_g1b (kt_g1b (kt_g1b (kt_g1l (g_flt _ _)) (kt_g1l (g_il _ _))) (kt_g1b (kt_g1l (g_ic _ _)) (kt_g1l (g_cle _ _)))) (kt_g1b (kt_g1b (kt_g1l (g_ic _ _)) (kt_g1l (g_ri))) (kt_g1b (kt_g1l (g_il _ _)) (kt_g1b (kt_g1l (g_ic _ _)) (kt_g1l (g_cne _ _))))))) (kt_g1b (kt_g1b (kt_g1b (kt_g1b (kt_g1l (g_al _ _)) (kt_g1l (g_cv _ _ _))) (kt_g1b (kt_g1l (g_ri)) (kt_g1l (g_al _ _)))) (kt_g1b (kt_g1b (kt_g1l (g_cv _ _ _)) (kt_g1l (g_as _ _))) (kt_g1b (kt_g1l (g_il _ _)) (kt_g1b (kt_g1l (g_ic _ _)) (kt_g1l (g_cne _ _)))))) (kt_g1b (kt_g1b (kt_g1b (kt_g1l (g_al _ _)) (kt_g1l (g_gf _ _ _))) (kt_g1b (kt_g1l (g_al _ _)) (kt_g1l (g_cv _ _ _)))) (kt_g1b (kt_g1b (kt_g1l (g_goto _)) (kt_g1l (g_al _ _))) (kt_g1b (kt_g1l (g_il _ _)) (kt_g1b (kt_g1l (g_ial _)) (kt_g1l (g_ri)))))))
set_option maxRecDepth 20000 in
theorem kg_67 : kt_gr kX11_station := by
  intro pc
  show kt_g1 (kX11_station pc)
  unfold kX11_station
  exact kt_g1b (kt_g1b (kt_g1b (kt_g1b (kt_g1l (g_al _ _)) (kt_g1b (kt_g1l (g_il _ _)) (kt_g1l (g_cv _ _ _)))) (kt_g1b (kt_g1b (kt_g1l (g_as _ _)) (kt_g1l (g_al _ _))) (kt_g1b (kt_g1l (g_fnul _ _)) (kt_g1l (g_al _ _))))) (kt_g1b (kt_g1b (kt_g1l (g_il _ _)) (kt_g1b (kt_g1l (g_cv _ _ _)) (kt_g1l (g_fne _ _)))) (kt_g1b (kt_g1b (kt_g1l (g_ic _ _)) (kt_g1l (g_ri))) (kt_g1b (kt_g1l (g_il _ _)) (kt_g1l (g_flt _ _)))))) (kt_g1b (kt_g1b (kt_g1b (kt_g1l (g_il _ _)) (kt_g1b (kt_g1l (g_ic _ _)) (kt_g1l (g_cle _ _)))) (kt_g1b (kt_g1b (kt_g1l (g_ic _ _)) (kt_g1l (g_ri))) (kt_g1b (kt_g1l (g_al _ _)) (kt_g1l (g_gf _ _ _))))) (kt_g1b (kt_g1b (kt_g1l (g_ic _ _)) (kt_g1b (kt_g1l (g_il _ _)) (kt_g1l (g_mul _)))) (kt_g1b (kt_g1b (kt_g1l (g_il _ _)) (kt_g1l (g_add _))) (kt_g1b (kt_g1l (g_ial _)) (kt_g1l (g_ri))))))
set_option maxRecDepth 20000 in
theorem kg_68 : kt_gr kX11_build := by
  intro pc
  show kt_g1 (kX11_build pc)
  unfold kX11_build
  exact kt_g1b (kt_g1b (kt_g1b (kt_g1b (kt_g1b (kt_g1l (g_al _ _)) (kt_g1l (g_il _ _))) (kt_g1b (kt_g1l (g_cv _ _ _)) (kt_g1b (kt_g1l (g_as _ _)) (kt_g1l (g_al _ _))))) (kt_g1b (kt_g1b (kt_g1l (g_fnul _ _)) (kt_g1l (g_al _ _))) (kt_g1b (kt_g1l (g_il _ _)) (kt_g1b (kt_g1l (g_cv _ _ _)) (kt_g1l (g_fne _ _)))))) (kt_g1b (kt_g1b (kt_g1b (kt_g1l (g_ic _ _)) (kt_g1l (g_ri))) (kt_g1b (kt_g1l (g_il _ _)) (kt_g1b (kt_g1l (g_flt _ _)) (kt_g1l (g_il _ _))))) (kt_g1b (kt_g1b (kt_g1l (g_ic _ _)) (kt_g1b (kt_g1l (g_cgt _ _)) (kt_g1l (g_il _ _)))) (kt_g1b (kt_g1l (g_cs _ _ _)) (kt_g1b (kt_g1l (g_fne _ _)) (kt_g1l (g_ic _ _))))))) (kt_g1b (kt_g1b (kt_g1b (kt_g1b (kt_g1l (g_ri)) (kt_g1l (g_al _ _))) (kt_g1b (kt_g1l (g_gf _ _ _)) (kt_g1b (kt_g1l (g_ic _ _)) (kt_g1l (g_il _ _))))) (kt_g1b (kt_g1b (kt_g1l (g_mul _)) (kt_g1l (g_il _ _))) (kt_g1b (kt_g1l (g_add _)) (kt_g1b (kt_g1l (g_ial _)) (kt_g1l (g_is _ _)))))) (kt_g1b (kt_g1b (kt_g1b (kt_g1l (g_al _ _)) (kt_g1l (g_gf _ _ _))) (kt_g1b (kt_g1l (g_ic _ _)) (kt_g1b (kt_g1l (g_il _ _)) (kt_g1l (g_mul _))))) (kt_g1b (kt_g1b (kt_g1l (g_il _ _)) (kt_g1b (kt_g1l (g_add _)) (kt_g1l (g_il _ _)))) (kt_g1b (kt_g1l (g_ias _)) (kt_g1b (kt_g1l (g_il _ _)) (kt_g1l (g_ri)))))))
set_option maxRecDepth 20000 in
theorem kg_69 : kt_gr kX11_law := by
  intro pc
  show kt_g1 (kX11_law pc)
  unfold kX11_law
  exact kt_g1b (kt_g1b (kt_g1b (kt_g1b (kt_g1b (kt_g1b (kt_g1l (g_al _ _)) (kt_g1l (g_ic _ _))) (kt_g1b (kt_g1l (g_pf _ _ _ _)) (kt_g1l (g_al _ _)))) (kt_g1b (kt_g1b (kt_g1l (g_il _ _)) (kt_g1l (g_cv _ _ _))) (kt_g1b (kt_g1l (g_as _ _)) (kt_g1l (g_al _ _))))) (kt_g1b (kt_g1b (kt_g1b (kt_g1l (g_fnn _ _)) (kt_g1l (g_ic _ _))) (kt_g1b (kt_g1l (g_ri)) (kt_g1l (g_il _ _)))) (kt_g1b (kt_g1b (kt_g1l (g_cs _ _ _)) (kt_g1l (g_fne _ _))) (kt_g1b (kt_g1l (g_ic _ _)) (kt_g1l (g_ri)))))) (kt_g1b (kt_g1b (kt_g1b (kt_g1b (kt_g1l (g_al _ _)) (kt_g1l (g_il _ _))) (kt_g1b (kt_g1l (g_il _ _)) (kt_g1l (g_il _ _)))) (kt_g1b (kt_g1b (kt_g1l (g_ic _ _)) (kt_g1l (g_cv _ _ _))) (kt_g1b (kt_g1l (g_is _ _)) (kt_g1l (g_il _ _))))) (kt_g1b (kt_g1b (kt_g1b (kt_g1l (g_feq _ _)) (kt_g1l (g_al _ _))) (kt_g1b (kt_g1l (g_il _ _)) (kt_g1l (g_cv _ _ _)))) (kt_g1b (kt_g1b (kt_g1l (g_ri)) (kt_g1l (g_al _ _))) (kt_g1b (kt_g1l (g_gf _ _ _)) (kt_g1l (g_al _ _))))))) (kt_g1b (kt_g1b (kt_g1b (kt_g1b (kt_g1b (kt_g1l (g_il _ _)) (kt_g1l (g_il _ _))) (kt_g1b (kt_g1l (g_al _ _)) (kt_g1l (g_gf _ _ _)))) (kt_g1b (kt_g1b (kt_g1l (g_al _ _)) (kt_g1l (g_gf _ _ _))) (kt_g1b (kt_g1l (g_aal _)) (kt_g1l (g_cv _ _ _))))) (kt_g1b (kt_g1b (kt_g1b (kt_g1l (g_is _ _)) (kt_g1l (g_il _ _))) (kt_g1b (kt_g1l (g_ic _ _)) (kt_g1l (g_ceq _ _)))) (kt_g1b (kt_g1b (kt_g1l (g_ic _ _)) (kt_g1l (g_il _ _))) (kt_g1b (kt_g1l (g_sub _)) (kt_g1l (g_ri)))))) (kt_g1b (kt_g1b (kt_g1b (kt_g1b (kt_g1l (g_al _ _)) (kt_g1l (g_gf _ _ _))) (kt_g1b (kt_g1l (g_ic _ _)) (kt_g1l (g_clt _ _)))) (kt_g1b (kt_g1b (kt_g1l (g_ic _ _)) (kt_g1l (g_ri))) (kt_g1b (kt_g1l (g_al _ _)) (kt_g1l (g_dup _))))) (kt_g1b (kt_g1b (kt_g1b (kt_g1l (g_gf _ _ _)) (kt_g1l (g_ic _ _))) (kt_g1b (kt_g1l (g_add _)) (kt_g1l (g_pf _ _ _ _)))) (kt_g1b (kt_g1b (kt_g1l (g_al _ _)) (kt_g1l (g_gf _ _ _))) (kt_g1b (kt_g1l (g_ic _ _)) (kt_g1b (kt_g1l (g_sub _)) (kt_g1l (g_ri))))))))
set_option maxRecDepth 20000 in
theorem kg_70 : kt_gr kX11_words := by
  intro pc
  show kt_g1 (kX11_words pc)
  unfold kX11_words
  exact kt_g1b (kt_g1b (kt_g1b (kt_g1l (g_al _ _)) (kt_g1l (g_il _ _))) (kt_g1b (kt_g1l (g_cv _ _ _)) (kt_g1b (kt_g1l (g_as _ _)) (kt_g1l (g_al _ _))))) (kt_g1b (kt_g1b (kt_g1l (g_fnn _ _)) (kt_g1b (kt_g1l (g_ic _ _)) (kt_g1l (g_goto _)))) (kt_g1b (kt_g1l (g_al _ _)) (kt_g1b (kt_g1l (g_gf _ _ _)) (kt_g1l (g_ri)))))
set_option maxRecDepth 20000 in
theorem kg_71 : kt_gr kX11_owes := by
  intro pc
  show kt_g1 (kX11_owes pc)
  unfold kX11_owes
  exact kt_g1b (kt_g1b (kt_g1b (kt_g1b (kt_g1l (g_al _ _)) (kt_g1l (g_il _ _))) (kt_g1b (kt_g1l (g_cv _ _ _)) (kt_g1b (kt_g1l (g_as _ _)) (kt_g1l (g_al _ _))))) (kt_g1b (kt_g1b (kt_g1l (g_il _ _)) (kt_g1l (g_cv _ _ _))) (kt_g1b (kt_g1l (g_as _ _)) (kt_g1b (kt_g1l (g_al _ _)) (kt_g1l (g_fnul _ _)))))) (kt_g1b (kt_g1b (kt_g1b (kt_g1l (g_al _ _)) (kt_g1l (g_fnn _ _))) (kt_g1b (kt_g1l (g_ic _ _)) (kt_g1b (kt_g1l (g_ri)) (kt_g1l (g_al _ _))))) (kt_g1b (kt_g1b (kt_g1l (g_al _ _)) (kt_g1l (g_cv _ _ _))) (kt_g1b (kt_g1l (g_ic _ _)) (kt_g1b (kt_g1l (g_cv _ _ _)) (kt_g1l (g_ri))))))
set_option maxRecDepth 20000 in
theorem kg_72 : kt_gr kX11_word := by
  intro pc
  show kt_g1 (kX11_word pc)
  unfold kX11_word
  exact kt_g1b (kt_g1b (kt_g1b (kt_g1b (kt_g1l (g_al _ _)) (kt_g1b (kt_g1l (g_il _ _)) (kt_g1l (g_cv _ _ _)))) (kt_g1b (kt_g1l (g_as _ _)) (kt_g1b (kt_g1l (g_al _ _)) (kt_g1l (g_il _ _))))) (kt_g1b (kt_g1b (kt_g1l (g_cv _ _ _)) (kt_g1b (kt_g1l (g_as _ _)) (kt_g1l (g_al _ _)))) (kt_g1b (kt_g1b (kt_g1l (g_fnul _ _)) (kt_g1l (g_al _ _))) (kt_g1b (kt_g1l (g_fnul _ _)) (kt_g1l (g_al _ _)))))) (kt_g1b (kt_g1b (kt_g1b (kt_g1l (g_il _ _)) (kt_g1b (kt_g1l (g_cv _ _ _)) (kt_g1l (g_fne _ _)))) (kt_g1b (kt_g1l (g_ic _ _)) (kt_g1b (kt_g1l (g_ri)) (kt_g1l (g_al _ _))))) (kt_g1b (kt_g1b (kt_g1l (g_gf _ _ _)) (kt_g1b (kt_g1l (g_il _ _)) (kt_g1l (g_aal _)))) (kt_g1b (kt_g1b (kt_g1l (g_al _ _)) (kt_g1l (g_cv _ _ _))) (kt_g1b (kt_g1l (g_cv _ _ _)) (kt_g1l (g_ri))))))
set_option maxRecDepth 20000 in
theorem kg_73 : kt_gr kX11_need := by
  intro pc
  show kt_g1 (kX11_need pc)
  unfold kX11_need
  exact kt_g1b (kt_g1b (kt_g1b (kt_g1b (kt_g1l (g_al _ _)) (kt_g1b (kt_g1l (g_gf _ _ _)) (kt_g1l (g_il _ _)))) (kt_g1b (kt_g1b (kt_g1l (g_cv _ _ _)) (kt_g1l (g_fne _ _))) (kt_g1b (kt_g1l (g_ic _ _)) (kt_g1l (g_ri))))) (kt_g1b (kt_g1b (kt_g1l (g_al _ _)) (kt_g1b (kt_g1l (g_gf _ _ _)) (kt_g1l (g_il _ _)))) (kt_g1b (kt_g1b (kt_g1l (g_il _ _)) (kt_g1l (g_cv _ _ _))) (kt_g1b (kt_g1l (g_fne _ _)) (kt_g1l (g_ic _ _)))))) (kt_g1b (kt_g1b (kt_g1b (kt_g1l (g_ri)) (kt_g1b (kt_g1l (g_al _ _)) (kt_g1l (g_gf _ _ _)))) (kt_g1b (kt_g1b (kt_g1l (g_gf _ _ _)) (kt_g1l (g_il _ _))) (kt_g1b (kt_g1l (g_ial _)) (kt_g1l (g_is _ _))))) (kt_g1b (kt_g1b (kt_g1b (kt_g1l (g_al _ _)) (kt_g1l (g_gf _ _ _))) (kt_g1b (kt_g1l (g_gf _ _ _)) (kt_g1l (g_il _ _)))) (kt_g1b (kt_g1b (kt_g1l (g_il _ _)) (kt_g1l (g_ias _))) (kt_g1b (kt_g1l (g_il _ _)) (kt_g1l (g_ri))))))
set_option maxRecDepth 20000 in
theorem kg_74 : kt_gr kX11_broken := by
  intro pc
  show kt_g1 (kX11_broken pc)
  unfold kX11_broken
  exact kt_g1b (kt_g1b (kt_g1b (kt_g1b (kt_g1b (kt_g1l (g_al _ _)) (kt_g1l (g_il _ _))) (kt_g1b (kt_g1l (g_cv _ _ _)) (kt_g1l (g_as _ _)))) (kt_g1b (kt_g1b (kt_g1l (g_al _ _)) (kt_g1l (g_fnn _ _))) (kt_g1b (kt_g1l (g_ic _ _)) (kt_g1b (kt_g1l (g_ri)) (kt_g1l (g_il _ _)))))) (kt_g1b (kt_g1b (kt_g1b (kt_g1l (g_flt _ _)) (kt_g1l (g_il _ _))) (kt_g1b (kt_g1l (g_ic _ _)) (kt_g1l (g_cle _ _)))) (kt_g1b (kt_g1b (kt_g1l (g_ic _ _)) (kt_g1l (g_ri))) (kt_g1b (kt_g1l (g_al _ _)) (kt_g1b (kt_g1l (g_gf _ _ _)) (kt_g1l (g_al _ _))))))) (kt_g1b (kt_g1b (kt_g1b (kt_g1b (kt_g1l (g_al _ _)) (kt_g1l (g_cv _ _ _))) (kt_g1b (kt_g1l (g_cv _ _ _)) (kt_g1l (g_is _ _)))) (kt_g1b (kt_g1b (kt_g1l (g_il _ _)) (kt_g1l (g_ic _ _))) (kt_g1b (kt_g1l (g_cne _ _)) (kt_g1b (kt_g1l (g_ic _ _)) (kt_g1l (g_ri)))))) (kt_g1b (kt_g1b (kt_g1b (kt_g1l (g_il _ _)) (kt_g1l (g_fne _ _))) (kt_g1b (kt_g1l (g_il _ _)) (kt_g1b (kt_g1l (g_ic _ _)) (kt_g1l (g_div _))))) (kt_g1b (kt_g1b (kt_g1l (g_goto _)) (kt_g1l (g_il _ _))) (kt_g1b (kt_g1l (g_ic _ _)) (kt_g1b (kt_g1l (g_rem _)) (kt_g1l (g_ri)))))))
set_option maxRecDepth 20000 in
theorem kg_75 : kt_gr kX11_worth := by
  intro pc
  show kt_g1 (kX11_worth pc)
  unfold kX11_worth
  exact kt_g1b (kt_g1b (kt_g1b (kt_g1b (kt_g1l (g_al _ _)) (kt_g1b (kt_g1l (g_il _ _)) (kt_g1l (g_cv _ _ _)))) (kt_g1b (kt_g1l (g_as _ _)) (kt_g1b (kt_g1l (g_al _ _)) (kt_g1l (g_fnul _ _))))) (kt_g1b (kt_g1b (kt_g1l (g_al _ _)) (kt_g1b (kt_g1l (g_il _ _)) (kt_g1l (g_cv _ _ _)))) (kt_g1b (kt_g1b (kt_g1l (g_fne _ _)) (kt_g1l (g_lc _ _))) (kt_g1b (kt_g1l (g_rl)) (kt_g1l (g_al _ _)))))) (kt_g1b (kt_g1b (kt_g1b (kt_g1l (g_al _ _)) (kt_g1b (kt_g1l (g_cv _ _ _)) (kt_g1l (g_al _ _)))) (kt_g1b (kt_g1l (g_il _ _)) (kt_g1b (kt_g1l (g_cv _ _ _)) (kt_g1l (g_al _ _))))) (kt_g1b (kt_g1b (kt_g1l (g_gf _ _ _)) (kt_g1b (kt_g1l (g_gf _ _ _)) (kt_g1l (g_ic _ _)))) (kt_g1b (kt_g1b (kt_g1l (g_ial _)) (kt_g1l (g_cv _ _ _))) (kt_g1b (kt_g1l (g_i2l _)) (kt_g1l (g_rl))))))
set_option maxRecDepth 20000 in
theorem kg_76 : kt_gr kX11_risk := by
  intro pc
  show kt_g1 (kX11_risk pc)
  unfold kX11_risk
  exact kt_g1b (kt_g1b (kt_g1b (kt_g1b (kt_g1b (kt_g1l (g_al _ _)) (kt_g1l (g_il _ _))) (kt_g1b (kt_g1l (g_cv _ _ _)) (kt_g1b (kt_g1l (g_as _ _)) (kt_g1l (g_al _ _))))) (kt_g1b (kt_g1b (kt_g1l (g_fnul _ _)) (kt_g1l (g_il _ _))) (kt_g1b (kt_g1l (g_flt _ _)) (kt_g1b (kt_g1l (g_il _ _)) (kt_g1l (g_ic _ _)))))) (kt_g1b (kt_g1b (kt_g1b (kt_g1l (g_cle _ _)) (kt_g1l (g_lc _ _))) (kt_g1b (kt_g1l (g_rl)) (kt_g1b (kt_g1l (g_al _ _)) (kt_g1l (g_cv _ _ _))))) (kt_g1b (kt_g1b (kt_g1l (g_is _ _)) (kt_g1b (kt_g1l (g_ic _ _)) (kt_g1l (g_al _ _)))) (kt_g1b (kt_g1l (g_gf _ _ _)) (kt_g1b (kt_g1l (g_mul _)) (kt_g1l (g_is _ _))))))) (kt_g1b (kt_g1b (kt_g1b (kt_g1b (kt_g1l (g_il _ _)) (kt_g1l (g_il _ _))) (kt_g1b (kt_g1l (g_cs _ _ _)) (kt_g1b (kt_g1l (g_is _ _)) (kt_g1l (g_il _ _))))) (kt_g1b (kt_g1b (kt_g1l (g_ic _ _)) (kt_g1l (g_cge _ _))) (kt_g1b (kt_g1l (g_lc _ _)) (kt_g1b (kt_g1l (g_rl)) (kt_g1l (g_il _ _)))))) (kt_g1b (kt_g1b (kt_g1b (kt_g1l (g_fne _ _)) (kt_g1l (g_il _ _))) (kt_g1b (kt_g1l (g_il _ _)) (kt_g1b (kt_g1l (g_div _)) (kt_g1l (g_i2l _))))) (kt_g1b (kt_g1b (kt_g1l (g_goto _)) (kt_g1b (kt_g1l (g_il _ _)) (kt_g1l (g_il _ _)))) (kt_g1b (kt_g1l (g_div _)) (kt_g1b (kt_g1l (g_i2l _)) (kt_g1l (g_rl)))))))
set_option maxRecDepth 20000 in
theorem kg_77 : kt_gr kX11_best := by
  intro pc
  show kt_g1 (kX11_best pc)
  unfold kX11_best
  exact kt_g1b (kt_g1b (kt_g1b (kt_g1b (kt_g1b (kt_g1l (g_al _ _)) (kt_g1b (kt_g1l (g_il _ _)) (kt_g1l (g_cv _ _ _)))) (kt_g1b (kt_g1l (g_feq _ _)) (kt_g1b (kt_g1l (g_il _ _)) (kt_g1l (g_il _ _))))) (kt_g1b (kt_g1b (kt_g1l (g_il _ _)) (kt_g1b (kt_g1l (g_cs _ _ _)) (kt_g1l (g_feq _ _)))) (kt_g1b (kt_g1l (g_il _ _)) (kt_g1b (kt_g1l (g_flt _ _)) (kt_g1l (g_il _ _)))))) (kt_g1b (kt_g1b (kt_g1b (kt_g1l (g_ic _ _)) (kt_g1b (kt_g1l (g_cle _ _)) (kt_g1l (g_lc _ _)))) (kt_g1b (kt_g1l (g_rl)) (kt_g1b (kt_g1l (g_al _ _)) (kt_g1l (g_il _ _))))) (kt_g1b (kt_g1b (kt_g1l (g_il _ _)) (kt_g1b (kt_g1l (g_il _ _)) (kt_g1l (g_al _ _)))) (kt_g1b (kt_g1b (kt_g1l (g_il _ _)) (kt_g1l (g_cv _ _ _))) (kt_g1b (kt_g1l (g_ic _ _)) (kt_g1l (g_cv _ _ _))))))) (kt_g1b (kt_g1b (kt_g1b (kt_g1b (kt_g1l (g_as _ _)) (kt_g1b (kt_g1l (g_al _ _)) (kt_g1l (g_gf _ _ _)))) (kt_g1b (kt_g1l (g_fne _ _)) (kt_g1b (kt_g1l (g_lc _ _)) (kt_g1l (g_rl))))) (kt_g1b (kt_g1b (kt_g1l (g_il _ _)) (kt_g1b (kt_g1l (g_tsw _ _ _ _)) (kt_g1l (g_al _ _)))) (kt_g1b (kt_g1b (kt_g1l (g_gf _ _ _)) (kt_g1l (g_i2l _))) (kt_g1b (kt_g1l (g_rl)) (kt_g1l (g_al _ _)))))) (kt_g1b (kt_g1b (kt_g1b (kt_g1l (g_gf _ _ _)) (kt_g1b (kt_g1l (g_i2l _)) (kt_g1l (g_rl)))) (kt_g1b (kt_g1l (g_al _ _)) (kt_g1b (kt_g1l (g_gf _ _ _)) (kt_g1l (g_al _ _))))) (kt_g1b (kt_g1b (kt_g1l (g_cv _ _ _)) (kt_g1b (kt_g1l (g_i2l _)) (kt_g1l (g_rl)))) (kt_g1b (kt_g1b (kt_g1l (g_al _ _)) (kt_g1l (g_gf _ _ _))) (kt_g1b (kt_g1l (g_i2l _)) (kt_g1l (g_rl)))))))
set_option maxRecDepth 20000 in
theorem kg_78 : kt_gr kX11_shape := by
  intro pc
  show kt_g1 (kX11_shape pc)
  unfold kX11_shape
  exact kt_g1b (kt_g1b (kt_g1b (kt_g1b (kt_g1b (kt_g1l (g_al _ _)) (kt_g1l (g_il _ _))) (kt_g1b (kt_g1l (g_cv _ _ _)) (kt_g1b (kt_g1l (g_fne _ _)) (kt_g1l (g_ic _ _))))) (kt_g1b (kt_g1b (kt_g1l (g_ri)) (kt_g1l (g_il _ _))) (kt_g1b (kt_g1l (g_il _ _)) (kt_g1b (kt_g1l (g_il _ _)) (kt_g1l (g_cs _ _ _)))))) (kt_g1b (kt_g1b (kt_g1b (kt_g1l (g_fne _ _)) (kt_g1l (g_ic _ _))) (kt_g1b (kt_g1l (g_ri)) (kt_g1b (kt_g1l (g_il _ _)) (kt_g1l (g_flt _ _))))) (kt_g1b (kt_g1b (kt_g1l (g_il _ _)) (kt_g1b (kt_g1l (g_ic _ _)) (kt_g1l (g_il _ _)))) (kt_g1b (kt_g1l (g_mul _)) (kt_g1b (kt_g1l (g_clt _ _)) (kt_g1l (g_ic _ _))))))) (kt_g1b (kt_g1b (kt_g1b (kt_g1b (kt_g1l (g_ri)) (kt_g1l (g_al _ _))) (kt_g1b (kt_g1l (g_il _ _)) (kt_g1b (kt_g1l (g_il _ _)) (kt_g1l (g_il _ _))))) (kt_g1b (kt_g1b (kt_g1l (g_al _ _)) (kt_g1l (g_il _ _))) (kt_g1b (kt_g1l (g_cv _ _ _)) (kt_g1b (kt_g1l (g_ic _ _)) (kt_g1l (g_cv _ _ _)))))) (kt_g1b (kt_g1b (kt_g1b (kt_g1l (g_as _ _)) (kt_g1l (g_al _ _))) (kt_g1b (kt_g1l (g_gf _ _ _)) (kt_g1b (kt_g1l (g_feq _ _)) (kt_g1l (g_al _ _))))) (kt_g1b (kt_g1b (kt_g1l (g_gf _ _ _)) (kt_g1b (kt_g1l (g_il _ _)) (kt_g1l (g_ial _)))) (kt_g1b (kt_g1l (g_goto _)) (kt_g1b (kt_g1l (g_ic _ _)) (kt_g1l (g_ri)))))))
set_option maxRecDepth 20000 in
theorem kg_79 : kt_gr kX11_shapes := by
  intro pc
  show kt_g1 (kX11_shapes pc)
  unfold kX11_shapes
  exact kt_g1b (kt_g1b (kt_g1b (kt_g1b (kt_g1l (g_il _ _)) (kt_g1l (g_il _ _))) (kt_g1b (kt_g1l (g_il _ _)) (kt_g1l (g_cs _ _ _)))) (kt_g1b (kt_g1b (kt_g1l (g_feq _ _)) (kt_g1l (g_al _ _))) (kt_g1b (kt_g1l (g_gf _ _ _)) (kt_g1b (kt_g1l (g_al _ _)) (kt_g1l (g_gf _ _ _)))))) (kt_g1b (kt_g1b (kt_g1b (kt_g1l (g_il _ _)) (kt_g1l (g_aal _))) (kt_g1b (kt_g1l (g_il _ _)) (kt_g1b (kt_g1l (g_il _ _)) (kt_g1l (g_al _ _))))) (kt_g1b (kt_g1b (kt_g1l (g_gf _ _ _)) (kt_g1l (g_cv _ _ _))) (kt_g1b (kt_g1l (g_goto _)) (kt_g1b (kt_g1l (g_ic _ _)) (kt_g1l (g_ri))))))
set_option maxRecDepth 20000 in
theorem kg_80 : kt_gr kX11_without := by
  intro pc
  show kt_g1 (kX11_without pc)
  unfold kX11_without
  exact kt_g1b (kt_g1b (kt_g1b (kt_g1b (kt_g1b (kt_g1l (g_al _ _)) (kt_g1b (kt_g1l (g_il _ _)) (kt_g1l (g_cv _ _ _)))) (kt_g1b (kt_g1l (g_as _ _)) (kt_g1b (kt_g1l (g_al _ _)) (kt_g1l (g_fnul _ _))))) (kt_g1b (kt_g1b (kt_g1l (g_al _ _)) (kt_g1b (kt_g1l (g_il _ _)) (kt_g1l (g_cv _ _ _)))) (kt_g1b (kt_g1l (g_feq _ _)) (kt_g1b (kt_g1l (g_il _ _)) (kt_g1l (g_il _ _)))))) (kt_g1b (kt_g1b (kt_g1b (kt_g1l (g_il _ _)) (kt_g1b (kt_g1l (g_cs _ _ _)) (kt_g1l (g_feq _ _)))) (kt_g1b (kt_g1l (g_il _ _)) (kt_g1b (kt_g1l (g_ic _ _)) (kt_g1l (g_clt _ _))))) (kt_g1b (kt_g1b (kt_g1l (g_il _ _)) (kt_g1b (kt_g1l (g_ic _ _)) (kt_g1l (g_cle _ _)))) (kt_g1b (kt_g1l (g_lc _ _)) (kt_g1b (kt_g1l (g_rl)) (kt_g1l (g_al _ _))))))) (kt_g1b (kt_g1b (kt_g1b (kt_g1b (kt_g1l (g_il _ _)) (kt_g1b (kt_g1l (g_il _ _)) (kt_g1l (g_il _ _)))) (kt_g1b (kt_g1l (g_al _ _)) (kt_g1b (kt_g1l (g_il _ _)) (kt_g1l (g_cv _ _ _))))) (kt_g1b (kt_g1b (kt_g1l (g_as _ _)) (kt_g1b (kt_g1l (g_al _ _)) (kt_g1l (g_gf _ _ _)))) (kt_g1b (kt_g1l (g_fne _ _)) (kt_g1b (kt_g1l (g_lc _ _)) (kt_g1l (g_rl)))))) (kt_g1b (kt_g1b (kt_g1b (kt_g1l (g_il _ _)) (kt_g1b (kt_g1l (g_ic _ _)) (kt_g1l (g_cne _ _)))) (kt_g1b (kt_g1l (g_al _ _)) (kt_g1b (kt_g1l (g_gf _ _ _)) (kt_g1l (g_i2l _))))) (kt_g1b (kt_g1b (kt_g1l (g_goto _)) (kt_g1b (kt_g1l (g_al _ _)) (kt_g1l (g_gf _ _ _)))) (kt_g1b (kt_g1b (kt_g1l (g_al _ _)) (kt_g1l (g_cv _ _ _))) (kt_g1b (kt_g1l (g_i2l _)) (kt_g1l (g_rl)))))))
set_option maxRecDepth 20000 in
theorem kg_81 : kt_gr kX11_mend := by
  intro pc
  show kt_g1 (kX11_mend pc)
  unfold kX11_mend
  exact kt_g1b (kt_g1b (kt_g1b (kt_g1b (kt_g1b (kt_g1l (g_il _ _)) (kt_g1b (kt_g1l (g_il _ _)) (kt_g1l (g_il _ _)))) (kt_g1b (kt_g1l (g_cs _ _ _)) (kt_g1b (kt_g1l (g_feq _ _)) (kt_g1l (g_il _ _))))) (kt_g1b (kt_g1b (kt_g1l (g_fge _ _)) (kt_g1b (kt_g1l (g_ic _ _)) (kt_g1l (g_ri)))) (kt_g1b (kt_g1b (kt_g1l (g_al _ _)) (kt_g1l (g_gf _ _ _))) (kt_g1b (kt_g1l (g_cv _ _ _)) (kt_g1l (g_ic _ _)))))) (kt_g1b (kt_g1b (kt_g1b (kt_g1l (g_is _ _)) (kt_g1b (kt_g1l (g_il _ _)) (kt_g1l (g_al _ _)))) (kt_g1b (kt_g1l (g_gf _ _ _)) (kt_g1b (kt_g1l (g_cge _ _)) (kt_g1l (g_al _ _))))) (kt_g1b (kt_g1b (kt_g1l (g_gf _ _ _)) (kt_g1b (kt_g1l (g_al _ _)) (kt_g1l (g_gf _ _ _)))) (kt_g1b (kt_g1b (kt_g1l (g_il _ _)) (kt_g1l (g_aal _))) (kt_g1b (kt_g1l (g_ic _ _)) (kt_g1l (g_cv _ _ _))))))) (kt_g1b (kt_g1b (kt_g1b (kt_g1b (kt_g1l (g_pop _)) (kt_g1b (kt_g1l (g_inc _ _ _)) (kt_g1l (g_goto _)))) (kt_g1b (kt_g1l (g_al _ _)) (kt_g1b (kt_g1l (g_gf _ _ _)) (kt_g1l (g_al _ _))))) (kt_g1b (kt_g1b (kt_g1l (g_gf _ _ _)) (kt_g1b (kt_g1l (g_il _ _)) (kt_g1l (g_aal _)))) (kt_g1b (kt_g1b (kt_g1l (g_il _ _)) (kt_g1l (g_il _ _))) (kt_g1b (kt_g1l (g_al _ _)) (kt_g1l (g_gf _ _ _)))))) (kt_g1b (kt_g1b (kt_g1b (kt_g1l (g_cv _ _ _)) (kt_g1b (kt_g1l (g_al _ _)) (kt_g1l (g_gf _ _ _)))) (kt_g1b (kt_g1l (g_gf _ _ _)) (kt_g1b (kt_g1l (g_gf _ _ _)) (kt_g1l (g_feq _ _))))) (kt_g1b (kt_g1b (kt_g1l (g_al _ _)) (kt_g1b (kt_g1l (g_gf _ _ _)) (kt_g1l (g_il _ _)))) (kt_g1b (kt_g1b (kt_g1l (g_cv _ _ _)) (kt_g1l (g_goto _))) (kt_g1b (kt_g1l (g_ic _ _)) (kt_g1l (g_ri)))))))
set_option maxRecDepth 20000 in
theorem kg_82 : kt_gr kX11_crowd := by
  intro pc
  show kt_g1 (kX11_crowd pc)
  unfold kX11_crowd
  exact kt_g1b (kt_g1b (kt_g1b (kt_g1b (kt_g1l (g_al _ _)) (kt_g1b (kt_g1l (g_il _ _)) (kt_g1l (g_cv _ _ _)))) (kt_g1b (kt_g1b (kt_g1l (g_as _ _)) (kt_g1l (g_al _ _))) (kt_g1b (kt_g1l (g_fnn _ _)) (kt_g1l (g_ic _ _))))) (kt_g1b (kt_g1b (kt_g1l (g_ri)) (kt_g1b (kt_g1l (g_il _ _)) (kt_g1l (g_il _ _)))) (kt_g1b (kt_g1b (kt_g1l (g_il _ _)) (kt_g1l (g_cs _ _ _))) (kt_g1b (kt_g1l (g_feq _ _)) (kt_g1l (g_al _ _)))))) (kt_g1b (kt_g1b (kt_g1b (kt_g1l (g_gf _ _ _)) (kt_g1b (kt_g1l (g_al _ _)) (kt_g1l (g_gf _ _ _)))) (kt_g1b (kt_g1b (kt_g1l (g_il _ _)) (kt_g1l (g_aal _))) (kt_g1b (kt_g1l (g_il _ _)) (kt_g1l (g_il _ _))))) (kt_g1b (kt_g1b (kt_g1b (kt_g1l (g_al _ _)) (kt_g1l (g_gf _ _ _))) (kt_g1b (kt_g1l (g_al _ _)) (kt_g1l (g_il _ _)))) (kt_g1b (kt_g1b (kt_g1l (g_cv _ _ _)) (kt_g1l (g_goto _))) (kt_g1b (kt_g1l (g_ic _ _)) (kt_g1l (g_ri))))))
set_option maxRecDepth 20000 in
theorem kg_83 : kt_gr kX11_step := by
  intro pc
  show kt_g1 (kX11_step pc)
  unfold kX11_step
  exact kt_g1b (kt_g1b (kt_g1b (kt_g1b (kt_g1b (kt_g1b (kt_g1l (g_al _ _)) (kt_g1b (kt_g1l (g_il _ _)) (kt_g1l (g_cv _ _ _)))) (kt_g1b (kt_g1b (kt_g1l (g_as _ _)) (kt_g1l (g_al _ _))) (kt_g1b (kt_g1l (g_fnul _ _)) (kt_g1l (g_al _ _))))) (kt_g1b (kt_g1b (kt_g1b (kt_g1l (g_il _ _)) (kt_g1l (g_cv _ _ _))) (kt_g1b (kt_g1l (g_fne _ _)) (kt_g1l (g_ic _ _)))) (kt_g1b (kt_g1b (kt_g1l (g_ri)) (kt_g1l (g_al _ _))) (kt_g1b (kt_g1l (g_il _ _)) (kt_g1l (g_cv _ _ _)))))) (kt_g1b (kt_g1b (kt_g1b (kt_g1b (kt_g1l (g_as _ _)) (kt_g1l (g_al _ _))) (kt_g1b (kt_g1l (g_gf _ _ _)) (kt_g1l (g_al _ _)))) (kt_g1b (kt_g1b (kt_g1l (g_cv _ _ _)) (kt_g1l (g_aal _))) (kt_g1b (kt_g1l (g_as _ _)) (kt_g1l (g_al _ _))))) (kt_g1b (kt_g1b (kt_g1b (kt_g1l (g_al _ _)) (kt_g1l (g_gf _ _ _))) (kt_g1b (kt_g1l (g_ic _ _)) (kt_g1l (g_al _ _)))) (kt_g1b (kt_g1b (kt_g1l (g_gf _ _ _)) (kt_g1l (g_cv _ _ _))) (kt_g1b (kt_g1l (g_al _ _)) (kt_g1l (g_al _ _))))))) (kt_g1b (kt_g1b (kt_g1b (kt_g1b (kt_g1b (kt_g1l (g_cv _ _ _)) (kt_g1l (g_al _ _))) (kt_g1b (kt_g1l (g_al _ _)) (kt_g1l (g_gf _ _ _)))) (kt_g1b (kt_g1b (kt_g1l (g_gf _ _ _)) (kt_g1l (g_ic _ _))) (kt_g1b (kt_g1l (g_ial _)) (kt_g1l (g_cv _ _ _))))) (kt_g1b (kt_g1b (kt_g1b (kt_g1l (g_is _ _)) (kt_g1l (g_ic _ _))) (kt_g1b (kt_g1l (g_is _ _)) (kt_g1l (g_ic _ _)))) (kt_g1b (kt_g1b (kt_g1l (g_is _ _)) (kt_g1l (g_il _ _))) (kt_g1b (kt_g1l (g_ic _ _)) (kt_g1l (g_al _ _)))))) (kt_g1b (kt_g1b (kt_g1b (kt_g1b (kt_g1l (g_gf _ _ _)) (kt_g1l (g_mul _))) (kt_g1b (kt_g1l (g_cge _ _)) (kt_g1l (g_ic _ _)))) (kt_g1b (kt_g1b (kt_g1l (g_is _ _)) (kt_g1l (g_il _ _))) (kt_g1b (kt_g1l (g_ic _ _)) (kt_g1l (g_cgt _ _))))) (kt_g1b (kt_g1b (kt_g1b (kt_g1l (g_al _ _)) (kt_g1l (g_gf _ _ _))) (kt_g1b (kt_g1l (g_il _ _)) (kt_g1l (g_ial _)))) (kt_g1b (kt_g1b (kt_g1l (g_ic _ _)) (kt_g1l (g_il _ _))) (kt_g1b (kt_g1l (g_mul _)) (kt_g1l (g_add _)))))))) (kt_g1b (kt_g1b (kt_g1b (kt_g1b (kt_g1b (kt_g1b (kt_g1l (g_ic _ _)) (kt_g1l (g_sub _))) (kt_g1b (kt_g1l (g_is _ _)) (kt_g1l (g_il _ _)))) (kt_g1b (kt_g1b (kt_g1l (g_cs _ _ _)) (kt_g1l (g_feq _ _))) (kt_g1b (kt_g1l (g_al _ _)) (kt_g1l (g_gf _ _ _))))) (kt_g1b (kt_g1b (kt_g1b (kt_g1l (g_il _ _)) (kt_g1l (g_il _ _))) (kt_g1b (kt_g1l (g_ias _)) (kt_g1l (g_al _ _)))) (kt_g1b (kt_g1b (kt_g1l (g_cv _ _ _)) (kt_g1l (g_as _ _))) (kt_g1b (kt_g1l (g_al _ _)) (kt_g1l (g_al _ _)))))) (kt_g1b (kt_g1b (kt_g1b (kt_g1b (kt_g1l (g_al _ _)) (kt_g1l (g_al _ _))) (kt_g1b (kt_g1l (g_gf _ _ _)) (kt_g1l (g_gf _ _ _)))) (kt_g1b (kt_g1b (kt_g1l (g_ic _ _)) (kt_g1l (g_ial _))) (kt_g1b (kt_g1l (g_cv _ _ _)) (kt_g1l (g_is _ _))))) (kt_g1b (kt_g1b (kt_g1b (kt_g1l (g_il _ _)) (kt_g1l (g_il _ _))) (kt_g1b (kt_g1l (g_cle _ _)) (kt_g1l (g_al _ _)))) (kt_g1b (kt_g1b (kt_g1l (g_gf _ _ _)) (kt_g1l (g_al _ _))) (kt_g1b (kt_g1l (g_al _ _)) (kt_g1l (g_cv _ _ _))))))) (kt_g1b (kt_g1b (kt_g1b (kt_g1b (kt_g1b (kt_g1l (g_ic _ _)) (kt_g1l (g_cne _ _))) (kt_g1b (kt_g1l (g_il _ _)) (kt_g1l (g_is _ _)))) (kt_g1b (kt_g1b (kt_g1l (g_ic _ _)) (kt_g1l (g_il _ _))) (kt_g1b (kt_g1l (g_ic _ _)) (kt_g1l (g_div _))))) (kt_g1b (kt_g1b (kt_g1b (kt_g1l (g_mul _)) (kt_g1l (g_ic _ _))) (kt_g1b (kt_g1l (g_il _ _)) (kt_g1l (g_ic _ _)))) (kt_g1b (kt_g1b (kt_g1l (g_rem _)) (kt_g1l (g_mul _))) (kt_g1b (kt_g1l (g_add _)) (kt_g1l (g_il _ _)))))) (kt_g1b (kt_g1b (kt_g1b (kt_g1b (kt_g1l (g_add _)) (kt_g1l (g_is _ _))) (kt_g1b (kt_g1l (g_inc _ _ _)) (kt_g1l (g_goto _)))) (kt_g1b (kt_g1b (kt_g1l (g_al _ _)) (kt_g1l (g_gf _ _ _))) (kt_g1b (kt_g1l (g_il _ _)) (kt_g1l (g_al _ _))))) (kt_g1b (kt_g1b (kt_g1b (kt_g1l (g_gf _ _ _)) (kt_g1l (g_il _ _))) (kt_g1b (kt_g1l (g_ial _)) (kt_g1l (g_ias _)))) (kt_g1b (kt_g1b (kt_g1l (g_inc _ _ _)) (kt_g1l (g_goto _))) (kt_g1b (kt_g1l (g_il _ _)) (kt_g1l (g_ri))))))))
set_option maxRecDepth 20000 in
theorem kg_84 : kt_gr kX11_trim := by
  intro pc
  show kt_g1 (kX11_trim pc)
  unfold kX11_trim
  exact kt_g1b (kt_g1b (kt_g1b (kt_g1b (kt_g1b (kt_g1l (g_al _ _)) (kt_g1b (kt_g1l (g_il _ _)) (kt_g1l (g_cv _ _ _)))) (kt_g1b (kt_g1l (g_as _ _)) (kt_g1b (kt_g1l (g_al _ _)) (kt_g1l (g_il _ _))))) (kt_g1b (kt_g1b (kt_g1l (g_cv _ _ _)) (kt_g1b (kt_g1l (g_as _ _)) (kt_g1l (g_al _ _)))) (kt_g1b (kt_g1b (kt_g1l (g_fnul _ _)) (kt_g1l (g_al _ _))) (kt_g1b (kt_g1l (g_fnn _ _)) (kt_g1l (g_ic _ _)))))) (kt_g1b (kt_g1b (kt_g1b (kt_g1l (g_ri)) (kt_g1b (kt_g1l (g_il _ _)) (kt_g1l (g_flt _ _)))) (kt_g1b (kt_g1b (kt_g1l (g_il _ _)) (kt_g1l (g_ic _ _))) (kt_g1b (kt_g1l (g_cle _ _)) (kt_g1l (g_ic _ _))))) (kt_g1b (kt_g1b (kt_g1l (g_ri)) (kt_g1b (kt_g1l (g_al _ _)) (kt_g1l (g_gf _ _ _)))) (kt_g1b (kt_g1b (kt_g1l (g_al _ _)) (kt_g1l (g_cv _ _ _))) (kt_g1b (kt_g1l (g_aal _)) (kt_g1l (g_as _ _))))))) (kt_g1b (kt_g1b (kt_g1b (kt_g1b (kt_g1l (g_al _ _)) (kt_g1b (kt_g1l (g_al _ _)) (kt_g1l (g_cv _ _ _)))) (kt_g1b (kt_g1b (kt_g1l (g_al _ _)) (kt_g1l (g_al _ _))) (kt_g1b (kt_g1l (g_cv _ _ _)) (kt_g1l (g_ic _ _))))) (kt_g1b (kt_g1b (kt_g1l (g_cv _ _ _)) (kt_g1b (kt_g1l (g_is _ _)) (kt_g1l (g_al _ _)))) (kt_g1b (kt_g1b (kt_g1l (g_al _ _)) (kt_g1l (g_cv _ _ _))) (kt_g1b (kt_g1l (g_ic _ _)) (kt_g1l (g_cv _ _ _)))))) (kt_g1b (kt_g1b (kt_g1b (kt_g1l (g_is _ _)) (kt_g1b (kt_g1l (g_il _ _)) (kt_g1l (g_fne _ _)))) (kt_g1b (kt_g1b (kt_g1l (g_il _ _)) (kt_g1l (g_il _ _))) (kt_g1b (kt_g1l (g_min _)) (kt_g1l (g_ri))))) (kt_g1b (kt_g1b (kt_g1l (g_il _ _)) (kt_g1b (kt_g1l (g_il _ _)) (kt_g1l (g_cge _ _)))) (kt_g1b (kt_g1b (kt_g1l (g_ic _ _)) (kt_g1l (g_goto _))) (kt_g1b (kt_g1l (g_ic _ _)) (kt_g1l (g_ri)))))))
set_option maxRecDepth 20000 in
theorem kg_85 : kt_gr kX11_route := by
  intro pc
  show kt_g1 (kX11_route pc)
  unfold kX11_route
  exact kt_g1b (kt_g1b (kt_g1b (kt_g1b (kt_g1l (g_al _ _)) (kt_g1l (g_il _ _))) (kt_g1b (kt_g1l (g_cv _ _ _)) (kt_g1b (kt_g1l (g_fne _ _)) (kt_g1l (g_ic _ _))))) (kt_g1b (kt_g1b (kt_g1l (g_ri)) (kt_g1l (g_al _ _))) (kt_g1b (kt_g1l (g_gf _ _ _)) (kt_g1b (kt_g1l (g_ic _ _)) (kt_g1l (g_il _ _)))))) (kt_g1b (kt_g1b (kt_g1b (kt_g1l (g_cv _ _ _)) (kt_g1l (g_feq _ _))) (kt_g1b (kt_g1l (g_al _ _)) (kt_g1b (kt_g1l (g_il _ _)) (kt_g1l (g_al _ _))))) (kt_g1b (kt_g1b (kt_g1l (g_il _ _)) (kt_g1b (kt_g1l (g_cv _ _ _)) (kt_g1l (g_cv _ _ _)))) (kt_g1b (kt_g1l (g_goto _)) (kt_g1b (kt_g1l (g_ic _ _)) (kt_g1l (g_ri))))))
set_option maxRecDepth 20000 in
theorem kg_86 : kt_gr kX11_paid := by
  intro pc
  show kt_g1 (kX11_paid pc)
  unfold kX11_paid
  exact kt_g1b (kt_g1b (kt_g1b (kt_g1b (kt_g1b (kt_g1l (g_al _ _)) (kt_g1l (g_il _ _))) (kt_g1b (kt_g1l (g_cv _ _ _)) (kt_g1b (kt_g1l (g_as _ _)) (kt_g1l (g_al _ _))))) (kt_g1b (kt_g1b (kt_g1l (g_fnn _ _)) (kt_g1b (kt_g1l (g_ic _ _)) (kt_g1l (g_ri)))) (kt_g1b (kt_g1l (g_al _ _)) (kt_g1b (kt_g1l (g_gf _ _ _)) (kt_g1l (g_ic _ _)))))) (kt_g1b (kt_g1b (kt_g1b (kt_g1l (g_il _ _)) (kt_g1l (g_cv _ _ _))) (kt_g1b (kt_g1l (g_fne _ _)) (kt_g1b (kt_g1l (g_ic _ _)) (kt_g1l (g_ri))))) (kt_g1b (kt_g1b (kt_g1l (g_ic _ _)) (kt_g1b (kt_g1l (g_is _ _)) (kt_g1l (g_ic _ _)))) (kt_g1b (kt_g1l (g_is _ _)) (kt_g1b (kt_g1l (g_il _ _)) (kt_g1l (g_il _ _))))))) (kt_g1b (kt_g1b (kt_g1b (kt_g1b (kt_g1l (g_cgt _ _)) (kt_g1l (g_al _ _))) (kt_g1b (kt_g1l (g_al _ _)) (kt_g1b (kt_g1l (g_il _ _)) (kt_g1l (g_al _ _))))) (kt_g1b (kt_g1b (kt_g1l (g_cv _ _ _)) (kt_g1b (kt_g1l (g_cv _ _ _)) (kt_g1l (g_as _ _)))) (kt_g1b (kt_g1l (g_al _ _)) (kt_g1b (kt_g1l (g_fnul _ _)) (kt_g1l (g_il _ _)))))) (kt_g1b (kt_g1b (kt_g1b (kt_g1l (g_al _ _)) (kt_g1l (g_al _ _))) (kt_g1b (kt_g1l (g_cv _ _ _)) (kt_g1b (kt_g1l (g_ic _ _)) (kt_g1l (g_cv _ _ _))))) (kt_g1b (kt_g1b (kt_g1l (g_add _)) (kt_g1b (kt_g1l (g_is _ _)) (kt_g1l (g_inc _ _ _)))) (kt_g1b (kt_g1l (g_goto _)) (kt_g1b (kt_g1l (g_il _ _)) (kt_g1l (g_ri)))))))
set_option maxRecDepth 20000 in
theorem kg_87 : kt_gr kX11_sheet := by
  intro pc
  show kt_g1 (kX11_sheet pc)
  unfold kX11_sheet
  exact kt_g1b (kt_g1b (kt_g1b (kt_g1b (kt_g1l (g_al _ _)) (kt_g1b (kt_g1l (g_ic _ _)) (kt_g1l (g_pf _ _ _ _)))) (kt_g1b (kt_g1b (kt_g1l (g_al _ _)) (kt_g1l (g_il _ _))) (kt_g1b (kt_g1l (g_cv _ _ _)) (kt_g1l (g_as _ _))))) (kt_g1b (kt_g1b (kt_g1b (kt_g1l (g_al _ _)) (kt_g1l (g_fnn _ _))) (kt_g1b (kt_g1l (g_ic _ _)) (kt_g1l (g_ri)))) (kt_g1b (kt_g1b (kt_g1l (g_il _ _)) (kt_g1l (g_cs _ _ _))) (kt_g1b (kt_g1l (g_feq _ _)) (kt_g1l (g_il _ _)))))) (kt_g1b (kt_g1b (kt_g1b (kt_g1b (kt_g1l (g_ic _ _)) (kt_g1l (g_cle _ _))) (kt_g1b (kt_g1l (g_ic _ _)) (kt_g1l (g_ri)))) (kt_g1b (kt_g1b (kt_g1l (g_il _ _)) (kt_g1l (g_fge _ _))) (kt_g1b (kt_g1l (g_al _ _)) (kt_g1l (g_ic _ _))))) (kt_g1b (kt_g1b (kt_g1b (kt_g1l (g_cv _ _ _)) (kt_g1l (g_ri))) (kt_g1b (kt_g1l (g_al _ _)) (kt_g1l (g_il _ _)))) (kt_g1b (kt_g1b (kt_g1l (g_il _ _)) (kt_g1l (g_cv _ _ _))) (kt_g1b (kt_g1l (g_ic _ _)) (kt_g1l (g_ri))))))
set_option maxRecDepth 20000 in
theorem kg_88 : kt_gr kX11_lose := by
  intro pc
  show kt_g1 (kX11_lose pc)
  unfold kX11_lose
  exact kt_g1b (kt_g1b (kt_g1b (kt_g1b (kt_g1l (g_al _ _)) (kt_g1l (g_il _ _))) (kt_g1b (kt_g1l (g_cv _ _ _)) (kt_g1b (kt_g1l (g_as _ _)) (kt_g1l (g_al _ _))))) (kt_g1b (kt_g1b (kt_g1l (g_fnn _ _)) (kt_g1l (g_ic _ _))) (kt_g1b (kt_g1l (g_ri)) (kt_g1b (kt_g1l (g_al _ _)) (kt_g1l (g_gf _ _ _)))))) (kt_g1b (kt_g1b (kt_g1b (kt_g1l (g_feq _ _)) (kt_g1l (g_ic _ _))) (kt_g1b (kt_g1l (g_goto _)) (kt_g1b (kt_g1l (g_ic _ _)) (kt_g1l (g_is _ _))))) (kt_g1b (kt_g1b (kt_g1l (g_al _ _)) (kt_g1l (g_ic _ _))) (kt_g1b (kt_g1l (g_pf _ _ _ _)) (kt_g1b (kt_g1l (g_il _ _)) (kt_g1l (g_ri))))))
set_option maxRecDepth 20000 in
theorem kg_89 : kt_gr kX11_put := by
  intro pc
  show kt_g1 (kX11_put pc)
  unfold kX11_put
  exact kt_g1b (kt_g1b (kt_g1b (kt_g1b (kt_g1b (kt_g1l (g_al _ _)) (kt_g1l (g_ic _ _))) (kt_g1b (kt_g1l (g_pf _ _ _ _)) (kt_g1l (g_al _ _)))) (kt_g1b (kt_g1b (kt_g1l (g_il _ _)) (kt_g1l (g_cv _ _ _))) (kt_g1b (kt_g1l (g_as _ _)) (kt_g1l (g_al _ _))))) (kt_g1b (kt_g1b (kt_g1b (kt_g1l (g_fnn _ _)) (kt_g1l (g_ic _ _))) (kt_g1b (kt_g1l (g_ri)) (kt_g1l (g_al _ _)))) (kt_g1b (kt_g1b (kt_g1l (g_gf _ _ _)) (kt_g1l (g_fne _ _))) (kt_g1b (kt_g1l (g_al _ _)) (kt_g1l (g_ic _ _)))))) (kt_g1b (kt_g1b (kt_g1b (kt_g1b (kt_g1l (g_cv _ _ _)) (kt_g1l (g_ri))) (kt_g1b (kt_g1l (g_al _ _)) (kt_g1l (g_il _ _)))) (kt_g1b (kt_g1b (kt_g1l (g_lc _ _)) (kt_g1l (g_cv _ _ _))) (kt_g1b (kt_g1l (g_fne _ _)) (kt_g1l (g_al _ _))))) (kt_g1b (kt_g1b (kt_g1b (kt_g1l (g_ic _ _)) (kt_g1l (g_cv _ _ _))) (kt_g1b (kt_g1l (g_ri)) (kt_g1l (g_al _ _)))) (kt_g1b (kt_g1b (kt_g1l (g_il _ _)) (kt_g1l (g_il _ _))) (kt_g1b (kt_g1l (g_cv _ _ _)) (kt_g1b (kt_g1l (g_ic _ _)) (kt_g1l (g_ri)))))))
set_option maxRecDepth 20000 in
theorem kg_90 : kt_gr kX11_cell := by
  intro pc
  show kt_g1 (kX11_cell pc)
  unfold kX11_cell
  exact kt_g1b (kt_g1b (kt_g1b (kt_g1b (kt_g1b (kt_g1l (g_al _ _)) (kt_g1l (g_ic _ _))) (kt_g1b (kt_g1l (g_pf _ _ _ _)) (kt_g1l (g_al _ _)))) (kt_g1b (kt_g1b (kt_g1l (g_il _ _)) (kt_g1l (g_cv _ _ _))) (kt_g1b (kt_g1l (g_as _ _)) (kt_g1l (g_al _ _))))) (kt_g1b (kt_g1b (kt_g1b (kt_g1l (g_fnul _ _)) (kt_g1l (g_il _ _))) (kt_g1b (kt_g1l (g_cs _ _ _)) (kt_g1l (g_fne _ _)))) (kt_g1b (kt_g1b (kt_g1l (g_lc _ _)) (kt_g1l (g_rl))) (kt_g1b (kt_g1l (g_al _ _)) (kt_g1l (g_al _ _)))))) (kt_g1b (kt_g1b (kt_g1b (kt_g1b (kt_g1l (g_il _ _)) (kt_g1l (g_il _ _))) (kt_g1b (kt_g1l (g_ic _ _)) (kt_g1l (g_ic _ _)))) (kt_g1b (kt_g1b (kt_g1l (g_cv _ _ _)) (kt_g1l (g_pf _ _ _ _))) (kt_g1b (kt_g1l (g_al _ _)) (kt_g1l (g_gf _ _ _))))) (kt_g1b (kt_g1b (kt_g1b (kt_g1l (g_fne _ _)) (kt_g1l (g_al _ _))) (kt_g1b (kt_g1l (g_gf _ _ _)) (kt_g1l (g_il _ _)))) (kt_g1b (kt_g1b (kt_g1l (g_ial _)) (kt_g1l (g_i2l _))) (kt_g1b (kt_g1l (g_goto _)) (kt_g1b (kt_g1l (g_lc _ _)) (kt_g1l (g_rl)))))))
set_option maxRecDepth 20000 in
theorem kg_91 : kt_gr kX11_copy := by
  intro pc
  show kt_g1 (kX11_copy pc)
  unfold kX11_copy
  exact kt_g1b (kt_g1b (kt_g1b (kt_g1b (kt_g1b (kt_g1l (g_al _ _)) (kt_g1b (kt_g1l (g_ic _ _)) (kt_g1l (g_pf _ _ _ _)))) (kt_g1b (kt_g1b (kt_g1l (g_al _ _)) (kt_g1l (g_il _ _))) (kt_g1b (kt_g1l (g_cv _ _ _)) (kt_g1l (g_as _ _))))) (kt_g1b (kt_g1b (kt_g1b (kt_g1l (g_al _ _)) (kt_g1l (g_il _ _))) (kt_g1b (kt_g1l (g_cv _ _ _)) (kt_g1l (g_as _ _)))) (kt_g1b (kt_g1b (kt_g1l (g_al _ _)) (kt_g1l (g_fnul _ _))) (kt_g1b (kt_g1l (g_al _ _)) (kt_g1l (g_fnn _ _)))))) (kt_g1b (kt_g1b (kt_g1b (kt_g1b (kt_g1l (g_ic _ _)) (kt_g1l (g_ri))) (kt_g1b (kt_g1l (g_al _ _)) (kt_g1l (g_gf _ _ _)))) (kt_g1b (kt_g1b (kt_g1l (g_feq _ _)) (kt_g1l (g_al _ _))) (kt_g1b (kt_g1l (g_gf _ _ _)) (kt_g1l (g_fne _ _))))) (kt_g1b (kt_g1b (kt_g1b (kt_g1l (g_al _ _)) (kt_g1l (g_ic _ _))) (kt_g1b (kt_g1l (g_cv _ _ _)) (kt_g1l (g_ri)))) (kt_g1b (kt_g1b (kt_g1l (g_al _ _)) (kt_g1l (g_gf _ _ _))) (kt_g1b (kt_g1l (g_al _ _)) (kt_g1l (g_gf _ _ _))))))) (kt_g1b (kt_g1b (kt_g1b (kt_g1b (kt_g1l (g_ceq _ _)) (kt_g1b (kt_g1l (g_al _ _)) (kt_g1l (g_ic _ _)))) (kt_g1b (kt_g1b (kt_g1l (g_cv _ _ _)) (kt_g1l (g_ri))) (kt_g1b (kt_g1l (g_al _ _)) (kt_g1l (g_il _ _))))) (kt_g1b (kt_g1b (kt_g1b (kt_g1l (g_il _ _)) (kt_g1l (g_i2l _))) (kt_g1b (kt_g1l (g_cv _ _ _)) (kt_g1l (g_feq _ _)))) (kt_g1b (kt_g1b (kt_g1l (g_al _ _)) (kt_g1l (g_il _ _))) (kt_g1b (kt_g1l (g_il _ _)) (kt_g1l (g_i2l _)))))) (kt_g1b (kt_g1b (kt_g1b (kt_g1b (kt_g1l (g_cv _ _ _)) (kt_g1l (g_fne _ _))) (kt_g1b (kt_g1l (g_al _ _)) (kt_g1l (g_ic _ _)))) (kt_g1b (kt_g1b (kt_g1l (g_cv _ _ _)) (kt_g1l (g_ri))) (kt_g1b (kt_g1l (g_al _ _)) (kt_g1l (g_gf _ _ _))))) (kt_g1b (kt_g1b (kt_g1b (kt_g1l (g_il _ _)) (kt_g1l (g_al _ _))) (kt_g1b (kt_g1l (g_gf _ _ _)) (kt_g1l (g_il _ _)))) (kt_g1b (kt_g1b (kt_g1l (g_il _ _)) (kt_g1l (g_cp _))) (kt_g1b (kt_g1l (g_il _ _)) (kt_g1l (g_ri)))))))
set_option maxRecDepth 20000 in
theorem kg_92 : kt_gr kX11_tell := by
  intro pc
  show kt_g1 (kX11_tell pc)
  unfold kX11_tell
  exact kt_g1b (kt_g1b (kt_g1b (kt_g1l (g_al _ _)) (kt_g1b (kt_g1l (g_il _ _)) (kt_g1l (g_cv _ _ _)))) (kt_g1b (kt_g1l (g_as _ _)) (kt_g1b (kt_g1l (g_al _ _)) (kt_g1l (g_fnn _ _))))) (kt_g1b (kt_g1b (kt_g1l (g_ic _ _)) (kt_g1b (kt_g1l (g_goto _)) (kt_g1l (g_al _ _)))) (kt_g1b (kt_g1b (kt_g1l (g_al _ _)) (kt_g1l (g_gf _ _ _))) (kt_g1b (kt_g1l (g_cv _ _ _)) (kt_g1l (g_ri)))))
set_option maxRecDepth 20000 in
theorem kg_93 : kt_gr kX11_launch := by
  intro pc
  show kt_g1 (kX11_launch pc)
  unfold kX11_launch
  exact kt_g1b (kt_g1b (kt_g1b (kt_g1l (g_al _ _)) (kt_g1b (kt_g1l (g_il _ _)) (kt_g1l (g_cv _ _ _)))) (kt_g1b (kt_g1l (g_as _ _)) (kt_g1b (kt_g1l (g_al _ _)) (kt_g1l (g_fnn _ _))))) (kt_g1b (kt_g1b (kt_g1l (g_ic _ _)) (kt_g1b (kt_g1l (g_goto _)) (kt_g1l (g_al _ _)))) (kt_g1b (kt_g1b (kt_g1l (g_al _ _)) (kt_g1l (g_gf _ _ _))) (kt_g1b (kt_g1l (g_cv _ _ _)) (kt_g1l (g_ri)))))
set_option maxRecDepth 20000 in
theorem kg_94 : kt_gr kX11_as := by
  intro pc
  show kt_g1 (kX11_as pc)
  unfold kX11_as
  exact kt_g1b (kt_g1b (kt_g1b (kt_g1b (kt_g1l (g_al _ _)) (kt_g1b (kt_g1l (g_ic _ _)) (kt_g1l (g_pf _ _ _ _)))) (kt_g1b (kt_g1l (g_al _ _)) (kt_g1b (kt_g1l (g_il _ _)) (kt_g1l (g_cv _ _ _))))) (kt_g1b (kt_g1b (kt_g1l (g_as _ _)) (kt_g1b (kt_g1l (g_al _ _)) (kt_g1l (g_fnn _ _)))) (kt_g1b (kt_g1b (kt_g1l (g_ic _ _)) (kt_g1l (g_ri))) (kt_g1b (kt_g1l (g_il _ _)) (kt_g1l (g_cs _ _ _)))))) (kt_g1b (kt_g1b (kt_g1b (kt_g1l (g_fne _ _)) (kt_g1b (kt_g1l (g_ic _ _)) (kt_g1l (g_ri)))) (kt_g1b (kt_g1l (g_al _ _)) (kt_g1b (kt_g1l (g_il _ _)) (kt_g1l (g_cs _ _ _))))) (kt_g1b (kt_g1b (kt_g1l (g_feq _ _)) (kt_g1b (kt_g1l (g_ic _ _)) (kt_g1l (g_goto _)))) (kt_g1b (kt_g1b (kt_g1l (g_al _ _)) (kt_g1l (g_ic _ _))) (kt_g1b (kt_g1l (g_cv _ _ _)) (kt_g1l (g_ri))))))
set_option maxRecDepth 20000 in
theorem kg_95 : kt_gr kX11_trace := by
  intro pc
  show kt_g1 (kX11_trace pc)
  unfold kX11_trace
  exact kt_g1b (kt_g1b (kt_g1l (g_al _ _)) (kt_g1l (g_gf _ _ _))) (kt_g1b (kt_g1l (g_gf _ _ _)) (kt_g1l (g_ri)))
set_option maxRecDepth 20000 in
theorem kg_96 : kt_gr kX11_fault := by
  intro pc
  show kt_g1 (kX11_fault pc)
  unfold kX11_fault
  exact kt_g1b (kt_g1l (g_al _ _)) (kt_g1b (kt_g1l (g_gf _ _ _)) (kt_g1l (g_ri)))
set_option maxRecDepth 20000 in
theorem kg_97 : kt_gr kX11_many := by
  intro pc
  show kt_g1 (kX11_many pc)
  unfold kX11_many
  exact kt_g1b (kt_g1b (kt_g1b (kt_g1l (g_il _ _)) (kt_g1b (kt_g1l (g_tsw _ _ _ _)) (kt_g1l (g_al _ _)))) (kt_g1b (kt_g1l (g_gf _ _ _)) (kt_g1b (kt_g1l (g_ri)) (kt_g1l (g_al _ _))))) (kt_g1b (kt_g1b (kt_g1l (g_gf _ _ _)) (kt_g1b (kt_g1l (g_ri)) (kt_g1l (g_al _ _)))) (kt_g1b (kt_g1b (kt_g1l (g_cv _ _ _)) (kt_g1l (g_ri))) (kt_g1b (kt_g1l (g_ic _ _)) (kt_g1l (g_ri)))))
set_option maxRecDepth 20000 in
theorem kg_98 : kt_gr kX11_hullAt := by
  intro pc
  show kt_g1 (kX11_hullAt pc)
  unfold kX11_hullAt
  exact kt_g1b (kt_g1b (kt_g1b (kt_g1l (g_il _ _)) (kt_g1b (kt_g1l (g_flt _ _)) (kt_g1l (g_il _ _)))) (kt_g1b (kt_g1l (g_al _ _)) (kt_g1b (kt_g1l (g_gf _ _ _)) (kt_g1l (g_cge _ _))))) (kt_g1b (kt_g1b (kt_g1l (g_al _ _)) (kt_g1b (kt_g1l (g_gf _ _ _)) (kt_g1l (g_il _ _)))) (kt_g1b (kt_g1b (kt_g1l (g_aal _)) (kt_g1l (g_goto _))) (kt_g1b (kt_g1l (g_nul _)) (kt_g1l (g_ra)))))
set_option maxRecDepth 20000 in
theorem kg_99 : kt_gr kX11_lawAt := by
  intro pc
  show kt_g1 (kX11_lawAt pc)
  unfold kX11_lawAt
  exact kt_g1b (kt_g1b (kt_g1b (kt_g1l (g_il _ _)) (kt_g1b (kt_g1l (g_flt _ _)) (kt_g1l (g_il _ _)))) (kt_g1b (kt_g1l (g_al _ _)) (kt_g1b (kt_g1l (g_gf _ _ _)) (kt_g1l (g_cge _ _))))) (kt_g1b (kt_g1b (kt_g1l (g_al _ _)) (kt_g1b (kt_g1l (g_gf _ _ _)) (kt_g1l (g_il _ _)))) (kt_g1b (kt_g1b (kt_g1l (g_aal _)) (kt_g1l (g_goto _))) (kt_g1b (kt_g1l (g_nul _)) (kt_g1l (g_ra)))))
set_option maxRecDepth 20000 in
theorem kg_100 : kt_gr kX11_isLawOrNone := by
  intro pc
  show kt_g1 (kX11_isLawOrNone pc)
  unfold kX11_isLawOrNone
  exact kt_g1b (kt_g1b (kt_g1b (kt_g1l (g_il _ _)) (kt_g1l (g_ic _ _))) (kt_g1b (kt_g1l (g_ceq _ _)) (kt_g1b (kt_g1l (g_al _ _)) (kt_g1l (g_il _ _))))) (kt_g1b (kt_g1b (kt_g1l (g_cv _ _ _)) (kt_g1b (kt_g1l (g_fnul _ _)) (kt_g1l (g_ic _ _)))) (kt_g1b (kt_g1l (g_goto _)) (kt_g1b (kt_g1l (g_ic _ _)) (kt_g1l (g_rz)))))
set_option maxRecDepth 20000 in
theorem kg_101 : kt_gr kX11_sheetAt := by
  intro pc
  show kt_g1 (kX11_sheetAt pc)
  unfold kX11_sheetAt
  exact kt_g1b (kt_g1b (kt_g1b (kt_g1l (g_il _ _)) (kt_g1b (kt_g1l (g_flt _ _)) (kt_g1l (g_il _ _)))) (kt_g1b (kt_g1b (kt_g1l (g_al _ _)) (kt_g1l (g_gf _ _ _))) (kt_g1b (kt_g1l (g_len _)) (kt_g1l (g_cge _ _))))) (kt_g1b (kt_g1b (kt_g1l (g_al _ _)) (kt_g1b (kt_g1l (g_gf _ _ _)) (kt_g1l (g_il _ _)))) (kt_g1b (kt_g1b (kt_g1l (g_aal _)) (kt_g1l (g_goto _))) (kt_g1b (kt_g1l (g_nul _)) (kt_g1l (g_ra)))))
set_option maxRecDepth 20000 in
theorem kg_102 : kt_gr kX11_faulted := by
  intro pc
  show kt_g1 (kX11_faulted pc)
  unfold kX11_faulted
  exact kt_g1b (kt_g1b (kt_g1l (g_al _ _)) (kt_g1b (kt_g1l (g_il _ _)) (kt_g1l (g_pf _ _ _ _)))) (kt_g1b (kt_g1b (kt_g1l (g_ic _ _)) (kt_g1l (g_il _ _))) (kt_g1b (kt_g1l (g_sub _)) (kt_g1l (g_ri))))
set_option maxRecDepth 20000 in
theorem kg_103 : kt_gr kX11_worthBy := by
  intro pc
  show kt_g1 (kX11_worthBy pc)
  unfold kX11_worthBy
  exact kt_g1b (kt_g1b (kt_g1b (kt_g1b (kt_g1l (g_al _ _)) (kt_g1l (g_gf _ _ _))) (kt_g1b (kt_g1l (g_al _ _)) (kt_g1l (g_il _ _)))) (kt_g1b (kt_g1b (kt_g1l (g_cv _ _ _)) (kt_g1l (g_is _ _))) (kt_g1b (kt_g1l (g_al _ _)) (kt_g1l (g_fnn _ _))))) (kt_g1b (kt_g1b (kt_g1b (kt_g1l (g_il _ _)) (kt_g1l (g_goto _))) (kt_g1b (kt_g1l (g_il _ _)) (kt_g1l (g_al _ _)))) (kt_g1b (kt_g1b (kt_g1l (g_al _ _)) (kt_g1l (g_ic _ _))) (kt_g1b (kt_g1l (g_cv _ _ _)) (kt_g1b (kt_g1l (g_sub _)) (kt_g1l (g_ri))))))
set_option maxRecDepth 20000 in
theorem kg_104 : kt_gr kX11_bestBy := by
  intro pc
  show kt_g1 (kX11_bestBy pc)
  unfold kX11_bestBy
  exact kt_g1b (kt_g1b (kt_g1b (kt_g1b (kt_g1b (kt_g1l (g_al _ _)) (kt_g1l (g_gf _ _ _))) (kt_g1b (kt_g1l (g_cv _ _ _)) (kt_g1l (g_al _ _)))) (kt_g1b (kt_g1b (kt_g1l (g_fnn _ _)) (kt_g1l (g_al _ _))) (kt_g1b (kt_g1l (g_gf _ _ _)) (kt_g1b (kt_g1l (g_al _ _)) (kt_g1l (g_gf _ _ _)))))) (kt_g1b (kt_g1b (kt_g1b (kt_g1l (g_il _ _)) (kt_g1l (g_aal _))) (kt_g1b (kt_g1l (g_il _ _)) (kt_g1b (kt_g1l (g_il _ _)) (kt_g1l (g_al _ _))))) (kt_g1b (kt_g1b (kt_g1l (g_gf _ _ _)) (kt_g1l (g_cv _ _ _))) (kt_g1b (kt_g1l (g_al _ _)) (kt_g1b (kt_g1l (g_gf _ _ _)) (kt_g1l (g_gf _ _ _))))))) (kt_g1b (kt_g1b (kt_g1b (kt_g1b (kt_g1l (g_ra)) (kt_g1l (g_al _ _))) (kt_g1b (kt_g1l (g_gf _ _ _)) (kt_g1b (kt_g1l (g_al _ _)) (kt_g1l (g_il _ _))))) (kt_g1b (kt_g1b (kt_g1l (g_cv _ _ _)) (kt_g1l (g_as _ _))) (kt_g1b (kt_g1l (g_al _ _)) (kt_g1b (kt_g1l (g_gf _ _ _)) (kt_g1l (g_al _ _)))))) (kt_g1b (kt_g1b (kt_g1b (kt_g1l (g_gf _ _ _)) (kt_g1l (g_il _ _))) (kt_g1b (kt_g1l (g_aal _)) (kt_g1b (kt_g1l (g_il _ _)) (kt_g1l (g_il _ _))))) (kt_g1b (kt_g1b (kt_g1l (g_al _ _)) (kt_g1l (g_gf _ _ _))) (kt_g1b (kt_g1l (g_cv _ _ _)) (kt_g1b (kt_g1l (g_al _ _)) (kt_g1l (g_ra)))))))
set_option maxRecDepth 20000 in
theorem kg_105 : kt_gr kX11_hullThatGoes := by
  intro pc
  show kt_g1 (kX11_hullThatGoes pc)
  unfold kX11_hullThatGoes
  exact kt_g1b (kt_g1b (kt_g1b (kt_g1b (kt_g1b (kt_g1l (g_ic _ _)) (kt_g1l (g_is _ _))) (kt_g1b (kt_g1l (g_ic _ _)) (kt_g1b (kt_g1l (g_is _ _)) (kt_g1l (g_ic _ _))))) (kt_g1b (kt_g1b (kt_g1l (g_is _ _)) (kt_g1l (g_il _ _))) (kt_g1b (kt_g1l (g_al _ _)) (kt_g1b (kt_g1l (g_gf _ _ _)) (kt_g1l (g_cge _ _)))))) (kt_g1b (kt_g1b (kt_g1b (kt_g1l (g_al _ _)) (kt_g1l (g_gf _ _ _))) (kt_g1b (kt_g1l (g_il _ _)) (kt_g1b (kt_g1l (g_aal _)) (kt_g1l (g_cv _ _ _))))) (kt_g1b (kt_g1b (kt_g1l (g_as _ _)) (kt_g1b (kt_g1l (g_al _ _)) (kt_g1l (g_al _ _)))) (kt_g1b (kt_g1l (g_al _ _)) (kt_g1b (kt_g1l (g_il _ _)) (kt_g1l (g_cv _ _ _))))))) (kt_g1b (kt_g1b (kt_g1b (kt_g1b (kt_g1l (g_is _ _)) (kt_g1l (g_il _ _))) (kt_g1b (kt_g1l (g_il _ _)) (kt_g1b (kt_g1l (g_cle _ _)) (kt_g1l (g_al _ _))))) (kt_g1b (kt_g1b (kt_g1l (g_gf _ _ _)) (kt_g1b (kt_g1l (g_al _ _)) (kt_g1l (g_gf _ _ _)))) (kt_g1b (kt_g1l (g_il _ _)) (kt_g1b (kt_g1l (g_aal _)) (kt_g1l (g_al _ _)))))) (kt_g1b (kt_g1b (kt_g1b (kt_g1l (g_cv _ _ _)) (kt_g1l (g_ic _ _))) (kt_g1b (kt_g1l (g_cne _ _)) (kt_g1b (kt_g1l (g_il _ _)) (kt_g1l (g_is _ _))))) (kt_g1b (kt_g1b (kt_g1l (g_il _ _)) (kt_g1b (kt_g1l (g_is _ _)) (kt_g1l (g_inc _ _ _)))) (kt_g1b (kt_g1l (g_goto _)) (kt_g1b (kt_g1l (g_il _ _)) (kt_g1l (g_ri)))))))
set_option maxRecDepth 20000 in
theorem kg_106 : kt_gr kX11_wordsOfAll := by
  intro pc
  show kt_g1 (kX11_wordsOfAll pc)
  unfold kX11_wordsOfAll
  exact kt_g1b (kt_g1b (kt_g1b (kt_g1b (kt_g1l (g_ic _ _)) (kt_g1l (g_is _ _))) (kt_g1b (kt_g1l (g_ic _ _)) (kt_g1b (kt_g1l (g_is _ _)) (kt_g1l (g_il _ _))))) (kt_g1b (kt_g1b (kt_g1l (g_al _ _)) (kt_g1l (g_gf _ _ _))) (kt_g1b (kt_g1l (g_cge _ _)) (kt_g1b (kt_g1l (g_il _ _)) (kt_g1l (g_al _ _)))))) (kt_g1b (kt_g1b (kt_g1b (kt_g1l (g_gf _ _ _)) (kt_g1l (g_il _ _))) (kt_g1b (kt_g1l (g_aal _)) (kt_g1b (kt_g1l (g_gf _ _ _)) (kt_g1l (g_add _))))) (kt_g1b (kt_g1b (kt_g1l (g_is _ _)) (kt_g1l (g_inc _ _ _))) (kt_g1b (kt_g1l (g_goto _)) (kt_g1b (kt_g1l (g_il _ _)) (kt_g1l (g_ri))))))
set_option maxRecDepth 20000 in
theorem kg_107 : kt_gr kX11_newHull := by
  intro pc
  show kt_g1 (kX11_newHull pc)
  unfold kX11_newHull
  exact kt_g1b (kt_g1b (kt_g1b (kt_g1b (kt_g1l (g_il _ _)) (kt_g1l (g_ic _ _))) (kt_g1b (kt_g1l (g_cne _ _)) (kt_g1b (kt_g1l (g_new _ _ _)) (kt_g1l (g_dup _))))) (kt_g1b (kt_g1b (kt_g1l (g_il _ _)) (kt_g1l (g_ci _ _ _))) (kt_g1b (kt_g1l (g_ra)) (kt_g1b (kt_g1l (g_il _ _)) (kt_g1l (g_ic _ _)))))) (kt_g1b (kt_g1b (kt_g1b (kt_g1l (g_cne _ _)) (kt_g1l (g_new _ _ _))) (kt_g1b (kt_g1l (g_dup _)) (kt_g1b (kt_g1l (g_il _ _)) (kt_g1l (g_ci _ _ _))))) (kt_g1b (kt_g1b (kt_g1l (g_goto _)) (kt_g1b (kt_g1l (g_new _ _ _)) (kt_g1l (g_dup _)))) (kt_g1b (kt_g1l (g_il _ _)) (kt_g1b (kt_g1l (g_ci _ _ _)) (kt_g1l (g_ra))))))
set_option maxRecDepth 20000 in
theorem kg_108 : kt_gr kX11_isOfKind := by
  intro pc
  show kt_g1 (kX11_isOfKind pc)
  unfold kX11_isOfKind
  exact kt_g1b (kt_g1b (kt_g1b (kt_g1l (g_il _ _)) (kt_g1b (kt_g1l (g_ic _ _)) (kt_g1l (g_cne _ _)))) (kt_g1b (kt_g1b (kt_g1l (g_al _ _)) (kt_g1l (g_ins _ _ _))) (kt_g1b (kt_g1l (g_rz)) (kt_g1l (g_il _ _))))) (kt_g1b (kt_g1b (kt_g1b (kt_g1l (g_feq _ _)) (kt_g1l (g_al _ _))) (kt_g1b (kt_g1l (g_ins _ _ _)) (kt_g1l (g_feq _ _)))) (kt_g1b (kt_g1b (kt_g1l (g_ic _ _)) (kt_g1l (g_goto _))) (kt_g1b (kt_g1l (g_ic _ _)) (kt_g1l (g_rz)))))
set_option maxRecDepth 20000 in
theorem kg_109 : kt_gr kX11_isKind := by
  intro pc
  show kt_g1 (kX11_isKind pc)
  unfold kX11_isKind
  exact kt_g1b (kt_g1b (kt_g1b (kt_g1l (g_il _ _)) (kt_g1l (g_flt _ _))) (kt_g1b (kt_g1l (g_il _ _)) (kt_g1l (g_ic _ _)))) (kt_g1b (kt_g1b (kt_g1l (g_cge _ _)) (kt_g1l (g_ic _ _))) (kt_g1b (kt_g1l (g_goto _)) (kt_g1b (kt_g1l (g_ic _ _)) (kt_g1l (g_rz)))))
set_option maxRecDepth 20000 in
theorem kg_110 : kt_gr kX11_isLane := by
  intro pc
  show kt_g1 (kX11_isLane pc)
  unfold kX11_isLane
  exact kt_g1b (kt_g1b (kt_g1b (kt_g1l (g_il _ _)) (kt_g1l (g_flt _ _))) (kt_g1b (kt_g1l (g_il _ _)) (kt_g1l (g_ic _ _)))) (kt_g1b (kt_g1b (kt_g1l (g_cge _ _)) (kt_g1l (g_ic _ _))) (kt_g1b (kt_g1l (g_goto _)) (kt_g1b (kt_g1l (g_ic _ _)) (kt_g1l (g_rz)))))
set_option maxRecDepth 20000 in
theorem kg_111 : kt_gr kX11_isPart := by
  intro pc
  show kt_g1 (kX11_isPart pc)
  unfold kX11_isPart
  exact kt_g1b (kt_g1b (kt_g1b (kt_g1l (g_il _ _)) (kt_g1l (g_ic _ _))) (kt_g1b (kt_g1l (g_clt _ _)) (kt_g1b (kt_g1l (g_il _ _)) (kt_g1l (g_ic _ _))))) (kt_g1b (kt_g1b (kt_g1l (g_cgt _ _)) (kt_g1l (g_ic _ _))) (kt_g1b (kt_g1l (g_goto _)) (kt_g1b (kt_g1l (g_ic _ _)) (kt_g1l (g_rz)))))
set_option maxRecDepth 20000 in
theorem kg_112 : kt_gr kX11_areShapes := by
  intro pc
  show kt_g1 (kX11_areShapes pc)
  unfold kX11_areShapes
  exact kt_g1b (kt_g1b (kt_g1b (kt_g1b (kt_g1l (g_il _ _)) (kt_g1l (g_ic _ _))) (kt_g1b (kt_g1l (g_clt _ _)) (kt_g1l (g_il _ _)))) (kt_g1b (kt_g1b (kt_g1l (g_ic _ _)) (kt_g1l (g_cgt _ _))) (kt_g1b (kt_g1l (g_il _ _)) (kt_g1b (kt_g1l (g_ic _ _)) (kt_g1l (g_clt _ _)))))) (kt_g1b (kt_g1b (kt_g1b (kt_g1l (g_il _ _)) (kt_g1l (g_ic _ _))) (kt_g1b (kt_g1l (g_cgt _ _)) (kt_g1b (kt_g1l (g_il _ _)) (kt_g1l (g_cs _ _ _))))) (kt_g1b (kt_g1b (kt_g1l (g_feq _ _)) (kt_g1l (g_ic _ _))) (kt_g1b (kt_g1l (g_goto _)) (kt_g1b (kt_g1l (g_ic _ _)) (kt_g1l (g_rz))))))
set_option maxRecDepth 20000 in
theorem kg_113 : kt_gr kX11_commonDivisor := by
  intro pc
  show kt_g1 (kX11_commonDivisor pc)
  unfold kX11_commonDivisor
  exact kt_g1b (kt_g1b (kt_g1b (kt_g1b (kt_g1l (g_il _ _)) (kt_g1l (g_is _ _))) (kt_g1b (kt_g1l (g_il _ _)) (kt_g1b (kt_g1l (g_is _ _)) (kt_g1l (g_ic _ _))))) (kt_g1b (kt_g1b (kt_g1l (g_is _ _)) (kt_g1b (kt_g1l (g_il _ _)) (kt_g1l (g_ic _ _)))) (kt_g1b (kt_g1l (g_cge _ _)) (kt_g1b (kt_g1l (g_il _ _)) (kt_g1l (g_feq _ _)))))) (kt_g1b (kt_g1b (kt_g1b (kt_g1l (g_il _ _)) (kt_g1b (kt_g1l (g_il _ _)) (kt_g1l (g_rem _)))) (kt_g1b (kt_g1l (g_is _ _)) (kt_g1b (kt_g1l (g_il _ _)) (kt_g1l (g_is _ _))))) (kt_g1b (kt_g1b (kt_g1l (g_il _ _)) (kt_g1b (kt_g1l (g_is _ _)) (kt_g1l (g_inc _ _ _)))) (kt_g1b (kt_g1l (g_goto _)) (kt_g1b (kt_g1l (g_il _ _)) (kt_g1l (g_ri))))))
set_option maxRecDepth 20000 in
theorem kg_114 : kt_gr kX12_init := by
  intro pc
  show kt_g1 (kX12_init pc)
  unfold kX12_init
  exact kt_g1b (kt_g1b (kt_g1b (kt_g1b (kt_g1b (kt_g1b (kt_g1l (g_al _ _)) (kt_g1b (kt_g1l (g_obj _)) (kt_g1l (g_al _ _)))) (kt_g1b (kt_g1l (g_ic _ _)) (kt_g1b (kt_g1l (g_nai _)) (kt_g1l (g_pf _ _ _ _))))) (kt_g1b (kt_g1b (kt_g1l (g_al _ _)) (kt_g1b (kt_g1l (g_ic _ _)) (kt_g1l (g_nai _)))) (kt_g1b (kt_g1l (g_pf _ _ _ _)) (kt_g1b (kt_g1l (g_al _ _)) (kt_g1l (g_ic _ _)))))) (kt_g1b (kt_g1b (kt_g1b (kt_g1l (g_nai _)) (kt_g1b (kt_g1l (g_pf _ _ _ _)) (kt_g1l (g_al _ _)))) (kt_g1b (kt_g1l (g_ic _ _)) (kt_g1b (kt_g1l (g_nai _)) (kt_g1l (g_pf _ _ _ _))))) (kt_g1b (kt_g1b (kt_g1l (g_al _ _)) (kt_g1b (kt_g1l (g_ic _ _)) (kt_g1l (g_nai _)))) (kt_g1b (kt_g1l (g_pf _ _ _ _)) (kt_g1b (kt_g1l (g_al _ _)) (kt_g1l (g_ic _ _))))))) (kt_g1b (kt_g1b (kt_g1b (kt_g1b (kt_g1l (g_nai _)) (kt_g1b (kt_g1l (g_pf _ _ _ _)) (kt_g1l (g_al _ _)))) (kt_g1b (kt_g1l (g_ic _ _)) (kt_g1b (kt_g1l (g_nai _)) (kt_g1l (g_pf _ _ _ _))))) (kt_g1b (kt_g1b (kt_g1l (g_al _ _)) (kt_g1b (kt_g1l (g_ic _ _)) (kt_g1l (g_nai _)))) (kt_g1b (kt_g1l (g_pf _ _ _ _)) (kt_g1b (kt_g1l (g_al _ _)) (kt_g1l (g_ic _ _)))))) (kt_g1b (kt_g1b (kt_g1b (kt_g1l (g_nai _)) (kt_g1b (kt_g1l (g_pf _ _ _ _)) (kt_g1l (g_al _ _)))) (kt_g1b (kt_g1l (g_ic _ _)) (kt_g1b (kt_g1l (g_nai _)) (kt_g1l (g_pf _ _ _ _))))) (kt_g1b (kt_g1b (kt_g1l (g_al _ _)) (kt_g1b (kt_g1l (g_ic _ _)) (kt_g1l (g_nai _)))) (kt_g1b (kt_g1l (g_pf _ _ _ _)) (kt_g1b (kt_g1l (g_al _ _)) (kt_g1l (g_ic _ _)))))))) (kt_g1b (kt_g1b (kt_g1b (kt_g1b (kt_g1b (kt_g1l (g_nai _)) (kt_g1b (kt_g1l (g_pf _ _ _ _)) (kt_g1l (g_al _ _)))) (kt_g1b (kt_g1l (g_ic _ _)) (kt_g1b (kt_g1l (g_nai _)) (kt_g1l (g_pf _ _ _ _))))) (kt_g1b (kt_g1b (kt_g1l (g_al _ _)) (kt_g1b (kt_g1l (g_ic _ _)) (kt_g1l (g_nai _)))) (kt_g1b (kt_g1l (g_pf _ _ _ _)) (kt_g1b (kt_g1l (g_al _ _)) (kt_g1l (g_gf _ _ _)))))) (kt_g1b (kt_g1b (kt_g1b (kt_g1l (g_ic _ _)) (kt_g1b (kt_g1l (g_ic _ _)) (kt_g1l (g_ias _)))) (kt_g1b (kt_g1l (g_al _ _)) (kt_g1b (kt_g1l (g_gf _ _ _)) (kt_g1l (g_ic _ _))))) (kt_g1b (kt_g1b (kt_g1l (g_ic _ _)) (kt_g1b (kt_g1l (g_ias _)) (kt_g1l (g_al _ _)))) (kt_g1b (kt_g1l (g_gf _ _ _)) (kt_g1b (kt_g1l (g_ic _ _)) (kt_g1l (g_ic _ _))))))) (kt_g1b (kt_g1b (kt_g1b (kt_g1b (kt_g1l (g_ias _)) (kt_g1b (kt_g1l (g_al _ _)) (kt_g1l (g_gf _ _ _)))) (kt_g1b (kt_g1l (g_ic _ _)) (kt_g1b (kt_g1l (g_ic _ _)) (kt_g1l (g_ias _))))) (kt_g1b (kt_g1b (kt_g1l (g_al _ _)) (kt_g1b (kt_g1l (g_gf _ _ _)) (kt_g1l (g_ic _ _)))) (kt_g1b (kt_g1l (g_ic _ _)) (kt_g1b (kt_g1l (g_ias _)) (kt_g1l (g_ic _ _)))))) (kt_g1b (kt_g1b (kt_g1b (kt_g1l (g_is _ _)) (kt_g1b (kt_g1l (g_il _ _)) (kt_g1l (g_ic _ _)))) (kt_g1b (kt_g1l (g_cge _ _)) (kt_g1b (kt_g1l (g_al _ _)) (kt_g1l (g_gf _ _ _))))) (kt_g1b (kt_g1b (kt_g1l (g_il _ _)) (kt_g1b (kt_g1l (g_ic _ _)) (kt_g1l (g_ias _)))) (kt_g1b (kt_g1l (g_inc _ _ _)) (kt_g1b (kt_g1l (g_goto _)) (kt_g1l (g_rv))))))))
set_option maxRecDepth 20000 in
theorem kg_115 : kt_gr kX12_in := by
  intro pc
  show kt_g1 (kX12_in pc)
  unfold kX12_in
  exact kt_g1b (kt_g1b (kt_g1b (kt_g1l (g_ll _ _)) (kt_g1b (kt_g1l (g_ll _ _)) (kt_g1l (g_lcmp _)))) (kt_g1b (kt_g1l (g_flt _ _)) (kt_g1b (kt_g1l (g_ll _ _)) (kt_g1l (g_ll _ _))))) (kt_g1b (kt_g1b (kt_g1l (g_lcmp _)) (kt_g1b (kt_g1l (g_fgt _ _)) (kt_g1l (g_ic _ _)))) (kt_g1b (kt_g1l (g_goto _)) (kt_g1b (kt_g1l (g_ic _ _)) (kt_g1l (g_rz)))))
set_option maxRecDepth 20000 in
theorem kg_116 : kt_gr kX12_lost := by
  intro pc
  show kt_g1 (kX12_lost pc)
  unfold kX12_lost
  exact kt_g1b (kt_g1l (g_lc _ _)) (kt_g1l (g_rl))
set_option maxRecDepth 20000 in
theorem kg_117 : kt_gr kX12_greater := by
  intro pc
  show kt_g1 (kX12_greater pc)
  unfold kX12_greater
  exact kt_g1b (kt_g1b (kt_g1l (g_il _ _)) (kt_g1b (kt_g1l (g_il _ _)) (kt_g1l (g_cle _ _)))) (kt_g1b (kt_g1b (kt_g1l (g_il _ _)) (kt_g1l (g_goto _))) (kt_g1b (kt_g1l (g_il _ _)) (kt_g1l (g_ri))))
set_option maxRecDepth 20000 in
theorem kg_118 : kt_gr kX12_share := by
  intro pc
  show kt_g1 (kX12_share pc)
  unfold kX12_share
  exact kt_g1b (kt_g1b (kt_g1b (kt_g1b (kt_g1l (g_ll _ _)) (kt_g1b (kt_g1l (g_ls _ _)) (kt_g1l (g_ll _ _)))) (kt_g1b (kt_g1l (g_ls _ _)) (kt_g1b (kt_g1l (g_ll _ _)) (kt_g1l (g_lc _ _))))) (kt_g1b (kt_g1b (kt_g1l (g_lcmp _)) (kt_g1b (kt_g1l (g_feq _ _)) (kt_g1l (g_ll _ _)))) (kt_g1b (kt_g1l (g_ll _ _)) (kt_g1b (kt_g1l (g_lrem _)) (kt_g1l (g_ls _ _)))))) (kt_g1b (kt_g1b (kt_g1b (kt_g1l (g_ll _ _)) (kt_g1b (kt_g1l (g_ls _ _)) (kt_g1l (g_ll _ _)))) (kt_g1b (kt_g1l (g_ls _ _)) (kt_g1b (kt_g1l (g_goto _)) (kt_g1l (g_il _ _))))) (kt_g1b (kt_g1b (kt_g1l (g_fne _ _)) (kt_g1b (kt_g1l (g_ll _ _)) (kt_g1l (g_goto _)))) (kt_g1b (kt_g1b (kt_g1l (g_ll _ _)) (kt_g1l (g_ll _ _))) (kt_g1b (kt_g1l (g_ldiv _)) (kt_g1l (g_rl))))))
set_option maxRecDepth 20000 in
theorem kg_119 : kt_gr kX12_refused := by
  intro pc
  show kt_g1 (kX12_refused pc)
  unfold kX12_refused
  exact kt_g1b (kt_g1b (kt_g1l (g_al _ _)) (kt_g1l (g_ic _ _))) (kt_g1b (kt_g1l (g_pf _ _ _ _)) (kt_g1b (kt_g1l (g_il _ _)) (kt_g1l (g_ri))))
set_option maxRecDepth 20000 in
theorem kg_120 : kt_gr kX12_failed := by
  intro pc
  show kt_g1 (kX12_failed pc)
  unfold kX12_failed
  exact kt_g1b (kt_g1b (kt_g1l (g_al _ _)) (kt_g1b (kt_g1l (g_il _ _)) (kt_g1l (g_pf _ _ _ _)))) (kt_g1b (kt_g1b (kt_g1l (g_ic _ _)) (kt_g1l (g_il _ _))) (kt_g1b (kt_g1l (g_sub _)) (kt_g1l (g_ri))))
set_option maxRecDepth 20000 in
theorem kg_121 : kt_gr kX12_failedLong := by
  intro pc
  show kt_g1 (kX12_failedLong pc)
  unfold kX12_failedLong
  exact kt_g1b (kt_g1b (kt_g1l (g_al _ _)) (kt_g1l (g_il _ _))) (kt_g1b (kt_g1l (g_pf _ _ _ _)) (kt_g1b (kt_g1l (g_cs _ _ _)) (kt_g1l (g_rl))))
set_option maxRecDepth 20000 in
theorem kg_122 : kt_gr kX12_barred := by
  intro pc
  show kt_g1 (kX12_barred pc)
  unfold kX12_barred
  exact kt_g1b (kt_g1b (kt_g1b (kt_g1b (kt_g1b (kt_g1l (g_al _ _)) (kt_g1l (g_gf _ _ _))) (kt_g1b (kt_g1l (g_il _ _)) (kt_g1b (kt_g1l (g_ial _)) (kt_g1l (g_flt _ _))))) (kt_g1b (kt_g1b (kt_g1l (g_al _ _)) (kt_g1b (kt_g1l (g_gf _ _ _)) (kt_g1l (g_il _ _)))) (kt_g1b (kt_g1l (g_ial _)) (kt_g1b (kt_g1l (g_il _ _)) (kt_g1l (g_ceq _ _)))))) (kt_g1b (kt_g1b (kt_g1b (kt_g1l (g_al _ _)) (kt_g1b (kt_g1l (g_ic _ _)) (kt_g1l (g_cv _ _ _)))) (kt_g1b (kt_g1l (g_ri)) (kt_g1b (kt_g1l (g_al _ _)) (kt_g1l (g_gf _ _ _))))) (kt_g1b (kt_g1b (kt_g1l (g_il _ _)) (kt_g1b (kt_g1l (g_ial _)) (kt_g1l (g_fge _ _)))) (kt_g1b (kt_g1l (g_al _ _)) (kt_g1b (kt_g1l (g_ic _ _)) (kt_g1l (g_cv _ _ _))))))) (kt_g1b (kt_g1b (kt_g1b (kt_g1b (kt_g1l (g_ri)) (kt_g1l (g_ll _ _))) (kt_g1b (kt_g1l (g_lc _ _)) (kt_g1b (kt_g1l (g_lcmp _)) (kt_g1l (g_fge _ _))))) (kt_g1b (kt_g1b (kt_g1l (g_al _ _)) (kt_g1b (kt_g1l (g_ic _ _)) (kt_g1l (g_cv _ _ _)))) (kt_g1b (kt_g1l (g_ri)) (kt_g1b (kt_g1l (g_il _ _)) (kt_g1l (g_ll _ _)))))) (kt_g1b (kt_g1b (kt_g1b (kt_g1l (g_al _ _)) (kt_g1b (kt_g1l (g_gf _ _ _)) (kt_g1l (g_il _ _)))) (kt_g1b (kt_g1l (g_ial _)) (kt_g1b (kt_g1l (g_cs _ _ _)) (kt_g1l (g_feq _ _))))) (kt_g1b (kt_g1b (kt_g1l (g_al _ _)) (kt_g1b (kt_g1l (g_ic _ _)) (kt_g1l (g_cv _ _ _)))) (kt_g1b (kt_g1l (g_goto _)) (kt_g1b (kt_g1l (g_ic _ _)) (kt_g1l (g_ri)))))))
set_option maxRecDepth 20000 in
theorem kg_123 : kt_gr kX12_isLane := by
  intro pc
  show kt_g1 (kX12_isLane pc)
  unfold kX12_isLane
  exact kt_g1b (kt_g1b (kt_g1l (g_il _ _)) (kt_g1b (kt_g1l (g_i2l _)) (kt_g1l (g_lc _ _)))) (kt_g1b (kt_g1l (g_lc _ _)) (kt_g1b (kt_g1l (g_cs _ _ _)) (kt_g1l (g_rz))))
set_option maxRecDepth 20000 in
theorem kg_124 : kt_gr kX12_isKind := by
  intro pc
  show kt_g1 (kX12_isKind pc)
  unfold kX12_isKind
  exact kt_g1b (kt_g1b (kt_g1l (g_il _ _)) (kt_g1b (kt_g1l (g_i2l _)) (kt_g1l (g_lc _ _)))) (kt_g1b (kt_g1l (g_lc _ _)) (kt_g1b (kt_g1l (g_cs _ _ _)) (kt_g1l (g_rz))))
set_option maxRecDepth 20000 in
theorem kg_125 : kt_gr kX12_noHull := by
  intro pc
  show kt_g1 (kX12_noHull pc)
  unfold kX12_noHull
  exact kt_g1b (kt_g1b (kt_g1b (kt_g1l (g_il _ _)) (kt_g1b (kt_g1l (g_i2l _)) (kt_g1l (g_lc _ _)))) (kt_g1b (kt_g1b (kt_g1l (g_al _ _)) (kt_g1l (g_gf _ _ _))) (kt_g1b (kt_g1l (g_i2l _)) (kt_g1l (g_lc _ _))))) (kt_g1b (kt_g1b (kt_g1l (g_lsub _)) (kt_g1b (kt_g1l (g_cs _ _ _)) (kt_g1l (g_fne _ _)))) (kt_g1b (kt_g1b (kt_g1l (g_ic _ _)) (kt_g1l (g_goto _))) (kt_g1b (kt_g1l (g_ic _ _)) (kt_g1l (g_rz)))))
set_option maxRecDepth 20000 in
theorem kg_126 : kt_gr kX12_noStation := by
  intro pc
  show kt_g1 (kX12_noStation pc)
  unfold kX12_noStation
  exact kt_g1b (kt_g1b (kt_g1b (kt_g1b (kt_g1l (g_al _ _)) (kt_g1l (g_il _ _))) (kt_g1b (kt_g1l (g_cv _ _ _)) (kt_g1b (kt_g1l (g_fne _ _)) (kt_g1l (g_il _ _))))) (kt_g1b (kt_g1b (kt_g1l (g_i2l _)) (kt_g1l (g_lc _ _))) (kt_g1b (kt_g1l (g_al _ _)) (kt_g1b (kt_g1l (g_gf _ _ _)) (kt_g1l (g_il _ _)))))) (kt_g1b (kt_g1b (kt_g1b (kt_g1l (g_ial _)) (kt_g1l (g_i2l _))) (kt_g1b (kt_g1l (g_lc _ _)) (kt_g1b (kt_g1l (g_lsub _)) (kt_g1l (g_cs _ _ _))))) (kt_g1b (kt_g1b (kt_g1l (g_fne _ _)) (kt_g1l (g_ic _ _))) (kt_g1b (kt_g1l (g_goto _)) (kt_g1b (kt_g1l (g_ic _ _)) (kt_g1l (g_rz))))))
set_option maxRecDepth 20000 in
theorem kg_127 : kt_gr kX12_hull := by
  intro pc
  show kt_g1 (kX12_hull pc)
  unfold kX12_hull
  exact kt_g1b (kt_g1b (kt_g1b (kt_g1b (kt_g1b (kt_g1b (kt_g1b (kt_g1l (g_il _ _)) (kt_g1l (g_cs _ _ _))) (kt_g1b (kt_g1l (g_feq _ _)) (kt_g1l (g_al _ _)))) (kt_g1b (kt_g1b (kt_g1l (g_ic _ _)) (kt_g1l (g_cv _ _ _))) (kt_g1b (kt_g1l (g_ri)) (kt_g1b (kt_g1l (g_il _ _)) (kt_g1l (g_cs _ _ _)))))) (kt_g1b (kt_g1b (kt_g1b (kt_g1l (g_feq _ _)) (kt_g1l (g_il _ _))) (kt_g1b (kt_g1l (g_cs _ _ _)) (kt_g1l (g_fne _ _)))) (kt_g1b (kt_g1b (kt_g1l (g_al _ _)) (kt_g1l (g_ic _ _))) (kt_g1b (kt_g1l (g_cv _ _ _)) (kt_g1b (kt_g1l (g_ri)) (kt_g1l (g_al _ _))))))) (kt_g1b (kt_g1b (kt_g1b (kt_g1b (kt_g1l (g_il _ _)) (kt_g1l (g_il _ _))) (kt_g1b (kt_g1l (g_il _ _)) (kt_g1l (g_lc _ _)))) (kt_g1b (kt_g1b (kt_g1l (g_il _ _)) (kt_g1l (g_i2l _))) (kt_g1b (kt_g1l (g_lmul _)) (kt_g1b (kt_g1l (g_cv _ _ _)) (kt_g1l (g_is _ _)))))) (kt_g1b (kt_g1b (kt_g1b (kt_g1l (g_il _ _)) (kt_g1l (g_fge _ _))) (kt_g1b (kt_g1l (g_il _ _)) (kt_g1l (g_ri)))) (kt_g1b (kt_g1b (kt_g1l (g_ic _ _)) (kt_g1l (g_il _ _))) (kt_g1b (kt_g1l (g_mul _)) (kt_g1b (kt_g1l (g_il _ _)) (kt_g1l (g_add _)))))))) (kt_g1b (kt_g1b (kt_g1b (kt_g1b (kt_g1b (kt_g1l (g_is _ _)) (kt_g1l (g_il _ _))) (kt_g1b (kt_g1l (g_i2l _)) (kt_g1l (g_lc _ _)))) (kt_g1b (kt_g1b (kt_g1l (g_lc _ _)) (kt_g1l (g_cs _ _ _))) (kt_g1b (kt_g1l (g_is _ _)) (kt_g1b (kt_g1l (g_ic _ _)) (kt_g1l (g_is _ _)))))) (kt_g1b (kt_g1b (kt_g1b (kt_g1l (g_il _ _)) (kt_g1l (g_ic _ _))) (kt_g1b (kt_g1l (g_il _ _)) (kt_g1l (g_mul _)))) (kt_g1b (kt_g1b (kt_g1l (g_cge _ _)) (kt_g1l (g_il _ _))) (kt_g1b (kt_g1l (g_feq _ _)) (kt_g1b (kt_g1l (g_al _ _)) (kt_g1l (g_gf _ _ _))))))) (kt_g1b (kt_g1b (kt_g1b (kt_g1b (kt_g1l (g_il _ _)) (kt_g1l (g_il _ _))) (kt_g1b (kt_g1l (g_add _)) (kt_g1l (g_ial _)))) (kt_g1b (kt_g1b (kt_g1l (g_i2l _)) (kt_g1l (g_lc _ _))) (kt_g1b (kt_g1l (g_lc _ _)) (kt_g1b (kt_g1l (g_cs _ _ _)) (kt_g1l (g_is _ _)))))) (kt_g1b (kt_g1b (kt_g1b (kt_g1l (g_inc _ _ _)) (kt_g1l (g_goto _))) (kt_g1b (kt_g1l (g_il _ _)) (kt_g1b (kt_g1l (g_fne _ _)) (kt_g1l (g_al _ _))))) (kt_g1b (kt_g1b (kt_g1l (g_ic _ _)) (kt_g1l (g_cv _ _ _))) (kt_g1b (kt_g1l (g_ri)) (kt_g1b (kt_g1l (g_al _ _)) (kt_g1l (g_gf _ _ _))))))))) (kt_g1b (kt_g1b (kt_g1b (kt_g1b (kt_g1b (kt_g1b (kt_g1l (g_ic _ _)) (kt_g1l (g_cne _ _))) (kt_g1b (kt_g1l (g_al _ _)) (kt_g1l (g_ic _ _)))) (kt_g1b (kt_g1b (kt_g1l (g_cv _ _ _)) (kt_g1l (g_ri))) (kt_g1b (kt_g1l (g_al _ _)) (kt_g1b (kt_g1l (g_gf _ _ _)) (kt_g1l (g_al _ _)))))) (kt_g1b (kt_g1b (kt_g1b (kt_g1l (g_gf _ _ _)) (kt_g1l (g_il _ _))) (kt_g1b (kt_g1l (g_ias _)) (kt_g1l (g_al _ _)))) (kt_g1b (kt_g1b (kt_g1l (g_gf _ _ _)) (kt_g1l (g_al _ _))) (kt_g1b (kt_g1l (g_gf _ _ _)) (kt_g1b (kt_g1l (g_il _ _)) (kt_g1l (g_ias _))))))) (kt_g1b (kt_g1b (kt_g1b (kt_g1b (kt_g1l (g_ic _ _)) (kt_g1l (g_is _ _))) (kt_g1b (kt_g1l (g_il _ _)) (kt_g1l (g_il _ _)))) (kt_g1b (kt_g1b (kt_g1l (g_cge _ _)) (kt_g1l (g_al _ _))) (kt_g1b (kt_g1l (g_gf _ _ _)) (kt_g1b (kt_g1l (g_ic _ _)) (kt_g1l (g_al _ _)))))) (kt_g1b (kt_g1b (kt_g1b (kt_g1l (g_gf _ _ _)) (kt_g1l (g_mul _))) (kt_g1b (kt_g1l (g_il _ _)) (kt_g1b (kt_g1l (g_add _)) (kt_g1l (g_al _ _))))) (kt_g1b (kt_g1b (kt_g1l (g_gf _ _ _)) (kt_g1l (g_il _ _))) (kt_g1b (kt_g1l (g_ic _ _)) (kt_g1b (kt_g1l (g_il _ _)) (kt_g1l (g_mul _)))))))) (kt_g1b (kt_g1b (kt_g1b (kt_g1b (kt_g1b (kt_g1l (g_add _)) (kt_g1l (g_ial _))) (kt_g1b (kt_g1l (g_ias _)) (kt_g1l (g_al _ _)))) (kt_g1b (kt_g1b (kt_g1l (g_gf _ _ _)) (kt_g1l (g_ic _ _))) (kt_g1b (kt_g1l (g_al _ _)) (kt_g1b (kt_g1l (g_gf _ _ _)) (kt_g1l (g_mul _)))))) (kt_g1b (kt_g1b (kt_g1b (kt_g1l (g_il _ _)) (kt_g1l (g_add _))) (kt_g1b (kt_g1l (g_al _ _)) (kt_g1l (g_gf _ _ _)))) (kt_g1b (kt_g1b (kt_g1l (g_il _ _)) (kt_g1l (g_ic _ _))) (kt_g1b (kt_g1l (g_il _ _)) (kt_g1b (kt_g1l (g_mul _)) (kt_g1l (g_add _))))))) (kt_g1b (kt_g1b (kt_g1b (kt_g1b (kt_g1l (g_ic _ _)) (kt_g1l (g_add _))) (kt_g1b (kt_g1l (g_ial _)) (kt_g1l (g_ias _)))) (kt_g1b (kt_g1b (kt_g1l (g_inc _ _ _)) (kt_g1l (g_goto _))) (kt_g1b (kt_g1l (g_al _ _)) (kt_g1b (kt_g1l (g_dup _)) (kt_g1l (g_gf _ _ _)))))) (kt_g1b (kt_g1b (kt_g1b (kt_g1l (g_ic _ _)) (kt_g1l (g_add _))) (kt_g1b (kt_g1l (g_pf _ _ _ _)) (kt_g1b (kt_g1l (g_al _ _)) (kt_g1l (g_al _ _))))) (kt_g1b (kt_g1b (kt_g1l (g_gf _ _ _)) (kt_g1l (g_ic _ _))) (kt_g1b (kt_g1l (g_sub _)) (kt_g1b (kt_g1l (g_cv _ _ _)) (kt_g1l (g_ri)))))))))
set_option maxRecDepth 20000 in
theorem kg_128 : kt_gr kX12_takeUp := by
  intro pc
  show kt_g1 (kX12_takeUp pc)
  unfold kX12_takeUp
  exact kt_g1b (kt_g1b (kt_g1b (kt_g1b (kt_g1b (kt_g1l (g_al _ _)) (kt_g1l (g_al _ _))) (kt_g1b (kt_g1l (g_gf _ _ _)) (kt_g1b (kt_g1l (g_il _ _)) (kt_g1l (g_ial _))))) (kt_g1b (kt_g1b (kt_g1l (g_pf _ _ _ _)) (kt_g1b (kt_g1l (g_al _ _)) (kt_g1l (g_al _ _)))) (kt_g1b (kt_g1l (g_gf _ _ _)) (kt_g1b (kt_g1l (g_il _ _)) (kt_g1l (g_ial _)))))) (kt_g1b (kt_g1b (kt_g1b (kt_g1l (g_pf _ _ _ _)) (kt_g1l (g_ic _ _))) (kt_g1b (kt_g1l (g_is _ _)) (kt_g1b (kt_g1l (g_il _ _)) (kt_g1l (g_al _ _))))) (kt_g1b (kt_g1b (kt_g1l (g_gf _ _ _)) (kt_g1b (kt_g1l (g_cge _ _)) (kt_g1l (g_al _ _)))) (kt_g1b (kt_g1l (g_gf _ _ _)) (kt_g1b (kt_g1l (g_il _ _)) (kt_g1l (g_al _ _))))))) (kt_g1b (kt_g1b (kt_g1b (kt_g1b (kt_g1l (g_gf _ _ _)) (kt_g1l (g_ic _ _))) (kt_g1b (kt_g1l (g_il _ _)) (kt_g1b (kt_g1l (g_mul _)) (kt_g1l (g_il _ _))))) (kt_g1b (kt_g1b (kt_g1l (g_add _)) (kt_g1b (kt_g1l (g_ial _)) (kt_g1l (g_ias _)))) (kt_g1b (kt_g1l (g_al _ _)) (kt_g1b (kt_g1l (g_gf _ _ _)) (kt_g1l (g_il _ _)))))) (kt_g1b (kt_g1b (kt_g1b (kt_g1l (g_al _ _)) (kt_g1b (kt_g1l (g_gf _ _ _)) (kt_g1l (g_ic _ _)))) (kt_g1b (kt_g1l (g_il _ _)) (kt_g1b (kt_g1l (g_mul _)) (kt_g1l (g_il _ _))))) (kt_g1b (kt_g1b (kt_g1l (g_add _)) (kt_g1b (kt_g1l (g_ial _)) (kt_g1l (g_ias _)))) (kt_g1b (kt_g1l (g_inc _ _ _)) (kt_g1b (kt_g1l (g_goto _)) (kt_g1l (g_rv)))))))
set_option maxRecDepth 20000 in
theorem kg_129 : kt_gr kX12_measure := by
  intro pc
  show kt_g1 (kX12_measure pc)
  unfold kX12_measure
  exact kt_g1b (kt_g1b (kt_g1b (kt_g1b (kt_g1b (kt_g1b (kt_g1l (g_ic _ _)) (kt_g1l (g_is _ _))) (kt_g1b (kt_g1l (g_ic _ _)) (kt_g1l (g_is _ _)))) (kt_g1b (kt_g1b (kt_g1l (g_ic _ _)) (kt_g1l (g_is _ _))) (kt_g1b (kt_g1l (g_il _ _)) (kt_g1b (kt_g1l (g_al _ _)) (kt_g1l (g_gf _ _ _)))))) (kt_g1b (kt_g1b (kt_g1b (kt_g1l (g_cge _ _)) (kt_g1l (g_il _ _))) (kt_g1b (kt_g1l (g_ic _ _)) (kt_g1b (kt_g1l (g_cge _ _)) (kt_g1l (g_al _ _))))) (kt_g1b (kt_g1b (kt_g1l (g_gf _ _ _)) (kt_g1l (g_il _ _))) (kt_g1b (kt_g1l (g_ial _)) (kt_g1b (kt_g1l (g_goto _)) (kt_g1l (g_al _ _))))))) (kt_g1b (kt_g1b (kt_g1b (kt_g1b (kt_g1l (g_gf _ _ _)) (kt_g1l (g_il _ _))) (kt_g1b (kt_g1l (g_ial _)) (kt_g1l (g_is _ _)))) (kt_g1b (kt_g1b (kt_g1l (g_il _ _)) (kt_g1l (g_il _ _))) (kt_g1b (kt_g1l (g_cs _ _ _)) (kt_g1b (kt_g1l (g_is _ _)) (kt_g1l (g_il _ _)))))) (kt_g1b (kt_g1b (kt_g1b (kt_g1l (g_il _ _)) (kt_g1l (g_add _))) (kt_g1b (kt_g1l (g_is _ _)) (kt_g1b (kt_g1l (g_inc _ _ _)) (kt_g1l (g_goto _))))) (kt_g1b (kt_g1b (kt_g1l (g_il _ _)) (kt_g1l (g_tsw _ _ _ _))) (kt_g1b (kt_g1l (g_al _ _)) (kt_g1b (kt_g1l (g_gf _ _ _)) (kt_g1l (g_ic _ _)))))))) (kt_g1b (kt_g1b (kt_g1b (kt_g1b (kt_g1b (kt_g1l (g_cne _ _)) (kt_g1l (g_ic _ _))) (kt_g1b (kt_g1l (g_al _ _)) (kt_g1l (g_gf _ _ _)))) (kt_g1b (kt_g1b (kt_g1l (g_ic _ _)) (kt_g1l (g_sub _))) (kt_g1b (kt_g1l (g_cs _ _ _)) (kt_g1b (kt_g1l (g_goto _)) (kt_g1l (g_al _ _)))))) (kt_g1b (kt_g1b (kt_g1b (kt_g1l (g_gf _ _ _)) (kt_g1l (g_ri))) (kt_g1b (kt_g1l (g_il _ _)) (kt_g1b (kt_g1l (g_ri)) (kt_g1l (g_al _ _))))) (kt_g1b (kt_g1b (kt_g1l (g_gf _ _ _)) (kt_g1l (g_al _ _))) (kt_g1b (kt_g1l (g_gf _ _ _)) (kt_g1b (kt_g1l (g_ic _ _)) (kt_g1l (g_div _))))))) (kt_g1b (kt_g1b (kt_g1b (kt_g1b (kt_g1l (g_ial _)) (kt_g1l (g_ri))) (kt_g1b (kt_g1l (g_al _ _)) (kt_g1l (g_gf _ _ _)))) (kt_g1b (kt_g1b (kt_g1l (g_al _ _)) (kt_g1l (g_gf _ _ _))) (kt_g1b (kt_g1l (g_ic _ _)) (kt_g1b (kt_g1l (g_div _)) (kt_g1l (g_ial _)))))) (kt_g1b (kt_g1b (kt_g1b (kt_g1l (g_ri)) (kt_g1l (g_al _ _))) (kt_g1b (kt_g1l (g_gf _ _ _)) (kt_g1b (kt_g1l (g_fle _ _)) (kt_g1l (g_ic _ _))))) (kt_g1b (kt_g1b (kt_g1l (g_goto _)) (kt_g1l (g_ic _ _))) (kt_g1b (kt_g1l (g_ri)) (kt_g1b (kt_g1l (g_il _ _)) (kt_g1l (g_ri))))))))
set_option maxRecDepth 20000 in
theorem kg_130 : kt_gr kX12_room := by
  intro pc
  show kt_g1 (kX12_room pc)
  unfold kX12_room
  exact kt_g1b (kt_g1b (kt_g1b (kt_g1b (kt_g1l (g_al _ _)) (kt_g1b (kt_g1l (g_gf _ _ _)) (kt_g1l (g_fle _ _)))) (kt_g1b (kt_g1b (kt_g1l (g_al _ _)) (kt_g1l (g_ic _ _))) (kt_g1b (kt_g1l (g_cv _ _ _)) (kt_g1l (g_goto _))))) (kt_g1b (kt_g1b (kt_g1b (kt_g1l (g_ic _ _)) (kt_g1l (g_is _ _))) (kt_g1b (kt_g1l (g_ic _ _)) (kt_g1l (g_is _ _)))) (kt_g1b (kt_g1b (kt_g1l (g_il _ _)) (kt_g1l (g_al _ _))) (kt_g1b (kt_g1l (g_gf _ _ _)) (kt_g1l (g_cge _ _)))))) (kt_g1b (kt_g1b (kt_g1b (kt_g1b (kt_g1l (g_il _ _)) (kt_g1l (g_al _ _))) (kt_g1b (kt_g1l (g_gf _ _ _)) (kt_g1l (g_il _ _)))) (kt_g1b (kt_g1b (kt_g1l (g_ial _)) (kt_g1l (g_al _ _))) (kt_g1b (kt_g1l (g_gf _ _ _)) (kt_g1l (g_il _ _))))) (kt_g1b (kt_g1b (kt_g1b (kt_g1l (g_ial _)) (kt_g1l (g_mul _))) (kt_g1b (kt_g1l (g_add _)) (kt_g1l (g_is _ _)))) (kt_g1b (kt_g1b (kt_g1l (g_inc _ _ _)) (kt_g1l (g_goto _))) (kt_g1b (kt_g1l (g_il _ _)) (kt_g1l (g_ri))))))
set_option maxRecDepth 20000 in
theorem kg_131 : kt_gr kX12_price := by
  intro pc
  show kt_g1 (kX12_price pc)
  unfold kX12_price
  exact kt_g1b (kt_g1b (kt_g1b (kt_g1l (g_al _ _)) (kt_g1b (kt_g1l (g_gf _ _ _)) (kt_g1l (g_ic _ _)))) (kt_g1b (kt_g1b (kt_g1l (g_ial _)) (kt_g1l (g_al _ _))) (kt_g1b (kt_g1l (g_ic _ _)) (kt_g1l (g_cv _ _ _))))) (kt_g1b (kt_g1b (kt_g1b (kt_g1l (g_ic _ _)) (kt_g1l (g_al _ _))) (kt_g1b (kt_g1l (g_ic _ _)) (kt_g1l (g_cv _ _ _)))) (kt_g1b (kt_g1b (kt_g1l (g_mul _)) (kt_g1l (g_add _))) (kt_g1b (kt_g1l (g_mul _)) (kt_g1l (g_ri)))))
set_option maxRecDepth 20000 in
theorem kg_132 : kt_gr kX12_ofHull := by
  intro pc
  show kt_g1 (kX12_ofHull pc)
  unfold kX12_ofHull
  exact kt_g1b (kt_g1b (kt_g1b (kt_g1b (kt_g1b (kt_g1l (g_al _ _)) (kt_g1l (g_il _ _))) (kt_g1b (kt_g1l (g_cv _ _ _)) (kt_g1l (g_feq _ _)))) (kt_g1b (kt_g1b (kt_g1l (g_ic _ _)) (kt_g1l (g_ri))) (kt_g1b (kt_g1l (g_il _ _)) (kt_g1b (kt_g1l (g_i2l _)) (kt_g1l (g_lc _ _)))))) (kt_g1b (kt_g1b (kt_g1b (kt_g1l (g_lc _ _)) (kt_g1l (g_cs _ _ _))) (kt_g1b (kt_g1l (g_fne _ _)) (kt_g1b (kt_g1l (g_ic _ _)) (kt_g1l (g_ri))))) (kt_g1b (kt_g1b (kt_g1l (g_al _ _)) (kt_g1l (g_il _ _))) (kt_g1b (kt_g1l (g_cv _ _ _)) (kt_g1b (kt_g1l (g_il _ _)) (kt_g1l (g_ic _ _))))))) (kt_g1b (kt_g1b (kt_g1b (kt_g1b (kt_g1l (g_cge _ _)) (kt_g1l (g_al _ _))) (kt_g1b (kt_g1l (g_il _ _)) (kt_g1b (kt_g1l (g_cv _ _ _)) (kt_g1l (g_goto _))))) (kt_g1b (kt_g1b (kt_g1l (g_il _ _)) (kt_g1l (g_ic _ _))) (kt_g1b (kt_g1l (g_cne _ _)) (kt_g1b (kt_g1l (g_al _ _)) (kt_g1l (g_cv _ _ _)))))) (kt_g1b (kt_g1b (kt_g1b (kt_g1l (g_goto _)) (kt_g1l (g_il _ _))) (kt_g1b (kt_g1l (g_ic _ _)) (kt_g1b (kt_g1l (g_cne _ _)) (kt_g1l (g_al _ _))))) (kt_g1b (kt_g1b (kt_g1l (g_cv _ _ _)) (kt_g1l (g_goto _))) (kt_g1b (kt_g1l (g_al _ _)) (kt_g1b (kt_g1l (g_gf _ _ _)) (kt_g1l (g_ri)))))))
set_option maxRecDepth 20000 in
theorem kg_133 : kt_gr kX12_station := by
  intro pc
  show kt_g1 (kX12_station pc)
  unfold kX12_station
  exact kt_g1b (kt_g1b (kt_g1b (kt_g1b (kt_g1b (kt_g1l (g_al _ _)) (kt_g1l (g_il _ _))) (kt_g1b (kt_g1l (g_il _ _)) (kt_g1l (g_cv _ _ _)))) (kt_g1b (kt_g1b (kt_g1l (g_feq _ _)) (kt_g1l (g_ic _ _))) (kt_g1b (kt_g1l (g_ri)) (kt_g1l (g_il _ _))))) (kt_g1b (kt_g1b (kt_g1b (kt_g1l (g_fne _ _)) (kt_g1l (g_al _ _))) (kt_g1b (kt_g1l (g_gf _ _ _)) (kt_g1l (g_ic _ _)))) (kt_g1b (kt_g1b (kt_g1l (g_il _ _)) (kt_g1l (g_mul _))) (kt_g1b (kt_g1l (g_il _ _)) (kt_g1l (g_add _)))))) (kt_g1b (kt_g1b (kt_g1b (kt_g1b (kt_g1l (g_ial _)) (kt_g1l (g_goto _))) (kt_g1b (kt_g1l (g_il _ _)) (kt_g1l (g_ic _ _)))) (kt_g1b (kt_g1b (kt_g1l (g_cne _ _)) (kt_g1l (g_al _ _))) (kt_g1b (kt_g1l (g_gf _ _ _)) (kt_g1l (g_ic _ _))))) (kt_g1b (kt_g1b (kt_g1b (kt_g1l (g_il _ _)) (kt_g1l (g_mul _))) (kt_g1b (kt_g1l (g_il _ _)) (kt_g1l (g_add _)))) (kt_g1b (kt_g1b (kt_g1l (g_ial _)) (kt_g1l (g_goto _))) (kt_g1b (kt_g1l (g_ic _ _)) (kt_g1l (g_ri))))))
set_option maxRecDepth 20000 in
theorem kg_134 : kt_gr kX12_build := by
  intro pc
  show kt_g1 (kX12_build pc)
  unfold kX12_build
  exact kt_g1b (kt_g1b (kt_g1b (kt_g1b (kt_g1b (kt_g1l (g_al _ _)) (kt_g1b (kt_g1l (g_il _ _)) (kt_g1l (g_il _ _)))) (kt_g1b (kt_g1l (g_cv _ _ _)) (kt_g1b (kt_g1l (g_feq _ _)) (kt_g1l (g_ic _ _))))) (kt_g1b (kt_g1b (kt_g1l (g_ri)) (kt_g1b (kt_g1l (g_il _ _)) (kt_g1l (g_i2l _)))) (kt_g1b (kt_g1l (g_lc _ _)) (kt_g1b (kt_g1l (g_lc _ _)) (kt_g1l (g_cs _ _ _)))))) (kt_g1b (kt_g1b (kt_g1b (kt_g1l (g_feq _ _)) (kt_g1b (kt_g1l (g_il _ _)) (kt_g1l (g_i2l _)))) (kt_g1b (kt_g1l (g_lc _ _)) (kt_g1b (kt_g1l (g_lc _ _)) (kt_g1l (g_cs _ _ _))))) (kt_g1b (kt_g1b (kt_g1l (g_fne _ _)) (kt_g1b (kt_g1l (g_ic _ _)) (kt_g1l (g_ri)))) (kt_g1b (kt_g1b (kt_g1l (g_al _ _)) (kt_g1l (g_il _ _))) (kt_g1b (kt_g1l (g_il _ _)) (kt_g1l (g_il _ _))))))) (kt_g1b (kt_g1b (kt_g1b (kt_g1b (kt_g1l (g_cv _ _ _)) (kt_g1b (kt_g1l (g_is _ _)) (kt_g1l (g_il _ _)))) (kt_g1b (kt_g1l (g_fne _ _)) (kt_g1b (kt_g1l (g_al _ _)) (kt_g1l (g_gf _ _ _))))) (kt_g1b (kt_g1b (kt_g1l (g_ic _ _)) (kt_g1b (kt_g1l (g_il _ _)) (kt_g1l (g_mul _)))) (kt_g1b (kt_g1l (g_il _ _)) (kt_g1b (kt_g1l (g_add _)) (kt_g1l (g_il _ _)))))) (kt_g1b (kt_g1b (kt_g1b (kt_g1l (g_ias _)) (kt_g1b (kt_g1l (g_goto _)) (kt_g1l (g_al _ _)))) (kt_g1b (kt_g1l (g_gf _ _ _)) (kt_g1b (kt_g1l (g_ic _ _)) (kt_g1l (g_il _ _))))) (kt_g1b (kt_g1b (kt_g1l (g_mul _)) (kt_g1b (kt_g1l (g_il _ _)) (kt_g1l (g_add _)))) (kt_g1b (kt_g1b (kt_g1l (g_il _ _)) (kt_g1l (g_ias _))) (kt_g1b (kt_g1l (g_il _ _)) (kt_g1l (g_ri)))))))
set_option maxRecDepth 20000 in
theorem kg_135 : kt_gr kX12_noLaw := by
  intro pc
  show kt_g1 (kX12_noLaw pc)
  unfold kX12_noLaw
  exact kt_g1b (kt_g1b (kt_g1b (kt_g1l (g_il _ _)) (kt_g1b (kt_g1l (g_i2l _)) (kt_g1l (g_lc _ _)))) (kt_g1b (kt_g1b (kt_g1l (g_al _ _)) (kt_g1l (g_gf _ _ _))) (kt_g1b (kt_g1l (g_i2l _)) (kt_g1l (g_lc _ _))))) (kt_g1b (kt_g1b (kt_g1l (g_lsub _)) (kt_g1b (kt_g1l (g_cs _ _ _)) (kt_g1l (g_fne _ _)))) (kt_g1b (kt_g1b (kt_g1l (g_ic _ _)) (kt_g1l (g_goto _))) (kt_g1b (kt_g1l (g_ic _ _)) (kt_g1l (g_rz)))))
set_option maxRecDepth 20000 in
theorem kg_136 : kt_gr kX12_letterBy := by
  intro pc
  show kt_g1 (kX12_letterBy pc)
  unfold kX12_letterBy
  exact kt_g1b (kt_g1b (kt_g1b (kt_g1b (kt_g1l (g_il _ _)) (kt_g1l (g_tsw _ _ _ _))) (kt_g1b (kt_g1l (g_ic _ _)) (kt_g1b (kt_g1l (g_ri)) (kt_g1l (g_ic _ _))))) (kt_g1b (kt_g1b (kt_g1l (g_ri)) (kt_g1l (g_ic _ _))) (kt_g1b (kt_g1l (g_ri)) (kt_g1b (kt_g1l (g_ic _ _)) (kt_g1l (g_ri)))))) (kt_g1b (kt_g1b (kt_g1b (kt_g1l (g_ic _ _)) (kt_g1l (g_ri))) (kt_g1b (kt_g1l (g_ic _ _)) (kt_g1b (kt_g1l (g_ri)) (kt_g1l (g_ic _ _))))) (kt_g1b (kt_g1b (kt_g1l (g_ri)) (kt_g1l (g_ic _ _))) (kt_g1b (kt_g1l (g_ri)) (kt_g1b (kt_g1l (g_ic _ _)) (kt_g1l (g_ri))))))
set_option maxRecDepth 20000 in
theorem kg_137 : kt_gr kX12_codeAt := by
  intro pc
  show kt_g1 (kX12_codeAt pc)
  unfold kX12_codeAt
  exact kt_g1b (kt_g1b (kt_g1b (kt_g1l (g_al _ _)) (kt_g1b (kt_g1l (g_gf _ _ _)) (kt_g1l (g_il _ _)))) (kt_g1b (kt_g1b (kt_g1l (g_cge _ _)) (kt_g1l (g_al _ _))) (kt_g1b (kt_g1l (g_gf _ _ _)) (kt_g1l (g_il _ _))))) (kt_g1b (kt_g1b (kt_g1l (g_al _ _)) (kt_g1b (kt_g1l (g_gf _ _ _)) (kt_g1l (g_add _)))) (kt_g1b (kt_g1b (kt_g1l (g_ial _)) (kt_g1l (g_goto _))) (kt_g1b (kt_g1l (g_ic _ _)) (kt_g1l (g_ri)))))
set_option maxRecDepth 20000 in
theorem kg_138 : kt_gr kX12_takes := by
  intro pc
  show kt_g1 (kX12_takes pc)
  unfold kX12_takes
  exact kt_g1b (kt_g1b (kt_g1b (kt_g1b (kt_g1l (g_al _ _)) (kt_g1l (g_il _ _))) (kt_g1b (kt_g1l (g_il _ _)) (kt_g1b (kt_g1l (g_cv _ _ _)) (kt_g1l (g_il _ _))))) (kt_g1b (kt_g1b (kt_g1l (g_cne _ _)) (kt_g1b (kt_g1l (g_ic _ _)) (kt_g1l (g_goto _)))) (kt_g1b (kt_g1l (g_ic _ _)) (kt_g1b (kt_g1l (g_is _ _)) (kt_g1l (g_al _ _)))))) (kt_g1b (kt_g1b (kt_g1b (kt_g1l (g_dup _)) (kt_g1l (g_gf _ _ _))) (kt_g1b (kt_g1l (g_il _ _)) (kt_g1b (kt_g1l (g_feq _ _)) (kt_g1l (g_ic _ _))))) (kt_g1b (kt_g1b (kt_g1l (g_goto _)) (kt_g1b (kt_g1l (g_ic _ _)) (kt_g1l (g_add _)))) (kt_g1b (kt_g1l (g_pf _ _ _ _)) (kt_g1b (kt_g1l (g_il _ _)) (kt_g1l (g_rz))))))
set_option maxRecDepth 20000 in
theorem kg_139 : kt_gr kX12_number := by
  intro pc
  show kt_g1 (kX12_number pc)
  unfold kX12_number
  exact kt_g1b (kt_g1b (kt_g1b (kt_g1b (kt_g1b (kt_g1l (g_al _ _)) (kt_g1l (g_gf _ _ _))) (kt_g1b (kt_g1l (g_is _ _)) (kt_g1b (kt_g1l (g_ic _ _)) (kt_g1l (g_is _ _))))) (kt_g1b (kt_g1b (kt_g1l (g_al _ _)) (kt_g1b (kt_g1l (g_gf _ _ _)) (kt_g1l (g_il _ _)))) (kt_g1b (kt_g1l (g_il _ _)) (kt_g1b (kt_g1l (g_add _)) (kt_g1l (g_cge _ _)))))) (kt_g1b (kt_g1b (kt_g1b (kt_g1l (g_al _ _)) (kt_g1b (kt_g1l (g_il _ _)) (kt_g1l (g_il _ _)))) (kt_g1b (kt_g1l (g_cv _ _ _)) (kt_g1b (kt_g1l (g_i2l _)) (kt_g1l (g_lc _ _))))) (kt_g1b (kt_g1b (kt_g1l (g_lc _ _)) (kt_g1b (kt_g1l (g_cs _ _ _)) (kt_g1l (g_feq _ _)))) (kt_g1b (kt_g1l (g_ic _ _)) (kt_g1b (kt_g1l (g_il _ _)) (kt_g1l (g_mul _))))))) (kt_g1b (kt_g1b (kt_g1b (kt_g1b (kt_g1l (g_al _ _)) (kt_g1l (g_il _ _))) (kt_g1b (kt_g1l (g_il _ _)) (kt_g1b (kt_g1l (g_cv _ _ _)) (kt_g1l (g_add _))))) (kt_g1b (kt_g1b (kt_g1l (g_ic _ _)) (kt_g1b (kt_g1l (g_sub _)) (kt_g1l (g_is _ _)))) (kt_g1b (kt_g1l (g_al _ _)) (kt_g1b (kt_g1l (g_dup _)) (kt_g1l (g_gf _ _ _)))))) (kt_g1b (kt_g1b (kt_g1b (kt_g1l (g_ic _ _)) (kt_g1b (kt_g1l (g_add _)) (kt_g1l (g_pf _ _ _ _)))) (kt_g1b (kt_g1l (g_goto _)) (kt_g1b (kt_g1l (g_al _ _)) (kt_g1l (g_gf _ _ _))))) (kt_g1b (kt_g1b (kt_g1l (g_il _ _)) (kt_g1b (kt_g1l (g_cle _ _)) (kt_g1l (g_il _ _)))) (kt_g1b (kt_g1l (g_goto _)) (kt_g1b (kt_g1l (g_ic _ _)) (kt_g1l (g_ri)))))))
set_option maxRecDepth 20000 in
theorem kg_140 : kt_gr kX12_factor := by
  intro pc
  show kt_g1 (kX12_factor pc)
  unfold kX12_factor
  exact kt_g1b (kt_g1b (kt_g1b (kt_g1b (kt_g1b (kt_g1l (g_al _ _)) (kt_g1l (g_il _ _))) (kt_g1b (kt_g1l (g_il _ _)) (kt_g1b (kt_g1l (g_cv _ _ _)) (kt_g1l (g_cs _ _ _))))) (kt_g1b (kt_g1b (kt_g1l (g_is _ _)) (kt_g1l (g_il _ _))) (kt_g1b (kt_g1l (g_flt _ _)) (kt_g1b (kt_g1l (g_al _ _)) (kt_g1l (g_dup _)))))) (kt_g1b (kt_g1b (kt_g1b (kt_g1l (g_gf _ _ _)) (kt_g1l (g_ic _ _))) (kt_g1b (kt_g1l (g_add _)) (kt_g1b (kt_g1l (g_pf _ _ _ _)) (kt_g1l (g_il _ _))))) (kt_g1b (kt_g1b (kt_g1l (g_ri)) (kt_g1l (g_al _ _))) (kt_g1b (kt_g1l (g_gf _ _ _)) (kt_g1b (kt_g1l (g_is _ _)) (kt_g1l (g_al _ _))))))) (kt_g1b (kt_g1b (kt_g1b (kt_g1b (kt_g1l (g_ic _ _)) (kt_g1l (g_il _ _))) (kt_g1b (kt_g1l (g_il _ _)) (kt_g1b (kt_g1l (g_cv _ _ _)) (kt_g1l (g_is _ _))))) (kt_g1b (kt_g1b (kt_g1l (g_il _ _)) (kt_g1l (g_ic _ _))) (kt_g1b (kt_g1l (g_cge _ _)) (kt_g1b (kt_g1l (g_al _ _)) (kt_g1l (g_il _ _)))))) (kt_g1b (kt_g1b (kt_g1b (kt_g1l (g_pf _ _ _ _)) (kt_g1l (g_il _ _))) (kt_g1b (kt_g1l (g_ic _ _)) (kt_g1b (kt_g1l (g_cge _ _)) (kt_g1l (g_ic _ _))))) (kt_g1b (kt_g1b (kt_g1l (g_goto _)) (kt_g1l (g_ic _ _))) (kt_g1b (kt_g1l (g_il _ _)) (kt_g1b (kt_g1l (g_add _)) (kt_g1l (g_ri)))))))
set_option maxRecDepth 20000 in
theorem kg_141 : kt_gr kX12_readsWord := by
  intro pc
  show kt_g1 (kX12_readsWord pc)
  unfold kX12_readsWord
  exact kt_g1b (kt_g1b (kt_g1b (kt_g1b (kt_g1b (kt_g1b (kt_g1b (kt_g1l (g_ic _ _)) (kt_g1l (g_al _ _))) (kt_g1b (kt_g1l (g_gf _ _ _)) (kt_g1l (g_mul _)))) (kt_g1b (kt_g1b (kt_g1l (g_is _ _)) (kt_g1l (g_ic _ _))) (kt_g1b (kt_g1l (g_is _ _)) (kt_g1l (g_ic _ _))))) (kt_g1b (kt_g1b (kt_g1b (kt_g1l (g_is _ _)) (kt_g1l (g_il _ _))) (kt_g1b (kt_g1l (g_feq _ _)) (kt_g1l (g_al _ _)))) (kt_g1b (kt_g1b (kt_g1l (g_il _ _)) (kt_g1l (g_il _ _))) (kt_g1b (kt_g1l (g_cv _ _ _)) (kt_g1b (kt_g1l (g_is _ _)) (kt_g1l (g_il _ _))))))) (kt_g1b (kt_g1b (kt_g1b (kt_g1b (kt_g1l (g_fge _ _)) (kt_g1l (g_ic _ _))) (kt_g1b (kt_g1l (g_rz)) (kt_g1l (g_al _ _)))) (kt_g1b (kt_g1b (kt_g1l (g_gf _ _ _)) (kt_g1l (g_il _ _))) (kt_g1b (kt_g1l (g_il _ _)) (kt_g1l (g_add _))))) (kt_g1b (kt_g1b (kt_g1b (kt_g1l (g_il _ _)) (kt_g1l (g_ias _))) (kt_g1b (kt_g1l (g_inc _ _ _)) (kt_g1l (g_il _ _)))) (kt_g1b (kt_g1b (kt_g1l (g_ic _ _)) (kt_g1l (g_cge _ _))) (kt_g1b (kt_g1l (g_al _ _)) (kt_g1b (kt_g1l (g_ic _ _)) (kt_g1l (g_il _ _)))))))) (kt_g1b (kt_g1b (kt_g1b (kt_g1b (kt_g1b (kt_g1l (g_il _ _)) (kt_g1l (g_cv _ _ _))) (kt_g1b (kt_g1l (g_feq _ _)) (kt_g1l (g_ic _ _)))) (kt_g1b (kt_g1b (kt_g1l (g_goto _)) (kt_g1l (g_ic _ _))) (kt_g1b (kt_g1l (g_is _ _)) (kt_g1l (g_goto _))))) (kt_g1b (kt_g1b (kt_g1b (kt_g1l (g_il _ _)) (kt_g1l (g_is _ _))) (kt_g1b (kt_g1l (g_il _ _)) (kt_g1l (g_ic _ _)))) (kt_g1b (kt_g1b (kt_g1l (g_cge _ _)) (kt_g1l (g_al _ _))) (kt_g1b (kt_g1l (g_gf _ _ _)) (kt_g1b (kt_g1l (g_il _ _)) (kt_g1l (g_il _ _))))))) (kt_g1b (kt_g1b (kt_g1b (kt_g1b (kt_g1l (g_add _)) (kt_g1l (g_ic _ _))) (kt_g1b (kt_g1l (g_ias _)) (kt_g1l (g_inc _ _ _)))) (kt_g1b (kt_g1b (kt_g1l (g_goto _)) (kt_g1l (g_al _ _))) (kt_g1b (kt_g1l (g_gf _ _ _)) (kt_g1b (kt_g1l (g_il _ _)) (kt_g1l (g_ic _ _)))))) (kt_g1b (kt_g1b (kt_g1b (kt_g1l (g_add _)) (kt_g1l (g_ic _ _))) (kt_g1b (kt_g1l (g_ias _)) (kt_g1l (g_al _ _)))) (kt_g1b (kt_g1b (kt_g1l (g_gf _ _ _)) (kt_g1l (g_il _ _))) (kt_g1b (kt_g1l (g_ic _ _)) (kt_g1b (kt_g1l (g_add _)) (kt_g1l (g_ic _ _))))))))) (kt_g1b (kt_g1b (kt_g1b (kt_g1b (kt_g1b (kt_g1b (kt_g1l (g_ias _)) (kt_g1l (g_al _ _))) (kt_g1b (kt_g1l (g_ic _ _)) (kt_g1l (g_il _ _)))) (kt_g1b (kt_g1b (kt_g1l (g_il _ _)) (kt_g1l (g_cv _ _ _))) (kt_g1b (kt_g1l (g_feq _ _)) (kt_g1l (g_al _ _))))) (kt_g1b (kt_g1b (kt_g1b (kt_g1l (g_il _ _)) (kt_g1l (g_il _ _))) (kt_g1b (kt_g1l (g_cv _ _ _)) (kt_g1l (g_ic _ _)))) (kt_g1b (kt_g1b (kt_g1l (g_sub _)) (kt_g1l (g_is _ _))) (kt_g1b (kt_g1l (g_il _ _)) (kt_g1b (kt_g1l (g_i2l _)) (kt_g1l (g_lc _ _))))))) (kt_g1b (kt_g1b (kt_g1b (kt_g1b (kt_g1l (g_lc _ _)) (kt_g1l (g_cs _ _ _))) (kt_g1b (kt_g1l (g_fne _ _)) (kt_g1l (g_ic _ _)))) (kt_g1b (kt_g1b (kt_g1l (g_rz)) (kt_g1l (g_al _ _))) (kt_g1b (kt_g1l (g_dup _)) (kt_g1l (g_gf _ _ _))))) (kt_g1b (kt_g1b (kt_g1b (kt_g1l (g_ic _ _)) (kt_g1l (g_add _))) (kt_g1b (kt_g1l (g_pf _ _ _ _)) (kt_g1l (g_al _ _)))) (kt_g1b (kt_g1b (kt_g1l (g_gf _ _ _)) (kt_g1l (g_il _ _))) (kt_g1b (kt_g1l (g_ic _ _)) (kt_g1b (kt_g1l (g_add _)) (kt_g1l (g_il _ _)))))))) (kt_g1b (kt_g1b (kt_g1b (kt_g1b (kt_g1b (kt_g1l (g_ias _)) (kt_g1l (g_al _ _))) (kt_g1b (kt_g1l (g_ic _ _)) (kt_g1l (g_il _ _)))) (kt_g1b (kt_g1b (kt_g1l (g_il _ _)) (kt_g1l (g_cv _ _ _))) (kt_g1b (kt_g1l (g_feq _ _)) (kt_g1l (g_al _ _))))) (kt_g1b (kt_g1b (kt_g1b (kt_g1l (g_gf _ _ _)) (kt_g1l (g_il _ _))) (kt_g1b (kt_g1l (g_ic _ _)) (kt_g1l (g_add _)))) (kt_g1b (kt_g1b (kt_g1l (g_al _ _)) (kt_g1l (g_ic _ _))) (kt_g1b (kt_g1l (g_il _ _)) (kt_g1b (kt_g1l (g_il _ _)) (kt_g1l (g_cv _ _ _))))))) (kt_g1b (kt_g1b (kt_g1b (kt_g1b (kt_g1l (g_ias _)) (kt_g1l (g_al _ _))) (kt_g1b (kt_g1l (g_gf _ _ _)) (kt_g1l (g_il _ _)))) (kt_g1b (kt_g1b (kt_g1l (g_ic _ _)) (kt_g1l (g_add _))) (kt_g1b (kt_g1l (g_ial _)) (kt_g1b (kt_g1l (g_fge _ _)) (kt_g1l (g_ic _ _)))))) (kt_g1b (kt_g1b (kt_g1b (kt_g1l (g_rz)) (kt_g1l (g_al _ _))) (kt_g1b (kt_g1l (g_dup _)) (kt_g1l (g_gf _ _ _)))) (kt_g1b (kt_g1b (kt_g1l (g_ic _ _)) (kt_g1l (g_add _))) (kt_g1b (kt_g1l (g_pf _ _ _ _)) (kt_g1b (kt_g1l (g_ic _ _)) (kt_g1l (g_rz)))))))))
set_option maxRecDepth 20000 in
theorem kg_142 : kt_gr kX12_readLaw := by
  intro pc
  show kt_g1 (kX12_readLaw pc)
  unfold kX12_readLaw
  exact kt_g1b (kt_g1b (kt_g1b (kt_g1b (kt_g1b (kt_g1l (g_al _ _)) (kt_g1l (g_ic _ _))) (kt_g1b (kt_g1l (g_pf _ _ _ _)) (kt_g1b (kt_g1l (g_al _ _)) (kt_g1l (g_ic _ _))))) (kt_g1b (kt_g1b (kt_g1l (g_pf _ _ _ _)) (kt_g1l (g_ic _ _))) (kt_g1b (kt_g1l (g_is _ _)) (kt_g1b (kt_g1l (g_il _ _)) (kt_g1l (g_feq _ _)))))) (kt_g1b (kt_g1b (kt_g1b (kt_g1l (g_al _ _)) (kt_g1l (g_il _ _))) (kt_g1b (kt_g1l (g_il _ _)) (kt_g1b (kt_g1l (g_cv _ _ _)) (kt_g1l (g_fne _ _))))) (kt_g1b (kt_g1b (kt_g1l (g_al _ _)) (kt_g1b (kt_g1l (g_gf _ _ _)) (kt_g1l (g_ri)))) (kt_g1b (kt_g1l (g_al _ _)) (kt_g1b (kt_g1l (g_gf _ _ _)) (kt_g1l (g_il _ _))))))) (kt_g1b (kt_g1b (kt_g1b (kt_g1b (kt_g1l (g_cge _ _)) (kt_g1l (g_ic _ _))) (kt_g1b (kt_g1l (g_goto _)) (kt_g1b (kt_g1l (g_ic _ _)) (kt_g1l (g_is _ _))))) (kt_g1b (kt_g1b (kt_g1l (g_il _ _)) (kt_g1b (kt_g1l (g_feq _ _)) (kt_g1l (g_al _ _)))) (kt_g1b (kt_g1l (g_gf _ _ _)) (kt_g1b (kt_g1l (g_ic _ _)) (kt_g1l (g_ceq _ _)))))) (kt_g1b (kt_g1b (kt_g1b (kt_g1l (g_al _ _)) (kt_g1l (g_ic _ _))) (kt_g1b (kt_g1l (g_il _ _)) (kt_g1b (kt_g1l (g_il _ _)) (kt_g1l (g_cv _ _ _))))) (kt_g1b (kt_g1b (kt_g1l (g_fne _ _)) (kt_g1b (kt_g1l (g_al _ _)) (kt_g1l (g_gf _ _ _)))) (kt_g1b (kt_g1l (g_ri)) (kt_g1b (kt_g1l (g_ic _ _)) (kt_g1l (g_ri)))))))
set_option maxRecDepth 20000 in
theorem kg_143 : kt_gr kX12_law := by
  intro pc
  show kt_g1 (kX12_law pc)
  unfold kX12_law
  exact kt_g1b (kt_g1b (kt_g1b (kt_g1b (kt_g1b (kt_g1b (kt_g1l (g_il _ _)) (kt_g1l (g_cs _ _ _))) (kt_g1b (kt_g1l (g_feq _ _)) (kt_g1b (kt_g1l (g_al _ _)) (kt_g1l (g_ic _ _))))) (kt_g1b (kt_g1b (kt_g1l (g_cv _ _ _)) (kt_g1b (kt_g1l (g_ri)) (kt_g1l (g_il _ _)))) (kt_g1b (kt_g1l (g_cs _ _ _)) (kt_g1b (kt_g1l (g_fne _ _)) (kt_g1l (g_al _ _)))))) (kt_g1b (kt_g1b (kt_g1b (kt_g1l (g_ic _ _)) (kt_g1b (kt_g1l (g_cv _ _ _)) (kt_g1l (g_ri)))) (kt_g1b (kt_g1l (g_al _ _)) (kt_g1b (kt_g1l (g_il _ _)) (kt_g1l (g_il _ _))))) (kt_g1b (kt_g1b (kt_g1l (g_il _ _)) (kt_g1b (kt_g1l (g_il _ _)) (kt_g1l (g_i2l _)))) (kt_g1b (kt_g1l (g_cv _ _ _)) (kt_g1b (kt_g1l (g_is _ _)) (kt_g1l (g_il _ _))))))) (kt_g1b (kt_g1b (kt_g1b (kt_g1b (kt_g1l (g_fge _ _)) (kt_g1b (kt_g1l (g_il _ _)) (kt_g1l (g_ri)))) (kt_g1b (kt_g1l (g_al _ _)) (kt_g1b (kt_g1l (g_ic _ _)) (kt_g1l (g_il _ _))))) (kt_g1b (kt_g1b (kt_g1l (g_mul _)) (kt_g1b (kt_g1l (g_il _ _)) (kt_g1l (g_add _)))) (kt_g1b (kt_g1l (g_il _ _)) (kt_g1b (kt_g1l (g_cv _ _ _)) (kt_g1l (g_is _ _)))))) (kt_g1b (kt_g1b (kt_g1b (kt_g1l (g_il _ _)) (kt_g1b (kt_g1l (g_flt _ _)) (kt_g1l (g_al _ _)))) (kt_g1b (kt_g1l (g_ic _ _)) (kt_g1b (kt_g1l (g_il _ _)) (kt_g1l (g_sub _))))) (kt_g1b (kt_g1b (kt_g1l (g_cv _ _ _)) (kt_g1b (kt_g1l (g_ri)) (kt_g1l (g_al _ _)))) (kt_g1b (kt_g1l (g_gf _ _ _)) (kt_g1b (kt_g1l (g_ic _ _)) (kt_g1l (g_cne _ _)))))))) (kt_g1b (kt_g1b (kt_g1b (kt_g1b (kt_g1b (kt_g1l (g_al _ _)) (kt_g1l (g_ic _ _))) (kt_g1b (kt_g1l (g_cv _ _ _)) (kt_g1b (kt_g1l (g_ri)) (kt_g1l (g_al _ _))))) (kt_g1b (kt_g1b (kt_g1l (g_gf _ _ _)) (kt_g1b (kt_g1l (g_al _ _)) (kt_g1l (g_gf _ _ _)))) (kt_g1b (kt_g1l (g_al _ _)) (kt_g1b (kt_g1l (g_gf _ _ _)) (kt_g1l (g_ias _)))))) (kt_g1b (kt_g1b (kt_g1b (kt_g1l (g_ic _ _)) (kt_g1b (kt_g1l (g_is _ _)) (kt_g1l (g_il _ _)))) (kt_g1b (kt_g1l (g_ic _ _)) (kt_g1b (kt_g1l (g_al _ _)) (kt_g1l (g_gf _ _ _))))) (kt_g1b (kt_g1b (kt_g1l (g_mul _)) (kt_g1b (kt_g1l (g_cge _ _)) (kt_g1l (g_al _ _)))) (kt_g1b (kt_g1l (g_gf _ _ _)) (kt_g1b (kt_g1l (g_ic _ _)) (kt_g1l (g_al _ _))))))) (kt_g1b (kt_g1b (kt_g1b (kt_g1b (kt_g1l (g_gf _ _ _)) (kt_g1b (kt_g1l (g_mul _)) (kt_g1l (g_il _ _)))) (kt_g1b (kt_g1l (g_add _)) (kt_g1b (kt_g1l (g_al _ _)) (kt_g1l (g_gf _ _ _))))) (kt_g1b (kt_g1b (kt_g1l (g_il _ _)) (kt_g1b (kt_g1l (g_ial _)) (kt_g1l (g_ias _)))) (kt_g1b (kt_g1l (g_inc _ _ _)) (kt_g1b (kt_g1l (g_goto _)) (kt_g1l (g_al _ _)))))) (kt_g1b (kt_g1b (kt_g1b (kt_g1l (g_dup _)) (kt_g1b (kt_g1l (g_gf _ _ _)) (kt_g1l (g_ic _ _)))) (kt_g1b (kt_g1l (g_add _)) (kt_g1b (kt_g1l (g_pf _ _ _ _)) (kt_g1l (g_al _ _))))) (kt_g1b (kt_g1b (kt_g1l (g_al _ _)) (kt_g1b (kt_g1l (g_gf _ _ _)) (kt_g1l (g_ic _ _)))) (kt_g1b (kt_g1l (g_sub _)) (kt_g1b (kt_g1l (g_cv _ _ _)) (kt_g1l (g_ri))))))))
set_option maxRecDepth 20000 in
theorem kg_144 : kt_gr kX12_words := by
  intro pc
  show kt_g1 (kX12_words pc)
  unfold kX12_words
  exact kt_g1b (kt_g1b (kt_g1b (kt_g1l (g_al _ _)) (kt_g1l (g_il _ _))) (kt_g1b (kt_g1l (g_cv _ _ _)) (kt_g1b (kt_g1l (g_feq _ _)) (kt_g1l (g_ic _ _))))) (kt_g1b (kt_g1b (kt_g1l (g_goto _)) (kt_g1b (kt_g1l (g_al _ _)) (kt_g1l (g_gf _ _ _)))) (kt_g1b (kt_g1l (g_il _ _)) (kt_g1b (kt_g1l (g_ial _)) (kt_g1l (g_ri)))))
set_option maxRecDepth 20000 in
theorem kg_145 : kt_gr kX12_wordSum := by
  intro pc
  show kt_g1 (kX12_wordSum pc)
  unfold kX12_wordSum
  exact kt_g1b (kt_g1b (kt_g1b (kt_g1b (kt_g1b (kt_g1b (kt_g1l (g_ic _ _)) (kt_g1l (g_il _ _))) (kt_g1b (kt_g1l (g_mul _)) (kt_g1l (g_ic _ _)))) (kt_g1b (kt_g1b (kt_g1l (g_il _ _)) (kt_g1l (g_mul _))) (kt_g1b (kt_g1l (g_add _)) (kt_g1l (g_is _ _))))) (kt_g1b (kt_g1b (kt_g1b (kt_g1l (g_ic _ _)) (kt_g1l (g_is _ _))) (kt_g1b (kt_g1l (g_ic _ _)) (kt_g1l (g_is _ _)))) (kt_g1b (kt_g1b (kt_g1l (g_il _ _)) (kt_g1l (g_ic _ _))) (kt_g1b (kt_g1l (g_cge _ _)) (kt_g1l (g_al _ _)))))) (kt_g1b (kt_g1b (kt_g1b (kt_g1b (kt_g1l (g_gf _ _ _)) (kt_g1l (g_il _ _))) (kt_g1b (kt_g1l (g_il _ _)) (kt_g1l (g_add _)))) (kt_g1b (kt_g1b (kt_g1l (g_ial _)) (kt_g1l (g_is _ _))) (kt_g1b (kt_g1l (g_il _ _)) (kt_g1l (g_il _ _))))) (kt_g1b (kt_g1b (kt_g1b (kt_g1l (g_fge _ _)) (kt_g1l (g_ic _ _))) (kt_g1b (kt_g1l (g_goto _)) (kt_g1l (g_il _ _)))) (kt_g1b (kt_g1b (kt_g1l (g_ic _ _)) (kt_g1l (g_cge _ _))) (kt_g1b (kt_g1l (g_al _ _)) (kt_g1b (kt_g1l (g_il _ _)) (kt_g1l (g_cv _ _ _)))))))) (kt_g1b (kt_g1b (kt_g1b (kt_g1b (kt_g1b (kt_g1l (g_goto _)) (kt_g1l (g_il _ _))) (kt_g1b (kt_g1l (g_ic _ _)) (kt_g1l (g_sub _)))) (kt_g1b (kt_g1b (kt_g1l (g_mul _)) (kt_g1l (g_is _ _))) (kt_g1b (kt_g1l (g_inc _ _ _)) (kt_g1l (g_goto _))))) (kt_g1b (kt_g1b (kt_g1b (kt_g1l (g_il _ _)) (kt_g1l (g_al _ _))) (kt_g1b (kt_g1l (g_gf _ _ _)) (kt_g1l (g_il _ _)))) (kt_g1b (kt_g1b (kt_g1l (g_ic _ _)) (kt_g1l (g_add _))) (kt_g1b (kt_g1l (g_ial _)) (kt_g1l (g_div _)))))) (kt_g1b (kt_g1b (kt_g1b (kt_g1b (kt_g1l (g_is _ _)) (kt_g1l (g_al _ _))) (kt_g1b (kt_g1l (g_gf _ _ _)) (kt_g1l (g_il _ _)))) (kt_g1b (kt_g1b (kt_g1l (g_ic _ _)) (kt_g1l (g_add _))) (kt_g1b (kt_g1l (g_ial _)) (kt_g1l (g_is _ _))))) (kt_g1b (kt_g1b (kt_g1b (kt_g1l (g_il _ _)) (kt_g1l (g_flt _ _))) (kt_g1b (kt_g1l (g_il _ _)) (kt_g1l (g_il _ _)))) (kt_g1b (kt_g1b (kt_g1l (g_cle _ _)) (kt_g1l (g_il _ _))) (kt_g1b (kt_g1l (g_goto _)) (kt_g1b (kt_g1l (g_il _ _)) (kt_g1l (g_ri))))))))
set_option maxRecDepth 20000 in
theorem kg_146 : kt_gr kX12_toll := by
  intro pc
  show kt_g1 (kX12_toll pc)
  unfold kX12_toll
  exact kt_g1b (kt_g1b (kt_g1b (kt_g1b (kt_g1l (g_ic _ _)) (kt_g1b (kt_g1l (g_is _ _)) (kt_g1l (g_ic _ _)))) (kt_g1b (kt_g1b (kt_g1l (g_is _ _)) (kt_g1l (g_il _ _))) (kt_g1b (kt_g1l (g_flt _ _)) (kt_g1l (g_il _ _))))) (kt_g1b (kt_g1b (kt_g1l (g_al _ _)) (kt_g1b (kt_g1l (g_gf _ _ _)) (kt_g1l (g_il _ _)))) (kt_g1b (kt_g1b (kt_g1l (g_ial _)) (kt_g1l (g_cge _ _))) (kt_g1b (kt_g1l (g_il _ _)) (kt_g1l (g_il _ _)))))) (kt_g1b (kt_g1b (kt_g1b (kt_g1l (g_il _ _)) (kt_g1b (kt_g1l (g_cne _ _)) (kt_g1l (g_ic _ _)))) (kt_g1b (kt_g1b (kt_g1l (g_goto _)) (kt_g1l (g_al _ _))) (kt_g1b (kt_g1l (g_il _ _)) (kt_g1l (g_il _ _))))) (kt_g1b (kt_g1b (kt_g1l (g_cv _ _ _)) (kt_g1b (kt_g1l (g_add _)) (kt_g1l (g_is _ _)))) (kt_g1b (kt_g1b (kt_g1l (g_inc _ _ _)) (kt_g1l (g_goto _))) (kt_g1b (kt_g1l (g_il _ _)) (kt_g1l (g_ri))))))
set_option maxRecDepth 20000 in
theorem kg_147 : kt_gr kX12_owes := by
  intro pc
  show kt_g1 (kX12_owes pc)
  unfold kX12_owes
  exact kt_g1b (kt_g1b (kt_g1b (kt_g1b (kt_g1l (g_al _ _)) (kt_g1l (g_il _ _))) (kt_g1b (kt_g1l (g_cv _ _ _)) (kt_g1l (g_fne _ _)))) (kt_g1b (kt_g1b (kt_g1l (g_al _ _)) (kt_g1l (g_il _ _))) (kt_g1b (kt_g1l (g_cv _ _ _)) (kt_g1b (kt_g1l (g_feq _ _)) (kt_g1l (g_ic _ _)))))) (kt_g1b (kt_g1b (kt_g1b (kt_g1l (g_ri)) (kt_g1l (g_al _ _))) (kt_g1b (kt_g1l (g_il _ _)) (kt_g1l (g_cv _ _ _)))) (kt_g1b (kt_g1b (kt_g1l (g_al _ _)) (kt_g1l (g_il _ _))) (kt_g1b (kt_g1l (g_ic _ _)) (kt_g1b (kt_g1l (g_cv _ _ _)) (kt_g1l (g_ri))))))
set_option maxRecDepth 20000 in
theorem kg_148 : kt_gr kX12_word := by
  intro pc
  show kt_g1 (kX12_word pc)
  unfold kX12_word
  exact kt_g1b (kt_g1b (kt_g1b (kt_g1b (kt_g1l (g_al _ _)) (kt_g1b (kt_g1l (g_il _ _)) (kt_g1l (g_cv _ _ _)))) (kt_g1b (kt_g1b (kt_g1l (g_fne _ _)) (kt_g1l (g_al _ _))) (kt_g1b (kt_g1l (g_il _ _)) (kt_g1l (g_cv _ _ _))))) (kt_g1b (kt_g1b (kt_g1b (kt_g1l (g_fne _ _)) (kt_g1l (g_il _ _))) (kt_g1b (kt_g1l (g_i2l _)) (kt_g1l (g_lc _ _)))) (kt_g1b (kt_g1b (kt_g1l (g_al _ _)) (kt_g1l (g_gf _ _ _))) (kt_g1b (kt_g1l (g_il _ _)) (kt_g1l (g_ial _)))))) (kt_g1b (kt_g1b (kt_g1b (kt_g1l (g_i2l _)) (kt_g1b (kt_g1l (g_lc _ _)) (kt_g1l (g_lsub _)))) (kt_g1b (kt_g1b (kt_g1l (g_cs _ _ _)) (kt_g1l (g_fne _ _))) (kt_g1b (kt_g1l (g_ic _ _)) (kt_g1l (g_ri))))) (kt_g1b (kt_g1b (kt_g1b (kt_g1l (g_al _ _)) (kt_g1l (g_il _ _))) (kt_g1b (kt_g1l (g_cv _ _ _)) (kt_g1l (g_al _ _)))) (kt_g1b (kt_g1b (kt_g1l (g_il _ _)) (kt_g1l (g_il _ _))) (kt_g1b (kt_g1l (g_cv _ _ _)) (kt_g1l (g_ri))))))
set_option maxRecDepth 20000 in
theorem kg_149 : kt_gr kX12_greatestOf := by
  intro pc
  show kt_g1 (kX12_greatestOf pc)
  unfold kX12_greatestOf
  exact kt_g1b (kt_g1b (kt_g1b (kt_g1b (kt_g1l (g_il _ _)) (kt_g1l (g_ic _ _))) (kt_g1b (kt_g1l (g_cge _ _)) (kt_g1b (kt_g1l (g_ic _ _)) (kt_g1l (g_goto _))))) (kt_g1b (kt_g1b (kt_g1l (g_il _ _)) (kt_g1l (g_ic _ _))) (kt_g1b (kt_g1l (g_ceq _ _)) (kt_g1b (kt_g1l (g_il _ _)) (kt_g1l (g_ic _ _)))))) (kt_g1b (kt_g1b (kt_g1b (kt_g1l (g_cne _ _)) (kt_g1l (g_ic _ _))) (kt_g1b (kt_g1l (g_goto _)) (kt_g1b (kt_g1l (g_il _ _)) (kt_g1l (g_ic _ _))))) (kt_g1b (kt_g1b (kt_g1l (g_cne _ _)) (kt_g1l (g_ic _ _))) (kt_g1b (kt_g1l (g_goto _)) (kt_g1b (kt_g1l (g_ic _ _)) (kt_g1l (g_ri))))))
set_option maxRecDepth 20000 in
theorem kg_150 : kt_gr kX12_need := by
  intro pc
  show kt_g1 (kX12_need pc)
  unfold kX12_need
  exact kt_g1b (kt_g1b (kt_g1b (kt_g1b (kt_g1b (kt_g1l (g_il _ _)) (kt_g1l (g_i2l _))) (kt_g1b (kt_g1l (g_lc _ _)) (kt_g1l (g_lc _ _)))) (kt_g1b (kt_g1b (kt_g1l (g_cs _ _ _)) (kt_g1l (g_fne _ _))) (kt_g1b (kt_g1l (g_ic _ _)) (kt_g1b (kt_g1l (g_ri)) (kt_g1l (g_il _ _)))))) (kt_g1b (kt_g1b (kt_g1b (kt_g1l (g_i2l _)) (kt_g1l (g_il _ _))) (kt_g1b (kt_g1l (g_ic _ _)) (kt_g1b (kt_g1l (g_ceq _ _)) (kt_g1l (g_il _ _))))) (kt_g1b (kt_g1b (kt_g1l (g_ic _ _)) (kt_g1l (g_cne _ _))) (kt_g1b (kt_g1l (g_lc _ _)) (kt_g1b (kt_g1l (g_goto _)) (kt_g1l (g_lc _ _))))))) (kt_g1b (kt_g1b (kt_g1b (kt_g1b (kt_g1l (g_il _ _)) (kt_g1l (g_cs _ _ _))) (kt_g1b (kt_g1l (g_i2l _)) (kt_g1l (g_cs _ _ _)))) (kt_g1b (kt_g1b (kt_g1l (g_fne _ _)) (kt_g1l (g_ic _ _))) (kt_g1b (kt_g1l (g_ri)) (kt_g1b (kt_g1l (g_al _ _)) (kt_g1l (g_gf _ _ _)))))) (kt_g1b (kt_g1b (kt_g1b (kt_g1l (g_il _ _)) (kt_g1l (g_ial _))) (kt_g1b (kt_g1l (g_is _ _)) (kt_g1b (kt_g1l (g_al _ _)) (kt_g1l (g_gf _ _ _))))) (kt_g1b (kt_g1b (kt_g1l (g_il _ _)) (kt_g1l (g_il _ _))) (kt_g1b (kt_g1l (g_ias _)) (kt_g1b (kt_g1l (g_il _ _)) (kt_g1l (g_ri)))))))
set_option maxRecDepth 20000 in
theorem kg_151 : kt_gr kX12_breaksAt := by
  intro pc
  show kt_g1 (kX12_breaksAt pc)
  unfold kX12_breaksAt
  exact kt_g1b (kt_g1b (kt_g1b (kt_g1b (kt_g1b (kt_g1b (kt_g1l (g_il _ _)) (kt_g1b (kt_g1l (g_ic _ _)) (kt_g1l (g_cne _ _)))) (kt_g1b (kt_g1l (g_al _ _)) (kt_g1b (kt_g1l (g_cv _ _ _)) (kt_g1l (g_al _ _))))) (kt_g1b (kt_g1b (kt_g1l (g_gf _ _ _)) (kt_g1b (kt_g1l (g_ic _ _)) (kt_g1l (g_ial _)))) (kt_g1b (kt_g1b (kt_g1l (g_cge _ _)) (kt_g1l (g_ic _ _))) (kt_g1b (kt_g1l (g_goto _)) (kt_g1l (g_ic _ _)))))) (kt_g1b (kt_g1b (kt_g1b (kt_g1l (g_ri)) (kt_g1b (kt_g1l (g_ic _ _)) (kt_g1l (g_is _ _)))) (kt_g1b (kt_g1b (kt_g1l (g_il _ _)) (kt_g1l (g_al _ _))) (kt_g1b (kt_g1l (g_gf _ _ _)) (kt_g1l (g_cge _ _))))) (kt_g1b (kt_g1b (kt_g1l (g_il _ _)) (kt_g1b (kt_g1l (g_ic _ _)) (kt_g1l (g_add _)))) (kt_g1b (kt_g1b (kt_g1l (g_al _ _)) (kt_g1l (g_gf _ _ _))) (kt_g1b (kt_g1l (g_cge _ _)) (kt_g1l (g_al _ _))))))) (kt_g1b (kt_g1b (kt_g1b (kt_g1b (kt_g1l (g_gf _ _ _)) (kt_g1b (kt_g1l (g_il _ _)) (kt_g1l (g_ial _)))) (kt_g1b (kt_g1b (kt_g1l (g_al _ _)) (kt_g1l (g_gf _ _ _))) (kt_g1b (kt_g1l (g_il _ _)) (kt_g1l (g_ic _ _))))) (kt_g1b (kt_g1b (kt_g1l (g_add _)) (kt_g1b (kt_g1l (g_ial _)) (kt_g1l (g_sub _)))) (kt_g1b (kt_g1b (kt_g1l (g_goto _)) (kt_g1l (g_ic _ _))) (kt_g1b (kt_g1l (g_is _ _)) (kt_g1l (g_il _ _)))))) (kt_g1b (kt_g1b (kt_g1b (kt_g1l (g_il _ _)) (kt_g1b (kt_g1l (g_neg _)) (kt_g1l (g_cs _ _ _)))) (kt_g1b (kt_g1b (kt_g1l (g_al _ _)) (kt_g1l (g_gf _ _ _))) (kt_g1b (kt_g1l (g_ic _ _)) (kt_g1l (g_ial _))))) (kt_g1b (kt_g1b (kt_g1l (g_cle _ _)) (kt_g1b (kt_g1l (g_ic _ _)) (kt_g1l (g_goto _)))) (kt_g1b (kt_g1b (kt_g1l (g_ic _ _)) (kt_g1l (g_is _ _))) (kt_g1b (kt_g1l (g_al _ _)) (kt_g1l (g_gf _ _ _)))))))) (kt_g1b (kt_g1b (kt_g1b (kt_g1b (kt_g1b (kt_g1l (g_il _ _)) (kt_g1b (kt_g1l (g_ial _)) (kt_g1l (g_al _ _)))) (kt_g1b (kt_g1b (kt_g1l (g_gf _ _ _)) (kt_g1l (g_il _ _))) (kt_g1b (kt_g1l (g_ial _)) (kt_g1l (g_al _ _))))) (kt_g1b (kt_g1b (kt_g1l (g_gf _ _ _)) (kt_g1b (kt_g1l (g_ic _ _)) (kt_g1l (g_ial _)))) (kt_g1b (kt_g1b (kt_g1l (g_add _)) (kt_g1l (g_cle _ _))) (kt_g1b (kt_g1l (g_ic _ _)) (kt_g1l (g_goto _)))))) (kt_g1b (kt_g1b (kt_g1b (kt_g1l (g_ic _ _)) (kt_g1b (kt_g1l (g_is _ _)) (kt_g1l (g_il _ _)))) (kt_g1b (kt_g1b (kt_g1l (g_feq _ _)) (kt_g1l (g_il _ _))) (kt_g1b (kt_g1l (g_al _ _)) (kt_g1l (g_gf _ _ _))))) (kt_g1b (kt_g1b (kt_g1l (g_ic _ _)) (kt_g1b (kt_g1l (g_sub _)) (kt_g1l (g_cne _ _)))) (kt_g1b (kt_g1b (kt_g1l (g_al _ _)) (kt_g1l (g_gf _ _ _))) (kt_g1b (kt_g1l (g_il _ _)) (kt_g1l (g_ial _))))))) (kt_g1b (kt_g1b (kt_g1b (kt_g1b (kt_g1l (g_al _ _)) (kt_g1b (kt_g1l (g_gf _ _ _)) (kt_g1l (g_ic _ _)))) (kt_g1b (kt_g1b (kt_g1l (g_ial _)) (kt_g1l (g_cle _ _))) (kt_g1b (kt_g1l (g_ic _ _)) (kt_g1l (g_goto _))))) (kt_g1b (kt_g1b (kt_g1l (g_ic _ _)) (kt_g1b (kt_g1l (g_is _ _)) (kt_g1l (g_il _ _)))) (kt_g1b (kt_g1b (kt_g1l (g_fne _ _)) (kt_g1l (g_il _ _))) (kt_g1b (kt_g1l (g_feq _ _)) (kt_g1l (g_goto _)))))) (kt_g1b (kt_g1b (kt_g1b (kt_g1l (g_il _ _)) (kt_g1b (kt_g1l (g_ic _ _)) (kt_g1l (g_cne _ _)))) (kt_g1b (kt_g1b (kt_g1l (g_il _ _)) (kt_g1l (g_feq _ _))) (kt_g1b (kt_g1l (g_goto _)) (kt_g1l (g_il _ _))))) (kt_g1b (kt_g1b (kt_g1l (g_feq _ _)) (kt_g1b (kt_g1l (g_il _ _)) (kt_g1l (g_ri)))) (kt_g1b (kt_g1b (kt_g1l (g_inc _ _ _)) (kt_g1l (g_goto _))) (kt_g1b (kt_g1l (g_ic _ _)) (kt_g1l (g_ri))))))))
set_option maxRecDepth 20000 in
theorem kg_152 : kt_gr kX12_firstBroken := by
  intro pc
  show kt_g1 (kX12_firstBroken pc)
  unfold kX12_firstBroken
  exact kt_g1b (kt_g1b (kt_g1b (kt_g1l (g_ic _ _)) (kt_g1b (kt_g1l (g_is _ _)) (kt_g1l (g_il _ _)))) (kt_g1b (kt_g1b (kt_g1l (g_ic _ _)) (kt_g1l (g_cge _ _))) (kt_g1b (kt_g1l (g_al _ _)) (kt_g1l (g_il _ _))))) (kt_g1b (kt_g1b (kt_g1b (kt_g1l (g_cv _ _ _)) (kt_g1l (g_flt _ _))) (kt_g1b (kt_g1l (g_il _ _)) (kt_g1l (g_ri)))) (kt_g1b (kt_g1b (kt_g1l (g_inc _ _ _)) (kt_g1l (g_goto _))) (kt_g1b (kt_g1l (g_ic _ _)) (kt_g1l (g_ri)))))
set_option maxRecDepth 20000 in
theorem kg_153 : kt_gr kX12_broken := by
  intro pc
  show kt_g1 (kX12_broken pc)
  unfold kX12_broken
  exact kt_g1b (kt_g1b (kt_g1b (kt_g1b (kt_g1l (g_al _ _)) (kt_g1b (kt_g1l (g_il _ _)) (kt_g1l (g_cv _ _ _)))) (kt_g1b (kt_g1b (kt_g1l (g_feq _ _)) (kt_g1l (g_ic _ _))) (kt_g1b (kt_g1l (g_ri)) (kt_g1l (g_il _ _))))) (kt_g1b (kt_g1b (kt_g1b (kt_g1l (g_i2l _)) (kt_g1l (g_lc _ _))) (kt_g1b (kt_g1l (g_lc _ _)) (kt_g1l (g_cs _ _ _)))) (kt_g1b (kt_g1b (kt_g1l (g_fne _ _)) (kt_g1l (g_ic _ _))) (kt_g1b (kt_g1l (g_ri)) (kt_g1l (g_al _ _)))))) (kt_g1b (kt_g1b (kt_g1b (kt_g1l (g_il _ _)) (kt_g1b (kt_g1l (g_cv _ _ _)) (kt_g1l (g_al _ _)))) (kt_g1b (kt_g1b (kt_g1l (g_cv _ _ _)) (kt_g1l (g_is _ _))) (kt_g1b (kt_g1l (g_il _ _)) (kt_g1l (g_feq _ _))))) (kt_g1b (kt_g1b (kt_g1b (kt_g1l (g_il _ _)) (kt_g1l (g_fge _ _))) (kt_g1b (kt_g1l (g_il _ _)) (kt_g1l (g_goto _)))) (kt_g1b (kt_g1b (kt_g1l (g_al _ _)) (kt_g1l (g_il _ _))) (kt_g1b (kt_g1l (g_cv _ _ _)) (kt_g1l (g_ri))))))
set_option maxRecDepth 20000 in
theorem kg_154 : kt_gr kX12_value := by
  intro pc
  show kt_g1 (kX12_value pc)
  unfold kX12_value
  exact kt_g1b (kt_g1b (kt_g1b (kt_g1l (g_il _ _)) (kt_g1b (kt_g1l (g_al _ _)) (kt_g1l (g_cv _ _ _)))) (kt_g1b (kt_g1l (g_mul _)) (kt_g1b (kt_g1l (g_al _ _)) (kt_g1l (g_il _ _))))) (kt_g1b (kt_g1b (kt_g1l (g_il _ _)) (kt_g1b (kt_g1l (g_cv _ _ _)) (kt_g1l (g_sub _)))) (kt_g1b (kt_g1b (kt_g1l (g_al _ _)) (kt_g1l (g_cv _ _ _))) (kt_g1b (kt_g1l (g_sub _)) (kt_g1l (g_ri)))))
set_option maxRecDepth 20000 in
theorem kg_155 : kt_gr kX12_noneLaw := by
  intro pc
  show kt_g1 (kX12_noneLaw pc)
  unfold kX12_noneLaw
  exact kt_g1b (kt_g1b (kt_g1b (kt_g1l (g_al _ _)) (kt_g1l (g_il _ _))) (kt_g1b (kt_g1l (g_cv _ _ _)) (kt_g1b (kt_g1l (g_feq _ _)) (kt_g1l (g_il _ _))))) (kt_g1b (kt_g1b (kt_g1l (g_ic _ _)) (kt_g1b (kt_g1l (g_ceq _ _)) (kt_g1l (g_ic _ _)))) (kt_g1b (kt_g1l (g_goto _)) (kt_g1b (kt_g1l (g_ic _ _)) (kt_g1l (g_rz)))))
set_option maxRecDepth 20000 in
theorem kg_156 : kt_gr kX12_worth := by
  intro pc
  show kt_g1 (kX12_worth pc)
  unfold kX12_worth
  exact kt_g1b (kt_g1b (kt_g1b (kt_g1b (kt_g1l (g_al _ _)) (kt_g1l (g_il _ _))) (kt_g1b (kt_g1l (g_cv _ _ _)) (kt_g1b (kt_g1l (g_fne _ _)) (kt_g1l (g_al _ _))))) (kt_g1b (kt_g1b (kt_g1l (g_il _ _)) (kt_g1b (kt_g1l (g_cv _ _ _)) (kt_g1l (g_feq _ _)))) (kt_g1b (kt_g1l (g_cs _ _ _)) (kt_g1b (kt_g1l (g_rl)) (kt_g1l (g_al _ _)))))) (kt_g1b (kt_g1b (kt_g1b (kt_g1l (g_il _ _)) (kt_g1b (kt_g1l (g_cv _ _ _)) (kt_g1l (g_al _ _)))) (kt_g1b (kt_g1l (g_al _ _)) (kt_g1b (kt_g1l (g_gf _ _ _)) (kt_g1l (g_ic _ _))))) (kt_g1b (kt_g1b (kt_g1l (g_ial _)) (kt_g1b (kt_g1l (g_il _ _)) (kt_g1l (g_ic _ _)))) (kt_g1b (kt_g1l (g_cv _ _ _)) (kt_g1b (kt_g1l (g_i2l _)) (kt_g1l (g_rl))))))
set_option maxRecDepth 20000 in
theorem kg_157 : kt_gr kX12_risk := by
  intro pc
  show kt_g1 (kX12_risk pc)
  unfold kX12_risk
  exact kt_g1b (kt_g1b (kt_g1b (kt_g1b (kt_g1b (kt_g1l (g_al _ _)) (kt_g1b (kt_g1l (g_il _ _)) (kt_g1l (g_cv _ _ _)))) (kt_g1b (kt_g1l (g_fne _ _)) (kt_g1b (kt_g1l (g_il _ _)) (kt_g1l (g_i2l _))))) (kt_g1b (kt_g1b (kt_g1l (g_lc _ _)) (kt_g1b (kt_g1l (g_lc _ _)) (kt_g1l (g_cs _ _ _)))) (kt_g1b (kt_g1l (g_fne _ _)) (kt_g1b (kt_g1l (g_cs _ _ _)) (kt_g1l (g_rl)))))) (kt_g1b (kt_g1b (kt_g1b (kt_g1l (g_al _ _)) (kt_g1b (kt_g1l (g_il _ _)) (kt_g1l (g_cv _ _ _)))) (kt_g1b (kt_g1l (g_ic _ _)) (kt_g1b (kt_g1l (g_is _ _)) (kt_g1l (g_ic _ _))))) (kt_g1b (kt_g1b (kt_g1l (g_is _ _)) (kt_g1b (kt_g1l (g_il _ _)) (kt_g1l (g_al _ _)))) (kt_g1b (kt_g1l (g_gf _ _ _)) (kt_g1b (kt_g1l (g_cge _ _)) (kt_g1l (g_il _ _))))))) (kt_g1b (kt_g1b (kt_g1b (kt_g1b (kt_g1l (g_ic _ _)) (kt_g1b (kt_g1l (g_al _ _)) (kt_g1l (g_gf _ _ _)))) (kt_g1b (kt_g1l (g_il _ _)) (kt_g1b (kt_g1l (g_ial _)) (kt_g1l (g_al _ _))))) (kt_g1b (kt_g1b (kt_g1l (g_gf _ _ _)) (kt_g1b (kt_g1l (g_il _ _)) (kt_g1l (g_ial _)))) (kt_g1b (kt_g1l (g_sub _)) (kt_g1b (kt_g1l (g_cs _ _ _)) (kt_g1l (g_add _)))))) (kt_g1b (kt_g1b (kt_g1b (kt_g1l (g_is _ _)) (kt_g1b (kt_g1l (g_inc _ _ _)) (kt_g1l (g_goto _)))) (kt_g1b (kt_g1l (g_il _ _)) (kt_g1b (kt_g1l (g_i2l _)) (kt_g1l (g_ic _ _))))) (kt_g1b (kt_g1b (kt_g1l (g_al _ _)) (kt_g1b (kt_g1l (g_gf _ _ _)) (kt_g1l (g_mul _)))) (kt_g1b (kt_g1b (kt_g1l (g_i2l _)) (kt_g1l (g_il _ _))) (kt_g1b (kt_g1l (g_cs _ _ _)) (kt_g1l (g_rl)))))))
set_option maxRecDepth 20000 in
theorem kg_158 : kt_gr kX12_isSort := by
  intro pc
  show kt_g1 (kX12_isSort pc)
  unfold kX12_isSort
  exact kt_g1b (kt_g1b (kt_g1b (kt_g1b (kt_g1l (g_il _ _)) (kt_g1l (g_i2l _))) (kt_g1b (kt_g1l (g_lc _ _)) (kt_g1l (g_lc _ _)))) (kt_g1b (kt_g1b (kt_g1l (g_cs _ _ _)) (kt_g1l (g_feq _ _))) (kt_g1b (kt_g1l (g_il _ _)) (kt_g1b (kt_g1l (g_i2l _)) (kt_g1l (g_lc _ _)))))) (kt_g1b (kt_g1b (kt_g1b (kt_g1l (g_lc _ _)) (kt_g1l (g_cs _ _ _))) (kt_g1b (kt_g1l (g_feq _ _)) (kt_g1b (kt_g1l (g_il _ _)) (kt_g1l (g_cs _ _ _))))) (kt_g1b (kt_g1b (kt_g1l (g_feq _ _)) (kt_g1l (g_ic _ _))) (kt_g1b (kt_g1l (g_goto _)) (kt_g1b (kt_g1l (g_ic _ _)) (kt_g1l (g_rz))))))
set_option maxRecDepth 20000 in
theorem kg_159 : kt_gr kX12_manyRows := by
  intro pc
  show kt_g1 (kX12_manyRows pc)
  unfold kX12_manyRows
  exact kt_g1b (kt_g1b (kt_g1b (kt_g1b (kt_g1l (g_ic _ _)) (kt_g1l (g_is _ _))) (kt_g1b (kt_g1l (g_ic _ _)) (kt_g1l (g_is _ _)))) (kt_g1b (kt_g1b (kt_g1l (g_il _ _)) (kt_g1l (g_ic _ _))) (kt_g1b (kt_g1l (g_il _ _)) (kt_g1l (g_mul _))))) (kt_g1b (kt_g1b (kt_g1b (kt_g1l (g_cge _ _)) (kt_g1l (g_il _ _))) (kt_g1b (kt_g1l (g_il _ _)) (kt_g1l (g_mul _)))) (kt_g1b (kt_g1b (kt_g1l (g_is _ _)) (kt_g1l (g_inc _ _ _))) (kt_g1b (kt_g1l (g_goto _)) (kt_g1b (kt_g1l (g_il _ _)) (kt_g1l (g_ri))))))
set_option maxRecDepth 20000 in
theorem kg_160 : kt_gr kX12_takeRow := by
  intro pc
  show kt_g1 (kX12_takeRow pc)
  unfold kX12_takeRow
  exact kt_g1b (kt_g1b (kt_g1b (kt_g1b (kt_g1b (kt_g1l (g_al _ _)) (kt_g1l (g_il _ _))) (kt_g1b (kt_g1l (g_pf _ _ _ _)) (kt_g1b (kt_g1l (g_al _ _)) (kt_g1l (g_il _ _))))) (kt_g1b (kt_g1b (kt_g1l (g_pf _ _ _ _)) (kt_g1l (g_il _ _))) (kt_g1b (kt_g1l (g_is _ _)) (kt_g1b (kt_g1l (g_il _ _)) (kt_g1l (g_ic _ _)))))) (kt_g1b (kt_g1b (kt_g1b (kt_g1l (g_sub _)) (kt_g1l (g_is _ _))) (kt_g1b (kt_g1l (g_il _ _)) (kt_g1b (kt_g1l (g_flt _ _)) (kt_g1l (g_al _ _))))) (kt_g1b (kt_g1b (kt_g1l (g_gf _ _ _)) (kt_g1b (kt_g1l (g_il _ _)) (kt_g1l (g_il _ _)))) (kt_g1b (kt_g1l (g_il _ _)) (kt_g1b (kt_g1l (g_rem _)) (kt_g1l (g_ic _ _))))))) (kt_g1b (kt_g1b (kt_g1b (kt_g1b (kt_g1l (g_add _)) (kt_g1l (g_ias _))) (kt_g1b (kt_g1l (g_il _ _)) (kt_g1b (kt_g1l (g_il _ _)) (kt_g1l (g_div _))))) (kt_g1b (kt_g1b (kt_g1l (g_is _ _)) (kt_g1b (kt_g1l (g_al _ _)) (kt_g1l (g_gf _ _ _)))) (kt_g1b (kt_g1l (g_il _ _)) (kt_g1b (kt_g1l (g_il _ _)) (kt_g1l (g_il _ _)))))) (kt_g1b (kt_g1b (kt_g1b (kt_g1l (g_rem _)) (kt_g1l (g_ic _ _))) (kt_g1b (kt_g1l (g_add _)) (kt_g1b (kt_g1l (g_ias _)) (kt_g1l (g_il _ _))))) (kt_g1b (kt_g1b (kt_g1l (g_il _ _)) (kt_g1b (kt_g1l (g_div _)) (kt_g1l (g_is _ _)))) (kt_g1b (kt_g1l (g_inc _ _ _)) (kt_g1b (kt_g1l (g_goto _)) (kt_g1l (g_rv)))))))
set_option maxRecDepth 20000 in
theorem kg_161 : kt_gr kX12_layBest := by
  intro pc
  show kt_g1 (kX12_layBest pc)
  unfold kX12_layBest
  exact kt_g1b (kt_g1b (kt_g1b (kt_g1b (kt_g1b (kt_g1l (g_al _ _)) (kt_g1b (kt_g1l (g_ic _ _)) (kt_g1l (g_pf _ _ _ _)))) (kt_g1b (kt_g1b (kt_g1l (g_al _ _)) (kt_g1l (g_ic _ _))) (kt_g1b (kt_g1l (g_pf _ _ _ _)) (kt_g1l (g_il _ _))))) (kt_g1b (kt_g1b (kt_g1l (g_il _ _)) (kt_g1b (kt_g1l (g_cs _ _ _)) (kt_g1l (g_is _ _)))) (kt_g1b (kt_g1b (kt_g1l (g_ic _ _)) (kt_g1l (g_is _ _))) (kt_g1b (kt_g1l (g_il _ _)) (kt_g1l (g_il _ _)))))) (kt_g1b (kt_g1b (kt_g1b (kt_g1l (g_cge _ _)) (kt_g1b (kt_g1l (g_al _ _)) (kt_g1l (g_il _ _)))) (kt_g1b (kt_g1b (kt_g1l (g_il _ _)) (kt_g1l (g_il _ _))) (kt_g1b (kt_g1l (g_il _ _)) (kt_g1l (g_cv _ _ _))))) (kt_g1b (kt_g1b (kt_g1b (kt_g1l (g_al _ _)) (kt_g1l (g_al _ _))) (kt_g1b (kt_g1l (g_gf _ _ _)) (kt_g1l (g_ic _ _)))) (kt_g1b (kt_g1b (kt_g1l (g_ial _)) (kt_g1l (g_il _ _))) (kt_g1b (kt_g1l (g_il _ _)) (kt_g1l (g_cv _ _ _))))))) (kt_g1b (kt_g1b (kt_g1b (kt_g1b (kt_g1l (g_is _ _)) (kt_g1b (kt_g1l (g_al _ _)) (kt_g1l (g_gf _ _ _)))) (kt_g1b (kt_g1b (kt_g1l (g_flt _ _)) (kt_g1l (g_il _ _))) (kt_g1b (kt_g1l (g_al _ _)) (kt_g1l (g_gf _ _ _))))) (kt_g1b (kt_g1b (kt_g1b (kt_g1l (g_cle _ _)) (kt_g1l (g_al _ _))) (kt_g1b (kt_g1l (g_cv _ _ _)) (kt_g1l (g_fge _ _)))) (kt_g1b (kt_g1b (kt_g1l (g_al _ _)) (kt_g1l (g_il _ _))) (kt_g1b (kt_g1l (g_pf _ _ _ _)) (kt_g1l (g_al _ _)))))) (kt_g1b (kt_g1b (kt_g1b (kt_g1l (g_il _ _)) (kt_g1b (kt_g1l (g_pf _ _ _ _)) (kt_g1l (g_inc _ _ _)))) (kt_g1b (kt_g1b (kt_g1l (g_goto _)) (kt_g1l (g_al _ _))) (kt_g1b (kt_g1l (g_gf _ _ _)) (kt_g1l (g_flt _ _))))) (kt_g1b (kt_g1b (kt_g1b (kt_g1l (g_al _ _)) (kt_g1l (g_il _ _))) (kt_g1b (kt_g1l (g_il _ _)) (kt_g1l (g_il _ _)))) (kt_g1b (kt_g1b (kt_g1l (g_al _ _)) (kt_g1l (g_gf _ _ _))) (kt_g1b (kt_g1l (g_cv _ _ _)) (kt_g1l (g_rv)))))))
set_option maxRecDepth 20000 in
theorem kg_162 : kt_gr kX12_loss := by
  intro pc
  show kt_g1 (kX12_loss pc)
  unfold kX12_loss
  exact kt_g1b (kt_g1b (kt_g1b (kt_g1b (kt_g1l (g_al _ _)) (kt_g1b (kt_g1l (g_il _ _)) (kt_g1l (g_il _ _)))) (kt_g1b (kt_g1b (kt_g1l (g_il _ _)) (kt_g1l (g_ic _ _))) (kt_g1b (kt_g1l (g_ic _ _)) (kt_g1l (g_cv _ _ _))))) (kt_g1b (kt_g1b (kt_g1l (g_al _ _)) (kt_g1b (kt_g1l (g_gf _ _ _)) (kt_g1l (g_is _ _)))) (kt_g1b (kt_g1b (kt_g1l (g_al _ _)) (kt_g1l (g_il _ _))) (kt_g1b (kt_g1l (g_il _ _)) (kt_g1l (g_il _ _)))))) (kt_g1b (kt_g1b (kt_g1b (kt_g1l (g_il _ _)) (kt_g1b (kt_g1l (g_il _ _)) (kt_g1l (g_cv _ _ _)))) (kt_g1b (kt_g1b (kt_g1l (g_il _ _)) (kt_g1l (g_al _ _))) (kt_g1b (kt_g1l (g_al _ _)) (kt_g1l (g_gf _ _ _))))) (kt_g1b (kt_g1b (kt_g1l (g_ic _ _)) (kt_g1b (kt_g1l (g_ial _)) (kt_g1l (g_ic _ _)))) (kt_g1b (kt_g1b (kt_g1l (g_ic _ _)) (kt_g1l (g_cv _ _ _))) (kt_g1b (kt_g1l (g_sub _)) (kt_g1l (g_ri))))))
set_option maxRecDepth 20000 in
theorem kg_163 : kt_gr kX12_best := by
  intro pc
  show kt_g1 (kX12_best pc)
  unfold kX12_best
  exact kt_g1b (kt_g1b (kt_g1b (kt_g1b (kt_g1b (kt_g1l (g_al _ _)) (kt_g1b (kt_g1l (g_il _ _)) (kt_g1l (g_cv _ _ _)))) (kt_g1b (kt_g1b (kt_g1l (g_fne _ _)) (kt_g1l (g_il _ _))) (kt_g1b (kt_g1l (g_il _ _)) (kt_g1l (g_il _ _))))) (kt_g1b (kt_g1b (kt_g1b (kt_g1l (g_cs _ _ _)) (kt_g1l (g_feq _ _))) (kt_g1b (kt_g1l (g_il _ _)) (kt_g1l (g_i2l _)))) (kt_g1b (kt_g1b (kt_g1l (g_lc _ _)) (kt_g1l (g_lc _ _))) (kt_g1b (kt_g1l (g_cs _ _ _)) (kt_g1l (g_fne _ _)))))) (kt_g1b (kt_g1b (kt_g1b (kt_g1l (g_cs _ _ _)) (kt_g1b (kt_g1l (g_rl)) (kt_g1l (g_al _ _)))) (kt_g1b (kt_g1b (kt_g1l (g_il _ _)) (kt_g1l (g_il _ _))) (kt_g1b (kt_g1l (g_il _ _)) (kt_g1l (g_il _ _))))) (kt_g1b (kt_g1b (kt_g1b (kt_g1l (g_ic _ _)) (kt_g1l (g_cv _ _ _))) (kt_g1b (kt_g1l (g_al _ _)) (kt_g1l (g_gf _ _ _)))) (kt_g1b (kt_g1b (kt_g1l (g_fge _ _)) (kt_g1l (g_cs _ _ _))) (kt_g1b (kt_g1l (g_rl)) (kt_g1l (g_il _ _))))))) (kt_g1b (kt_g1b (kt_g1b (kt_g1b (kt_g1l (g_fne _ _)) (kt_g1b (kt_g1l (g_al _ _)) (kt_g1l (g_gf _ _ _)))) (kt_g1b (kt_g1b (kt_g1l (g_i2l _)) (kt_g1l (g_goto _))) (kt_g1b (kt_g1l (g_il _ _)) (kt_g1l (g_ic _ _))))) (kt_g1b (kt_g1b (kt_g1b (kt_g1l (g_cne _ _)) (kt_g1l (g_al _ _))) (kt_g1b (kt_g1l (g_il _ _)) (kt_g1l (g_ic _ _)))) (kt_g1b (kt_g1b (kt_g1l (g_cv _ _ _)) (kt_g1l (g_i2l _))) (kt_g1b (kt_g1l (g_goto _)) (kt_g1l (g_il _ _)))))) (kt_g1b (kt_g1b (kt_g1b (kt_g1l (g_ic _ _)) (kt_g1b (kt_g1l (g_cne _ _)) (kt_g1l (g_al _ _)))) (kt_g1b (kt_g1b (kt_g1l (g_il _ _)) (kt_g1l (g_il _ _))) (kt_g1b (kt_g1l (g_il _ _)) (kt_g1l (g_il _ _))))) (kt_g1b (kt_g1b (kt_g1b (kt_g1l (g_ic _ _)) (kt_g1l (g_cv _ _ _))) (kt_g1b (kt_g1l (g_i2l _)) (kt_g1l (g_goto _)))) (kt_g1b (kt_g1b (kt_g1l (g_al _ _)) (kt_g1l (g_cv _ _ _))) (kt_g1b (kt_g1l (g_i2l _)) (kt_g1l (g_rl)))))))
set_option maxRecDepth 20000 in
theorem kg_164 : kt_gr kX12_shape := by
  intro pc
  show kt_g1 (kX12_shape pc)
  unfold kX12_shape
  exact kt_g1b (kt_g1b (kt_g1b (kt_g1b (kt_g1b (kt_g1l (g_al _ _)) (kt_g1b (kt_g1l (g_il _ _)) (kt_g1l (g_cv _ _ _)))) (kt_g1b (kt_g1b (kt_g1l (g_feq _ _)) (kt_g1l (g_ic _ _))) (kt_g1b (kt_g1l (g_ri)) (kt_g1l (g_il _ _))))) (kt_g1b (kt_g1b (kt_g1l (g_il _ _)) (kt_g1b (kt_g1l (g_il _ _)) (kt_g1l (g_cs _ _ _)))) (kt_g1b (kt_g1b (kt_g1l (g_fne _ _)) (kt_g1l (g_ic _ _))) (kt_g1b (kt_g1l (g_ri)) (kt_g1l (g_il _ _)))))) (kt_g1b (kt_g1b (kt_g1b (kt_g1l (g_i2l _)) (kt_g1b (kt_g1l (g_lc _ _)) (kt_g1l (g_lc _ _)))) (kt_g1b (kt_g1b (kt_g1l (g_il _ _)) (kt_g1l (g_i2l _))) (kt_g1b (kt_g1l (g_lmul _)) (kt_g1l (g_lc _ _))))) (kt_g1b (kt_g1b (kt_g1l (g_lsub _)) (kt_g1b (kt_g1l (g_cs _ _ _)) (kt_g1l (g_fne _ _)))) (kt_g1b (kt_g1b (kt_g1l (g_ic _ _)) (kt_g1l (g_ri))) (kt_g1b (kt_g1l (g_al _ _)) (kt_g1l (g_il _ _))))))) (kt_g1b (kt_g1b (kt_g1b (kt_g1b (kt_g1l (g_il _ _)) (kt_g1b (kt_g1l (g_il _ _)) (kt_g1l (g_il _ _)))) (kt_g1b (kt_g1b (kt_g1l (g_ic _ _)) (kt_g1l (g_cv _ _ _))) (kt_g1b (kt_g1l (g_al _ _)) (kt_g1l (g_gf _ _ _))))) (kt_g1b (kt_g1b (kt_g1l (g_fge _ _)) (kt_g1b (kt_g1l (g_ic _ _)) (kt_g1l (g_goto _)))) (kt_g1b (kt_g1b (kt_g1l (g_il _ _)) (kt_g1l (g_ic _ _))) (kt_g1b (kt_g1l (g_rem _)) (kt_g1l (g_fne _ _)))))) (kt_g1b (kt_g1b (kt_g1b (kt_g1l (g_al _ _)) (kt_g1b (kt_g1l (g_gf _ _ _)) (kt_g1l (g_il _ _)))) (kt_g1b (kt_g1b (kt_g1l (g_ic _ _)) (kt_g1l (g_div _))) (kt_g1b (kt_g1l (g_ial _)) (kt_g1l (g_goto _))))) (kt_g1b (kt_g1b (kt_g1l (g_al _ _)) (kt_g1b (kt_g1l (g_gf _ _ _)) (kt_g1l (g_il _ _)))) (kt_g1b (kt_g1b (kt_g1l (g_ic _ _)) (kt_g1l (g_div _))) (kt_g1b (kt_g1l (g_ial _)) (kt_g1l (g_ri)))))))
set_option maxRecDepth 20000 in
theorem kg_165 : kt_gr kX12_shapes := by
  intro pc
  show kt_g1 (kX12_shapes pc)
  unfold kX12_shapes
  exact kt_g1b (kt_g1b (kt_g1b (kt_g1b (kt_g1b (kt_g1l (g_il _ _)) (kt_g1l (g_il _ _))) (kt_g1b (kt_g1l (g_il _ _)) (kt_g1l (g_cs _ _ _)))) (kt_g1b (kt_g1b (kt_g1l (g_fne _ _)) (kt_g1l (g_ic _ _))) (kt_g1b (kt_g1l (g_ri)) (kt_g1b (kt_g1l (g_ic _ _)) (kt_g1l (g_is _ _)))))) (kt_g1b (kt_g1b (kt_g1b (kt_g1l (g_il _ _)) (kt_g1l (g_il _ _))) (kt_g1b (kt_g1l (g_cs _ _ _)) (kt_g1l (g_is _ _)))) (kt_g1b (kt_g1b (kt_g1l (g_ic _ _)) (kt_g1l (g_is _ _))) (kt_g1b (kt_g1l (g_il _ _)) (kt_g1b (kt_g1l (g_il _ _)) (kt_g1l (g_cge _ _))))))) (kt_g1b (kt_g1b (kt_g1b (kt_g1b (kt_g1l (g_al _ _)) (kt_g1l (g_il _ _))) (kt_g1b (kt_g1l (g_il _ _)) (kt_g1l (g_il _ _)))) (kt_g1b (kt_g1b (kt_g1l (g_il _ _)) (kt_g1l (g_cv _ _ _))) (kt_g1b (kt_g1l (g_il _ _)) (kt_g1b (kt_g1l (g_al _ _)) (kt_g1l (g_cv _ _ _)))))) (kt_g1b (kt_g1b (kt_g1b (kt_g1l (g_fge _ _)) (kt_g1l (g_ic _ _))) (kt_g1b (kt_g1l (g_goto _)) (kt_g1b (kt_g1l (g_ic _ _)) (kt_g1l (g_add _))))) (kt_g1b (kt_g1b (kt_g1l (g_is _ _)) (kt_g1l (g_inc _ _ _))) (kt_g1b (kt_g1l (g_goto _)) (kt_g1b (kt_g1l (g_il _ _)) (kt_g1l (g_ri)))))))
set_option maxRecDepth 20000 in
theorem kg_166 : kt_gr kX12_without := by
  intro pc
  show kt_g1 (kX12_without pc)
  unfold kX12_without
  exact kt_g1b (kt_g1b (kt_g1b (kt_g1b (kt_g1b (kt_g1l (g_al _ _)) (kt_g1b (kt_g1l (g_il _ _)) (kt_g1l (g_cv _ _ _)))) (kt_g1b (kt_g1l (g_fne _ _)) (kt_g1b (kt_g1l (g_il _ _)) (kt_g1l (g_i2l _))))) (kt_g1b (kt_g1b (kt_g1l (g_lc _ _)) (kt_g1b (kt_g1l (g_al _ _)) (kt_g1l (g_gf _ _ _)))) (kt_g1b (kt_g1b (kt_g1l (g_il _ _)) (kt_g1l (g_ial _))) (kt_g1b (kt_g1l (g_i2l _)) (kt_g1l (g_lc _ _)))))) (kt_g1b (kt_g1b (kt_g1b (kt_g1l (g_lsub _)) (kt_g1b (kt_g1l (g_cs _ _ _)) (kt_g1l (g_feq _ _)))) (kt_g1b (kt_g1b (kt_g1l (g_il _ _)) (kt_g1l (g_il _ _))) (kt_g1b (kt_g1l (g_il _ _)) (kt_g1l (g_cs _ _ _))))) (kt_g1b (kt_g1b (kt_g1l (g_feq _ _)) (kt_g1b (kt_g1l (g_il _ _)) (kt_g1l (g_i2l _)))) (kt_g1b (kt_g1b (kt_g1l (g_lc _ _)) (kt_g1l (g_lc _ _))) (kt_g1b (kt_g1l (g_cs _ _ _)) (kt_g1l (g_fne _ _))))))) (kt_g1b (kt_g1b (kt_g1b (kt_g1b (kt_g1l (g_cs _ _ _)) (kt_g1b (kt_g1l (g_rl)) (kt_g1l (g_al _ _)))) (kt_g1b (kt_g1l (g_il _ _)) (kt_g1b (kt_g1l (g_il _ _)) (kt_g1l (g_il _ _))))) (kt_g1b (kt_g1b (kt_g1l (g_il _ _)) (kt_g1b (kt_g1l (g_il _ _)) (kt_g1l (g_cv _ _ _)))) (kt_g1b (kt_g1b (kt_g1l (g_is _ _)) (kt_g1l (g_al _ _))) (kt_g1b (kt_g1l (g_gf _ _ _)) (kt_g1l (g_fge _ _)))))) (kt_g1b (kt_g1b (kt_g1b (kt_g1l (g_cs _ _ _)) (kt_g1b (kt_g1l (g_goto _)) (kt_g1l (g_il _ _)))) (kt_g1b (kt_g1b (kt_g1l (g_ic _ _)) (kt_g1l (g_cne _ _))) (kt_g1b (kt_g1l (g_il _ _)) (kt_g1l (g_i2l _))))) (kt_g1b (kt_g1b (kt_g1l (g_goto _)) (kt_g1b (kt_g1l (g_al _ _)) (kt_g1l (g_il _ _)))) (kt_g1b (kt_g1b (kt_g1l (g_il _ _)) (kt_g1l (g_cv _ _ _))) (kt_g1b (kt_g1l (g_i2l _)) (kt_g1l (g_rl)))))))
set_option maxRecDepth 20000 in
theorem kg_167 : kt_gr kX12_mend := by
  intro pc
  show kt_g1 (kX12_mend pc)
  unfold kX12_mend
  exact kt_g1b (kt_g1b (kt_g1b (kt_g1b (kt_g1b (kt_g1l (g_il _ _)) (kt_g1b (kt_g1l (g_il _ _)) (kt_g1l (g_il _ _)))) (kt_g1b (kt_g1l (g_cs _ _ _)) (kt_g1b (kt_g1l (g_feq _ _)) (kt_g1l (g_il _ _))))) (kt_g1b (kt_g1b (kt_g1l (g_fge _ _)) (kt_g1b (kt_g1l (g_ic _ _)) (kt_g1l (g_ri)))) (kt_g1b (kt_g1b (kt_g1l (g_al _ _)) (kt_g1l (g_il _ _))) (kt_g1b (kt_g1l (g_il _ _)) (kt_g1l (g_il _ _)))))) (kt_g1b (kt_g1b (kt_g1b (kt_g1l (g_cv _ _ _)) (kt_g1b (kt_g1l (g_fne _ _)) (kt_g1l (g_ic _ _)))) (kt_g1b (kt_g1b (kt_g1l (g_ri)) (kt_g1l (g_ic _ _))) (kt_g1b (kt_g1l (g_is _ _)) (kt_g1l (g_ic _ _))))) (kt_g1b (kt_g1b (kt_g1l (g_is _ _)) (kt_g1b (kt_g1l (g_ic _ _)) (kt_g1l (g_is _ _)))) (kt_g1b (kt_g1b (kt_g1l (g_il _ _)) (kt_g1l (g_al _ _))) (kt_g1b (kt_g1l (g_gf _ _ _)) (kt_g1l (g_cge _ _))))))) (kt_g1b (kt_g1b (kt_g1b (kt_g1b (kt_g1l (g_al _ _)) (kt_g1b (kt_g1l (g_il _ _)) (kt_g1l (g_il _ _)))) (kt_g1b (kt_g1l (g_il _ _)) (kt_g1b (kt_g1l (g_il _ _)) (kt_g1l (g_ic _ _))))) (kt_g1b (kt_g1b (kt_g1l (g_cv _ _ _)) (kt_g1b (kt_g1l (g_is _ _)) (kt_g1l (g_al _ _)))) (kt_g1b (kt_g1b (kt_g1l (g_il _ _)) (kt_g1l (g_ic _ _))) (kt_g1b (kt_g1l (g_cv _ _ _)) (kt_g1l (g_il _ _)))))) (kt_g1b (kt_g1b (kt_g1b (kt_g1l (g_clt _ _)) (kt_g1b (kt_g1l (g_il _ _)) (kt_g1l (g_flt _ _)))) (kt_g1b (kt_g1b (kt_g1l (g_il _ _)) (kt_g1l (g_il _ _))) (kt_g1b (kt_g1l (g_cge _ _)) (kt_g1l (g_il _ _))))) (kt_g1b (kt_g1b (kt_g1l (g_is _ _)) (kt_g1b (kt_g1l (g_il _ _)) (kt_g1l (g_is _ _)))) (kt_g1b (kt_g1b (kt_g1l (g_inc _ _ _)) (kt_g1l (g_goto _))) (kt_g1b (kt_g1l (g_il _ _)) (kt_g1l (g_ri)))))))
set_option maxRecDepth 20000 in
theorem kg_168 : kt_gr kX12_crowd := by
  intro pc
  show kt_g1 (kX12_crowd pc)
  unfold kX12_crowd
  exact kt_g1b (kt_g1b (kt_g1b (kt_g1b (kt_g1b (kt_g1l (g_al _ _)) (kt_g1b (kt_g1l (g_il _ _)) (kt_g1l (g_cv _ _ _)))) (kt_g1b (kt_g1l (g_feq _ _)) (kt_g1b (kt_g1l (g_ic _ _)) (kt_g1l (g_ri))))) (kt_g1b (kt_g1b (kt_g1l (g_il _ _)) (kt_g1b (kt_g1l (g_il _ _)) (kt_g1l (g_il _ _)))) (kt_g1b (kt_g1l (g_cs _ _ _)) (kt_g1b (kt_g1l (g_fne _ _)) (kt_g1l (g_ic _ _)))))) (kt_g1b (kt_g1b (kt_g1b (kt_g1l (g_ri)) (kt_g1b (kt_g1l (g_ic _ _)) (kt_g1l (g_is _ _)))) (kt_g1b (kt_g1l (g_il _ _)) (kt_g1b (kt_g1l (g_il _ _)) (kt_g1l (g_cs _ _ _))))) (kt_g1b (kt_g1b (kt_g1l (g_is _ _)) (kt_g1b (kt_g1l (g_ic _ _)) (kt_g1l (g_is _ _)))) (kt_g1b (kt_g1l (g_il _ _)) (kt_g1b (kt_g1l (g_il _ _)) (kt_g1l (g_cge _ _))))))) (kt_g1b (kt_g1b (kt_g1b (kt_g1b (kt_g1l (g_al _ _)) (kt_g1b (kt_g1l (g_il _ _)) (kt_g1l (g_il _ _)))) (kt_g1b (kt_g1l (g_il _ _)) (kt_g1b (kt_g1l (g_il _ _)) (kt_g1l (g_cv _ _ _))))) (kt_g1b (kt_g1b (kt_g1l (g_il _ _)) (kt_g1b (kt_g1l (g_al _ _)) (kt_g1l (g_il _ _)))) (kt_g1b (kt_g1l (g_ic _ _)) (kt_g1b (kt_g1l (g_cv _ _ _)) (kt_g1l (g_il _ _)))))) (kt_g1b (kt_g1b (kt_g1b (kt_g1l (g_cne _ _)) (kt_g1b (kt_g1l (g_al _ _)) (kt_g1l (g_cv _ _ _)))) (kt_g1b (kt_g1l (g_fge _ _)) (kt_g1b (kt_g1l (g_ic _ _)) (kt_g1l (g_goto _))))) (kt_g1b (kt_g1b (kt_g1l (g_ic _ _)) (kt_g1b (kt_g1l (g_add _)) (kt_g1l (g_is _ _)))) (kt_g1b (kt_g1b (kt_g1l (g_inc _ _ _)) (kt_g1l (g_goto _))) (kt_g1b (kt_g1l (g_il _ _)) (kt_g1l (g_ri)))))))
set_option maxRecDepth 20000 in
theorem kg_169 : kt_gr kX12_change := by
  intro pc
  show kt_g1 (kX12_change pc)
  unfold kX12_change
  exact kt_g1b (kt_g1b (kt_g1b (kt_g1b (kt_g1l (g_al _ _)) (kt_g1b (kt_g1l (g_gf _ _ _)) (kt_g1l (g_il _ _)))) (kt_g1b (kt_g1l (g_dup2 _)) (kt_g1b (kt_g1l (g_ial _)) (kt_g1l (g_il _ _))))) (kt_g1b (kt_g1b (kt_g1l (g_fne _ _)) (kt_g1b (kt_g1l (g_il _ _)) (kt_g1l (g_goto _)))) (kt_g1b (kt_g1b (kt_g1l (g_ic _ _)) (kt_g1l (g_add _))) (kt_g1b (kt_g1l (g_ias _)) (kt_g1l (g_al _ _)))))) (kt_g1b (kt_g1b (kt_g1b (kt_g1l (g_gf _ _ _)) (kt_g1b (kt_g1l (g_il _ _)) (kt_g1l (g_dup2 _)))) (kt_g1b (kt_g1l (g_ial _)) (kt_g1b (kt_g1l (g_il _ _)) (kt_g1l (g_ic _ _))))) (kt_g1b (kt_g1b (kt_g1l (g_cne _ _)) (kt_g1b (kt_g1l (g_il _ _)) (kt_g1l (g_goto _)))) (kt_g1b (kt_g1b (kt_g1l (g_ic _ _)) (kt_g1l (g_add _))) (kt_g1b (kt_g1l (g_ias _)) (kt_g1l (g_rv))))))
set_option maxRecDepth 20000 in
theorem kg_170 : kt_gr kX12_step := by
  intro pc
  show kt_g1 (kX12_step pc)
  unfold kX12_step
  exact kt_g1b (kt_g1b (kt_g1b (kt_g1b (kt_g1b (kt_g1b (kt_g1l (g_al _ _)) (kt_g1b (kt_g1l (g_il _ _)) (kt_g1l (g_cv _ _ _)))) (kt_g1b (kt_g1b (kt_g1l (g_fne _ _)) (kt_g1l (g_al _ _))) (kt_g1b (kt_g1l (g_il _ _)) (kt_g1l (g_cv _ _ _))))) (kt_g1b (kt_g1b (kt_g1l (g_feq _ _)) (kt_g1b (kt_g1l (g_ic _ _)) (kt_g1l (g_ri)))) (kt_g1b (kt_g1b (kt_g1l (g_al _ _)) (kt_g1l (g_il _ _))) (kt_g1b (kt_g1l (g_cv _ _ _)) (kt_g1l (g_al _ _)))))) (kt_g1b (kt_g1b (kt_g1b (kt_g1l (g_al _ _)) (kt_g1b (kt_g1l (g_gf _ _ _)) (kt_g1l (g_ic _ _)))) (kt_g1b (kt_g1b (kt_g1l (g_ial _)) (kt_g1l (g_il _ _))) (kt_g1b (kt_g1l (g_ic _ _)) (kt_g1l (g_cv _ _ _))))) (kt_g1b (kt_g1b (kt_g1b (kt_g1l (g_is _ _)) (kt_g1l (g_ic _ _))) (kt_g1b (kt_g1l (g_is _ _)) (kt_g1l (g_ic _ _)))) (kt_g1b (kt_g1b (kt_g1l (g_is _ _)) (kt_g1l (g_il _ _))) (kt_g1b (kt_g1l (g_ic _ _)) (kt_g1l (g_al _ _))))))) (kt_g1b (kt_g1b (kt_g1b (kt_g1b (kt_g1l (g_gf _ _ _)) (kt_g1b (kt_g1l (g_mul _)) (kt_g1l (g_cge _ _)))) (kt_g1b (kt_g1b (kt_g1l (g_il _ _)) (kt_g1l (g_ic _ _))) (kt_g1b (kt_g1l (g_div _)) (kt_g1l (g_is _ _))))) (kt_g1b (kt_g1b (kt_g1l (g_il _ _)) (kt_g1b (kt_g1l (g_ic _ _)) (kt_g1l (g_div _)))) (kt_g1b (kt_g1b (kt_g1l (g_ic _ _)) (kt_g1l (g_rem _))) (kt_g1b (kt_g1l (g_is _ _)) (kt_g1l (g_il _ _)))))) (kt_g1b (kt_g1b (kt_g1b (kt_g1l (g_ic _ _)) (kt_g1b (kt_g1l (g_rem _)) (kt_g1l (g_fne _ _)))) (kt_g1b (kt_g1b (kt_g1l (g_ic _ _)) (kt_g1l (g_goto _))) (kt_g1b (kt_g1l (g_ic _ _)) (kt_g1l (g_is _ _))))) (kt_g1b (kt_g1b (kt_g1b (kt_g1l (g_al _ _)) (kt_g1l (g_il _ _))) (kt_g1b (kt_g1l (g_il _ _)) (kt_g1l (g_il _ _)))) (kt_g1b (kt_g1b (kt_g1l (g_cv _ _ _)) (kt_g1l (g_il _ _))) (kt_g1b (kt_g1l (g_fne _ _)) (kt_g1l (g_al _ _)))))))) (kt_g1b (kt_g1b (kt_g1b (kt_g1b (kt_g1b (kt_g1l (g_gf _ _ _)) (kt_g1b (kt_g1l (g_il _ _)) (kt_g1l (g_ial _)))) (kt_g1b (kt_g1b (kt_g1l (g_i2l _)) (kt_g1l (g_goto _))) (kt_g1b (kt_g1l (g_al _ _)) (kt_g1l (g_gf _ _ _))))) (kt_g1b (kt_g1b (kt_g1l (g_il _ _)) (kt_g1b (kt_g1l (g_ial _)) (kt_g1l (g_i2l _)))) (kt_g1b (kt_g1b (kt_g1l (g_lc _ _)) (kt_g1l (g_lc _ _))) (kt_g1b (kt_g1l (g_cs _ _ _)) (kt_g1l (g_feq _ _)))))) (kt_g1b (kt_g1b (kt_g1b (kt_g1l (g_al _ _)) (kt_g1b (kt_g1l (g_cv _ _ _)) (kt_g1l (g_fge _ _)))) (kt_g1b (kt_g1b (kt_g1l (g_ic _ _)) (kt_g1l (g_goto _))) (kt_g1b (kt_g1l (g_ic _ _)) (kt_g1l (g_is _ _))))) (kt_g1b (kt_g1b (kt_g1b (kt_g1l (g_al _ _)) (kt_g1l (g_al _ _))) (kt_g1b (kt_g1l (g_gf _ _ _)) (kt_g1l (g_ic _ _)))) (kt_g1b (kt_g1b (kt_g1l (g_ial _)) (kt_g1l (g_il _ _))) (kt_g1b (kt_g1l (g_ic _ _)) (kt_g1l (g_cv _ _ _))))))) (kt_g1b (kt_g1b (kt_g1b (kt_g1b (kt_g1l (g_is _ _)) (kt_g1b (kt_g1l (g_il _ _)) (kt_g1l (g_feq _ _)))) (kt_g1b (kt_g1b (kt_g1l (g_il _ _)) (kt_g1l (g_il _ _))) (kt_g1b (kt_g1l (g_cle _ _)) (kt_g1l (g_il _ _))))) (kt_g1b (kt_g1b (kt_g1b (kt_g1l (g_is _ _)) (kt_g1l (g_ic _ _))) (kt_g1b (kt_g1l (g_il _ _)) (kt_g1l (g_mul _)))) (kt_g1b (kt_g1b (kt_g1l (g_ic _ _)) (kt_g1l (g_il _ _))) (kt_g1b (kt_g1l (g_mul _)) (kt_g1l (g_add _)))))) (kt_g1b (kt_g1b (kt_g1b (kt_g1l (g_il _ _)) (kt_g1b (kt_g1l (g_ic _ _)) (kt_g1l (g_rem _)))) (kt_g1b (kt_g1b (kt_g1l (g_add _)) (kt_g1l (g_is _ _))) (kt_g1b (kt_g1l (g_al _ _)) (kt_g1l (g_il _ _))))) (kt_g1b (kt_g1b (kt_g1b (kt_g1l (g_il _ _)) (kt_g1l (g_il _ _))) (kt_g1b (kt_g1l (g_neg _)) (kt_g1l (g_cv _ _ _)))) (kt_g1b (kt_g1b (kt_g1l (g_inc _ _ _)) (kt_g1l (g_goto _))) (kt_g1b (kt_g1l (g_il _ _)) (kt_g1l (g_ri))))))))
set_option maxRecDepth 20000 in
theorem kg_171 : kt_gr kX12_trim := by
  intro pc
  show kt_g1 (kX12_trim pc)
  unfold kX12_trim
  exact kt_g1b (kt_g1b (kt_g1b (kt_g1b (kt_g1b (kt_g1b (kt_g1l (g_al _ _)) (kt_g1l (g_il _ _))) (kt_g1b (kt_g1l (g_cv _ _ _)) (kt_g1b (kt_g1l (g_fne _ _)) (kt_g1l (g_al _ _))))) (kt_g1b (kt_g1b (kt_g1l (g_il _ _)) (kt_g1b (kt_g1l (g_cv _ _ _)) (kt_g1l (g_feq _ _)))) (kt_g1b (kt_g1l (g_ic _ _)) (kt_g1b (kt_g1l (g_ri)) (kt_g1l (g_il _ _)))))) (kt_g1b (kt_g1b (kt_g1b (kt_g1l (g_i2l _)) (kt_g1l (g_lc _ _))) (kt_g1b (kt_g1l (g_lc _ _)) (kt_g1b (kt_g1l (g_cs _ _ _)) (kt_g1l (g_fne _ _))))) (kt_g1b (kt_g1b (kt_g1l (g_ic _ _)) (kt_g1b (kt_g1l (g_ri)) (kt_g1l (g_al _ _)))) (kt_g1b (kt_g1l (g_il _ _)) (kt_g1b (kt_g1l (g_cv _ _ _)) (kt_g1l (g_al _ _))))))) (kt_g1b (kt_g1b (kt_g1b (kt_g1b (kt_g1l (g_il _ _)) (kt_g1l (g_ic _ _))) (kt_g1b (kt_g1l (g_cv _ _ _)) (kt_g1b (kt_g1l (g_is _ _)) (kt_g1l (g_ic _ _))))) (kt_g1b (kt_g1b (kt_g1l (g_is _ _)) (kt_g1b (kt_g1l (g_il _ _)) (kt_g1l (g_al _ _)))) (kt_g1b (kt_g1l (g_gf _ _ _)) (kt_g1b (kt_g1l (g_cge _ _)) (kt_g1l (g_al _ _)))))) (kt_g1b (kt_g1b (kt_g1b (kt_g1l (g_gf _ _ _)) (kt_g1b (kt_g1l (g_il _ _)) (kt_g1l (g_al _ _)))) (kt_g1b (kt_g1l (g_gf _ _ _)) (kt_g1b (kt_g1l (g_ic _ _)) (kt_g1l (g_il _ _))))) (kt_g1b (kt_g1b (kt_g1l (g_mul _)) (kt_g1b (kt_g1l (g_al _ _)) (kt_g1l (g_gf _ _ _)))) (kt_g1b (kt_g1l (g_add _)) (kt_g1b (kt_g1l (g_ic _ _)) (kt_g1l (g_sub _)))))))) (kt_g1b (kt_g1b (kt_g1b (kt_g1b (kt_g1b (kt_g1l (g_il _ _)) (kt_g1l (g_sub _))) (kt_g1b (kt_g1l (g_ial _)) (kt_g1b (kt_g1l (g_ias _)) (kt_g1l (g_al _ _))))) (kt_g1b (kt_g1b (kt_g1l (g_gf _ _ _)) (kt_g1b (kt_g1l (g_il _ _)) (kt_g1l (g_al _ _)))) (kt_g1b (kt_g1l (g_gf _ _ _)) (kt_g1b (kt_g1l (g_ic _ _)) (kt_g1l (g_il _ _)))))) (kt_g1b (kt_g1b (kt_g1b (kt_g1l (g_mul _)) (kt_g1l (g_al _ _))) (kt_g1b (kt_g1l (g_gf _ _ _)) (kt_g1b (kt_g1l (g_add _)) (kt_g1l (g_ic _ _))))) (kt_g1b (kt_g1b (kt_g1l (g_sub _)) (kt_g1b (kt_g1l (g_il _ _)) (kt_g1l (g_sub _)))) (kt_g1b (kt_g1l (g_ial _)) (kt_g1b (kt_g1l (g_ias _)) (kt_g1l (g_inc _ _ _))))))) (kt_g1b (kt_g1b (kt_g1b (kt_g1b (kt_g1l (g_goto _)) (kt_g1l (g_al _ _))) (kt_g1b (kt_g1l (g_il _ _)) (kt_g1b (kt_g1l (g_ic _ _)) (kt_g1l (g_cv _ _ _))))) (kt_g1b (kt_g1b (kt_g1l (g_is _ _)) (kt_g1b (kt_g1l (g_il _ _)) (kt_g1l (g_ic _ _)))) (kt_g1b (kt_g1l (g_cne _ _)) (kt_g1b (kt_g1l (g_il _ _)) (kt_g1l (g_il _ _)))))) (kt_g1b (kt_g1b (kt_g1b (kt_g1l (g_cge _ _)) (kt_g1b (kt_g1l (g_ic _ _)) (kt_g1l (g_goto _)))) (kt_g1b (kt_g1l (g_ic _ _)) (kt_g1b (kt_g1l (g_goto _)) (kt_g1l (g_il _ _))))) (kt_g1b (kt_g1b (kt_g1l (g_il _ _)) (kt_g1b (kt_g1l (g_cge _ _)) (kt_g1l (g_il _ _)))) (kt_g1b (kt_g1l (g_goto _)) (kt_g1b (kt_g1l (g_il _ _)) (kt_g1l (g_ri))))))))
set_option maxRecDepth 20000 in
theorem kg_172 : kt_gr kX12_goesFor := by
  intro pc
  show kt_g1 (kX12_goesFor pc)
  unfold kX12_goesFor
  exact kt_g1b (kt_g1b (kt_g1b (kt_g1b (kt_g1b (kt_g1l (g_ic _ _)) (kt_g1l (g_is _ _))) (kt_g1b (kt_g1l (g_ic _ _)) (kt_g1l (g_is _ _)))) (kt_g1b (kt_g1b (kt_g1l (g_ic _ _)) (kt_g1l (g_is _ _))) (kt_g1b (kt_g1l (g_il _ _)) (kt_g1l (g_al _ _))))) (kt_g1b (kt_g1b (kt_g1b (kt_g1l (g_gf _ _ _)) (kt_g1l (g_cge _ _))) (kt_g1b (kt_g1l (g_al _ _)) (kt_g1l (g_il _ _)))) (kt_g1b (kt_g1b (kt_g1l (g_cv _ _ _)) (kt_g1l (g_al _ _))) (kt_g1b (kt_g1l (g_il _ _)) (kt_g1l (g_il _ _)))))) (kt_g1b (kt_g1b (kt_g1b (kt_g1b (kt_g1l (g_ic _ _)) (kt_g1l (g_cv _ _ _))) (kt_g1b (kt_g1l (g_is _ _)) (kt_g1l (g_il _ _)))) (kt_g1b (kt_g1b (kt_g1l (g_il _ _)) (kt_g1l (g_cle _ _))) (kt_g1b (kt_g1l (g_al _ _)) (kt_g1l (g_cv _ _ _))))) (kt_g1b (kt_g1b (kt_g1b (kt_g1l (g_fge _ _)) (kt_g1l (g_il _ _))) (kt_g1b (kt_g1l (g_is _ _)) (kt_g1l (g_il _ _)))) (kt_g1b (kt_g1b (kt_g1l (g_is _ _)) (kt_g1l (g_inc _ _ _))) (kt_g1b (kt_g1l (g_goto _)) (kt_g1b (kt_g1l (g_il _ _)) (kt_g1l (g_ri)))))))
set_option maxRecDepth 20000 in
theorem kg_173 : kt_gr kX12_route := by
  intro pc
  show kt_g1 (kX12_route pc)
  unfold kX12_route
  exact kt_g1b (kt_g1b (kt_g1b (kt_g1b (kt_g1l (g_al _ _)) (kt_g1l (g_il _ _))) (kt_g1b (kt_g1l (g_cv _ _ _)) (kt_g1l (g_feq _ _)))) (kt_g1b (kt_g1b (kt_g1l (g_ic _ _)) (kt_g1l (g_ri))) (kt_g1b (kt_g1l (g_il _ _)) (kt_g1b (kt_g1l (g_i2l _)) (kt_g1l (g_lc _ _)))))) (kt_g1b (kt_g1b (kt_g1b (kt_g1l (g_lc _ _)) (kt_g1l (g_cs _ _ _))) (kt_g1b (kt_g1l (g_feq _ _)) (kt_g1b (kt_g1l (g_al _ _)) (kt_g1l (g_il _ _))))) (kt_g1b (kt_g1b (kt_g1l (g_il _ _)) (kt_g1l (g_cv _ _ _))) (kt_g1b (kt_g1l (g_goto _)) (kt_g1b (kt_g1l (g_ic _ _)) (kt_g1l (g_ri))))))
set_option maxRecDepth 20000 in
theorem kg_174 : kt_gr kX12_paid := by
  intro pc
  show kt_g1 (kX12_paid pc)
  unfold kX12_paid
  exact kt_g1b (kt_g1b (kt_g1b (kt_g1b (kt_g1b (kt_g1l (g_al _ _)) (kt_g1l (g_il _ _))) (kt_g1b (kt_g1l (g_cv _ _ _)) (kt_g1b (kt_g1l (g_feq _ _)) (kt_g1l (g_ic _ _))))) (kt_g1b (kt_g1b (kt_g1l (g_ri)) (kt_g1l (g_il _ _))) (kt_g1b (kt_g1l (g_i2l _)) (kt_g1b (kt_g1l (g_lc _ _)) (kt_g1l (g_lc _ _)))))) (kt_g1b (kt_g1b (kt_g1b (kt_g1l (g_cs _ _ _)) (kt_g1l (g_fne _ _))) (kt_g1b (kt_g1l (g_ic _ _)) (kt_g1b (kt_g1l (g_ri)) (kt_g1l (g_ic _ _))))) (kt_g1b (kt_g1b (kt_g1l (g_is _ _)) (kt_g1b (kt_g1l (g_ic _ _)) (kt_g1l (g_is _ _)))) (kt_g1b (kt_g1l (g_il _ _)) (kt_g1b (kt_g1l (g_il _ _)) (kt_g1l (g_cgt _ _))))))) (kt_g1b (kt_g1b (kt_g1b (kt_g1b (kt_g1l (g_al _ _)) (kt_g1l (g_il _ _))) (kt_g1b (kt_g1l (g_il _ _)) (kt_g1b (kt_g1l (g_cv _ _ _)) (kt_g1l (g_is _ _))))) (kt_g1b (kt_g1b (kt_g1l (g_il _ _)) (kt_g1l (g_flt _ _))) (kt_g1b (kt_g1l (g_al _ _)) (kt_g1b (kt_g1l (g_il _ _)) (kt_g1l (g_cv _ _ _)))))) (kt_g1b (kt_g1b (kt_g1b (kt_g1l (g_il _ _)) (kt_g1l (g_al _ _))) (kt_g1b (kt_g1l (g_il _ _)) (kt_g1b (kt_g1l (g_ic _ _)) (kt_g1l (g_cv _ _ _))))) (kt_g1b (kt_g1b (kt_g1l (g_add _)) (kt_g1b (kt_g1l (g_is _ _)) (kt_g1l (g_inc _ _ _)))) (kt_g1b (kt_g1l (g_goto _)) (kt_g1b (kt_g1l (g_il _ _)) (kt_g1l (g_ri)))))))
set_option maxRecDepth 20000 in
theorem kg_175 : kt_gr kX12_noSheet := by
  intro pc
  show kt_g1 (kX12_noSheet pc)
  unfold kX12_noSheet
  exact kt_g1b (kt_g1b (kt_g1b (kt_g1l (g_il _ _)) (kt_g1l (g_i2l _))) (kt_g1b (kt_g1l (g_lc _ _)) (kt_g1b (kt_g1l (g_lc _ _)) (kt_g1l (g_cs _ _ _))))) (kt_g1b (kt_g1b (kt_g1l (g_fne _ _)) (kt_g1l (g_ic _ _))) (kt_g1b (kt_g1l (g_goto _)) (kt_g1b (kt_g1l (g_ic _ _)) (kt_g1l (g_rz)))))
set_option maxRecDepth 20000 in
theorem kg_176 : kt_gr kX12_sheet := by
  intro pc
  show kt_g1 (kX12_sheet pc)
  unfold kX12_sheet
  exact kt_g1b (kt_g1b (kt_g1b (kt_g1b (kt_g1b (kt_g1l (g_il _ _)) (kt_g1b (kt_g1l (g_cs _ _ _)) (kt_g1l (g_feq _ _)))) (kt_g1b (kt_g1l (g_al _ _)) (kt_g1b (kt_g1l (g_ic _ _)) (kt_g1l (g_cv _ _ _))))) (kt_g1b (kt_g1b (kt_g1l (g_ri)) (kt_g1b (kt_g1l (g_il _ _)) (kt_g1l (g_cs _ _ _)))) (kt_g1b (kt_g1b (kt_g1l (g_feq _ _)) (kt_g1l (g_il _ _))) (kt_g1b (kt_g1l (g_ic _ _)) (kt_g1l (g_cle _ _)))))) (kt_g1b (kt_g1b (kt_g1b (kt_g1l (g_al _ _)) (kt_g1b (kt_g1l (g_ic _ _)) (kt_g1l (g_cv _ _ _)))) (kt_g1b (kt_g1l (g_ri)) (kt_g1b (kt_g1l (g_il _ _)) (kt_g1l (g_fge _ _))))) (kt_g1b (kt_g1b (kt_g1l (g_al _ _)) (kt_g1b (kt_g1l (g_ic _ _)) (kt_g1l (g_cv _ _ _)))) (kt_g1b (kt_g1b (kt_g1l (g_ri)) (kt_g1l (g_al _ _))) (kt_g1b (kt_g1l (g_gf _ _ _)) (kt_g1l (g_il _ _))))))) (kt_g1b (kt_g1b (kt_g1b (kt_g1b (kt_g1l (g_il _ _)) (kt_g1b (kt_g1l (g_ias _)) (kt_g1l (g_al _ _)))) (kt_g1b (kt_g1l (g_gf _ _ _)) (kt_g1b (kt_g1l (g_il _ _)) (kt_g1l (g_il _ _))))) (kt_g1b (kt_g1b (kt_g1l (g_ias _)) (kt_g1b (kt_g1l (g_ic _ _)) (kt_g1l (g_is _ _)))) (kt_g1b (kt_g1b (kt_g1l (g_il _ _)) (kt_g1l (g_il _ _))) (kt_g1b (kt_g1l (g_cge _ _)) (kt_g1l (g_al _ _)))))) (kt_g1b (kt_g1b (kt_g1b (kt_g1l (g_gf _ _ _)) (kt_g1b (kt_g1l (g_ic _ _)) (kt_g1l (g_il _ _)))) (kt_g1b (kt_g1b (kt_g1l (g_mul _)) (kt_g1l (g_il _ _))) (kt_g1b (kt_g1l (g_add _)) (kt_g1l (g_ic _ _))))) (kt_g1b (kt_g1b (kt_g1l (g_ias _)) (kt_g1b (kt_g1l (g_inc _ _ _)) (kt_g1l (g_goto _)))) (kt_g1b (kt_g1b (kt_g1l (g_al _ _)) (kt_g1l (g_ic _ _))) (kt_g1b (kt_g1l (g_cv _ _ _)) (kt_g1l (g_ri)))))))
set_option maxRecDepth 20000 in
theorem kg_177 : kt_gr kX12_lose := by
  intro pc
  show kt_g1 (kX12_lose pc)
  unfold kX12_lose
  exact kt_g1b (kt_g1b (kt_g1b (kt_g1b (kt_g1l (g_il _ _)) (kt_g1l (g_cs _ _ _))) (kt_g1b (kt_g1l (g_feq _ _)) (kt_g1b (kt_g1l (g_ic _ _)) (kt_g1l (g_ri))))) (kt_g1b (kt_g1b (kt_g1l (g_al _ _)) (kt_g1l (g_gf _ _ _))) (kt_g1b (kt_g1l (g_il _ _)) (kt_g1b (kt_g1l (g_ial _)) (kt_g1l (g_fge _ _)))))) (kt_g1b (kt_g1b (kt_g1b (kt_g1l (g_ic _ _)) (kt_g1l (g_goto _))) (kt_g1b (kt_g1l (g_ic _ _)) (kt_g1b (kt_g1l (g_is _ _)) (kt_g1l (g_al _ _))))) (kt_g1b (kt_g1b (kt_g1l (g_gf _ _ _)) (kt_g1b (kt_g1l (g_il _ _)) (kt_g1l (g_ic _ _)))) (kt_g1b (kt_g1l (g_ias _)) (kt_g1b (kt_g1l (g_il _ _)) (kt_g1l (g_ri))))))
set_option maxRecDepth 20000 in
theorem kg_178 : kt_gr kX12_noCell := by
  intro pc
  show kt_g1 (kX12_noCell pc)
  unfold kX12_noCell
  exact kt_g1b (kt_g1b (kt_g1b (kt_g1b (kt_g1l (g_al _ _)) (kt_g1l (g_gf _ _ _))) (kt_g1b (kt_g1l (g_il _ _)) (kt_g1b (kt_g1l (g_ial _)) (kt_g1l (g_fge _ _))))) (kt_g1b (kt_g1b (kt_g1l (g_ic _ _)) (kt_g1b (kt_g1l (g_goto _)) (kt_g1l (g_il _ _)))) (kt_g1b (kt_g1l (g_i2l _)) (kt_g1b (kt_g1l (g_lc _ _)) (kt_g1l (g_al _ _)))))) (kt_g1b (kt_g1b (kt_g1b (kt_g1l (g_gf _ _ _)) (kt_g1b (kt_g1l (g_il _ _)) (kt_g1l (g_ial _)))) (kt_g1b (kt_g1l (g_i2l _)) (kt_g1b (kt_g1l (g_lc _ _)) (kt_g1l (g_lsub _))))) (kt_g1b (kt_g1b (kt_g1l (g_cs _ _ _)) (kt_g1b (kt_g1l (g_feq _ _)) (kt_g1l (g_ic _ _)))) (kt_g1b (kt_g1l (g_goto _)) (kt_g1b (kt_g1l (g_ic _ _)) (kt_g1l (g_ri))))))
set_option maxRecDepth 20000 in
theorem kg_179 : kt_gr kX12_put := by
  intro pc
  show kt_g1 (kX12_put pc)
  unfold kX12_put
  exact kt_g1b (kt_g1b (kt_g1b (kt_g1b (kt_g1b (kt_g1l (g_il _ _)) (kt_g1b (kt_g1l (g_cs _ _ _)) (kt_g1l (g_feq _ _)))) (kt_g1b (kt_g1l (g_al _ _)) (kt_g1b (kt_g1l (g_ic _ _)) (kt_g1l (g_cv _ _ _))))) (kt_g1b (kt_g1b (kt_g1l (g_ri)) (kt_g1b (kt_g1l (g_al _ _)) (kt_g1l (g_il _ _)))) (kt_g1b (kt_g1l (g_il _ _)) (kt_g1b (kt_g1l (g_cv _ _ _)) (kt_g1l (g_fle _ _)))))) (kt_g1b (kt_g1b (kt_g1b (kt_g1l (g_al _ _)) (kt_g1b (kt_g1l (g_al _ _)) (kt_g1l (g_il _ _)))) (kt_g1b (kt_g1l (g_il _ _)) (kt_g1b (kt_g1l (g_cv _ _ _)) (kt_g1l (g_cv _ _ _))))) (kt_g1b (kt_g1b (kt_g1l (g_ri)) (kt_g1b (kt_g1l (g_al _ _)) (kt_g1l (g_gf _ _ _)))) (kt_g1b (kt_g1l (g_ic _ _)) (kt_g1b (kt_g1l (g_il _ _)) (kt_g1l (g_mul _))))))) (kt_g1b (kt_g1b (kt_g1b (kt_g1b (kt_g1l (g_il _ _)) (kt_g1b (kt_g1l (g_add _)) (kt_g1l (g_al _ _)))) (kt_g1b (kt_g1l (g_gf _ _ _)) (kt_g1b (kt_g1l (g_il _ _)) (kt_g1l (g_ial _))))) (kt_g1b (kt_g1b (kt_g1l (g_fne _ _)) (kt_g1b (kt_g1l (g_il _ _)) (kt_g1l (g_i2b _)))) (kt_g1b (kt_g1l (g_goto _)) (kt_g1b (kt_g1l (g_al _ _)) (kt_g1l (g_gf _ _ _)))))) (kt_g1b (kt_g1b (kt_g1b (kt_g1l (g_il _ _)) (kt_g1b (kt_g1l (g_ial _)) (kt_g1l (g_ic _ _)))) (kt_g1b (kt_g1l (g_cne _ _)) (kt_g1b (kt_g1l (g_il _ _)) (kt_g1l (g_i2s _))))) (kt_g1b (kt_g1b (kt_g1l (g_goto _)) (kt_g1b (kt_g1l (g_il _ _)) (kt_g1l (g_ias _)))) (kt_g1b (kt_g1b (kt_g1l (g_al _ _)) (kt_g1l (g_ic _ _))) (kt_g1b (kt_g1l (g_cv _ _ _)) (kt_g1l (g_ri)))))))
set_option maxRecDepth 20000 in
theorem kg_180 : kt_gr kX12_cell := by
  intro pc
  show kt_g1 (kX12_cell pc)
  unfold kX12_cell
  exact kt_g1b (kt_g1b (kt_g1b (kt_g1b (kt_g1b (kt_g1l (g_al _ _)) (kt_g1b (kt_g1l (g_ic _ _)) (kt_g1l (g_pf _ _ _ _)))) (kt_g1b (kt_g1l (g_il _ _)) (kt_g1b (kt_g1l (g_cs _ _ _)) (kt_g1l (g_fne _ _))))) (kt_g1b (kt_g1b (kt_g1l (g_il _ _)) (kt_g1b (kt_g1l (g_cs _ _ _)) (kt_g1l (g_fne _ _)))) (kt_g1b (kt_g1l (g_cs _ _ _)) (kt_g1b (kt_g1l (g_rl)) (kt_g1l (g_al _ _)))))) (kt_g1b (kt_g1b (kt_g1b (kt_g1l (g_gf _ _ _)) (kt_g1b (kt_g1l (g_il _ _)) (kt_g1l (g_ial _)))) (kt_g1b (kt_g1l (g_flt _ _)) (kt_g1b (kt_g1l (g_al _ _)) (kt_g1l (g_gf _ _ _))))) (kt_g1b (kt_g1b (kt_g1l (g_il _ _)) (kt_g1b (kt_g1l (g_ial _)) (kt_g1l (g_il _ _)))) (kt_g1b (kt_g1l (g_ceq _ _)) (kt_g1b (kt_g1l (g_al _ _)) (kt_g1l (g_ic _ _))))))) (kt_g1b (kt_g1b (kt_g1b (kt_g1b (kt_g1l (g_cv _ _ _)) (kt_g1b (kt_g1l (g_rl)) (kt_g1l (g_al _ _)))) (kt_g1b (kt_g1l (g_il _ _)) (kt_g1b (kt_g1l (g_il _ _)) (kt_g1l (g_cv _ _ _))))) (kt_g1b (kt_g1b (kt_g1l (g_fle _ _)) (kt_g1b (kt_g1l (g_al _ _)) (kt_g1l (g_al _ _)))) (kt_g1b (kt_g1l (g_il _ _)) (kt_g1b (kt_g1l (g_il _ _)) (kt_g1l (g_cv _ _ _)))))) (kt_g1b (kt_g1b (kt_g1b (kt_g1l (g_cv _ _ _)) (kt_g1b (kt_g1l (g_goto _)) (kt_g1l (g_al _ _)))) (kt_g1b (kt_g1l (g_gf _ _ _)) (kt_g1b (kt_g1l (g_ic _ _)) (kt_g1l (g_il _ _))))) (kt_g1b (kt_g1b (kt_g1l (g_mul _)) (kt_g1b (kt_g1l (g_il _ _)) (kt_g1l (g_add _)))) (kt_g1b (kt_g1l (g_ial _)) (kt_g1b (kt_g1l (g_i2l _)) (kt_g1l (g_rl)))))))
set_option maxRecDepth 20000 in
theorem kg_181 : kt_gr kX12_isBeyond := by
  intro pc
  show kt_g1 (kX12_isBeyond pc)
  unfold kX12_isBeyond
  exact kt_g1b (kt_g1b (kt_g1b (kt_g1b (kt_g1l (g_il _ _)) (kt_g1l (g_flt _ _))) (kt_g1b (kt_g1l (g_ll _ _)) (kt_g1l (g_lc _ _)))) (kt_g1b (kt_g1b (kt_g1l (g_lcmp _)) (kt_g1l (g_flt _ _))) (kt_g1b (kt_g1l (g_il _ _)) (kt_g1b (kt_g1l (g_i2l _)) (kt_g1l (g_ll _ _)))))) (kt_g1b (kt_g1b (kt_g1b (kt_g1l (g_ladd _)) (kt_g1l (g_il _ _))) (kt_g1b (kt_g1l (g_i2l _)) (kt_g1l (g_lcmp _)))) (kt_g1b (kt_g1b (kt_g1l (g_fle _ _)) (kt_g1l (g_ic _ _))) (kt_g1b (kt_g1l (g_goto _)) (kt_g1b (kt_g1l (g_ic _ _)) (kt_g1l (g_rz))))))
set_option maxRecDepth 20000 in
theorem kg_182 : kt_gr kX12_copy := by
  intro pc
  show kt_g1 (kX12_copy pc)
  unfold kX12_copy
  exact kt_g1b (kt_g1b (kt_g1b (kt_g1b (kt_g1b (kt_g1b (kt_g1l (g_il _ _)) (kt_g1b (kt_g1l (g_cs _ _ _)) (kt_g1l (g_fne _ _)))) (kt_g1b (kt_g1l (g_il _ _)) (kt_g1b (kt_g1l (g_cs _ _ _)) (kt_g1l (g_feq _ _))))) (kt_g1b (kt_g1b (kt_g1l (g_al _ _)) (kt_g1b (kt_g1l (g_ic _ _)) (kt_g1l (g_cv _ _ _)))) (kt_g1b (kt_g1b (kt_g1l (g_ri)) (kt_g1l (g_al _ _))) (kt_g1b (kt_g1l (g_gf _ _ _)) (kt_g1l (g_il _ _)))))) (kt_g1b (kt_g1b (kt_g1b (kt_g1l (g_ial _)) (kt_g1b (kt_g1l (g_flt _ _)) (kt_g1l (g_al _ _)))) (kt_g1b (kt_g1l (g_gf _ _ _)) (kt_g1b (kt_g1l (g_il _ _)) (kt_g1l (g_ial _))))) (kt_g1b (kt_g1b (kt_g1l (g_fge _ _)) (kt_g1b (kt_g1l (g_al _ _)) (kt_g1l (g_ic _ _)))) (kt_g1b (kt_g1b (kt_g1l (g_cv _ _ _)) (kt_g1l (g_ri))) (kt_g1b (kt_g1l (g_al _ _)) (kt_g1l (g_gf _ _ _))))))) (kt_g1b (kt_g1b (kt_g1b (kt_g1b (kt_g1l (g_il _ _)) (kt_g1b (kt_g1l (g_ial _)) (kt_g1l (g_al _ _)))) (kt_g1b (kt_g1l (g_gf _ _ _)) (kt_g1b (kt_g1l (g_il _ _)) (kt_g1l (g_ial _))))) (kt_g1b (kt_g1b (kt_g1l (g_ceq _ _)) (kt_g1b (kt_g1l (g_al _ _)) (kt_g1l (g_ic _ _)))) (kt_g1b (kt_g1b (kt_g1l (g_cv _ _ _)) (kt_g1l (g_ri))) (kt_g1b (kt_g1l (g_il _ _)) (kt_g1l (g_il _ _)))))) (kt_g1b (kt_g1b (kt_g1b (kt_g1l (g_i2l _)) (kt_g1b (kt_g1l (g_al _ _)) (kt_g1l (g_gf _ _ _)))) (kt_g1b (kt_g1l (g_il _ _)) (kt_g1b (kt_g1l (g_ial _)) (kt_g1l (g_cs _ _ _))))) (kt_g1b (kt_g1b (kt_g1l (g_fne _ _)) (kt_g1b (kt_g1l (g_il _ _)) (kt_g1l (g_il _ _)))) (kt_g1b (kt_g1b (kt_g1l (g_i2l _)) (kt_g1l (g_al _ _))) (kt_g1b (kt_g1l (g_gf _ _ _)) (kt_g1l (g_il _ _)))))))) (kt_g1b (kt_g1b (kt_g1b (kt_g1b (kt_g1b (kt_g1l (g_ial _)) (kt_g1b (kt_g1l (g_cs _ _ _)) (kt_g1l (g_feq _ _)))) (kt_g1b (kt_g1l (g_al _ _)) (kt_g1b (kt_g1l (g_ic _ _)) (kt_g1l (g_cv _ _ _))))) (kt_g1b (kt_g1b (kt_g1l (g_ri)) (kt_g1b (kt_g1l (g_ic _ _)) (kt_g1l (g_is _ _)))) (kt_g1b (kt_g1b (kt_g1l (g_il _ _)) (kt_g1l (g_il _ _))) (kt_g1b (kt_g1l (g_cge _ _)) (kt_g1l (g_al _ _)))))) (kt_g1b (kt_g1b (kt_g1b (kt_g1l (g_gf _ _ _)) (kt_g1b (kt_g1l (g_il _ _)) (kt_g1l (g_al _ _)))) (kt_g1b (kt_g1l (g_gf _ _ _)) (kt_g1b (kt_g1l (g_ic _ _)) (kt_g1l (g_il _ _))))) (kt_g1b (kt_g1b (kt_g1l (g_mul _)) (kt_g1b (kt_g1l (g_il _ _)) (kt_g1l (g_add _)))) (kt_g1b (kt_g1b (kt_g1l (g_il _ _)) (kt_g1l (g_add _))) (kt_g1b (kt_g1l (g_ial _)) (kt_g1l (g_ias _))))))) (kt_g1b (kt_g1b (kt_g1b (kt_g1b (kt_g1l (g_inc _ _ _)) (kt_g1b (kt_g1l (g_goto _)) (kt_g1l (g_ic _ _)))) (kt_g1b (kt_g1l (g_is _ _)) (kt_g1b (kt_g1l (g_il _ _)) (kt_g1l (g_il _ _))))) (kt_g1b (kt_g1b (kt_g1l (g_cge _ _)) (kt_g1b (kt_g1l (g_al _ _)) (kt_g1l (g_gf _ _ _)))) (kt_g1b (kt_g1b (kt_g1l (g_ic _ _)) (kt_g1l (g_il _ _))) (kt_g1b (kt_g1l (g_mul _)) (kt_g1l (g_il _ _)))))) (kt_g1b (kt_g1b (kt_g1b (kt_g1l (g_add _)) (kt_g1b (kt_g1l (g_il _ _)) (kt_g1l (g_add _)))) (kt_g1b (kt_g1b (kt_g1l (g_al _ _)) (kt_g1l (g_gf _ _ _))) (kt_g1b (kt_g1l (g_il _ _)) (kt_g1l (g_ial _))))) (kt_g1b (kt_g1b (kt_g1l (g_ias _)) (kt_g1b (kt_g1l (g_inc _ _ _)) (kt_g1l (g_goto _)))) (kt_g1b (kt_g1b (kt_g1l (g_al _ _)) (kt_g1l (g_il _ _))) (kt_g1b (kt_g1l (g_cv _ _ _)) (kt_g1l (g_ri))))))))
set_option maxRecDepth 20000 in
theorem kg_183 : kt_gr kX12_traced := by
  intro pc
  show kt_g1 (kX12_traced pc)
  unfold kX12_traced
  exact kt_g1b (kt_g1b (kt_g1b (kt_g1l (g_al _ _)) (kt_g1l (g_ic _ _))) (kt_g1b (kt_g1l (g_al _ _)) (kt_g1l (g_gf _ _ _)))) (kt_g1b (kt_g1b (kt_g1l (g_mul _)) (kt_g1l (g_il _ _))) (kt_g1b (kt_g1l (g_add _)) (kt_g1b (kt_g1l (g_pf _ _ _ _)) (kt_g1l (g_rv)))))
set_option maxRecDepth 20000 in
theorem kg_184 : kt_gr kX12_tell := by
  intro pc
  show kt_g1 (kX12_tell pc)
  unfold kX12_tell
  exact kt_g1b (kt_g1b (kt_g1b (kt_g1b (kt_g1b (kt_g1l (g_al _ _)) (kt_g1b (kt_g1l (g_il _ _)) (kt_g1l (g_cv _ _ _)))) (kt_g1b (kt_g1l (g_feq _ _)) (kt_g1b (kt_g1l (g_ic _ _)) (kt_g1l (g_ri))))) (kt_g1b (kt_g1b (kt_g1l (g_al _ _)) (kt_g1b (kt_g1l (g_gf _ _ _)) (kt_g1l (g_il _ _)))) (kt_g1b (kt_g1b (kt_g1l (g_ial _)) (kt_g1l (g_is _ _))) (kt_g1b (kt_g1l (g_il _ _)) (kt_g1l (g_ic _ _)))))) (kt_g1b (kt_g1b (kt_g1b (kt_g1l (g_cne _ _)) (kt_g1b (kt_g1l (g_al _ _)) (kt_g1l (g_ic _ _)))) (kt_g1b (kt_g1l (g_cv _ _ _)) (kt_g1b (kt_g1l (g_il _ _)) (kt_g1l (g_fle _ _))))) (kt_g1b (kt_g1b (kt_g1l (g_al _ _)) (kt_g1b (kt_g1l (g_ic _ _)) (kt_g1l (g_cv _ _ _)))) (kt_g1b (kt_g1b (kt_g1l (g_al _ _)) (kt_g1l (g_ic _ _))) (kt_g1b (kt_g1l (g_cv _ _ _)) (kt_g1l (g_il _ _))))))) (kt_g1b (kt_g1b (kt_g1b (kt_g1b (kt_g1l (g_ic _ _)) (kt_g1b (kt_g1l (g_cne _ _)) (kt_g1l (g_al _ _)))) (kt_g1b (kt_g1l (g_ic _ _)) (kt_g1b (kt_g1l (g_cv _ _ _)) (kt_g1l (g_al _ _))))) (kt_g1b (kt_g1b (kt_g1l (g_gf _ _ _)) (kt_g1b (kt_g1l (g_il _ _)) (kt_g1l (g_ial _)))) (kt_g1b (kt_g1b (kt_g1l (g_is _ _)) (kt_g1l (g_il _ _))) (kt_g1b (kt_g1l (g_fne _ _)) (kt_g1l (g_il _ _)))))) (kt_g1b (kt_g1b (kt_g1b (kt_g1l (g_goto _)) (kt_g1b (kt_g1l (g_il _ _)) (kt_g1l (g_ic _ _)))) (kt_g1b (kt_g1b (kt_g1l (g_cne _ _)) (kt_g1l (g_il _ _))) (kt_g1b (kt_g1l (g_ic _ _)) (kt_g1l (g_add _))))) (kt_g1b (kt_g1b (kt_g1l (g_goto _)) (kt_g1b (kt_g1l (g_ic _ _)) (kt_g1l (g_il _ _)))) (kt_g1b (kt_g1b (kt_g1l (g_mul _)) (kt_g1l (g_ic _ _))) (kt_g1b (kt_g1l (g_add _)) (kt_g1l (g_ri)))))))
set_option maxRecDepth 20000 in
theorem kg_185 : kt_gr kX12_launch := by
  intro pc
  show kt_g1 (kX12_launch pc)
  unfold kX12_launch
  exact kt_g1b (kt_g1b (kt_g1b (kt_g1b (kt_g1l (g_al _ _)) (kt_g1b (kt_g1l (g_il _ _)) (kt_g1l (g_cv _ _ _)))) (kt_g1b (kt_g1l (g_feq _ _)) (kt_g1b (kt_g1l (g_ic _ _)) (kt_g1l (g_ri))))) (kt_g1b (kt_g1b (kt_g1l (g_al _ _)) (kt_g1b (kt_g1l (g_al _ _)) (kt_g1l (g_gf _ _ _)))) (kt_g1b (kt_g1b (kt_g1l (g_il _ _)) (kt_g1l (g_ial _))) (kt_g1b (kt_g1l (g_ic _ _)) (kt_g1l (g_cne _ _)))))) (kt_g1b (kt_g1b (kt_g1b (kt_g1l (g_ic _ _)) (kt_g1b (kt_g1l (g_goto _)) (kt_g1l (g_ic _ _)))) (kt_g1b (kt_g1b (kt_g1l (g_cv _ _ _)) (kt_g1l (g_al _ _))) (kt_g1b (kt_g1l (g_gf _ _ _)) (kt_g1l (g_il _ _))))) (kt_g1b (kt_g1b (kt_g1l (g_ial _)) (kt_g1b (kt_g1l (g_ic _ _)) (kt_g1l (g_cne _ _)))) (kt_g1b (kt_g1b (kt_g1l (g_ic _ _)) (kt_g1l (g_goto _))) (kt_g1b (kt_g1l (g_il _ _)) (kt_g1l (g_ri))))))
set_option maxRecDepth 20000 in
theorem kg_186 : kt_gr kX12_as := by
  intro pc
  show kt_g1 (kX12_as pc)
  unfold kX12_as
  exact kt_g1b (kt_g1b (kt_g1b (kt_g1b (kt_g1l (g_al _ _)) (kt_g1b (kt_g1l (g_il _ _)) (kt_g1l (g_cv _ _ _)))) (kt_g1b (kt_g1b (kt_g1l (g_feq _ _)) (kt_g1l (g_al _ _))) (kt_g1b (kt_g1l (g_ic _ _)) (kt_g1l (g_cv _ _ _))))) (kt_g1b (kt_g1b (kt_g1l (g_ri)) (kt_g1b (kt_g1l (g_il _ _)) (kt_g1l (g_cs _ _ _)))) (kt_g1b (kt_g1b (kt_g1l (g_fne _ _)) (kt_g1l (g_al _ _))) (kt_g1b (kt_g1l (g_ic _ _)) (kt_g1l (g_cv _ _ _)))))) (kt_g1b (kt_g1b (kt_g1b (kt_g1l (g_ri)) (kt_g1b (kt_g1l (g_al _ _)) (kt_g1l (g_gf _ _ _)))) (kt_g1b (kt_g1b (kt_g1l (g_il _ _)) (kt_g1l (g_ial _))) (kt_g1b (kt_g1l (g_il _ _)) (kt_g1l (g_clt _ _))))) (kt_g1b (kt_g1b (kt_g1b (kt_g1l (g_al _ _)) (kt_g1l (g_ic _ _))) (kt_g1b (kt_g1l (g_cv _ _ _)) (kt_g1l (g_goto _)))) (kt_g1b (kt_g1b (kt_g1l (g_al _ _)) (kt_g1l (g_ic _ _))) (kt_g1b (kt_g1l (g_cv _ _ _)) (kt_g1l (g_ri))))))
set_option maxRecDepth 20000 in
theorem kg_187 : kt_gr kX12_trace := by
  intro pc
  show kt_g1 (kX12_trace pc)
  unfold kX12_trace
  exact kt_g1b (kt_g1l (g_al _ _)) (kt_g1b (kt_g1l (g_gf _ _ _)) (kt_g1l (g_ri)))
set_option maxRecDepth 20000 in
theorem kg_188 : kt_gr kX12_fault := by
  intro pc
  show kt_g1 (kX12_fault pc)
  unfold kX12_fault
  exact kt_g1b (kt_g1l (g_al _ _)) (kt_g1b (kt_g1l (g_gf _ _ _)) (kt_g1l (g_ri)))
set_option maxRecDepth 20000 in
theorem kg_189 : kt_gr kX12_many := by
  intro pc
  show kt_g1 (kX12_many pc)
  unfold kX12_many
  exact kt_g1b (kt_g1b (kt_g1b (kt_g1b (kt_g1b (kt_g1l (g_ic _ _)) (kt_g1l (g_is _ _))) (kt_g1b (kt_g1l (g_ic _ _)) (kt_g1l (g_is _ _)))) (kt_g1b (kt_g1b (kt_g1l (g_il _ _)) (kt_g1l (g_al _ _))) (kt_g1b (kt_g1l (g_gf _ _ _)) (kt_g1l (g_cge _ _))))) (kt_g1b (kt_g1b (kt_g1b (kt_g1l (g_il _ _)) (kt_g1l (g_al _ _))) (kt_g1b (kt_g1l (g_gf _ _ _)) (kt_g1l (g_il _ _)))) (kt_g1b (kt_g1b (kt_g1l (g_ial _)) (kt_g1l (g_add _))) (kt_g1b (kt_g1l (g_is _ _)) (kt_g1b (kt_g1l (g_inc _ _ _)) (kt_g1l (g_goto _))))))) (kt_g1b (kt_g1b (kt_g1b (kt_g1b (kt_g1l (g_il _ _)) (kt_g1l (g_fne _ _))) (kt_g1b (kt_g1l (g_al _ _)) (kt_g1l (g_gf _ _ _)))) (kt_g1b (kt_g1b (kt_g1l (g_goto _)) (kt_g1l (g_il _ _))) (kt_g1b (kt_g1l (g_ic _ _)) (kt_g1b (kt_g1l (g_cne _ _)) (kt_g1l (g_al _ _)))))) (kt_g1b (kt_g1b (kt_g1b (kt_g1l (g_gf _ _ _)) (kt_g1l (g_goto _))) (kt_g1b (kt_g1l (g_il _ _)) (kt_g1l (g_ic _ _)))) (kt_g1b (kt_g1b (kt_g1l (g_cne _ _)) (kt_g1l (g_il _ _))) (kt_g1b (kt_g1l (g_goto _)) (kt_g1b (kt_g1l (g_ic _ _)) (kt_g1l (g_ri)))))))
set_option maxRecDepth 20000 in
theorem kg_L (xs : Nat → Int32) (n : Nat) : kt_gr (kL_law xs n) := by
  intro pc
  show kt_g1 (kL_law xs n pc)
  unfold kL_law
  exact kt_g1b (kt_g1b (kt_g1b (kt_g1b (kt_g1b (kt_g1b (kt_g1b (kt_g1b (kt_g1b (kt_g1b (kt_g1l (g_new _ _ _)) (kt_g1l (g_dup _))) (kt_g1b (kt_g1l (g_ci _ _ _)) (kt_g1l (g_as _ _)))) (kt_g1b (kt_g1b (kt_g1l (g_new _ _ _)) (kt_g1l (g_dup _))) (kt_g1b (kt_g1l (g_ci _ _ _)) (kt_g1b (kt_g1l (g_as _ _)) (kt_g1l (g_ic _ _)))))) (kt_g1b (kt_g1b (kt_g1b (kt_g1l (g_is _ _)) (kt_g1l (g_il _ _))) (kt_g1b (kt_g1l (g_al _ _)) (kt_g1l (g_lenS _ _)))) (kt_g1b (kt_g1b (kt_g1l (g_ic _ _)) (kt_g1l (g_sub _))) (kt_g1b (kt_g1l (g_cgt _ _)) (kt_g1b (kt_g1l (g_al _ _)) (kt_g1l (g_il _ _))))))) (kt_g1b (kt_g1b (kt_g1b (kt_g1b (kt_g1l (g_ialS _ _ _)) (kt_g1l (g_ic _ _))) (kt_g1b (kt_g1l (g_and _)) (kt_g1l (g_tsw _ _ _ _)))) (kt_g1b (kt_g1b (kt_g1l (g_al _ _)) (kt_g1l (g_al _ _))) (kt_g1b (kt_g1l (g_il _ _)) (kt_g1b (kt_g1l (g_ic _ _)) (kt_g1l (g_add _)))))) (kt_g1b (kt_g1b (kt_g1b (kt_g1l (g_ialS _ _ _)) (kt_g1l (g_al _ _))) (kt_g1b (kt_g1l (g_il _ _)) (kt_g1l (g_ic _ _)))) (kt_g1b (kt_g1b (kt_g1l (g_add _)) (kt_g1l (g_ialS _ _ _))) (kt_g1b (kt_g1l (g_al _ _)) (kt_g1b (kt_g1l (g_il _ _)) (kt_g1l (g_ic _ _)))))))) (kt_g1b (kt_g1b (kt_g1b (kt_g1b (kt_g1b (kt_g1l (g_add _)) (kt_g1l (g_ialS _ _ _))) (kt_g1b (kt_g1l (g_al _ _)) (kt_g1l (g_il _ _)))) (kt_g1b (kt_g1b (kt_g1l (g_ic _ _)) (kt_g1l (g_add _))) (kt_g1b (kt_g1l (g_ialS _ _ _)) (kt_g1b (kt_g1l (g_al _ _)) (kt_g1l (g_il _ _)))))) (kt_g1b (kt_g1b (kt_g1b (kt_g1l (g_ic _ _)) (kt_g1l (g_add _))) (kt_g1b (kt_g1l (g_ialS _ _ _)) (kt_g1l (g_cv _ _ _)))) (kt_g1b (kt_g1b (kt_g1l (g_al _ _)) (kt_g1l (g_al _ _))) (kt_g1b (kt_g1l (g_il _ _)) (kt_g1b (kt_g1l (g_ic _ _)) (kt_g1l (g_add _))))))) (kt_g1b (kt_g1b (kt_g1b (kt_g1b (kt_g1l (g_ialS _ _ _)) (kt_g1l (g_al _ _))) (kt_g1b (kt_g1l (g_il _ _)) (kt_g1l (g_ic _ _)))) (kt_g1b (kt_g1b (kt_g1l (g_add _)) (kt_g1l (g_ialS _ _ _))) (kt_g1b (kt_g1l (g_al _ _)) (kt_g1b (kt_g1l (g_il _ _)) (kt_g1l (g_ic _ _)))))) (kt_g1b (kt_g1b (kt_g1b (kt_g1l (g_add _)) (kt_g1l (g_ialS _ _ _))) (kt_g1b (kt_g1l (g_al _ _)) (kt_g1l (g_il _ _)))) (kt_g1b (kt_g1b (kt_g1l (g_ic _ _)) (kt_g1l (g_add _))) (kt_g1b (kt_g1l (g_ialS _ _ _)) (kt_g1b (kt_g1l (g_al _ _)) (kt_g1l (g_il _ _))))))))) (kt_g1b (kt_g1b (kt_g1b (kt_g1b (kt_g1b (kt_g1b (kt_g1l (g_ic _ _)) (kt_g1l (g_add _))) (kt_g1b (kt_g1l (g_ialS _ _ _)) (kt_g1l (g_cv _ _ _)))) (kt_g1b (kt_g1b (kt_g1l (g_ceq _ _)) (kt_g1l (g_ic _ _))) (kt_g1b (kt_g1l (g_ri)) (kt_g1b (kt_g1l (g_al _ _)) (kt_g1l (g_al _ _)))))) (kt_g1b (kt_g1b (kt_g1b (kt_g1l (g_il _ _)) (kt_g1l (g_ic _ _))) (kt_g1b (kt_g1l (g_add _)) (kt_g1l (g_ialS _ _ _)))) (kt_g1b (kt_g1b (kt_g1l (g_al _ _)) (kt_g1l (g_il _ _))) (kt_g1b (kt_g1l (g_ic _ _)) (kt_g1b (kt_g1l (g_add _)) (kt_g1l (g_ialS _ _ _))))))) (kt_g1b (kt_g1b (kt_g1b (kt_g1b (kt_g1l (g_cv _ _ _)) (kt_g1l (g_al _ _))) (kt_g1b (kt_g1l (g_al _ _)) (kt_g1l (g_il _ _)))) (kt_g1b (kt_g1b (kt_g1l (g_ic _ _)) (kt_g1l (g_add _))) (kt_g1b (kt_g1l (g_ialS _ _ _)) (kt_g1b (kt_g1l (g_al _ _)) (kt_g1l (g_il _ _)))))) (kt_g1b (kt_g1b (kt_g1b (kt_g1l (g_ic _ _)) (kt_g1l (g_add _))) (kt_g1b (kt_g1l (g_ialS _ _ _)) (kt_g1l (g_cv _ _ _)))) (kt_g1b (kt_g1b (kt_g1l (g_ceq _ _)) (kt_g1l (g_ic _ _))) (kt_g1b (kt_g1l (g_ri)) (kt_g1b (kt_g1l (g_al _ _)) (kt_g1l (g_al _ _)))))))) (kt_g1b (kt_g1b (kt_g1b (kt_g1b (kt_g1b (kt_g1l (g_il _ _)) (kt_g1l (g_ic _ _))) (kt_g1b (kt_g1l (g_add _)) (kt_g1l (g_ialS _ _ _)))) (kt_g1b (kt_g1b (kt_g1l (g_al _ _)) (kt_g1l (g_il _ _))) (kt_g1b (kt_g1l (g_ic _ _)) (kt_g1b (kt_g1l (g_add _)) (kt_g1l (g_ialS _ _ _)))))) (kt_g1b (kt_g1b (kt_g1b (kt_g1l (g_al _ _)) (kt_g1l (g_il _ _))) (kt_g1b (kt_g1l (g_ic _ _)) (kt_g1l (g_add _)))) (kt_g1b (kt_g1b (kt_g1l (g_ialS _ _ _)) (kt_g1l (g_cv _ _ _))) (kt_g1b (kt_g1l (g_al _ _)) (kt_g1b (kt_g1l (g_al _ _)) (kt_g1l (g_il _ _))))))) (kt_g1b (kt_g1b (kt_g1b (kt_g1b (kt_g1l (g_ic _ _)) (kt_g1l (g_add _))) (kt_g1b (kt_g1l (g_ialS _ _ _)) (kt_g1l (g_al _ _)))) (kt_g1b (kt_g1b (kt_g1l (g_il _ _)) (kt_g1l (g_ic _ _))) (kt_g1b (kt_g1l (g_add _)) (kt_g1b (kt_g1l (g_ialS _ _ _)) (kt_g1l (g_al _ _)))))) (kt_g1b (kt_g1b (kt_g1b (kt_g1l (g_il _ _)) (kt_g1l (g_ic _ _))) (kt_g1b (kt_g1l (g_add _)) (kt_g1l (g_ialS _ _ _)))) (kt_g1b (kt_g1b (kt_g1l (g_cv _ _ _)) (kt_g1l (g_ceq _ _))) (kt_g1b (kt_g1l (g_ic _ _)) (kt_g1b (kt_g1l (g_ri)) (kt_g1l (g_al _ _)))))))))) (kt_g1b (kt_g1b (kt_g1b (kt_g1b (kt_g1b (kt_g1b (kt_g1b (kt_g1l (g_al _ _)) (kt_g1l (g_il _ _))) (kt_g1b (kt_g1l (g_ic _ _)) (kt_g1l (g_add _)))) (kt_g1b (kt_g1b (kt_g1l (g_ialS _ _ _)) (kt_g1l (g_al _ _))) (kt_g1b (kt_g1l (g_il _ _)) (kt_g1b (kt_g1l (g_ic _ _)) (kt_g1l (g_add _)))))) (kt_g1b (kt_g1b (kt_g1b (kt_g1l (g_ialS _ _ _)) (kt_g1l (g_al _ _))) (kt_g1b (kt_g1l (g_il _ _)) (kt_g1l (g_ic _ _)))) (kt_g1b (kt_g1b (kt_g1l (g_add _)) (kt_g1l (g_ialS _ _ _))) (kt_g1b (kt_g1l (g_al _ _)) (kt_g1b (kt_g1l (g_il _ _)) (kt_g1l (g_ic _ _))))))) (kt_g1b (kt_g1b (kt_g1b (kt_g1b (kt_g1l (g_add _)) (kt_g1l (g_ialS _ _ _))) (kt_g1b (kt_g1l (g_cv _ _ _)) (kt_g1l (g_al _ _)))) (kt_g1b (kt_g1b (kt_g1l (g_al _ _)) (kt_g1l (g_il _ _))) (kt_g1b (kt_g1l (g_ic _ _)) (kt_g1b (kt_g1l (g_add _)) (kt_g1l (g_ialS _ _ _)))))) (kt_g1b (kt_g1b (kt_g1b (kt_g1l (g_al _ _)) (kt_g1l (g_il _ _))) (kt_g1b (kt_g1l (g_ic _ _)) (kt_g1l (g_add _)))) (kt_g1b (kt_g1b (kt_g1l (g_ialS _ _ _)) (kt_g1l (g_al _ _))) (kt_g1b (kt_g1l (g_il _ _)) (kt_g1b (kt_g1l (g_ic _ _)) (kt_g1l (g_add _)))))))) (kt_g1b (kt_g1b (kt_g1b (kt_g1b (kt_g1b (kt_g1l (g_ialS _ _ _)) (kt_g1l (g_al _ _))) (kt_g1b (kt_g1l (g_il _ _)) (kt_g1l (g_ic _ _)))) (kt_g1b (kt_g1b (kt_g1l (g_add _)) (kt_g1l (g_ialS _ _ _))) (kt_g1b (kt_g1l (g_cv _ _ _)) (kt_g1b (kt_g1l (g_ceq _ _)) (kt_g1l (g_ic _ _)))))) (kt_g1b (kt_g1b (kt_g1b (kt_g1l (g_ri)) (kt_g1l (g_al _ _))) (kt_g1b (kt_g1l (g_al _ _)) (kt_g1l (g_il _ _)))) (kt_g1b (kt_g1b (kt_g1l (g_ic _ _)) (kt_g1l (g_add _))) (kt_g1b (kt_g1l (g_ialS _ _ _)) (kt_g1b (kt_g1l (g_al _ _)) (kt_g1l (g_il _ _))))))) (kt_g1b (kt_g1b (kt_g1b (kt_g1b (kt_g1l (g_ic _ _)) (kt_g1l (g_add _))) (kt_g1b (kt_g1l (g_ialS _ _ _)) (kt_g1l (g_al _ _)))) (kt_g1b (kt_g1b (kt_g1l (g_il _ _)) (kt_g1l (g_ic _ _))) (kt_g1b (kt_g1l (g_add _)) (kt_g1b (kt_g1l (g_ialS _ _ _)) (kt_g1l (g_al _ _)))))) (kt_g1b (kt_g1b (kt_g1b (kt_g1l (g_il _ _)) (kt_g1l (g_ic _ _))) (kt_g1b (kt_g1l (g_add _)) (kt_g1l (g_ialS _ _ _)))) (kt_g1b (kt_g1b (kt_g1l (g_cv _ _ _)) (kt_g1l (g_al _ _))) (kt_g1b (kt_g1l (g_al _ _)) (kt_g1b (kt_g1l (g_il _ _)) (kt_g1l (g_ic _ _))))))))) (kt_g1b (kt_g1b (kt_g1b (kt_g1b (kt_g1b (kt_g1b (kt_g1l (g_add _)) (kt_g1l (g_ialS _ _ _))) (kt_g1b (kt_g1l (g_al _ _)) (kt_g1l (g_il _ _)))) (kt_g1b (kt_g1b (kt_g1l (g_ic _ _)) (kt_g1l (g_add _))) (kt_g1b (kt_g1l (g_ialS _ _ _)) (kt_g1b (kt_g1l (g_al _ _)) (kt_g1l (g_il _ _)))))) (kt_g1b (kt_g1b (kt_g1b (kt_g1l (g_ic _ _)) (kt_g1l (g_add _))) (kt_g1b (kt_g1l (g_ialS _ _ _)) (kt_g1l (g_al _ _)))) (kt_g1b (kt_g1b (kt_g1l (g_il _ _)) (kt_g1l (g_ic _ _))) (kt_g1b (kt_g1l (g_add _)) (kt_g1b (kt_g1l (g_ialS _ _ _)) (kt_g1l (g_cv _ _ _))))))) (kt_g1b (kt_g1b (kt_g1b (kt_g1b (kt_g1l (g_ceq _ _)) (kt_g1l (g_ic _ _))) (kt_g1b (kt_g1l (g_ri)) (kt_g1l (g_al _ _)))) (kt_g1b (kt_g1b (kt_g1l (g_al _ _)) (kt_g1l (g_il _ _))) (kt_g1b (kt_g1l (g_ic _ _)) (kt_g1b (kt_g1l (g_add _)) (kt_g1l (g_ialS _ _ _)))))) (kt_g1b (kt_g1b (kt_g1b (kt_g1l (g_cv _ _ _)) (kt_g1l (g_al _ _))) (kt_g1b (kt_g1l (g_al _ _)) (kt_g1l (g_il _ _)))) (kt_g1b (kt_g1b (kt_g1l (g_ic _ _)) (kt_g1l (g_add _))) (kt_g1b (kt_g1l (g_ialS _ _ _)) (kt_g1b (kt_g1l (g_cv _ _ _)) (kt_g1l (g_ceq _ _)))))))) (kt_g1b (kt_g1b (kt_g1b (kt_g1b (kt_g1b (kt_g1l (g_ic _ _)) (kt_g1l (g_ri))) (kt_g1b (kt_g1l (g_al _ _)) (kt_g1l (g_al _ _)))) (kt_g1b (kt_g1b (kt_g1l (g_il _ _)) (kt_g1l (g_ic _ _))) (kt_g1b (kt_g1l (g_add _)) (kt_g1b (kt_g1l (g_ialS _ _ _)) (kt_g1l (g_al _ _)))))) (kt_g1b (kt_g1b (kt_g1b (kt_g1l (g_il _ _)) (kt_g1l (g_ic _ _))) (kt_g1b (kt_g1l (g_add _)) (kt_g1l (g_ialS _ _ _)))) (kt_g1b (kt_g1b (kt_g1l (g_cv _ _ _)) (kt_g1l (g_al _ _))) (kt_g1b (kt_g1l (g_al _ _)) (kt_g1b (kt_g1l (g_il _ _)) (kt_g1l (g_ic _ _))))))) (kt_g1b (kt_g1b (kt_g1b (kt_g1b (kt_g1l (g_add _)) (kt_g1l (g_ialS _ _ _))) (kt_g1b (kt_g1l (g_al _ _)) (kt_g1l (g_il _ _)))) (kt_g1b (kt_g1b (kt_g1l (g_ic _ _)) (kt_g1l (g_add _))) (kt_g1b (kt_g1l (g_ialS _ _ _)) (kt_g1b (kt_g1l (g_cv _ _ _)) (kt_g1l (g_ceq _ _)))))) (kt_g1b (kt_g1b (kt_g1b (kt_g1l (g_ic _ _)) (kt_g1l (g_ri))) (kt_g1b (kt_g1l (g_al _ _)) (kt_g1l (g_al _ _)))) (kt_g1b (kt_g1b (kt_g1l (g_il _ _)) (kt_g1l (g_ic _ _))) (kt_g1b (kt_g1l (g_add _)) (kt_g1b (kt_g1l (g_ialS _ _ _)) (kt_g1l (g_al _ _))))))))))) (kt_g1b (kt_g1b (kt_g1b (kt_g1b (kt_g1b (kt_g1b (kt_g1b (kt_g1b (kt_g1l (g_il _ _)) (kt_g1l (g_ic _ _))) (kt_g1b (kt_g1l (g_add _)) (kt_g1l (g_ialS _ _ _)))) (kt_g1b (kt_g1b (kt_g1l (g_al _ _)) (kt_g1l (g_il _ _))) (kt_g1b (kt_g1l (g_ic _ _)) (kt_g1b (kt_g1l (g_add _)) (kt_g1l (g_ialS _ _ _)))))) (kt_g1b (kt_g1b (kt_g1b (kt_g1l (g_cv _ _ _)) (kt_g1l (g_al _ _))) (kt_g1b (kt_g1l (g_al _ _)) (kt_g1l (g_il _ _)))) (kt_g1b (kt_g1b (kt_g1l (g_ic _ _)) (kt_g1l (g_add _))) (kt_g1b (kt_g1l (g_ialS _ _ _)) (kt_g1b (kt_g1l (g_al _ _)) (kt_g1l (g_il _ _))))))) (kt_g1b (kt_g1b (kt_g1b (kt_g1b (kt_g1l (g_ic _ _)) (kt_g1l (g_add _))) (kt_g1b (kt_g1l (g_ialS _ _ _)) (kt_g1l (g_al _ _)))) (kt_g1b (kt_g1b (kt_g1l (g_il _ _)) (kt_g1l (g_ic _ _))) (kt_g1b (kt_g1l (g_add _)) (kt_g1b (kt_g1l (g_ialS _ _ _)) (kt_g1l (g_cv _ _ _)))))) (kt_g1b (kt_g1b (kt_g1b (kt_g1l (g_ceq _ _)) (kt_g1l (g_ic _ _))) (kt_g1b (kt_g1l (g_ri)) (kt_g1l (g_al _ _)))) (kt_g1b (kt_g1b (kt_g1l (g_al _ _)) (kt_g1l (g_il _ _))) (kt_g1b (kt_g1l (g_ic _ _)) (kt_g1b (kt_g1l (g_add _)) (kt_g1l (g_ialS _ _ _)))))))) (kt_g1b (kt_g1b (kt_g1b (kt_g1b (kt_g1b (kt_g1l (g_al _ _)) (kt_g1l (g_il _ _))) (kt_g1b (kt_g1l (g_ic _ _)) (kt_g1l (g_add _)))) (kt_g1b (kt_g1b (kt_g1l (g_ialS _ _ _)) (kt_g1l (g_cv _ _ _))) (kt_g1b (kt_g1l (g_al _ _)) (kt_g1b (kt_g1l (g_al _ _)) (kt_g1l (g_il _ _)))))) (kt_g1b (kt_g1b (kt_g1b (kt_g1l (g_ic _ _)) (kt_g1l (g_add _))) (kt_g1b (kt_g1l (g_ialS _ _ _)) (kt_g1l (g_al _ _)))) (kt_g1b (kt_g1b (kt_g1l (g_il _ _)) (kt_g1l (g_ic _ _))) (kt_g1b (kt_g1l (g_add _)) (kt_g1b (kt_g1l (g_ialS _ _ _)) (kt_g1l (g_cv _ _ _))))))) (kt_g1b (kt_g1b (kt_g1b (kt_g1b (kt_g1l (g_ceq _ _)) (kt_g1l (g_ic _ _))) (kt_g1b (kt_g1l (g_ri)) (kt_g1l (g_al _ _)))) (kt_g1b (kt_g1b (kt_g1l (g_al _ _)) (kt_g1l (g_il _ _))) (kt_g1b (kt_g1l (g_ic _ _)) (kt_g1b (kt_g1l (g_add _)) (kt_g1l (g_ialS _ _ _)))))) (kt_g1b (kt_g1b (kt_g1b (kt_g1l (g_al _ _)) (kt_g1l (g_il _ _))) (kt_g1b (kt_g1l (g_ic _ _)) (kt_g1l (g_add _)))) (kt_g1b (kt_g1b (kt_g1l (g_ialS _ _ _)) (kt_g1l (g_cv _ _ _))) (kt_g1b (kt_g1l (g_al _ _)) (kt_g1b (kt_g1l (g_al _ _)) (kt_g1l (g_il _ _))))))))) (kt_g1b (kt_g1b (kt_g1b (kt_g1b (kt_g1b (kt_g1b (kt_g1l (g_ic _ _)) (kt_g1l (g_add _))) (kt_g1b (kt_g1l (g_ialS _ _ _)) (kt_g1l (g_al _ _)))) (kt_g1b (kt_g1b (kt_g1l (g_il _ _)) (kt_g1l (g_ic _ _))) (kt_g1b (kt_g1l (g_add _)) (kt_g1b (kt_g1l (g_ialS _ _ _)) (kt_g1l (g_cv _ _ _)))))) (kt_g1b (kt_g1b (kt_g1b (kt_g1l (g_ceq _ _)) (kt_g1l (g_ic _ _))) (kt_g1b (kt_g1l (g_ri)) (kt_g1l (g_al _ _)))) (kt_g1b (kt_g1b (kt_g1l (g_al _ _)) (kt_g1l (g_il _ _))) (kt_g1b (kt_g1l (g_ic _ _)) (kt_g1b (kt_g1l (g_add _)) (kt_g1l (g_ialS _ _ _))))))) (kt_g1b (kt_g1b (kt_g1b (kt_g1b (kt_g1l (g_al _ _)) (kt_g1l (g_il _ _))) (kt_g1b (kt_g1l (g_ic _ _)) (kt_g1l (g_add _)))) (kt_g1b (kt_g1b (kt_g1l (g_ialS _ _ _)) (kt_g1l (g_cv _ _ _))) (kt_g1b (kt_g1l (g_al _ _)) (kt_g1b (kt_g1l (g_al _ _)) (kt_g1l (g_il _ _)))))) (kt_g1b (kt_g1b (kt_g1b (kt_g1l (g_ic _ _)) (kt_g1l (g_add _))) (kt_g1b (kt_g1l (g_ialS _ _ _)) (kt_g1l (g_al _ _)))) (kt_g1b (kt_g1b (kt_g1l (g_il _ _)) (kt_g1l (g_ic _ _))) (kt_g1b (kt_g1l (g_add _)) (kt_g1b (kt_g1l (g_ialS _ _ _)) (kt_g1l (g_cv _ _ _)))))))) (kt_g1b (kt_g1b (kt_g1b (kt_g1b (kt_g1b (kt_g1l (g_lcmp _)) (kt_g1l (g_feq _ _))) (kt_g1b (kt_g1l (g_ic _ _)) (kt_g1l (g_ri)))) (kt_g1b (kt_g1b (kt_g1l (g_al _ _)) (kt_g1l (g_al _ _))) (kt_g1b (kt_g1l (g_il _ _)) (kt_g1b (kt_g1l (g_ic _ _)) (kt_g1l (g_add _)))))) (kt_g1b (kt_g1b (kt_g1b (kt_g1l (g_ialS _ _ _)) (kt_g1l (g_al _ _))) (kt_g1b (kt_g1l (g_il _ _)) (kt_g1l (g_ic _ _)))) (kt_g1b (kt_g1b (kt_g1l (g_add _)) (kt_g1l (g_ialS _ _ _))) (kt_g1b (kt_g1l (g_cv _ _ _)) (kt_g1b (kt_g1l (g_al _ _)) (kt_g1l (g_al _ _))))))) (kt_g1b (kt_g1b (kt_g1b (kt_g1b (kt_g1l (g_il _ _)) (kt_g1l (g_ic _ _))) (kt_g1b (kt_g1l (g_add _)) (kt_g1l (g_ialS _ _ _)))) (kt_g1b (kt_g1b (kt_g1l (g_al _ _)) (kt_g1l (g_il _ _))) (kt_g1b (kt_g1l (g_ic _ _)) (kt_g1b (kt_g1l (g_add _)) (kt_g1l (g_ialS _ _ _)))))) (kt_g1b (kt_g1b (kt_g1b (kt_g1l (g_cv _ _ _)) (kt_g1l (g_lcmp _))) (kt_g1b (kt_g1l (g_feq _ _)) (kt_g1l (g_ic _ _)))) (kt_g1b (kt_g1b (kt_g1l (g_ri)) (kt_g1l (g_al _ _))) (kt_g1b (kt_g1l (g_al _ _)) (kt_g1b (kt_g1l (g_il _ _)) (kt_g1l (g_ic _ _)))))))))) (kt_g1b (kt_g1b (kt_g1b (kt_g1b (kt_g1b (kt_g1b (kt_g1b (kt_g1l (g_add _)) (kt_g1l (g_ialS _ _ _))) (kt_g1b (kt_g1l (g_al _ _)) (kt_g1l (g_il _ _)))) (kt_g1b (kt_g1b (kt_g1l (g_ic _ _)) (kt_g1l (g_add _))) (kt_g1b (kt_g1l (g_ialS _ _ _)) (kt_g1b (kt_g1l (g_al _ _)) (kt_g1l (g_il _ _)))))) (kt_g1b (kt_g1b (kt_g1b (kt_g1l (g_ic _ _)) (kt_g1l (g_add _))) (kt_g1b (kt_g1l (g_ialS _ _ _)) (kt_g1l (g_al _ _)))) (kt_g1b (kt_g1b (kt_g1l (g_il _ _)) (kt_g1l (g_ic _ _))) (kt_g1b (kt_g1l (g_add _)) (kt_g1b (kt_g1l (g_ialS _ _ _)) (kt_g1l (g_al _ _))))))) (kt_g1b (kt_g1b (kt_g1b (kt_g1b (kt_g1l (g_il _ _)) (kt_g1l (g_ic _ _))) (kt_g1b (kt_g1l (g_add _)) (kt_g1l (g_ialS _ _ _)))) (kt_g1b (kt_g1b (kt_g1l (g_cv _ _ _)) (kt_g1l (g_al _ _))) (kt_g1b (kt_g1l (g_al _ _)) (kt_g1b (kt_g1l (g_il _ _)) (kt_g1l (g_ic _ _)))))) (kt_g1b (kt_g1b (kt_g1b (kt_g1l (g_add _)) (kt_g1l (g_ialS _ _ _))) (kt_g1b (kt_g1l (g_al _ _)) (kt_g1l (g_il _ _)))) (kt_g1b (kt_g1b (kt_g1l (g_ic _ _)) (kt_g1l (g_add _))) (kt_g1b (kt_g1l (g_ialS _ _ _)) (kt_g1b (kt_g1l (g_al _ _)) (kt_g1l (g_il _ _)))))))) (kt_g1b (kt_g1b (kt_g1b (kt_g1b (kt_g1b (kt_g1l (g_ic _ _)) (kt_g1l (g_add _))) (kt_g1b (kt_g1l (g_ialS _ _ _)) (kt_g1l (g_al _ _)))) (kt_g1b (kt_g1b (kt_g1l (g_il _ _)) (kt_g1l (g_ic _ _))) (kt_g1b (kt_g1l (g_add _)) (kt_g1b (kt_g1l (g_ialS _ _ _)) (kt_g1l (g_al _ _)))))) (kt_g1b (kt_g1b (kt_g1b (kt_g1l (g_il _ _)) (kt_g1l (g_ic _ _))) (kt_g1b (kt_g1l (g_add _)) (kt_g1l (g_ialS _ _ _)))) (kt_g1b (kt_g1b (kt_g1l (g_cv _ _ _)) (kt_g1l (g_lcmp _))) (kt_g1b (kt_g1l (g_feq _ _)) (kt_g1b (kt_g1l (g_ic _ _)) (kt_g1l (g_ri))))))) (kt_g1b (kt_g1b (kt_g1b (kt_g1b (kt_g1l (g_al _ _)) (kt_g1l (g_al _ _))) (kt_g1b (kt_g1l (g_il _ _)) (kt_g1l (g_ic _ _)))) (kt_g1b (kt_g1b (kt_g1l (g_add _)) (kt_g1l (g_ialS _ _ _))) (kt_g1b (kt_g1l (g_al _ _)) (kt_g1b (kt_g1l (g_il _ _)) (kt_g1l (g_ic _ _)))))) (kt_g1b (kt_g1b (kt_g1b (kt_g1l (g_add _)) (kt_g1l (g_ialS _ _ _))) (kt_g1b (kt_g1l (g_al _ _)) (kt_g1l (g_il _ _)))) (kt_g1b (kt_g1b (kt_g1l (g_ic _ _)) (kt_g1l (g_add _))) (kt_g1b (kt_g1l (g_ialS _ _ _)) (kt_g1b (kt_g1l (g_al _ _)) (kt_g1l (g_il _ _))))))))) (kt_g1b (kt_g1b (kt_g1b (kt_g1b (kt_g1b (kt_g1b (kt_g1l (g_ic _ _)) (kt_g1l (g_add _))) (kt_g1b (kt_g1l (g_ialS _ _ _)) (kt_g1l (g_al _ _)))) (kt_g1b (kt_g1b (kt_g1l (g_il _ _)) (kt_g1l (g_ic _ _))) (kt_g1b (kt_g1l (g_add _)) (kt_g1b (kt_g1l (g_ialS _ _ _)) (kt_g1l (g_cv _ _ _)))))) (kt_g1b (kt_g1b (kt_g1b (kt_g1l (g_al _ _)) (kt_g1l (g_al _ _))) (kt_g1b (kt_g1l (g_il _ _)) (kt_g1l (g_ic _ _)))) (kt_g1b (kt_g1b (kt_g1l (g_add _)) (kt_g1l (g_ialS _ _ _))) (kt_g1b (kt_g1l (g_al _ _)) (kt_g1b (kt_g1l (g_il _ _)) (kt_g1l (g_ic _ _))))))) (kt_g1b (kt_g1b (kt_g1b (kt_g1b (kt_g1l (g_add _)) (kt_g1l (g_ialS _ _ _))) (kt_g1b (kt_g1l (g_al _ _)) (kt_g1l (g_il _ _)))) (kt_g1b (kt_g1b (kt_g1l (g_ic _ _)) (kt_g1l (g_add _))) (kt_g1b (kt_g1l (g_ialS _ _ _)) (kt_g1b (kt_g1l (g_al _ _)) (kt_g1l (g_il _ _)))))) (kt_g1b (kt_g1b (kt_g1b (kt_g1l (g_ic _ _)) (kt_g1l (g_add _))) (kt_g1b (kt_g1l (g_ialS _ _ _)) (kt_g1l (g_al _ _)))) (kt_g1b (kt_g1b (kt_g1l (g_il _ _)) (kt_g1l (g_ic _ _))) (kt_g1b (kt_g1l (g_add _)) (kt_g1b (kt_g1l (g_ialS _ _ _)) (kt_g1l (g_cv _ _ _)))))))) (kt_g1b (kt_g1b (kt_g1b (kt_g1b (kt_g1b (kt_g1l (g_ceq _ _)) (kt_g1l (g_ic _ _))) (kt_g1b (kt_g1l (g_ri)) (kt_g1l (g_al _ _)))) (kt_g1b (kt_g1b (kt_g1l (g_al _ _)) (kt_g1l (g_il _ _))) (kt_g1b (kt_g1l (g_ic _ _)) (kt_g1b (kt_g1l (g_add _)) (kt_g1l (g_ialS _ _ _)))))) (kt_g1b (kt_g1b (kt_g1b (kt_g1l (g_al _ _)) (kt_g1l (g_il _ _))) (kt_g1b (kt_g1l (g_ic _ _)) (kt_g1l (g_add _)))) (kt_g1b (kt_g1b (kt_g1l (g_ialS _ _ _)) (kt_g1l (g_al _ _))) (kt_g1b (kt_g1l (g_il _ _)) (kt_g1b (kt_g1l (g_ic _ _)) (kt_g1l (g_add _))))))) (kt_g1b (kt_g1b (kt_g1b (kt_g1b (kt_g1l (g_ialS _ _ _)) (kt_g1l (g_cv _ _ _))) (kt_g1b (kt_g1l (g_al _ _)) (kt_g1l (g_al _ _)))) (kt_g1b (kt_g1b (kt_g1l (g_il _ _)) (kt_g1l (g_ic _ _))) (kt_g1b (kt_g1l (g_add _)) (kt_g1b (kt_g1l (g_ialS _ _ _)) (kt_g1l (g_al _ _)))))) (kt_g1b (kt_g1b (kt_g1b (kt_g1l (g_il _ _)) (kt_g1l (g_ic _ _))) (kt_g1b (kt_g1l (g_add _)) (kt_g1l (g_ialS _ _ _)))) (kt_g1b (kt_g1b (kt_g1l (g_al _ _)) (kt_g1l (g_il _ _))) (kt_g1b (kt_g1l (g_ic _ _)) (kt_g1b (kt_g1l (g_add _)) (kt_g1l (g_ialS _ _ _)))))))))))) (kt_g1b (kt_g1b (kt_g1b (kt_g1b (kt_g1b (kt_g1b (kt_g1b (kt_g1b (kt_g1b (kt_g1l (g_cv _ _ _)) (kt_g1l (g_ceq _ _))) (kt_g1b (kt_g1l (g_ic _ _)) (kt_g1l (g_ri)))) (kt_g1b (kt_g1b (kt_g1l (g_al _ _)) (kt_g1l (g_al _ _))) (kt_g1b (kt_g1l (g_il _ _)) (kt_g1b (kt_g1l (g_ic _ _)) (kt_g1l (g_add _)))))) (kt_g1b (kt_g1b (kt_g1b (kt_g1l (g_ialS _ _ _)) (kt_g1l (g_al _ _))) (kt_g1b (kt_g1l (g_il _ _)) (kt_g1l (g_ic _ _)))) (kt_g1b (kt_g1b (kt_g1l (g_add _)) (kt_g1l (g_ialS _ _ _))) (kt_g1b (kt_g1l (g_al _ _)) (kt_g1b (kt_g1l (g_il _ _)) (kt_g1l (g_ic _ _))))))) (kt_g1b (kt_g1b (kt_g1b (kt_g1b (kt_g1l (g_add _)) (kt_g1l (g_ialS _ _ _))) (kt_g1b (kt_g1l (g_al _ _)) (kt_g1l (g_il _ _)))) (kt_g1b (kt_g1b (kt_g1l (g_ic _ _)) (kt_g1l (g_add _))) (kt_g1b (kt_g1l (g_ialS _ _ _)) (kt_g1b (kt_g1l (g_al _ _)) (kt_g1l (g_il _ _)))))) (kt_g1b (kt_g1b (kt_g1b (kt_g1l (g_ic _ _)) (kt_g1l (g_add _))) (kt_g1b (kt_g1l (g_ialS _ _ _)) (kt_g1l (g_al _ _)))) (kt_g1b (kt_g1b (kt_g1l (g_il _ _)) (kt_g1l (g_ic _ _))) (kt_g1b (kt_g1l (g_add _)) (kt_g1b (kt_g1l (g_ialS _ _ _)) (kt_g1l (g_cv _ _ _)))))))) (kt_g1b (kt_g1b (kt_g1b (kt_g1b (kt_g1b (kt_g1l (g_al _ _)) (kt_g1l (g_al _ _))) (kt_g1b (kt_g1l (g_il _ _)) (kt_g1l (g_ic _ _)))) (kt_g1b (kt_g1b (kt_g1l (g_add _)) (kt_g1l (g_ialS _ _ _))) (kt_g1b (kt_g1l (g_al _ _)) (kt_g1b (kt_g1l (g_il _ _)) (kt_g1l (g_ic _ _)))))) (kt_g1b (kt_g1b (kt_g1b (kt_g1l (g_add _)) (kt_g1l (g_ialS _ _ _))) (kt_g1b (kt_g1l (g_al _ _)) (kt_g1l (g_il _ _)))) (kt_g1b (kt_g1b (kt_g1l (g_ic _ _)) (kt_g1l (g_add _))) (kt_g1b (kt_g1l (g_ialS _ _ _)) (kt_g1b (kt_g1l (g_al _ _)) (kt_g1l (g_il _ _))))))) (kt_g1b (kt_g1b (kt_g1b (kt_g1b (kt_g1l (g_ic _ _)) (kt_g1l (g_add _))) (kt_g1b (kt_g1l (g_ialS _ _ _)) (kt_g1l (g_al _ _)))) (kt_g1b (kt_g1b (kt_g1l (g_il _ _)) (kt_g1l (g_ic _ _))) (kt_g1b (kt_g1l (g_add _)) (kt_g1b (kt_g1l (g_ialS _ _ _)) (kt_g1l (g_al _ _)))))) (kt_g1b (kt_g1b (kt_g1b (kt_g1l (g_il _ _)) (kt_g1l (g_ic _ _))) (kt_g1b (kt_g1l (g_add _)) (kt_g1l (g_ialS _ _ _)))) (kt_g1b (kt_g1b (kt_g1l (g_cv _ _ _)) (kt_g1l (g_lcmp _))) (kt_g1b (kt_g1l (g_feq _ _)) (kt_g1b (kt_g1l (g_ic _ _)) (kt_g1l (g_ri))))))))) (kt_g1b (kt_g1b (kt_g1b (kt_g1b (kt_g1b (kt_g1b (kt_g1l (g_al _ _)) (kt_g1l (g_al _ _))) (kt_g1b (kt_g1l (g_il _ _)) (kt_g1l (g_ic _ _)))) (kt_g1b (kt_g1b (kt_g1l (g_add _)) (kt_g1l (g_ialS _ _ _))) (kt_g1b (kt_g1l (g_al _ _)) (kt_g1b (kt_g1l (g_il _ _)) (kt_g1l (g_ic _ _)))))) (kt_g1b (kt_g1b (kt_g1b (kt_g1l (g_add _)) (kt_g1l (g_ialS _ _ _))) (kt_g1b (kt_g1l (g_al _ _)) (kt_g1l (g_il _ _)))) (kt_g1b (kt_g1b (kt_g1l (g_ic _ _)) (kt_g1l (g_add _))) (kt_g1b (kt_g1l (g_ialS _ _ _)) (kt_g1b (kt_g1l (g_al _ _)) (kt_g1l (g_il _ _))))))) (kt_g1b (kt_g1b (kt_g1b (kt_g1b (kt_g1l (g_ic _ _)) (kt_g1l (g_add _))) (kt_g1b (kt_g1l (g_ialS _ _ _)) (kt_g1l (g_cv _ _ _)))) (kt_g1b (kt_g1b (kt_g1l (g_al _ _)) (kt_g1l (g_al _ _))) (kt_g1b (kt_g1l (g_il _ _)) (kt_g1b (kt_g1l (g_ic _ _)) (kt_g1l (g_add _)))))) (kt_g1b (kt_g1b (kt_g1b (kt_g1l (g_ialS _ _ _)) (kt_g1l (g_al _ _))) (kt_g1b (kt_g1l (g_il _ _)) (kt_g1l (g_ic _ _)))) (kt_g1b (kt_g1b (kt_g1l (g_add _)) (kt_g1l (g_ialS _ _ _))) (kt_g1b (kt_g1l (g_al _ _)) (kt_g1b (kt_g1l (g_il _ _)) (kt_g1l (g_ic _ _)))))))) (kt_g1b (kt_g1b (kt_g1b (kt_g1b (kt_g1b (kt_g1l (g_add _)) (kt_g1l (g_ialS _ _ _))) (kt_g1b (kt_g1l (g_al _ _)) (kt_g1l (g_il _ _)))) (kt_g1b (kt_g1b (kt_g1l (g_ic _ _)) (kt_g1l (g_add _))) (kt_g1b (kt_g1l (g_ialS _ _ _)) (kt_g1b (kt_g1l (g_cv _ _ _)) (kt_g1l (g_ceq _ _)))))) (kt_g1b (kt_g1b (kt_g1b (kt_g1l (g_ic _ _)) (kt_g1l (g_ri))) (kt_g1b (kt_g1l (g_al _ _)) (kt_g1l (g_al _ _)))) (kt_g1b (kt_g1b (kt_g1l (g_il _ _)) (kt_g1l (g_ic _ _))) (kt_g1b (kt_g1l (g_add _)) (kt_g1b (kt_g1l (g_ialS _ _ _)) (kt_g1l (g_al _ _))))))) (kt_g1b (kt_g1b (kt_g1b (kt_g1b (kt_g1l (g_il _ _)) (kt_g1l (g_ic _ _))) (kt_g1b (kt_g1l (g_add _)) (kt_g1l (g_ialS _ _ _)))) (kt_g1b (kt_g1b (kt_g1l (g_al _ _)) (kt_g1l (g_il _ _))) (kt_g1b (kt_g1l (g_ic _ _)) (kt_g1b (kt_g1l (g_add _)) (kt_g1l (g_ialS _ _ _)))))) (kt_g1b (kt_g1b (kt_g1b (kt_g1l (g_al _ _)) (kt_g1l (g_il _ _))) (kt_g1b (kt_g1l (g_ic _ _)) (kt_g1l (g_add _)))) (kt_g1b (kt_g1b (kt_g1l (g_ialS _ _ _)) (kt_g1l (g_al _ _))) (kt_g1b (kt_g1l (g_il _ _)) (kt_g1b (kt_g1l (g_ic _ _)) (kt_g1l (g_add _)))))))))) (kt_g1b (kt_g1b (kt_g1b (kt_g1b (kt_g1b (kt_g1b (kt_g1b (kt_g1l (g_ialS _ _ _)) (kt_g1l (g_cv _ _ _))) (kt_g1b (kt_g1l (g_al _ _)) (kt_g1l (g_al _ _)))) (kt_g1b (kt_g1b (kt_g1l (g_il _ _)) (kt_g1l (g_ic _ _))) (kt_g1b (kt_g1l (g_add _)) (kt_g1b (kt_g1l (g_ialS _ _ _)) (kt_g1l (g_al _ _)))))) (kt_g1b (kt_g1b (kt_g1b (kt_g1l (g_il _ _)) (kt_g1l (g_ic _ _))) (kt_g1b (kt_g1l (g_add _)) (kt_g1l (g_ialS _ _ _)))) (kt_g1b (kt_g1b (kt_g1l (g_al _ _)) (kt_g1l (g_il _ _))) (kt_g1b (kt_g1l (g_ic _ _)) (kt_g1b (kt_g1l (g_add _)) (kt_g1l (g_ialS _ _ _))))))) (kt_g1b (kt_g1b (kt_g1b (kt_g1b (kt_g1l (g_al _ _)) (kt_g1l (g_il _ _))) (kt_g1b (kt_g1l (g_ic _ _)) (kt_g1l (g_add _)))) (kt_g1b (kt_g1b (kt_g1l (g_ialS _ _ _)) (kt_g1l (g_al _ _))) (kt_g1b (kt_g1l (g_il _ _)) (kt_g1b (kt_g1l (g_ic _ _)) (kt_g1l (g_add _)))))) (kt_g1b (kt_g1b (kt_g1b (kt_g1l (g_ialS _ _ _)) (kt_g1l (g_cv _ _ _))) (kt_g1b (kt_g1l (g_ceq _ _)) (kt_g1l (g_ic _ _)))) (kt_g1b (kt_g1b (kt_g1l (g_ri)) (kt_g1l (g_al _ _))) (kt_g1b (kt_g1l (g_al _ _)) (kt_g1b (kt_g1l (g_il _ _)) (kt_g1l (g_ic _ _)))))))) (kt_g1b (kt_g1b (kt_g1b (kt_g1b (kt_g1b (kt_g1l (g_add _)) (kt_g1l (g_ialS _ _ _))) (kt_g1b (kt_g1l (g_al _ _)) (kt_g1l (g_il _ _)))) (kt_g1b (kt_g1b (kt_g1l (g_ic _ _)) (kt_g1l (g_add _))) (kt_g1b (kt_g1l (g_ialS _ _ _)) (kt_g1b (kt_g1l (g_cv _ _ _)) (kt_g1l (g_al _ _)))))) (kt_g1b (kt_g1b (kt_g1b (kt_g1l (g_al _ _)) (kt_g1l (g_il _ _))) (kt_g1b (kt_g1l (g_ic _ _)) (kt_g1l (g_add _)))) (kt_g1b (kt_g1b (kt_g1l (g_ialS _ _ _)) (kt_g1l (g_al _ _))) (kt_g1b (kt_g1l (g_il _ _)) (kt_g1b (kt_g1l (g_ic _ _)) (kt_g1l (g_add _))))))) (kt_g1b (kt_g1b (kt_g1b (kt_g1b (kt_g1l (g_ialS _ _ _)) (kt_g1l (g_cv _ _ _))) (kt_g1b (kt_g1l (g_ceq _ _)) (kt_g1l (g_ic _ _)))) (kt_g1b (kt_g1b (kt_g1l (g_ri)) (kt_g1l (g_al _ _))) (kt_g1b (kt_g1l (g_al _ _)) (kt_g1b (kt_g1l (g_il _ _)) (kt_g1l (g_ic _ _)))))) (kt_g1b (kt_g1b (kt_g1b (kt_g1l (g_add _)) (kt_g1l (g_ialS _ _ _))) (kt_g1b (kt_g1l (g_al _ _)) (kt_g1l (g_il _ _)))) (kt_g1b (kt_g1b (kt_g1l (g_ic _ _)) (kt_g1l (g_add _))) (kt_g1b (kt_g1l (g_ialS _ _ _)) (kt_g1b (kt_g1l (g_al _ _)) (kt_g1l (g_il _ _))))))))) (kt_g1b (kt_g1b (kt_g1b (kt_g1b (kt_g1b (kt_g1b (kt_g1l (g_ic _ _)) (kt_g1l (g_add _))) (kt_g1b (kt_g1l (g_ialS _ _ _)) (kt_g1l (g_cv _ _ _)))) (kt_g1b (kt_g1b (kt_g1l (g_al _ _)) (kt_g1l (g_al _ _))) (kt_g1b (kt_g1l (g_il _ _)) (kt_g1b (kt_g1l (g_ic _ _)) (kt_g1l (g_add _)))))) (kt_g1b (kt_g1b (kt_g1b (kt_g1l (g_ialS _ _ _)) (kt_g1l (g_al _ _))) (kt_g1b (kt_g1l (g_il _ _)) (kt_g1l (g_ic _ _)))) (kt_g1b (kt_g1b (kt_g1l (g_add _)) (kt_g1l (g_ialS _ _ _))) (kt_g1b (kt_g1l (g_al _ _)) (kt_g1b (kt_g1l (g_il _ _)) (kt_g1l (g_ic _ _))))))) (kt_g1b (kt_g1b (kt_g1b (kt_g1b (kt_g1l (g_add _)) (kt_g1l (g_ialS _ _ _))) (kt_g1b (kt_g1l (g_cv _ _ _)) (kt_g1l (g_ceq _ _)))) (kt_g1b (kt_g1b (kt_g1l (g_ic _ _)) (kt_g1l (g_ri))) (kt_g1b (kt_g1l (g_al _ _)) (kt_g1b (kt_g1l (g_al _ _)) (kt_g1l (g_il _ _)))))) (kt_g1b (kt_g1b (kt_g1b (kt_g1l (g_ic _ _)) (kt_g1l (g_add _))) (kt_g1b (kt_g1l (g_ialS _ _ _)) (kt_g1l (g_al _ _)))) (kt_g1b (kt_g1b (kt_g1l (g_il _ _)) (kt_g1l (g_ic _ _))) (kt_g1b (kt_g1l (g_add _)) (kt_g1b (kt_g1l (g_ialS _ _ _)) (kt_g1l (g_cv _ _ _)))))))) (kt_g1b (kt_g1b (kt_g1b (kt_g1b (kt_g1b (kt_g1l (g_al _ _)) (kt_g1l (g_al _ _))) (kt_g1b (kt_g1l (g_il _ _)) (kt_g1l (g_ic _ _)))) (kt_g1b (kt_g1b (kt_g1l (g_add _)) (kt_g1l (g_ialS _ _ _))) (kt_g1b (kt_g1l (g_al _ _)) (kt_g1b (kt_g1l (g_il _ _)) (kt_g1l (g_ic _ _)))))) (kt_g1b (kt_g1b (kt_g1b (kt_g1l (g_add _)) (kt_g1l (g_ialS _ _ _))) (kt_g1b (kt_g1l (g_cv _ _ _)) (kt_g1l (g_ceq _ _)))) (kt_g1b (kt_g1b (kt_g1l (g_ic _ _)) (kt_g1l (g_ri))) (kt_g1b (kt_g1l (g_al _ _)) (kt_g1b (kt_g1l (g_al _ _)) (kt_g1l (g_il _ _))))))) (kt_g1b (kt_g1b (kt_g1b (kt_g1b (kt_g1l (g_ic _ _)) (kt_g1l (g_add _))) (kt_g1b (kt_g1l (g_ialS _ _ _)) (kt_g1l (g_al _ _)))) (kt_g1b (kt_g1b (kt_g1l (g_il _ _)) (kt_g1l (g_ic _ _))) (kt_g1b (kt_g1l (g_add _)) (kt_g1b (kt_g1l (g_ialS _ _ _)) (kt_g1l (g_cv _ _ _)))))) (kt_g1b (kt_g1b (kt_g1b (kt_g1l (g_al _ _)) (kt_g1l (g_al _ _))) (kt_g1b (kt_g1l (g_il _ _)) (kt_g1l (g_ic _ _)))) (kt_g1b (kt_g1b (kt_g1l (g_add _)) (kt_g1l (g_ialS _ _ _))) (kt_g1b (kt_g1l (g_al _ _)) (kt_g1b (kt_g1l (g_il _ _)) (kt_g1l (g_ic _ _))))))))))) (kt_g1b (kt_g1b (kt_g1b (kt_g1b (kt_g1b (kt_g1b (kt_g1b (kt_g1b (kt_g1l (g_add _)) (kt_g1l (g_ialS _ _ _))) (kt_g1b (kt_g1l (g_cv _ _ _)) (kt_g1l (g_ceq _ _)))) (kt_g1b (kt_g1b (kt_g1l (g_ic _ _)) (kt_g1l (g_ri))) (kt_g1b (kt_g1l (g_al _ _)) (kt_g1b (kt_g1l (g_al _ _)) (kt_g1l (g_il _ _)))))) (kt_g1b (kt_g1b (kt_g1b (kt_g1l (g_ic _ _)) (kt_g1l (g_add _))) (kt_g1b (kt_g1l (g_ialS _ _ _)) (kt_g1l (g_al _ _)))) (kt_g1b (kt_g1b (kt_g1l (g_il _ _)) (kt_g1l (g_ic _ _))) (kt_g1b (kt_g1l (g_add _)) (kt_g1b (kt_g1l (g_ialS _ _ _)) (kt_g1l (g_al _ _))))))) (kt_g1b (kt_g1b (kt_g1b (kt_g1b (kt_g1l (g_il _ _)) (kt_g1l (g_ic _ _))) (kt_g1b (kt_g1l (g_add _)) (kt_g1l (g_ialS _ _ _)))) (kt_g1b (kt_g1b (kt_g1l (g_cv _ _ _)) (kt_g1l (g_al _ _))) (kt_g1b (kt_g1l (g_al _ _)) (kt_g1b (kt_g1l (g_il _ _)) (kt_g1l (g_ic _ _)))))) (kt_g1b (kt_g1b (kt_g1b (kt_g1l (g_add _)) (kt_g1l (g_ialS _ _ _))) (kt_g1b (kt_g1l (g_al _ _)) (kt_g1l (g_il _ _)))) (kt_g1b (kt_g1b (kt_g1l (g_ic _ _)) (kt_g1l (g_add _))) (kt_g1b (kt_g1l (g_ialS _ _ _)) (kt_g1b (kt_g1l (g_al _ _)) (kt_g1l (g_il _ _)))))))) (kt_g1b (kt_g1b (kt_g1b (kt_g1b (kt_g1b (kt_g1l (g_ic _ _)) (kt_g1l (g_add _))) (kt_g1b (kt_g1l (g_ialS _ _ _)) (kt_g1l (g_cv _ _ _)))) (kt_g1b (kt_g1b (kt_g1l (g_ceq _ _)) (kt_g1l (g_ic _ _))) (kt_g1b (kt_g1l (g_ri)) (kt_g1b (kt_g1l (g_al _ _)) (kt_g1l (g_al _ _)))))) (kt_g1b (kt_g1b (kt_g1b (kt_g1l (g_il _ _)) (kt_g1l (g_ic _ _))) (kt_g1b (kt_g1l (g_add _)) (kt_g1l (g_ialS _ _ _)))) (kt_g1b (kt_g1b (kt_g1l (g_cv _ _ _)) (kt_g1l (g_al _ _))) (kt_g1b (kt_g1l (g_al _ _)) (kt_g1b (kt_g1l (g_il _ _)) (kt_g1l (g_ic _ _))))))) (kt_g1b (kt_g1b (kt_g1b (kt_g1b (kt_g1l (g_add _)) (kt_g1l (g_ialS _ _ _))) (kt_g1b (kt_g1l (g_cv _ _ _)) (kt_g1l (g_ceq _ _)))) (kt_g1b (kt_g1b (kt_g1l (g_ic _ _)) (kt_g1l (g_ri))) (kt_g1b (kt_g1l (g_al _ _)) (kt_g1b (kt_g1l (g_al _ _)) (kt_g1l (g_il _ _)))))) (kt_g1b (kt_g1b (kt_g1b (kt_g1l (g_ic _ _)) (kt_g1l (g_add _))) (kt_g1b (kt_g1l (g_ialS _ _ _)) (kt_g1l (g_al _ _)))) (kt_g1b (kt_g1b (kt_g1l (g_il _ _)) (kt_g1l (g_ic _ _))) (kt_g1b (kt_g1l (g_add _)) (kt_g1b (kt_g1l (g_ialS _ _ _)) (kt_g1l (g_al _ _))))))))) (kt_g1b (kt_g1b (kt_g1b (kt_g1b (kt_g1b (kt_g1b (kt_g1l (g_il _ _)) (kt_g1l (g_ic _ _))) (kt_g1b (kt_g1l (g_add _)) (kt_g1l (g_ialS _ _ _)))) (kt_g1b (kt_g1b (kt_g1l (g_cv _ _ _)) (kt_g1l (g_al _ _))) (kt_g1b (kt_g1l (g_al _ _)) (kt_g1b (kt_g1l (g_il _ _)) (kt_g1l (g_ic _ _)))))) (kt_g1b (kt_g1b (kt_g1b (kt_g1l (g_add _)) (kt_g1l (g_ialS _ _ _))) (kt_g1b (kt_g1l (g_al _ _)) (kt_g1l (g_il _ _)))) (kt_g1b (kt_g1b (kt_g1l (g_ic _ _)) (kt_g1l (g_add _))) (kt_g1b (kt_g1l (g_ialS _ _ _)) (kt_g1b (kt_g1l (g_al _ _)) (kt_g1l (g_il _ _))))))) (kt_g1b (kt_g1b (kt_g1b (kt_g1b (kt_g1l (g_ic _ _)) (kt_g1l (g_add _))) (kt_g1b (kt_g1l (g_ialS _ _ _)) (kt_g1l (g_cv _ _ _)))) (kt_g1b (kt_g1b (kt_g1l (g_ceq _ _)) (kt_g1l (g_ic _ _))) (kt_g1b (kt_g1l (g_ri)) (kt_g1b (kt_g1l (g_al _ _)) (kt_g1l (g_al _ _)))))) (kt_g1b (kt_g1b (kt_g1b (kt_g1l (g_il _ _)) (kt_g1l (g_ic _ _))) (kt_g1b (kt_g1l (g_add _)) (kt_g1l (g_ialS _ _ _)))) (kt_g1b (kt_g1b (kt_g1l (g_al _ _)) (kt_g1l (g_il _ _))) (kt_g1b (kt_g1l (g_ic _ _)) (kt_g1b (kt_g1l (g_add _)) (kt_g1l (g_ialS _ _ _)))))))) (kt_g1b (kt_g1b (kt_g1b (kt_g1b (kt_g1b (kt_g1l (g_al _ _)) (kt_g1l (g_il _ _))) (kt_g1b (kt_g1l (g_ic _ _)) (kt_g1l (g_add _)))) (kt_g1b (kt_g1b (kt_g1l (g_ialS _ _ _)) (kt_g1l (g_cv _ _ _))) (kt_g1b (kt_g1l (g_al _ _)) (kt_g1b (kt_g1l (g_al _ _)) (kt_g1l (g_il _ _)))))) (kt_g1b (kt_g1b (kt_g1b (kt_g1l (g_ic _ _)) (kt_g1l (g_add _))) (kt_g1b (kt_g1l (g_ialS _ _ _)) (kt_g1l (g_al _ _)))) (kt_g1b (kt_g1b (kt_g1l (g_il _ _)) (kt_g1l (g_ic _ _))) (kt_g1b (kt_g1l (g_add _)) (kt_g1b (kt_g1l (g_ialS _ _ _)) (kt_g1l (g_al _ _))))))) (kt_g1b (kt_g1b (kt_g1b (kt_g1b (kt_g1l (g_il _ _)) (kt_g1l (g_ic _ _))) (kt_g1b (kt_g1l (g_add _)) (kt_g1l (g_ialS _ _ _)))) (kt_g1b (kt_g1b (kt_g1l (g_cv _ _ _)) (kt_g1l (g_lcmp _))) (kt_g1b (kt_g1l (g_feq _ _)) (kt_g1b (kt_g1l (g_ic _ _)) (kt_g1l (g_ri)))))) (kt_g1b (kt_g1b (kt_g1b (kt_g1l (g_al _ _)) (kt_g1l (g_al _ _))) (kt_g1b (kt_g1l (g_il _ _)) (kt_g1l (g_ic _ _)))) (kt_g1b (kt_g1b (kt_g1l (g_add _)) (kt_g1l (g_ialS _ _ _))) (kt_g1b (kt_g1l (g_al _ _)) (kt_g1b (kt_g1l (g_il _ _)) (kt_g1l (g_ic _ _)))))))))) (kt_g1b (kt_g1b (kt_g1b (kt_g1b (kt_g1b (kt_g1b (kt_g1b (kt_g1l (g_add _)) (kt_g1l (g_ialS _ _ _))) (kt_g1b (kt_g1l (g_al _ _)) (kt_g1l (g_il _ _)))) (kt_g1b (kt_g1b (kt_g1l (g_ic _ _)) (kt_g1l (g_add _))) (kt_g1b (kt_g1l (g_ialS _ _ _)) (kt_g1b (kt_g1l (g_al _ _)) (kt_g1l (g_il _ _)))))) (kt_g1b (kt_g1b (kt_g1b (kt_g1l (g_ic _ _)) (kt_g1l (g_add _))) (kt_g1b (kt_g1l (g_ialS _ _ _)) (kt_g1l (g_al _ _)))) (kt_g1b (kt_g1b (kt_g1l (g_il _ _)) (kt_g1l (g_ic _ _))) (kt_g1b (kt_g1l (g_add _)) (kt_g1b (kt_g1l (g_ialS _ _ _)) (kt_g1l (g_cv _ _ _))))))) (kt_g1b (kt_g1b (kt_g1b (kt_g1b (kt_g1l (g_al _ _)) (kt_g1l (g_al _ _))) (kt_g1b (kt_g1l (g_il _ _)) (kt_g1l (g_ic _ _)))) (kt_g1b (kt_g1b (kt_g1l (g_add _)) (kt_g1l (g_ialS _ _ _))) (kt_g1b (kt_g1l (g_al _ _)) (kt_g1b (kt_g1l (g_il _ _)) (kt_g1l (g_ic _ _)))))) (kt_g1b (kt_g1b (kt_g1b (kt_g1l (g_add _)) (kt_g1l (g_ialS _ _ _))) (kt_g1b (kt_g1l (g_al _ _)) (kt_g1l (g_il _ _)))) (kt_g1b (kt_g1b (kt_g1l (g_ic _ _)) (kt_g1l (g_add _))) (kt_g1b (kt_g1l (g_ialS _ _ _)) (kt_g1b (kt_g1l (g_al _ _)) (kt_g1l (g_il _ _)))))))) (kt_g1b (kt_g1b (kt_g1b (kt_g1b (kt_g1b (kt_g1l (g_ic _ _)) (kt_g1l (g_add _))) (kt_g1b (kt_g1l (g_ialS _ _ _)) (kt_g1l (g_al _ _)))) (kt_g1b (kt_g1b (kt_g1l (g_il _ _)) (kt_g1l (g_ic _ _))) (kt_g1b (kt_g1l (g_add _)) (kt_g1b (kt_g1l (g_ialS _ _ _)) (kt_g1l (g_cv _ _ _)))))) (kt_g1b (kt_g1b (kt_g1b (kt_g1l (g_ceq _ _)) (kt_g1l (g_ic _ _))) (kt_g1b (kt_g1l (g_ri)) (kt_g1l (g_al _ _)))) (kt_g1b (kt_g1b (kt_g1l (g_al _ _)) (kt_g1l (g_il _ _))) (kt_g1b (kt_g1l (g_ic _ _)) (kt_g1b (kt_g1l (g_add _)) (kt_g1l (g_ialS _ _ _))))))) (kt_g1b (kt_g1b (kt_g1b (kt_g1b (kt_g1l (g_cv _ _ _)) (kt_g1l (g_al _ _))) (kt_g1b (kt_g1l (g_al _ _)) (kt_g1l (g_il _ _)))) (kt_g1b (kt_g1b (kt_g1l (g_ic _ _)) (kt_g1l (g_add _))) (kt_g1b (kt_g1l (g_ialS _ _ _)) (kt_g1b (kt_g1l (g_cv _ _ _)) (kt_g1l (g_ceq _ _)))))) (kt_g1b (kt_g1b (kt_g1b (kt_g1l (g_ic _ _)) (kt_g1l (g_ri))) (kt_g1b (kt_g1l (g_al _ _)) (kt_g1l (g_al _ _)))) (kt_g1b (kt_g1b (kt_g1l (g_il _ _)) (kt_g1l (g_ic _ _))) (kt_g1b (kt_g1l (g_add _)) (kt_g1b (kt_g1l (g_ialS _ _ _)) (kt_g1l (g_cv _ _ _))))))))) (kt_g1b (kt_g1b (kt_g1b (kt_g1b (kt_g1b (kt_g1b (kt_g1l (g_al _ _)) (kt_g1l (g_al _ _))) (kt_g1b (kt_g1l (g_il _ _)) (kt_g1l (g_ic _ _)))) (kt_g1b (kt_g1b (kt_g1l (g_add _)) (kt_g1l (g_ialS _ _ _))) (kt_g1b (kt_g1l (g_cv _ _ _)) (kt_g1b (kt_g1l (g_ceq _ _)) (kt_g1l (g_ic _ _)))))) (kt_g1b (kt_g1b (kt_g1b (kt_g1l (g_ri)) (kt_g1l (g_al _ _))) (kt_g1b (kt_g1l (g_al _ _)) (kt_g1l (g_il _ _)))) (kt_g1b (kt_g1b (kt_g1l (g_ic _ _)) (kt_g1l (g_add _))) (kt_g1b (kt_g1l (g_ialS _ _ _)) (kt_g1b (kt_g1l (g_al _ _)) (kt_g1l (g_il _ _))))))) (kt_g1b (kt_g1b (kt_g1b (kt_g1b (kt_g1l (g_ic _ _)) (kt_g1l (g_add _))) (kt_g1b (kt_g1l (g_ialS _ _ _)) (kt_g1l (g_cv _ _ _)))) (kt_g1b (kt_g1b (kt_g1l (g_al _ _)) (kt_g1l (g_al _ _))) (kt_g1b (kt_g1l (g_il _ _)) (kt_g1b (kt_g1l (g_ic _ _)) (kt_g1l (g_add _)))))) (kt_g1b (kt_g1b (kt_g1b (kt_g1l (g_ialS _ _ _)) (kt_g1l (g_al _ _))) (kt_g1b (kt_g1l (g_il _ _)) (kt_g1l (g_ic _ _)))) (kt_g1b (kt_g1b (kt_g1l (g_add _)) (kt_g1l (g_ialS _ _ _))) (kt_g1b (kt_g1l (g_cv _ _ _)) (kt_g1b (kt_g1l (g_ceq _ _)) (kt_g1l (g_ic _ _)))))))) (kt_g1b (kt_g1b (kt_g1b (kt_g1b (kt_g1b (kt_g1l (g_ri)) (kt_g1l (g_al _ _))) (kt_g1b (kt_g1l (g_cv _ _ _)) (kt_g1l (g_al _ _)))) (kt_g1b (kt_g1b (kt_g1l (g_cv _ _ _)) (kt_g1l (g_ceq _ _))) (kt_g1b (kt_g1l (g_ic _ _)) (kt_g1b (kt_g1l (g_ri)) (kt_g1l (g_al _ _)))))) (kt_g1b (kt_g1b (kt_g1b (kt_g1l (g_cv _ _ _)) (kt_g1l (g_al _ _))) (kt_g1b (kt_g1l (g_cv _ _ _)) (kt_g1l (g_ceq _ _)))) (kt_g1b (kt_g1b (kt_g1l (g_ic _ _)) (kt_g1l (g_ri))) (kt_g1b (kt_g1l (g_al _ _)) (kt_g1b (kt_g1l (g_al _ _)) (kt_g1l (g_il _ _))))))) (kt_g1b (kt_g1b (kt_g1b (kt_g1b (kt_g1l (g_ic _ _)) (kt_g1l (g_add _))) (kt_g1b (kt_g1l (g_ialS _ _ _)) (kt_g1l (g_cv _ _ _)))) (kt_g1b (kt_g1b (kt_g1l (g_al _ _)) (kt_g1l (g_al _ _))) (kt_g1b (kt_g1l (g_il _ _)) (kt_g1b (kt_g1l (g_ic _ _)) (kt_g1l (g_add _)))))) (kt_g1b (kt_g1b (kt_g1b (kt_g1l (g_ialS _ _ _)) (kt_g1l (g_cv _ _ _))) (kt_g1b (kt_g1l (g_ceq _ _)) (kt_g1l (g_ic _ _)))) (kt_g1b (kt_g1b (kt_g1l (g_ri)) (kt_g1l (g_inc _ _ _))) (kt_g1b (kt_g1l (g_goto _)) (kt_g1b (kt_g1l (g_ic _ _)) (kt_g1l (g_ri))))))))))))
theorem kt_ble_t {a b : Nat} (h : a ≤ b) : Nat.ble a b = true := Nat.ble_eq_true_of_le h
theorem kt_ble_f {a b : Nat} (h : ¬ a ≤ b) : Nat.ble a b = false := by
  cases hb : Nat.ble a b with
  | true => exact absurd (Nat.le_of_ble_eq_true hb) h
  | false => rfl
theorem kt_big {y : Nat} (h : 189 ≤ y) : kt_k y = kt_k 189 ∧ kt_nm y = kt_nm 189 ∧ kt_by y = kt_by 189 ∧ kt_mx y = kt_mx 189 ∧ kt_rt y = kt_rt 189 ∧ kt_fn y = kt_fn 189 ∧ kt_ln y = kt_ln 189 := by
  have e : ∀ z : Nat, z < 189 → Nat.ble y z = false := fun z hz => kt_ble_f (by omega)
  unfold kt_k kt_nm kt_by kt_mx kt_rt kt_fn kt_ln
  rw [e 94 (by decide), e 141 (by decide), e 165 (by decide), e 177 (by decide), e 183 (by decide), e 186 (by decide), e 187 (by decide), e 188 (by decide)]
  exact ⟨rfl, rfl, rfl, rfl, rfl, rfl, rfl⟩
theorem kt_a0 : ∀ y : Nat, y ≤ 189 → ∀ pc : Nat, kt_sa (kt_nm y).cls (kt_nm y).name (kt_by y) (kt_mx y) (kt_rt y) (kt_fn y) (kt_ln y) pc (kt_k y pc) := by
  intro y hy
  by_cases h1 : y ≤ 94
  ·
    by_cases h2 : y ≤ 46
    ·
      by_cases h3 : y ≤ 22
      ·
        by_cases h4 : y ≤ 10
        ·
          by_cases h5 : y ≤ 4
          ·
            by_cases h6 : y ≤ 1
            ·
              by_cases h7 : y ≤ 0
              ·
                have e : y = 0 := by omega
                subst e
                exact ka_0
              ·
                have e : y = 1 := by omega
                subst e
                exact ka_1
            ·
              by_cases h7 : y ≤ 2
              ·
                have e : y = 2 := by omega
                subst e
                exact ka_2
              ·
                by_cases h8 : y ≤ 3
                ·
                  have e : y = 3 := by omega
                  subst e
                  exact ka_3
                ·
                  have e : y = 4 := by omega
                  subst e
                  exact ka_4
          ·
            by_cases h6 : y ≤ 7
            ·
              by_cases h7 : y ≤ 5
              ·
                have e : y = 5 := by omega
                subst e
                exact ka_5
              ·
                by_cases h8 : y ≤ 6
                ·
                  have e : y = 6 := by omega
                  subst e
                  exact ka_6
                ·
                  have e : y = 7 := by omega
                  subst e
                  exact ka_7
            ·
              by_cases h7 : y ≤ 8
              ·
                have e : y = 8 := by omega
                subst e
                exact ka_8
              ·
                by_cases h8 : y ≤ 9
                ·
                  have e : y = 9 := by omega
                  subst e
                  exact ka_9
                ·
                  have e : y = 10 := by omega
                  subst e
                  exact ka_10
        ·
          by_cases h5 : y ≤ 16
          ·
            by_cases h6 : y ≤ 13
            ·
              by_cases h7 : y ≤ 11
              ·
                have e : y = 11 := by omega
                subst e
                exact ka_11
              ·
                by_cases h8 : y ≤ 12
                ·
                  have e : y = 12 := by omega
                  subst e
                  exact ka_12
                ·
                  have e : y = 13 := by omega
                  subst e
                  exact ka_13
            ·
              by_cases h7 : y ≤ 14
              ·
                have e : y = 14 := by omega
                subst e
                exact ka_14
              ·
                by_cases h8 : y ≤ 15
                ·
                  have e : y = 15 := by omega
                  subst e
                  exact ka_15
                ·
                  have e : y = 16 := by omega
                  subst e
                  exact ka_16
          ·
            by_cases h6 : y ≤ 19
            ·
              by_cases h7 : y ≤ 17
              ·
                have e : y = 17 := by omega
                subst e
                exact ka_17
              ·
                by_cases h8 : y ≤ 18
                ·
                  have e : y = 18 := by omega
                  subst e
                  exact ka_18
                ·
                  have e : y = 19 := by omega
                  subst e
                  exact ka_19
            ·
              by_cases h7 : y ≤ 20
              ·
                have e : y = 20 := by omega
                subst e
                exact ka_20
              ·
                by_cases h8 : y ≤ 21
                ·
                  have e : y = 21 := by omega
                  subst e
                  exact ka_21
                ·
                  have e : y = 22 := by omega
                  subst e
                  exact ka_22
      ·
        by_cases h4 : y ≤ 34
        ·
          by_cases h5 : y ≤ 28
          ·
            by_cases h6 : y ≤ 25
            ·
              by_cases h7 : y ≤ 23
              ·
                have e : y = 23 := by omega
                subst e
                exact ka_23
              ·
                by_cases h8 : y ≤ 24
                ·
                  have e : y = 24 := by omega
                  subst e
                  exact ka_24
                ·
                  have e : y = 25 := by omega
                  subst e
                  exact ka_25
            ·
              by_cases h7 : y ≤ 26
              ·
                have e : y = 26 := by omega
                subst e
                exact ka_26
              ·
                by_cases h8 : y ≤ 27
                ·
                  have e : y = 27 := by omega
                  subst e
                  exact ka_27
                ·
                  have e : y = 28 := by omega
                  subst e
                  exact ka_28
          ·
            by_cases h6 : y ≤ 31
            ·
              by_cases h7 : y ≤ 29
              ·
                have e : y = 29 := by omega
                subst e
                exact ka_29
              ·
                by_cases h8 : y ≤ 30
                ·
                  have e : y = 30 := by omega
                  subst e
                  exact ka_30
                ·
                  have e : y = 31 := by omega
                  subst e
                  exact ka_31
            ·
              by_cases h7 : y ≤ 32
              ·
                have e : y = 32 := by omega
                subst e
                exact ka_32
              ·
                by_cases h8 : y ≤ 33
                ·
                  have e : y = 33 := by omega
                  subst e
                  exact ka_33
                ·
                  have e : y = 34 := by omega
                  subst e
                  exact ka_34
        ·
          by_cases h5 : y ≤ 40
          ·
            by_cases h6 : y ≤ 37
            ·
              by_cases h7 : y ≤ 35
              ·
                have e : y = 35 := by omega
                subst e
                exact ka_35
              ·
                by_cases h8 : y ≤ 36
                ·
                  have e : y = 36 := by omega
                  subst e
                  exact ka_36
                ·
                  have e : y = 37 := by omega
                  subst e
                  exact ka_37
            ·
              by_cases h7 : y ≤ 38
              ·
                have e : y = 38 := by omega
                subst e
                exact ka_38
              ·
                by_cases h8 : y ≤ 39
                ·
                  have e : y = 39 := by omega
                  subst e
                  exact ka_39
                ·
                  have e : y = 40 := by omega
                  subst e
                  exact ka_40
          ·
            by_cases h6 : y ≤ 43
            ·
              by_cases h7 : y ≤ 41
              ·
                have e : y = 41 := by omega
                subst e
                exact ka_41
              ·
                by_cases h8 : y ≤ 42
                ·
                  have e : y = 42 := by omega
                  subst e
                  exact ka_42
                ·
                  have e : y = 43 := by omega
                  subst e
                  exact ka_43
            ·
              by_cases h7 : y ≤ 44
              ·
                have e : y = 44 := by omega
                subst e
                exact ka_44
              ·
                by_cases h8 : y ≤ 45
                ·
                  have e : y = 45 := by omega
                  subst e
                  exact ka_45
                ·
                  have e : y = 46 := by omega
                  subst e
                  exact ka_46
    ·
      by_cases h3 : y ≤ 70
      ·
        by_cases h4 : y ≤ 58
        ·
          by_cases h5 : y ≤ 52
          ·
            by_cases h6 : y ≤ 49
            ·
              by_cases h7 : y ≤ 47
              ·
                have e : y = 47 := by omega
                subst e
                exact ka_47
              ·
                by_cases h8 : y ≤ 48
                ·
                  have e : y = 48 := by omega
                  subst e
                  exact ka_48
                ·
                  have e : y = 49 := by omega
                  subst e
                  exact ka_49
            ·
              by_cases h7 : y ≤ 50
              ·
                have e : y = 50 := by omega
                subst e
                exact ka_50
              ·
                by_cases h8 : y ≤ 51
                ·
                  have e : y = 51 := by omega
                  subst e
                  exact ka_51
                ·
                  have e : y = 52 := by omega
                  subst e
                  exact ka_52
          ·
            by_cases h6 : y ≤ 55
            ·
              by_cases h7 : y ≤ 53
              ·
                have e : y = 53 := by omega
                subst e
                exact ka_53
              ·
                by_cases h8 : y ≤ 54
                ·
                  have e : y = 54 := by omega
                  subst e
                  exact ka_54
                ·
                  have e : y = 55 := by omega
                  subst e
                  exact ka_55
            ·
              by_cases h7 : y ≤ 56
              ·
                have e : y = 56 := by omega
                subst e
                exact ka_56
              ·
                by_cases h8 : y ≤ 57
                ·
                  have e : y = 57 := by omega
                  subst e
                  exact ka_57
                ·
                  have e : y = 58 := by omega
                  subst e
                  exact ka_58
        ·
          by_cases h5 : y ≤ 64
          ·
            by_cases h6 : y ≤ 61
            ·
              by_cases h7 : y ≤ 59
              ·
                have e : y = 59 := by omega
                subst e
                exact ka_59
              ·
                by_cases h8 : y ≤ 60
                ·
                  have e : y = 60 := by omega
                  subst e
                  exact ka_60
                ·
                  have e : y = 61 := by omega
                  subst e
                  exact ka_61
            ·
              by_cases h7 : y ≤ 62
              ·
                have e : y = 62 := by omega
                subst e
                exact ka_62
              ·
                by_cases h8 : y ≤ 63
                ·
                  have e : y = 63 := by omega
                  subst e
                  exact ka_63
                ·
                  have e : y = 64 := by omega
                  subst e
                  exact ka_64
          ·
            by_cases h6 : y ≤ 67
            ·
              by_cases h7 : y ≤ 65
              ·
                have e : y = 65 := by omega
                subst e
                exact ka_65
              ·
                by_cases h8 : y ≤ 66
                ·
                  have e : y = 66 := by omega
                  subst e
                  exact ka_66
                ·
                  have e : y = 67 := by omega
                  subst e
                  exact ka_67
            ·
              by_cases h7 : y ≤ 68
              ·
                have e : y = 68 := by omega
                subst e
                exact ka_68
              ·
                by_cases h8 : y ≤ 69
                ·
                  have e : y = 69 := by omega
                  subst e
                  exact ka_69
                ·
                  have e : y = 70 := by omega
                  subst e
                  exact ka_70
      ·
        by_cases h4 : y ≤ 82
        ·
          by_cases h5 : y ≤ 76
          ·
            by_cases h6 : y ≤ 73
            ·
              by_cases h7 : y ≤ 71
              ·
                have e : y = 71 := by omega
                subst e
                exact ka_71
              ·
                by_cases h8 : y ≤ 72
                ·
                  have e : y = 72 := by omega
                  subst e
                  exact ka_72
                ·
                  have e : y = 73 := by omega
                  subst e
                  exact ka_73
            ·
              by_cases h7 : y ≤ 74
              ·
                have e : y = 74 := by omega
                subst e
                exact ka_74
              ·
                by_cases h8 : y ≤ 75
                ·
                  have e : y = 75 := by omega
                  subst e
                  exact ka_75
                ·
                  have e : y = 76 := by omega
                  subst e
                  exact ka_76
          ·
            by_cases h6 : y ≤ 79
            ·
              by_cases h7 : y ≤ 77
              ·
                have e : y = 77 := by omega
                subst e
                exact ka_77
              ·
                by_cases h8 : y ≤ 78
                ·
                  have e : y = 78 := by omega
                  subst e
                  exact ka_78
                ·
                  have e : y = 79 := by omega
                  subst e
                  exact ka_79
            ·
              by_cases h7 : y ≤ 80
              ·
                have e : y = 80 := by omega
                subst e
                exact ka_80
              ·
                by_cases h8 : y ≤ 81
                ·
                  have e : y = 81 := by omega
                  subst e
                  exact ka_81
                ·
                  have e : y = 82 := by omega
                  subst e
                  exact ka_82
        ·
          by_cases h5 : y ≤ 88
          ·
            by_cases h6 : y ≤ 85
            ·
              by_cases h7 : y ≤ 83
              ·
                have e : y = 83 := by omega
                subst e
                exact ka_83
              ·
                by_cases h8 : y ≤ 84
                ·
                  have e : y = 84 := by omega
                  subst e
                  exact ka_84
                ·
                  have e : y = 85 := by omega
                  subst e
                  exact ka_85
            ·
              by_cases h7 : y ≤ 86
              ·
                have e : y = 86 := by omega
                subst e
                exact ka_86
              ·
                by_cases h8 : y ≤ 87
                ·
                  have e : y = 87 := by omega
                  subst e
                  exact ka_87
                ·
                  have e : y = 88 := by omega
                  subst e
                  exact ka_88
          ·
            by_cases h6 : y ≤ 91
            ·
              by_cases h7 : y ≤ 89
              ·
                have e : y = 89 := by omega
                subst e
                exact ka_89
              ·
                by_cases h8 : y ≤ 90
                ·
                  have e : y = 90 := by omega
                  subst e
                  exact ka_90
                ·
                  have e : y = 91 := by omega
                  subst e
                  exact ka_91
            ·
              by_cases h7 : y ≤ 92
              ·
                have e : y = 92 := by omega
                subst e
                exact ka_92
              ·
                by_cases h8 : y ≤ 93
                ·
                  have e : y = 93 := by omega
                  subst e
                  exact ka_93
                ·
                  have e : y = 94 := by omega
                  subst e
                  exact ka_94
  ·
    by_cases h2 : y ≤ 141
    ·
      by_cases h3 : y ≤ 117
      ·
        by_cases h4 : y ≤ 105
        ·
          by_cases h5 : y ≤ 99
          ·
            by_cases h6 : y ≤ 96
            ·
              by_cases h7 : y ≤ 95
              ·
                have e : y = 95 := by omega
                subst e
                exact ka_95
              ·
                have e : y = 96 := by omega
                subst e
                exact ka_96
            ·
              by_cases h7 : y ≤ 97
              ·
                have e : y = 97 := by omega
                subst e
                exact ka_97
              ·
                by_cases h8 : y ≤ 98
                ·
                  have e : y = 98 := by omega
                  subst e
                  exact ka_98
                ·
                  have e : y = 99 := by omega
                  subst e
                  exact ka_99
          ·
            by_cases h6 : y ≤ 102
            ·
              by_cases h7 : y ≤ 100
              ·
                have e : y = 100 := by omega
                subst e
                exact ka_100
              ·
                by_cases h8 : y ≤ 101
                ·
                  have e : y = 101 := by omega
                  subst e
                  exact ka_101
                ·
                  have e : y = 102 := by omega
                  subst e
                  exact ka_102
            ·
              by_cases h7 : y ≤ 103
              ·
                have e : y = 103 := by omega
                subst e
                exact ka_103
              ·
                by_cases h8 : y ≤ 104
                ·
                  have e : y = 104 := by omega
                  subst e
                  exact ka_104
                ·
                  have e : y = 105 := by omega
                  subst e
                  exact ka_105
        ·
          by_cases h5 : y ≤ 111
          ·
            by_cases h6 : y ≤ 108
            ·
              by_cases h7 : y ≤ 106
              ·
                have e : y = 106 := by omega
                subst e
                exact ka_106
              ·
                by_cases h8 : y ≤ 107
                ·
                  have e : y = 107 := by omega
                  subst e
                  exact ka_107
                ·
                  have e : y = 108 := by omega
                  subst e
                  exact ka_108
            ·
              by_cases h7 : y ≤ 109
              ·
                have e : y = 109 := by omega
                subst e
                exact ka_109
              ·
                by_cases h8 : y ≤ 110
                ·
                  have e : y = 110 := by omega
                  subst e
                  exact ka_110
                ·
                  have e : y = 111 := by omega
                  subst e
                  exact ka_111
          ·
            by_cases h6 : y ≤ 114
            ·
              by_cases h7 : y ≤ 112
              ·
                have e : y = 112 := by omega
                subst e
                exact ka_112
              ·
                by_cases h8 : y ≤ 113
                ·
                  have e : y = 113 := by omega
                  subst e
                  exact ka_113
                ·
                  have e : y = 114 := by omega
                  subst e
                  exact ka_114
            ·
              by_cases h7 : y ≤ 115
              ·
                have e : y = 115 := by omega
                subst e
                exact ka_115
              ·
                by_cases h8 : y ≤ 116
                ·
                  have e : y = 116 := by omega
                  subst e
                  exact ka_116
                ·
                  have e : y = 117 := by omega
                  subst e
                  exact ka_117
      ·
        by_cases h4 : y ≤ 129
        ·
          by_cases h5 : y ≤ 123
          ·
            by_cases h6 : y ≤ 120
            ·
              by_cases h7 : y ≤ 118
              ·
                have e : y = 118 := by omega
                subst e
                exact ka_118
              ·
                by_cases h8 : y ≤ 119
                ·
                  have e : y = 119 := by omega
                  subst e
                  exact ka_119
                ·
                  have e : y = 120 := by omega
                  subst e
                  exact ka_120
            ·
              by_cases h7 : y ≤ 121
              ·
                have e : y = 121 := by omega
                subst e
                exact ka_121
              ·
                by_cases h8 : y ≤ 122
                ·
                  have e : y = 122 := by omega
                  subst e
                  exact ka_122
                ·
                  have e : y = 123 := by omega
                  subst e
                  exact ka_123
          ·
            by_cases h6 : y ≤ 126
            ·
              by_cases h7 : y ≤ 124
              ·
                have e : y = 124 := by omega
                subst e
                exact ka_124
              ·
                by_cases h8 : y ≤ 125
                ·
                  have e : y = 125 := by omega
                  subst e
                  exact ka_125
                ·
                  have e : y = 126 := by omega
                  subst e
                  exact ka_126
            ·
              by_cases h7 : y ≤ 127
              ·
                have e : y = 127 := by omega
                subst e
                exact ka_127
              ·
                by_cases h8 : y ≤ 128
                ·
                  have e : y = 128 := by omega
                  subst e
                  exact ka_128
                ·
                  have e : y = 129 := by omega
                  subst e
                  exact ka_129
        ·
          by_cases h5 : y ≤ 135
          ·
            by_cases h6 : y ≤ 132
            ·
              by_cases h7 : y ≤ 130
              ·
                have e : y = 130 := by omega
                subst e
                exact ka_130
              ·
                by_cases h8 : y ≤ 131
                ·
                  have e : y = 131 := by omega
                  subst e
                  exact ka_131
                ·
                  have e : y = 132 := by omega
                  subst e
                  exact ka_132
            ·
              by_cases h7 : y ≤ 133
              ·
                have e : y = 133 := by omega
                subst e
                exact ka_133
              ·
                by_cases h8 : y ≤ 134
                ·
                  have e : y = 134 := by omega
                  subst e
                  exact ka_134
                ·
                  have e : y = 135 := by omega
                  subst e
                  exact ka_135
          ·
            by_cases h6 : y ≤ 138
            ·
              by_cases h7 : y ≤ 136
              ·
                have e : y = 136 := by omega
                subst e
                exact ka_136
              ·
                by_cases h8 : y ≤ 137
                ·
                  have e : y = 137 := by omega
                  subst e
                  exact ka_137
                ·
                  have e : y = 138 := by omega
                  subst e
                  exact ka_138
            ·
              by_cases h7 : y ≤ 139
              ·
                have e : y = 139 := by omega
                subst e
                exact ka_139
              ·
                by_cases h8 : y ≤ 140
                ·
                  have e : y = 140 := by omega
                  subst e
                  exact ka_140
                ·
                  have e : y = 141 := by omega
                  subst e
                  exact ka_141
    ·
      by_cases h3 : y ≤ 165
      ·
        by_cases h4 : y ≤ 153
        ·
          by_cases h5 : y ≤ 147
          ·
            by_cases h6 : y ≤ 144
            ·
              by_cases h7 : y ≤ 142
              ·
                have e : y = 142 := by omega
                subst e
                exact ka_142
              ·
                by_cases h8 : y ≤ 143
                ·
                  have e : y = 143 := by omega
                  subst e
                  exact ka_143
                ·
                  have e : y = 144 := by omega
                  subst e
                  exact ka_144
            ·
              by_cases h7 : y ≤ 145
              ·
                have e : y = 145 := by omega
                subst e
                exact ka_145
              ·
                by_cases h8 : y ≤ 146
                ·
                  have e : y = 146 := by omega
                  subst e
                  exact ka_146
                ·
                  have e : y = 147 := by omega
                  subst e
                  exact ka_147
          ·
            by_cases h6 : y ≤ 150
            ·
              by_cases h7 : y ≤ 148
              ·
                have e : y = 148 := by omega
                subst e
                exact ka_148
              ·
                by_cases h8 : y ≤ 149
                ·
                  have e : y = 149 := by omega
                  subst e
                  exact ka_149
                ·
                  have e : y = 150 := by omega
                  subst e
                  exact ka_150
            ·
              by_cases h7 : y ≤ 151
              ·
                have e : y = 151 := by omega
                subst e
                exact ka_151
              ·
                by_cases h8 : y ≤ 152
                ·
                  have e : y = 152 := by omega
                  subst e
                  exact ka_152
                ·
                  have e : y = 153 := by omega
                  subst e
                  exact ka_153
        ·
          by_cases h5 : y ≤ 159
          ·
            by_cases h6 : y ≤ 156
            ·
              by_cases h7 : y ≤ 154
              ·
                have e : y = 154 := by omega
                subst e
                exact ka_154
              ·
                by_cases h8 : y ≤ 155
                ·
                  have e : y = 155 := by omega
                  subst e
                  exact ka_155
                ·
                  have e : y = 156 := by omega
                  subst e
                  exact ka_156
            ·
              by_cases h7 : y ≤ 157
              ·
                have e : y = 157 := by omega
                subst e
                exact ka_157
              ·
                by_cases h8 : y ≤ 158
                ·
                  have e : y = 158 := by omega
                  subst e
                  exact ka_158
                ·
                  have e : y = 159 := by omega
                  subst e
                  exact ka_159
          ·
            by_cases h6 : y ≤ 162
            ·
              by_cases h7 : y ≤ 160
              ·
                have e : y = 160 := by omega
                subst e
                exact ka_160
              ·
                by_cases h8 : y ≤ 161
                ·
                  have e : y = 161 := by omega
                  subst e
                  exact ka_161
                ·
                  have e : y = 162 := by omega
                  subst e
                  exact ka_162
            ·
              by_cases h7 : y ≤ 163
              ·
                have e : y = 163 := by omega
                subst e
                exact ka_163
              ·
                by_cases h8 : y ≤ 164
                ·
                  have e : y = 164 := by omega
                  subst e
                  exact ka_164
                ·
                  have e : y = 165 := by omega
                  subst e
                  exact ka_165
      ·
        by_cases h4 : y ≤ 177
        ·
          by_cases h5 : y ≤ 171
          ·
            by_cases h6 : y ≤ 168
            ·
              by_cases h7 : y ≤ 166
              ·
                have e : y = 166 := by omega
                subst e
                exact ka_166
              ·
                by_cases h8 : y ≤ 167
                ·
                  have e : y = 167 := by omega
                  subst e
                  exact ka_167
                ·
                  have e : y = 168 := by omega
                  subst e
                  exact ka_168
            ·
              by_cases h7 : y ≤ 169
              ·
                have e : y = 169 := by omega
                subst e
                exact ka_169
              ·
                by_cases h8 : y ≤ 170
                ·
                  have e : y = 170 := by omega
                  subst e
                  exact ka_170
                ·
                  have e : y = 171 := by omega
                  subst e
                  exact ka_171
          ·
            by_cases h6 : y ≤ 174
            ·
              by_cases h7 : y ≤ 172
              ·
                have e : y = 172 := by omega
                subst e
                exact ka_172
              ·
                by_cases h8 : y ≤ 173
                ·
                  have e : y = 173 := by omega
                  subst e
                  exact ka_173
                ·
                  have e : y = 174 := by omega
                  subst e
                  exact ka_174
            ·
              by_cases h7 : y ≤ 175
              ·
                have e : y = 175 := by omega
                subst e
                exact ka_175
              ·
                by_cases h8 : y ≤ 176
                ·
                  have e : y = 176 := by omega
                  subst e
                  exact ka_176
                ·
                  have e : y = 177 := by omega
                  subst e
                  exact ka_177
        ·
          by_cases h5 : y ≤ 183
          ·
            by_cases h6 : y ≤ 180
            ·
              by_cases h7 : y ≤ 178
              ·
                have e : y = 178 := by omega
                subst e
                exact ka_178
              ·
                by_cases h8 : y ≤ 179
                ·
                  have e : y = 179 := by omega
                  subst e
                  exact ka_179
                ·
                  have e : y = 180 := by omega
                  subst e
                  exact ka_180
            ·
              by_cases h7 : y ≤ 181
              ·
                have e : y = 181 := by omega
                subst e
                exact ka_181
              ·
                by_cases h8 : y ≤ 182
                ·
                  have e : y = 182 := by omega
                  subst e
                  exact ka_182
                ·
                  have e : y = 183 := by omega
                  subst e
                  exact ka_183
          ·
            by_cases h6 : y ≤ 186
            ·
              by_cases h7 : y ≤ 184
              ·
                have e : y = 184 := by omega
                subst e
                exact ka_184
              ·
                by_cases h8 : y ≤ 185
                ·
                  have e : y = 185 := by omega
                  subst e
                  exact ka_185
                ·
                  have e : y = 186 := by omega
                  subst e
                  exact ka_186
            ·
              by_cases h7 : y ≤ 187
              ·
                have e : y = 187 := by omega
                subst e
                exact ka_187
              ·
                by_cases h8 : y ≤ 188
                ·
                  have e : y = 188 := by omega
                  subst e
                  exact ka_188
                ·
                  have e : y = 189 := by omega
                  subst e
                  exact ka_189

theorem kt_g0 : ∀ y : Nat, y ≤ 189 → kt_gr (kt_k y) := by
  intro y hy
  by_cases h1 : y ≤ 94
  ·
    by_cases h2 : y ≤ 46
    ·
      by_cases h3 : y ≤ 22
      ·
        by_cases h4 : y ≤ 10
        ·
          by_cases h5 : y ≤ 4
          ·
            by_cases h6 : y ≤ 1
            ·
              by_cases h7 : y ≤ 0
              ·
                have e : y = 0 := by omega
                subst e
                exact kg_0
              ·
                have e : y = 1 := by omega
                subst e
                exact kg_1
            ·
              by_cases h7 : y ≤ 2
              ·
                have e : y = 2 := by omega
                subst e
                exact kg_2
              ·
                by_cases h8 : y ≤ 3
                ·
                  have e : y = 3 := by omega
                  subst e
                  exact kg_3
                ·
                  have e : y = 4 := by omega
                  subst e
                  exact kg_4
          ·
            by_cases h6 : y ≤ 7
            ·
              by_cases h7 : y ≤ 5
              ·
                have e : y = 5 := by omega
                subst e
                exact kg_5
              ·
                by_cases h8 : y ≤ 6
                ·
                  have e : y = 6 := by omega
                  subst e
                  exact kg_6
                ·
                  have e : y = 7 := by omega
                  subst e
                  exact kg_7
            ·
              by_cases h7 : y ≤ 8
              ·
                have e : y = 8 := by omega
                subst e
                exact kg_8
              ·
                by_cases h8 : y ≤ 9
                ·
                  have e : y = 9 := by omega
                  subst e
                  exact kg_9
                ·
                  have e : y = 10 := by omega
                  subst e
                  exact kg_10
        ·
          by_cases h5 : y ≤ 16
          ·
            by_cases h6 : y ≤ 13
            ·
              by_cases h7 : y ≤ 11
              ·
                have e : y = 11 := by omega
                subst e
                exact kg_11
              ·
                by_cases h8 : y ≤ 12
                ·
                  have e : y = 12 := by omega
                  subst e
                  exact kg_12
                ·
                  have e : y = 13 := by omega
                  subst e
                  exact kg_13
            ·
              by_cases h7 : y ≤ 14
              ·
                have e : y = 14 := by omega
                subst e
                exact kg_14
              ·
                by_cases h8 : y ≤ 15
                ·
                  have e : y = 15 := by omega
                  subst e
                  exact kg_15
                ·
                  have e : y = 16 := by omega
                  subst e
                  exact kg_16
          ·
            by_cases h6 : y ≤ 19
            ·
              by_cases h7 : y ≤ 17
              ·
                have e : y = 17 := by omega
                subst e
                exact kg_17
              ·
                by_cases h8 : y ≤ 18
                ·
                  have e : y = 18 := by omega
                  subst e
                  exact kg_18
                ·
                  have e : y = 19 := by omega
                  subst e
                  exact kg_19
            ·
              by_cases h7 : y ≤ 20
              ·
                have e : y = 20 := by omega
                subst e
                exact kg_20
              ·
                by_cases h8 : y ≤ 21
                ·
                  have e : y = 21 := by omega
                  subst e
                  exact kg_21
                ·
                  have e : y = 22 := by omega
                  subst e
                  exact kg_22
      ·
        by_cases h4 : y ≤ 34
        ·
          by_cases h5 : y ≤ 28
          ·
            by_cases h6 : y ≤ 25
            ·
              by_cases h7 : y ≤ 23
              ·
                have e : y = 23 := by omega
                subst e
                exact kg_23
              ·
                by_cases h8 : y ≤ 24
                ·
                  have e : y = 24 := by omega
                  subst e
                  exact kg_24
                ·
                  have e : y = 25 := by omega
                  subst e
                  exact kg_25
            ·
              by_cases h7 : y ≤ 26
              ·
                have e : y = 26 := by omega
                subst e
                exact kg_26
              ·
                by_cases h8 : y ≤ 27
                ·
                  have e : y = 27 := by omega
                  subst e
                  exact kg_27
                ·
                  have e : y = 28 := by omega
                  subst e
                  exact kg_28
          ·
            by_cases h6 : y ≤ 31
            ·
              by_cases h7 : y ≤ 29
              ·
                have e : y = 29 := by omega
                subst e
                exact kg_29
              ·
                by_cases h8 : y ≤ 30
                ·
                  have e : y = 30 := by omega
                  subst e
                  exact kg_30
                ·
                  have e : y = 31 := by omega
                  subst e
                  exact kg_31
            ·
              by_cases h7 : y ≤ 32
              ·
                have e : y = 32 := by omega
                subst e
                exact kg_32
              ·
                by_cases h8 : y ≤ 33
                ·
                  have e : y = 33 := by omega
                  subst e
                  exact kg_33
                ·
                  have e : y = 34 := by omega
                  subst e
                  exact kg_34
        ·
          by_cases h5 : y ≤ 40
          ·
            by_cases h6 : y ≤ 37
            ·
              by_cases h7 : y ≤ 35
              ·
                have e : y = 35 := by omega
                subst e
                exact kg_35
              ·
                by_cases h8 : y ≤ 36
                ·
                  have e : y = 36 := by omega
                  subst e
                  exact kg_36
                ·
                  have e : y = 37 := by omega
                  subst e
                  exact kg_37
            ·
              by_cases h7 : y ≤ 38
              ·
                have e : y = 38 := by omega
                subst e
                exact kg_38
              ·
                by_cases h8 : y ≤ 39
                ·
                  have e : y = 39 := by omega
                  subst e
                  exact kg_39
                ·
                  have e : y = 40 := by omega
                  subst e
                  exact kg_40
          ·
            by_cases h6 : y ≤ 43
            ·
              by_cases h7 : y ≤ 41
              ·
                have e : y = 41 := by omega
                subst e
                exact kg_41
              ·
                by_cases h8 : y ≤ 42
                ·
                  have e : y = 42 := by omega
                  subst e
                  exact kg_42
                ·
                  have e : y = 43 := by omega
                  subst e
                  exact kg_43
            ·
              by_cases h7 : y ≤ 44
              ·
                have e : y = 44 := by omega
                subst e
                exact kg_44
              ·
                by_cases h8 : y ≤ 45
                ·
                  have e : y = 45 := by omega
                  subst e
                  exact kg_45
                ·
                  have e : y = 46 := by omega
                  subst e
                  exact kg_46
    ·
      by_cases h3 : y ≤ 70
      ·
        by_cases h4 : y ≤ 58
        ·
          by_cases h5 : y ≤ 52
          ·
            by_cases h6 : y ≤ 49
            ·
              by_cases h7 : y ≤ 47
              ·
                have e : y = 47 := by omega
                subst e
                exact kg_47
              ·
                by_cases h8 : y ≤ 48
                ·
                  have e : y = 48 := by omega
                  subst e
                  exact kg_48
                ·
                  have e : y = 49 := by omega
                  subst e
                  exact kg_49
            ·
              by_cases h7 : y ≤ 50
              ·
                have e : y = 50 := by omega
                subst e
                exact kg_50
              ·
                by_cases h8 : y ≤ 51
                ·
                  have e : y = 51 := by omega
                  subst e
                  exact kg_51
                ·
                  have e : y = 52 := by omega
                  subst e
                  exact kg_52
          ·
            by_cases h6 : y ≤ 55
            ·
              by_cases h7 : y ≤ 53
              ·
                have e : y = 53 := by omega
                subst e
                exact kg_53
              ·
                by_cases h8 : y ≤ 54
                ·
                  have e : y = 54 := by omega
                  subst e
                  exact kg_54
                ·
                  have e : y = 55 := by omega
                  subst e
                  exact kg_55
            ·
              by_cases h7 : y ≤ 56
              ·
                have e : y = 56 := by omega
                subst e
                exact kg_56
              ·
                by_cases h8 : y ≤ 57
                ·
                  have e : y = 57 := by omega
                  subst e
                  exact kg_57
                ·
                  have e : y = 58 := by omega
                  subst e
                  exact kg_58
        ·
          by_cases h5 : y ≤ 64
          ·
            by_cases h6 : y ≤ 61
            ·
              by_cases h7 : y ≤ 59
              ·
                have e : y = 59 := by omega
                subst e
                exact kg_59
              ·
                by_cases h8 : y ≤ 60
                ·
                  have e : y = 60 := by omega
                  subst e
                  exact kg_60
                ·
                  have e : y = 61 := by omega
                  subst e
                  exact kg_61
            ·
              by_cases h7 : y ≤ 62
              ·
                have e : y = 62 := by omega
                subst e
                exact kg_62
              ·
                by_cases h8 : y ≤ 63
                ·
                  have e : y = 63 := by omega
                  subst e
                  exact kg_63
                ·
                  have e : y = 64 := by omega
                  subst e
                  exact kg_64
          ·
            by_cases h6 : y ≤ 67
            ·
              by_cases h7 : y ≤ 65
              ·
                have e : y = 65 := by omega
                subst e
                exact kg_65
              ·
                by_cases h8 : y ≤ 66
                ·
                  have e : y = 66 := by omega
                  subst e
                  exact kg_66
                ·
                  have e : y = 67 := by omega
                  subst e
                  exact kg_67
            ·
              by_cases h7 : y ≤ 68
              ·
                have e : y = 68 := by omega
                subst e
                exact kg_68
              ·
                by_cases h8 : y ≤ 69
                ·
                  have e : y = 69 := by omega
                  subst e
                  exact kg_69
                ·
                  have e : y = 70 := by omega
                  subst e
                  exact kg_70
      ·
        by_cases h4 : y ≤ 82
        ·
          by_cases h5 : y ≤ 76
          ·
            by_cases h6 : y ≤ 73
            ·
              by_cases h7 : y ≤ 71
              ·
                have e : y = 71 := by omega
                subst e
                exact kg_71
              ·
                by_cases h8 : y ≤ 72
                ·
                  have e : y = 72 := by omega
                  subst e
                  exact kg_72
                ·
                  have e : y = 73 := by omega
                  subst e
                  exact kg_73
            ·
              by_cases h7 : y ≤ 74
              ·
                have e : y = 74 := by omega
                subst e
                exact kg_74
              ·
                by_cases h8 : y ≤ 75
                ·
                  have e : y = 75 := by omega
                  subst e
                  exact kg_75
                ·
                  have e : y = 76 := by omega
                  subst e
                  exact kg_76
          ·
            by_cases h6 : y ≤ 79
            ·
              by_cases h7 : y ≤ 77
              ·
                have e : y = 77 := by omega
                subst e
                exact kg_77
              ·
                by_cases h8 : y ≤ 78
                ·
                  have e : y = 78 := by omega
                  subst e
                  exact kg_78
                ·
                  have e : y = 79 := by omega
                  subst e
                  exact kg_79
            ·
              by_cases h7 : y ≤ 80
              ·
                have e : y = 80 := by omega
                subst e
                exact kg_80
              ·
                by_cases h8 : y ≤ 81
                ·
                  have e : y = 81 := by omega
                  subst e
                  exact kg_81
                ·
                  have e : y = 82 := by omega
                  subst e
                  exact kg_82
        ·
          by_cases h5 : y ≤ 88
          ·
            by_cases h6 : y ≤ 85
            ·
              by_cases h7 : y ≤ 83
              ·
                have e : y = 83 := by omega
                subst e
                exact kg_83
              ·
                by_cases h8 : y ≤ 84
                ·
                  have e : y = 84 := by omega
                  subst e
                  exact kg_84
                ·
                  have e : y = 85 := by omega
                  subst e
                  exact kg_85
            ·
              by_cases h7 : y ≤ 86
              ·
                have e : y = 86 := by omega
                subst e
                exact kg_86
              ·
                by_cases h8 : y ≤ 87
                ·
                  have e : y = 87 := by omega
                  subst e
                  exact kg_87
                ·
                  have e : y = 88 := by omega
                  subst e
                  exact kg_88
          ·
            by_cases h6 : y ≤ 91
            ·
              by_cases h7 : y ≤ 89
              ·
                have e : y = 89 := by omega
                subst e
                exact kg_89
              ·
                by_cases h8 : y ≤ 90
                ·
                  have e : y = 90 := by omega
                  subst e
                  exact kg_90
                ·
                  have e : y = 91 := by omega
                  subst e
                  exact kg_91
            ·
              by_cases h7 : y ≤ 92
              ·
                have e : y = 92 := by omega
                subst e
                exact kg_92
              ·
                by_cases h8 : y ≤ 93
                ·
                  have e : y = 93 := by omega
                  subst e
                  exact kg_93
                ·
                  have e : y = 94 := by omega
                  subst e
                  exact kg_94
  ·
    by_cases h2 : y ≤ 141
    ·
      by_cases h3 : y ≤ 117
      ·
        by_cases h4 : y ≤ 105
        ·
          by_cases h5 : y ≤ 99
          ·
            by_cases h6 : y ≤ 96
            ·
              by_cases h7 : y ≤ 95
              ·
                have e : y = 95 := by omega
                subst e
                exact kg_95
              ·
                have e : y = 96 := by omega
                subst e
                exact kg_96
            ·
              by_cases h7 : y ≤ 97
              ·
                have e : y = 97 := by omega
                subst e
                exact kg_97
              ·
                by_cases h8 : y ≤ 98
                ·
                  have e : y = 98 := by omega
                  subst e
                  exact kg_98
                ·
                  have e : y = 99 := by omega
                  subst e
                  exact kg_99
          ·
            by_cases h6 : y ≤ 102
            ·
              by_cases h7 : y ≤ 100
              ·
                have e : y = 100 := by omega
                subst e
                exact kg_100
              ·
                by_cases h8 : y ≤ 101
                ·
                  have e : y = 101 := by omega
                  subst e
                  exact kg_101
                ·
                  have e : y = 102 := by omega
                  subst e
                  exact kg_102
            ·
              by_cases h7 : y ≤ 103
              ·
                have e : y = 103 := by omega
                subst e
                exact kg_103
              ·
                by_cases h8 : y ≤ 104
                ·
                  have e : y = 104 := by omega
                  subst e
                  exact kg_104
                ·
                  have e : y = 105 := by omega
                  subst e
                  exact kg_105
        ·
          by_cases h5 : y ≤ 111
          ·
            by_cases h6 : y ≤ 108
            ·
              by_cases h7 : y ≤ 106
              ·
                have e : y = 106 := by omega
                subst e
                exact kg_106
              ·
                by_cases h8 : y ≤ 107
                ·
                  have e : y = 107 := by omega
                  subst e
                  exact kg_107
                ·
                  have e : y = 108 := by omega
                  subst e
                  exact kg_108
            ·
              by_cases h7 : y ≤ 109
              ·
                have e : y = 109 := by omega
                subst e
                exact kg_109
              ·
                by_cases h8 : y ≤ 110
                ·
                  have e : y = 110 := by omega
                  subst e
                  exact kg_110
                ·
                  have e : y = 111 := by omega
                  subst e
                  exact kg_111
          ·
            by_cases h6 : y ≤ 114
            ·
              by_cases h7 : y ≤ 112
              ·
                have e : y = 112 := by omega
                subst e
                exact kg_112
              ·
                by_cases h8 : y ≤ 113
                ·
                  have e : y = 113 := by omega
                  subst e
                  exact kg_113
                ·
                  have e : y = 114 := by omega
                  subst e
                  exact kg_114
            ·
              by_cases h7 : y ≤ 115
              ·
                have e : y = 115 := by omega
                subst e
                exact kg_115
              ·
                by_cases h8 : y ≤ 116
                ·
                  have e : y = 116 := by omega
                  subst e
                  exact kg_116
                ·
                  have e : y = 117 := by omega
                  subst e
                  exact kg_117
      ·
        by_cases h4 : y ≤ 129
        ·
          by_cases h5 : y ≤ 123
          ·
            by_cases h6 : y ≤ 120
            ·
              by_cases h7 : y ≤ 118
              ·
                have e : y = 118 := by omega
                subst e
                exact kg_118
              ·
                by_cases h8 : y ≤ 119
                ·
                  have e : y = 119 := by omega
                  subst e
                  exact kg_119
                ·
                  have e : y = 120 := by omega
                  subst e
                  exact kg_120
            ·
              by_cases h7 : y ≤ 121
              ·
                have e : y = 121 := by omega
                subst e
                exact kg_121
              ·
                by_cases h8 : y ≤ 122
                ·
                  have e : y = 122 := by omega
                  subst e
                  exact kg_122
                ·
                  have e : y = 123 := by omega
                  subst e
                  exact kg_123
          ·
            by_cases h6 : y ≤ 126
            ·
              by_cases h7 : y ≤ 124
              ·
                have e : y = 124 := by omega
                subst e
                exact kg_124
              ·
                by_cases h8 : y ≤ 125
                ·
                  have e : y = 125 := by omega
                  subst e
                  exact kg_125
                ·
                  have e : y = 126 := by omega
                  subst e
                  exact kg_126
            ·
              by_cases h7 : y ≤ 127
              ·
                have e : y = 127 := by omega
                subst e
                exact kg_127
              ·
                by_cases h8 : y ≤ 128
                ·
                  have e : y = 128 := by omega
                  subst e
                  exact kg_128
                ·
                  have e : y = 129 := by omega
                  subst e
                  exact kg_129
        ·
          by_cases h5 : y ≤ 135
          ·
            by_cases h6 : y ≤ 132
            ·
              by_cases h7 : y ≤ 130
              ·
                have e : y = 130 := by omega
                subst e
                exact kg_130
              ·
                by_cases h8 : y ≤ 131
                ·
                  have e : y = 131 := by omega
                  subst e
                  exact kg_131
                ·
                  have e : y = 132 := by omega
                  subst e
                  exact kg_132
            ·
              by_cases h7 : y ≤ 133
              ·
                have e : y = 133 := by omega
                subst e
                exact kg_133
              ·
                by_cases h8 : y ≤ 134
                ·
                  have e : y = 134 := by omega
                  subst e
                  exact kg_134
                ·
                  have e : y = 135 := by omega
                  subst e
                  exact kg_135
          ·
            by_cases h6 : y ≤ 138
            ·
              by_cases h7 : y ≤ 136
              ·
                have e : y = 136 := by omega
                subst e
                exact kg_136
              ·
                by_cases h8 : y ≤ 137
                ·
                  have e : y = 137 := by omega
                  subst e
                  exact kg_137
                ·
                  have e : y = 138 := by omega
                  subst e
                  exact kg_138
            ·
              by_cases h7 : y ≤ 139
              ·
                have e : y = 139 := by omega
                subst e
                exact kg_139
              ·
                by_cases h8 : y ≤ 140
                ·
                  have e : y = 140 := by omega
                  subst e
                  exact kg_140
                ·
                  have e : y = 141 := by omega
                  subst e
                  exact kg_141
    ·
      by_cases h3 : y ≤ 165
      ·
        by_cases h4 : y ≤ 153
        ·
          by_cases h5 : y ≤ 147
          ·
            by_cases h6 : y ≤ 144
            ·
              by_cases h7 : y ≤ 142
              ·
                have e : y = 142 := by omega
                subst e
                exact kg_142
              ·
                by_cases h8 : y ≤ 143
                ·
                  have e : y = 143 := by omega
                  subst e
                  exact kg_143
                ·
                  have e : y = 144 := by omega
                  subst e
                  exact kg_144
            ·
              by_cases h7 : y ≤ 145
              ·
                have e : y = 145 := by omega
                subst e
                exact kg_145
              ·
                by_cases h8 : y ≤ 146
                ·
                  have e : y = 146 := by omega
                  subst e
                  exact kg_146
                ·
                  have e : y = 147 := by omega
                  subst e
                  exact kg_147
          ·
            by_cases h6 : y ≤ 150
            ·
              by_cases h7 : y ≤ 148
              ·
                have e : y = 148 := by omega
                subst e
                exact kg_148
              ·
                by_cases h8 : y ≤ 149
                ·
                  have e : y = 149 := by omega
                  subst e
                  exact kg_149
                ·
                  have e : y = 150 := by omega
                  subst e
                  exact kg_150
            ·
              by_cases h7 : y ≤ 151
              ·
                have e : y = 151 := by omega
                subst e
                exact kg_151
              ·
                by_cases h8 : y ≤ 152
                ·
                  have e : y = 152 := by omega
                  subst e
                  exact kg_152
                ·
                  have e : y = 153 := by omega
                  subst e
                  exact kg_153
        ·
          by_cases h5 : y ≤ 159
          ·
            by_cases h6 : y ≤ 156
            ·
              by_cases h7 : y ≤ 154
              ·
                have e : y = 154 := by omega
                subst e
                exact kg_154
              ·
                by_cases h8 : y ≤ 155
                ·
                  have e : y = 155 := by omega
                  subst e
                  exact kg_155
                ·
                  have e : y = 156 := by omega
                  subst e
                  exact kg_156
            ·
              by_cases h7 : y ≤ 157
              ·
                have e : y = 157 := by omega
                subst e
                exact kg_157
              ·
                by_cases h8 : y ≤ 158
                ·
                  have e : y = 158 := by omega
                  subst e
                  exact kg_158
                ·
                  have e : y = 159 := by omega
                  subst e
                  exact kg_159
          ·
            by_cases h6 : y ≤ 162
            ·
              by_cases h7 : y ≤ 160
              ·
                have e : y = 160 := by omega
                subst e
                exact kg_160
              ·
                by_cases h8 : y ≤ 161
                ·
                  have e : y = 161 := by omega
                  subst e
                  exact kg_161
                ·
                  have e : y = 162 := by omega
                  subst e
                  exact kg_162
            ·
              by_cases h7 : y ≤ 163
              ·
                have e : y = 163 := by omega
                subst e
                exact kg_163
              ·
                by_cases h8 : y ≤ 164
                ·
                  have e : y = 164 := by omega
                  subst e
                  exact kg_164
                ·
                  have e : y = 165 := by omega
                  subst e
                  exact kg_165
      ·
        by_cases h4 : y ≤ 177
        ·
          by_cases h5 : y ≤ 171
          ·
            by_cases h6 : y ≤ 168
            ·
              by_cases h7 : y ≤ 166
              ·
                have e : y = 166 := by omega
                subst e
                exact kg_166
              ·
                by_cases h8 : y ≤ 167
                ·
                  have e : y = 167 := by omega
                  subst e
                  exact kg_167
                ·
                  have e : y = 168 := by omega
                  subst e
                  exact kg_168
            ·
              by_cases h7 : y ≤ 169
              ·
                have e : y = 169 := by omega
                subst e
                exact kg_169
              ·
                by_cases h8 : y ≤ 170
                ·
                  have e : y = 170 := by omega
                  subst e
                  exact kg_170
                ·
                  have e : y = 171 := by omega
                  subst e
                  exact kg_171
          ·
            by_cases h6 : y ≤ 174
            ·
              by_cases h7 : y ≤ 172
              ·
                have e : y = 172 := by omega
                subst e
                exact kg_172
              ·
                by_cases h8 : y ≤ 173
                ·
                  have e : y = 173 := by omega
                  subst e
                  exact kg_173
                ·
                  have e : y = 174 := by omega
                  subst e
                  exact kg_174
            ·
              by_cases h7 : y ≤ 175
              ·
                have e : y = 175 := by omega
                subst e
                exact kg_175
              ·
                by_cases h8 : y ≤ 176
                ·
                  have e : y = 176 := by omega
                  subst e
                  exact kg_176
                ·
                  have e : y = 177 := by omega
                  subst e
                  exact kg_177
        ·
          by_cases h5 : y ≤ 183
          ·
            by_cases h6 : y ≤ 180
            ·
              by_cases h7 : y ≤ 178
              ·
                have e : y = 178 := by omega
                subst e
                exact kg_178
              ·
                by_cases h8 : y ≤ 179
                ·
                  have e : y = 179 := by omega
                  subst e
                  exact kg_179
                ·
                  have e : y = 180 := by omega
                  subst e
                  exact kg_180
            ·
              by_cases h7 : y ≤ 181
              ·
                have e : y = 181 := by omega
                subst e
                exact kg_181
              ·
                by_cases h8 : y ≤ 182
                ·
                  have e : y = 182 := by omega
                  subst e
                  exact kg_182
                ·
                  have e : y = 183 := by omega
                  subst e
                  exact kg_183
          ·
            by_cases h6 : y ≤ 186
            ·
              by_cases h7 : y ≤ 184
              ·
                have e : y = 184 := by omega
                subst e
                exact kg_184
              ·
                by_cases h8 : y ≤ 185
                ·
                  have e : y = 185 := by omega
                  subst e
                  exact kg_185
                ·
                  have e : y = 186 := by omega
                  subst e
                  exact kg_186
            ·
              by_cases h7 : y ≤ 187
              ·
                have e : y = 187 := by omega
                subst e
                exact kg_187
              ·
                by_cases h8 : y ≤ 188
                ·
                  have e : y = 188 := by omega
                  subst e
                  exact kg_188
                ·
                  have e : y = 189 := by omega
                  subst e
                  exact kg_189

theorem kt_n0 : ∀ y : Nat, y ≤ 189 → plainName (kt_nm y).cls = true := by
  intro y hy
  by_cases h1 : y ≤ 94
  ·
    by_cases h2 : y ≤ 46
    ·
      by_cases h3 : y ≤ 22
      ·
        by_cases h4 : y ≤ 10
        ·
          by_cases h5 : y ≤ 4
          ·
            by_cases h6 : y ≤ 1
            ·
              by_cases h7 : y ≤ 0
              ·
                have e : y = 0 := by omega
                subst e
                decide
              ·
                have e : y = 1 := by omega
                subst e
                decide
            ·
              by_cases h7 : y ≤ 2
              ·
                have e : y = 2 := by omega
                subst e
                decide
              ·
                by_cases h8 : y ≤ 3
                ·
                  have e : y = 3 := by omega
                  subst e
                  decide
                ·
                  have e : y = 4 := by omega
                  subst e
                  decide
          ·
            by_cases h6 : y ≤ 7
            ·
              by_cases h7 : y ≤ 5
              ·
                have e : y = 5 := by omega
                subst e
                decide
              ·
                by_cases h8 : y ≤ 6
                ·
                  have e : y = 6 := by omega
                  subst e
                  decide
                ·
                  have e : y = 7 := by omega
                  subst e
                  decide
            ·
              by_cases h7 : y ≤ 8
              ·
                have e : y = 8 := by omega
                subst e
                decide
              ·
                by_cases h8 : y ≤ 9
                ·
                  have e : y = 9 := by omega
                  subst e
                  decide
                ·
                  have e : y = 10 := by omega
                  subst e
                  decide
        ·
          by_cases h5 : y ≤ 16
          ·
            by_cases h6 : y ≤ 13
            ·
              by_cases h7 : y ≤ 11
              ·
                have e : y = 11 := by omega
                subst e
                decide
              ·
                by_cases h8 : y ≤ 12
                ·
                  have e : y = 12 := by omega
                  subst e
                  decide
                ·
                  have e : y = 13 := by omega
                  subst e
                  decide
            ·
              by_cases h7 : y ≤ 14
              ·
                have e : y = 14 := by omega
                subst e
                decide
              ·
                by_cases h8 : y ≤ 15
                ·
                  have e : y = 15 := by omega
                  subst e
                  decide
                ·
                  have e : y = 16 := by omega
                  subst e
                  decide
          ·
            by_cases h6 : y ≤ 19
            ·
              by_cases h7 : y ≤ 17
              ·
                have e : y = 17 := by omega
                subst e
                decide
              ·
                by_cases h8 : y ≤ 18
                ·
                  have e : y = 18 := by omega
                  subst e
                  decide
                ·
                  have e : y = 19 := by omega
                  subst e
                  decide
            ·
              by_cases h7 : y ≤ 20
              ·
                have e : y = 20 := by omega
                subst e
                decide
              ·
                by_cases h8 : y ≤ 21
                ·
                  have e : y = 21 := by omega
                  subst e
                  decide
                ·
                  have e : y = 22 := by omega
                  subst e
                  decide
      ·
        by_cases h4 : y ≤ 34
        ·
          by_cases h5 : y ≤ 28
          ·
            by_cases h6 : y ≤ 25
            ·
              by_cases h7 : y ≤ 23
              ·
                have e : y = 23 := by omega
                subst e
                decide
              ·
                by_cases h8 : y ≤ 24
                ·
                  have e : y = 24 := by omega
                  subst e
                  decide
                ·
                  have e : y = 25 := by omega
                  subst e
                  decide
            ·
              by_cases h7 : y ≤ 26
              ·
                have e : y = 26 := by omega
                subst e
                decide
              ·
                by_cases h8 : y ≤ 27
                ·
                  have e : y = 27 := by omega
                  subst e
                  decide
                ·
                  have e : y = 28 := by omega
                  subst e
                  decide
          ·
            by_cases h6 : y ≤ 31
            ·
              by_cases h7 : y ≤ 29
              ·
                have e : y = 29 := by omega
                subst e
                decide
              ·
                by_cases h8 : y ≤ 30
                ·
                  have e : y = 30 := by omega
                  subst e
                  decide
                ·
                  have e : y = 31 := by omega
                  subst e
                  decide
            ·
              by_cases h7 : y ≤ 32
              ·
                have e : y = 32 := by omega
                subst e
                decide
              ·
                by_cases h8 : y ≤ 33
                ·
                  have e : y = 33 := by omega
                  subst e
                  decide
                ·
                  have e : y = 34 := by omega
                  subst e
                  decide
        ·
          by_cases h5 : y ≤ 40
          ·
            by_cases h6 : y ≤ 37
            ·
              by_cases h7 : y ≤ 35
              ·
                have e : y = 35 := by omega
                subst e
                decide
              ·
                by_cases h8 : y ≤ 36
                ·
                  have e : y = 36 := by omega
                  subst e
                  decide
                ·
                  have e : y = 37 := by omega
                  subst e
                  decide
            ·
              by_cases h7 : y ≤ 38
              ·
                have e : y = 38 := by omega
                subst e
                decide
              ·
                by_cases h8 : y ≤ 39
                ·
                  have e : y = 39 := by omega
                  subst e
                  decide
                ·
                  have e : y = 40 := by omega
                  subst e
                  decide
          ·
            by_cases h6 : y ≤ 43
            ·
              by_cases h7 : y ≤ 41
              ·
                have e : y = 41 := by omega
                subst e
                decide
              ·
                by_cases h8 : y ≤ 42
                ·
                  have e : y = 42 := by omega
                  subst e
                  decide
                ·
                  have e : y = 43 := by omega
                  subst e
                  decide
            ·
              by_cases h7 : y ≤ 44
              ·
                have e : y = 44 := by omega
                subst e
                decide
              ·
                by_cases h8 : y ≤ 45
                ·
                  have e : y = 45 := by omega
                  subst e
                  decide
                ·
                  have e : y = 46 := by omega
                  subst e
                  decide
    ·
      by_cases h3 : y ≤ 70
      ·
        by_cases h4 : y ≤ 58
        ·
          by_cases h5 : y ≤ 52
          ·
            by_cases h6 : y ≤ 49
            ·
              by_cases h7 : y ≤ 47
              ·
                have e : y = 47 := by omega
                subst e
                decide
              ·
                by_cases h8 : y ≤ 48
                ·
                  have e : y = 48 := by omega
                  subst e
                  decide
                ·
                  have e : y = 49 := by omega
                  subst e
                  decide
            ·
              by_cases h7 : y ≤ 50
              ·
                have e : y = 50 := by omega
                subst e
                decide
              ·
                by_cases h8 : y ≤ 51
                ·
                  have e : y = 51 := by omega
                  subst e
                  decide
                ·
                  have e : y = 52 := by omega
                  subst e
                  decide
          ·
            by_cases h6 : y ≤ 55
            ·
              by_cases h7 : y ≤ 53
              ·
                have e : y = 53 := by omega
                subst e
                decide
              ·
                by_cases h8 : y ≤ 54
                ·
                  have e : y = 54 := by omega
                  subst e
                  decide
                ·
                  have e : y = 55 := by omega
                  subst e
                  decide
            ·
              by_cases h7 : y ≤ 56
              ·
                have e : y = 56 := by omega
                subst e
                decide
              ·
                by_cases h8 : y ≤ 57
                ·
                  have e : y = 57 := by omega
                  subst e
                  decide
                ·
                  have e : y = 58 := by omega
                  subst e
                  decide
        ·
          by_cases h5 : y ≤ 64
          ·
            by_cases h6 : y ≤ 61
            ·
              by_cases h7 : y ≤ 59
              ·
                have e : y = 59 := by omega
                subst e
                decide
              ·
                by_cases h8 : y ≤ 60
                ·
                  have e : y = 60 := by omega
                  subst e
                  decide
                ·
                  have e : y = 61 := by omega
                  subst e
                  decide
            ·
              by_cases h7 : y ≤ 62
              ·
                have e : y = 62 := by omega
                subst e
                decide
              ·
                by_cases h8 : y ≤ 63
                ·
                  have e : y = 63 := by omega
                  subst e
                  decide
                ·
                  have e : y = 64 := by omega
                  subst e
                  decide
          ·
            by_cases h6 : y ≤ 67
            ·
              by_cases h7 : y ≤ 65
              ·
                have e : y = 65 := by omega
                subst e
                decide
              ·
                by_cases h8 : y ≤ 66
                ·
                  have e : y = 66 := by omega
                  subst e
                  decide
                ·
                  have e : y = 67 := by omega
                  subst e
                  decide
            ·
              by_cases h7 : y ≤ 68
              ·
                have e : y = 68 := by omega
                subst e
                decide
              ·
                by_cases h8 : y ≤ 69
                ·
                  have e : y = 69 := by omega
                  subst e
                  decide
                ·
                  have e : y = 70 := by omega
                  subst e
                  decide
      ·
        by_cases h4 : y ≤ 82
        ·
          by_cases h5 : y ≤ 76
          ·
            by_cases h6 : y ≤ 73
            ·
              by_cases h7 : y ≤ 71
              ·
                have e : y = 71 := by omega
                subst e
                decide
              ·
                by_cases h8 : y ≤ 72
                ·
                  have e : y = 72 := by omega
                  subst e
                  decide
                ·
                  have e : y = 73 := by omega
                  subst e
                  decide
            ·
              by_cases h7 : y ≤ 74
              ·
                have e : y = 74 := by omega
                subst e
                decide
              ·
                by_cases h8 : y ≤ 75
                ·
                  have e : y = 75 := by omega
                  subst e
                  decide
                ·
                  have e : y = 76 := by omega
                  subst e
                  decide
          ·
            by_cases h6 : y ≤ 79
            ·
              by_cases h7 : y ≤ 77
              ·
                have e : y = 77 := by omega
                subst e
                decide
              ·
                by_cases h8 : y ≤ 78
                ·
                  have e : y = 78 := by omega
                  subst e
                  decide
                ·
                  have e : y = 79 := by omega
                  subst e
                  decide
            ·
              by_cases h7 : y ≤ 80
              ·
                have e : y = 80 := by omega
                subst e
                decide
              ·
                by_cases h8 : y ≤ 81
                ·
                  have e : y = 81 := by omega
                  subst e
                  decide
                ·
                  have e : y = 82 := by omega
                  subst e
                  decide
        ·
          by_cases h5 : y ≤ 88
          ·
            by_cases h6 : y ≤ 85
            ·
              by_cases h7 : y ≤ 83
              ·
                have e : y = 83 := by omega
                subst e
                decide
              ·
                by_cases h8 : y ≤ 84
                ·
                  have e : y = 84 := by omega
                  subst e
                  decide
                ·
                  have e : y = 85 := by omega
                  subst e
                  decide
            ·
              by_cases h7 : y ≤ 86
              ·
                have e : y = 86 := by omega
                subst e
                decide
              ·
                by_cases h8 : y ≤ 87
                ·
                  have e : y = 87 := by omega
                  subst e
                  decide
                ·
                  have e : y = 88 := by omega
                  subst e
                  decide
          ·
            by_cases h6 : y ≤ 91
            ·
              by_cases h7 : y ≤ 89
              ·
                have e : y = 89 := by omega
                subst e
                decide
              ·
                by_cases h8 : y ≤ 90
                ·
                  have e : y = 90 := by omega
                  subst e
                  decide
                ·
                  have e : y = 91 := by omega
                  subst e
                  decide
            ·
              by_cases h7 : y ≤ 92
              ·
                have e : y = 92 := by omega
                subst e
                decide
              ·
                by_cases h8 : y ≤ 93
                ·
                  have e : y = 93 := by omega
                  subst e
                  decide
                ·
                  have e : y = 94 := by omega
                  subst e
                  decide
  ·
    by_cases h2 : y ≤ 141
    ·
      by_cases h3 : y ≤ 117
      ·
        by_cases h4 : y ≤ 105
        ·
          by_cases h5 : y ≤ 99
          ·
            by_cases h6 : y ≤ 96
            ·
              by_cases h7 : y ≤ 95
              ·
                have e : y = 95 := by omega
                subst e
                decide
              ·
                have e : y = 96 := by omega
                subst e
                decide
            ·
              by_cases h7 : y ≤ 97
              ·
                have e : y = 97 := by omega
                subst e
                decide
              ·
                by_cases h8 : y ≤ 98
                ·
                  have e : y = 98 := by omega
                  subst e
                  decide
                ·
                  have e : y = 99 := by omega
                  subst e
                  decide
          ·
            by_cases h6 : y ≤ 102
            ·
              by_cases h7 : y ≤ 100
              ·
                have e : y = 100 := by omega
                subst e
                decide
              ·
                by_cases h8 : y ≤ 101
                ·
                  have e : y = 101 := by omega
                  subst e
                  decide
                ·
                  have e : y = 102 := by omega
                  subst e
                  decide
            ·
              by_cases h7 : y ≤ 103
              ·
                have e : y = 103 := by omega
                subst e
                decide
              ·
                by_cases h8 : y ≤ 104
                ·
                  have e : y = 104 := by omega
                  subst e
                  decide
                ·
                  have e : y = 105 := by omega
                  subst e
                  decide
        ·
          by_cases h5 : y ≤ 111
          ·
            by_cases h6 : y ≤ 108
            ·
              by_cases h7 : y ≤ 106
              ·
                have e : y = 106 := by omega
                subst e
                decide
              ·
                by_cases h8 : y ≤ 107
                ·
                  have e : y = 107 := by omega
                  subst e
                  decide
                ·
                  have e : y = 108 := by omega
                  subst e
                  decide
            ·
              by_cases h7 : y ≤ 109
              ·
                have e : y = 109 := by omega
                subst e
                decide
              ·
                by_cases h8 : y ≤ 110
                ·
                  have e : y = 110 := by omega
                  subst e
                  decide
                ·
                  have e : y = 111 := by omega
                  subst e
                  decide
          ·
            by_cases h6 : y ≤ 114
            ·
              by_cases h7 : y ≤ 112
              ·
                have e : y = 112 := by omega
                subst e
                decide
              ·
                by_cases h8 : y ≤ 113
                ·
                  have e : y = 113 := by omega
                  subst e
                  decide
                ·
                  have e : y = 114 := by omega
                  subst e
                  decide
            ·
              by_cases h7 : y ≤ 115
              ·
                have e : y = 115 := by omega
                subst e
                decide
              ·
                by_cases h8 : y ≤ 116
                ·
                  have e : y = 116 := by omega
                  subst e
                  decide
                ·
                  have e : y = 117 := by omega
                  subst e
                  decide
      ·
        by_cases h4 : y ≤ 129
        ·
          by_cases h5 : y ≤ 123
          ·
            by_cases h6 : y ≤ 120
            ·
              by_cases h7 : y ≤ 118
              ·
                have e : y = 118 := by omega
                subst e
                decide
              ·
                by_cases h8 : y ≤ 119
                ·
                  have e : y = 119 := by omega
                  subst e
                  decide
                ·
                  have e : y = 120 := by omega
                  subst e
                  decide
            ·
              by_cases h7 : y ≤ 121
              ·
                have e : y = 121 := by omega
                subst e
                decide
              ·
                by_cases h8 : y ≤ 122
                ·
                  have e : y = 122 := by omega
                  subst e
                  decide
                ·
                  have e : y = 123 := by omega
                  subst e
                  decide
          ·
            by_cases h6 : y ≤ 126
            ·
              by_cases h7 : y ≤ 124
              ·
                have e : y = 124 := by omega
                subst e
                decide
              ·
                by_cases h8 : y ≤ 125
                ·
                  have e : y = 125 := by omega
                  subst e
                  decide
                ·
                  have e : y = 126 := by omega
                  subst e
                  decide
            ·
              by_cases h7 : y ≤ 127
              ·
                have e : y = 127 := by omega
                subst e
                decide
              ·
                by_cases h8 : y ≤ 128
                ·
                  have e : y = 128 := by omega
                  subst e
                  decide
                ·
                  have e : y = 129 := by omega
                  subst e
                  decide
        ·
          by_cases h5 : y ≤ 135
          ·
            by_cases h6 : y ≤ 132
            ·
              by_cases h7 : y ≤ 130
              ·
                have e : y = 130 := by omega
                subst e
                decide
              ·
                by_cases h8 : y ≤ 131
                ·
                  have e : y = 131 := by omega
                  subst e
                  decide
                ·
                  have e : y = 132 := by omega
                  subst e
                  decide
            ·
              by_cases h7 : y ≤ 133
              ·
                have e : y = 133 := by omega
                subst e
                decide
              ·
                by_cases h8 : y ≤ 134
                ·
                  have e : y = 134 := by omega
                  subst e
                  decide
                ·
                  have e : y = 135 := by omega
                  subst e
                  decide
          ·
            by_cases h6 : y ≤ 138
            ·
              by_cases h7 : y ≤ 136
              ·
                have e : y = 136 := by omega
                subst e
                decide
              ·
                by_cases h8 : y ≤ 137
                ·
                  have e : y = 137 := by omega
                  subst e
                  decide
                ·
                  have e : y = 138 := by omega
                  subst e
                  decide
            ·
              by_cases h7 : y ≤ 139
              ·
                have e : y = 139 := by omega
                subst e
                decide
              ·
                by_cases h8 : y ≤ 140
                ·
                  have e : y = 140 := by omega
                  subst e
                  decide
                ·
                  have e : y = 141 := by omega
                  subst e
                  decide
    ·
      by_cases h3 : y ≤ 165
      ·
        by_cases h4 : y ≤ 153
        ·
          by_cases h5 : y ≤ 147
          ·
            by_cases h6 : y ≤ 144
            ·
              by_cases h7 : y ≤ 142
              ·
                have e : y = 142 := by omega
                subst e
                decide
              ·
                by_cases h8 : y ≤ 143
                ·
                  have e : y = 143 := by omega
                  subst e
                  decide
                ·
                  have e : y = 144 := by omega
                  subst e
                  decide
            ·
              by_cases h7 : y ≤ 145
              ·
                have e : y = 145 := by omega
                subst e
                decide
              ·
                by_cases h8 : y ≤ 146
                ·
                  have e : y = 146 := by omega
                  subst e
                  decide
                ·
                  have e : y = 147 := by omega
                  subst e
                  decide
          ·
            by_cases h6 : y ≤ 150
            ·
              by_cases h7 : y ≤ 148
              ·
                have e : y = 148 := by omega
                subst e
                decide
              ·
                by_cases h8 : y ≤ 149
                ·
                  have e : y = 149 := by omega
                  subst e
                  decide
                ·
                  have e : y = 150 := by omega
                  subst e
                  decide
            ·
              by_cases h7 : y ≤ 151
              ·
                have e : y = 151 := by omega
                subst e
                decide
              ·
                by_cases h8 : y ≤ 152
                ·
                  have e : y = 152 := by omega
                  subst e
                  decide
                ·
                  have e : y = 153 := by omega
                  subst e
                  decide
        ·
          by_cases h5 : y ≤ 159
          ·
            by_cases h6 : y ≤ 156
            ·
              by_cases h7 : y ≤ 154
              ·
                have e : y = 154 := by omega
                subst e
                decide
              ·
                by_cases h8 : y ≤ 155
                ·
                  have e : y = 155 := by omega
                  subst e
                  decide
                ·
                  have e : y = 156 := by omega
                  subst e
                  decide
            ·
              by_cases h7 : y ≤ 157
              ·
                have e : y = 157 := by omega
                subst e
                decide
              ·
                by_cases h8 : y ≤ 158
                ·
                  have e : y = 158 := by omega
                  subst e
                  decide
                ·
                  have e : y = 159 := by omega
                  subst e
                  decide
          ·
            by_cases h6 : y ≤ 162
            ·
              by_cases h7 : y ≤ 160
              ·
                have e : y = 160 := by omega
                subst e
                decide
              ·
                by_cases h8 : y ≤ 161
                ·
                  have e : y = 161 := by omega
                  subst e
                  decide
                ·
                  have e : y = 162 := by omega
                  subst e
                  decide
            ·
              by_cases h7 : y ≤ 163
              ·
                have e : y = 163 := by omega
                subst e
                decide
              ·
                by_cases h8 : y ≤ 164
                ·
                  have e : y = 164 := by omega
                  subst e
                  decide
                ·
                  have e : y = 165 := by omega
                  subst e
                  decide
      ·
        by_cases h4 : y ≤ 177
        ·
          by_cases h5 : y ≤ 171
          ·
            by_cases h6 : y ≤ 168
            ·
              by_cases h7 : y ≤ 166
              ·
                have e : y = 166 := by omega
                subst e
                decide
              ·
                by_cases h8 : y ≤ 167
                ·
                  have e : y = 167 := by omega
                  subst e
                  decide
                ·
                  have e : y = 168 := by omega
                  subst e
                  decide
            ·
              by_cases h7 : y ≤ 169
              ·
                have e : y = 169 := by omega
                subst e
                decide
              ·
                by_cases h8 : y ≤ 170
                ·
                  have e : y = 170 := by omega
                  subst e
                  decide
                ·
                  have e : y = 171 := by omega
                  subst e
                  decide
          ·
            by_cases h6 : y ≤ 174
            ·
              by_cases h7 : y ≤ 172
              ·
                have e : y = 172 := by omega
                subst e
                decide
              ·
                by_cases h8 : y ≤ 173
                ·
                  have e : y = 173 := by omega
                  subst e
                  decide
                ·
                  have e : y = 174 := by omega
                  subst e
                  decide
            ·
              by_cases h7 : y ≤ 175
              ·
                have e : y = 175 := by omega
                subst e
                decide
              ·
                by_cases h8 : y ≤ 176
                ·
                  have e : y = 176 := by omega
                  subst e
                  decide
                ·
                  have e : y = 177 := by omega
                  subst e
                  decide
        ·
          by_cases h5 : y ≤ 183
          ·
            by_cases h6 : y ≤ 180
            ·
              by_cases h7 : y ≤ 178
              ·
                have e : y = 178 := by omega
                subst e
                decide
              ·
                by_cases h8 : y ≤ 179
                ·
                  have e : y = 179 := by omega
                  subst e
                  decide
                ·
                  have e : y = 180 := by omega
                  subst e
                  decide
            ·
              by_cases h7 : y ≤ 181
              ·
                have e : y = 181 := by omega
                subst e
                decide
              ·
                by_cases h8 : y ≤ 182
                ·
                  have e : y = 182 := by omega
                  subst e
                  decide
                ·
                  have e : y = 183 := by omega
                  subst e
                  decide
          ·
            by_cases h6 : y ≤ 186
            ·
              by_cases h7 : y ≤ 184
              ·
                have e : y = 184 := by omega
                subst e
                decide
              ·
                by_cases h8 : y ≤ 185
                ·
                  have e : y = 185 := by omega
                  subst e
                  decide
                ·
                  have e : y = 186 := by omega
                  subst e
                  decide
            ·
              by_cases h7 : y ≤ 187
              ·
                have e : y = 187 := by omega
                subst e
                decide
              ·
                by_cases h8 : y ≤ 188
                ·
                  have e : y = 188 := by omega
                  subst e
                  decide
                ·
                  have e : y = 189 := by omega
                  subst e
                  decide

theorem kt_allA : kt_A := by
  intro y pc
  by_cases h : y ≤ 189
  · exact kt_a0 y h pc
  · obtain ⟨e1, e2, e3, e4, e5, e6, e7⟩ := kt_big (y := y) (by omega)
    rw [e1, e2, e3, e4, e5, e6, e7]
    exact kt_a0 189 (Nat.le_refl _) pc
theorem kt_allG : ∀ y, kt_gr (kt_k y) := by
  intro y
  by_cases h : y ≤ 189
  · exact kt_g0 y h
  · rw [(kt_big (y := y) (by omega)).1]
    exact kt_g0 189 (Nat.le_refl _)
theorem kt_allN : kt_N := by
  intro y
  by_cases h : y ≤ 189
  · exact kt_n0 y h
  · rw [(kt_big (y := y) (by omega)).2.1]
    exact kt_n0 189 (Nat.le_refl _)
