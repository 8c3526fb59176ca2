theorem ok_m0 : ((List.range 20).drop 0).all mm_mth = true := by decide +kernel
theorem ok_m1 : ((List.range 40).drop 20).all mm_mth = true := by decide +kernel
theorem ok_m2 : ((List.range 60).drop 40).all mm_mth = true := by decide +kernel
theorem ok_m3 : ((List.range 80).drop 60).all mm_mth = true := by decide +kernel
theorem ok_m4 : ((List.range 100).drop 80).all mm_mth = true := by decide +kernel
theorem ok_m5 : ((List.range 120).drop 100).all mm_mth = true := by decide +kernel
theorem ok_m6 : ((List.range 140).drop 120).all mm_mth = true := by decide +kernel
theorem ok_m7 : ((List.range 160).drop 140).all mm_mth = true := by decide +kernel
theorem ok_m8 : ((List.range 180).drop 160).all mm_mth = true := by decide +kernel
theorem ok_m9 : ((List.range 200).drop 180).all mm_mth = true := by decide +kernel
theorem ok_m10 : ((List.range 211).drop 200).all mm_mth = true := by decide +kernel
theorem ok_X0_init_0 : q_X0_init_0.all (mm_ok 0) = true := by decide +kernel
theorem ok_X0_init_1 : q_X0_init_1.all (mm_ok 0) = true := by decide +kernel
theorem ok_X0_init : ∀ c ∈ q_X0_init, c.all (mm_ok 0) = true := by
  intro c hc
  simp only [q_X0_init, List.mem_cons, List.not_mem_nil, or_false] at hc
  rcases hc with rfl | rfl
  · exact ok_X0_init_0
  · exact ok_X0_init_1
theorem ok_X0_seat_0 : q_X0_seat_0.all (mm_ok 1) = true := by decide +kernel
theorem ok_X0_seat_1 : q_X0_seat_1.all (mm_ok 1) = true := by decide +kernel
theorem ok_X0_seat_2 : q_X0_seat_2.all (mm_ok 1) = true := by decide +kernel
theorem ok_X0_seat_3 : q_X0_seat_3.all (mm_ok 1) = true := by decide +kernel
theorem ok_X0_seat : ∀ c ∈ q_X0_seat, c.all (mm_ok 1) = true := by
  intro c hc
  simp only [q_X0_seat, List.mem_cons, List.not_mem_nil, or_false] at hc
  rcases hc with rfl | rfl | rfl | rfl
  · exact ok_X0_seat_0
  · exact ok_X0_seat_1
  · exact ok_X0_seat_2
  · exact ok_X0_seat_3
theorem ok_X0_forgetCitation_0 : q_X0_forgetCitation_0.all (mm_ok 2) = true := by decide +kernel
theorem ok_X0_forgetCitation_1 : q_X0_forgetCitation_1.all (mm_ok 2) = true := by decide +kernel
theorem ok_X0_forgetCitation : ∀ c ∈ q_X0_forgetCitation, c.all (mm_ok 2) = true := by
  intro c hc
  simp only [q_X0_forgetCitation, List.mem_cons, List.not_mem_nil, or_false] at hc
  rcases hc with rfl | rfl
  · exact ok_X0_forgetCitation_0
  · exact ok_X0_forgetCitation_1
theorem ok_X0_fileAgainst_0 : q_X0_fileAgainst_0.all (mm_ok 3) = true := by decide +kernel
theorem ok_X0_fileAgainst_1 : q_X0_fileAgainst_1.all (mm_ok 3) = true := by decide +kernel
theorem ok_X0_fileAgainst : ∀ c ∈ q_X0_fileAgainst, c.all (mm_ok 3) = true := by
  intro c hc
  simp only [q_X0_fileAgainst, List.mem_cons, List.not_mem_nil, or_false] at hc
  rcases hc with rfl | rfl
  · exact ok_X0_fileAgainst_0
  · exact ok_X0_fileAgainst_1
theorem ok_X0_isMovedByOneMore_0 : q_X0_isMovedByOneMore_0.all (mm_ok 4) = true := by decide +kernel
theorem ok_X0_isMovedByOneMore : ∀ c ∈ q_X0_isMovedByOneMore, c.all (mm_ok 4) = true := by
  intro c hc
  simp only [q_X0_isMovedByOneMore, List.mem_cons, List.not_mem_nil, or_false] at hc
  subst hc
  · exact ok_X0_isMovedByOneMore_0
theorem ok_X0_isToStand_0 : q_X0_isToStand_0.all (mm_ok 5) = true := by decide +kernel
theorem ok_X0_isToStand_1 : q_X0_isToStand_1.all (mm_ok 5) = true := by decide +kernel
theorem ok_X0_isToStand_2 : q_X0_isToStand_2.all (mm_ok 5) = true := by decide +kernel
theorem ok_X0_isToStand : ∀ c ∈ q_X0_isToStand, c.all (mm_ok 5) = true := by
  intro c hc
  simp only [q_X0_isToStand, List.mem_cons, List.not_mem_nil, or_false] at hc
  rcases hc with rfl | rfl | rfl
  · exact ok_X0_isToStand_0
  · exact ok_X0_isToStand_1
  · exact ok_X0_isToStand_2
theorem ok_X0_clash_0 : q_X0_clash_0.all (mm_ok 6) = true := by decide +kernel
theorem ok_X0_clash : ∀ c ∈ q_X0_clash, c.all (mm_ok 6) = true := by
  intro c hc
  simp only [q_X0_clash, List.mem_cons, List.not_mem_nil, or_false] at hc
  subst hc
  · exact ok_X0_clash_0
theorem ok_X0_mattersTo_0 : q_X0_mattersTo_0.all (mm_ok 7) = true := by decide +kernel
theorem ok_X0_mattersTo_1 : q_X0_mattersTo_1.all (mm_ok 7) = true := by decide +kernel
theorem ok_X0_mattersTo : ∀ c ∈ q_X0_mattersTo, c.all (mm_ok 7) = true := by
  intro c hc
  simp only [q_X0_mattersTo, List.mem_cons, List.not_mem_nil, or_false] at hc
  rcases hc with rfl | rfl
  · exact ok_X0_mattersTo_0
  · exact ok_X0_mattersTo_1
theorem ok_X1_init_0 : q_X1_init_0.all (mm_ok 8) = true := by decide +kernel
theorem ok_X1_init : ∀ c ∈ q_X1_init, c.all (mm_ok 8) = true := by
  intro c hc
  simp only [q_X1_init, List.mem_cons, List.not_mem_nil, or_false] at hc
  subst hc
  · exact ok_X1_init_0
theorem ok_X1_has_0 : q_X1_has_0.all (mm_ok 9) = true := by decide +kernel
theorem ok_X1_has : ∀ c ∈ q_X1_has, c.all (mm_ok 9) = true := by
  intro c hc
  simp only [q_X1_has, List.mem_cons, List.not_mem_nil, or_false] at hc
  subst hc
  · exact ok_X1_has_0
theorem ok_X1_everyRuling_0 : q_X1_everyRuling_0.all (mm_ok 10) = true := by decide +kernel
theorem ok_X1_everyRuling : ∀ c ∈ q_X1_everyRuling, c.all (mm_ok 10) = true := by
  intro c hc
  simp only [q_X1_everyRuling, List.mem_cons, List.not_mem_nil, or_false] at hc
  subst hc
  · exact ok_X1_everyRuling_0
theorem ok_X1_canBeCited_0 : q_X1_canBeCited_0.all (mm_ok 11) = true := by decide +kernel
theorem ok_X1_canBeCited : ∀ c ∈ q_X1_canBeCited, c.all (mm_ok 11) = true := by
  intro c hc
  simp only [q_X1_canBeCited, List.mem_cons, List.not_mem_nil, or_false] at hc
  subst hc
  · exact ok_X1_canBeCited_0
theorem ok_X1_citable_0 : q_X1_citable_0.all (mm_ok 12) = true := by decide +kernel
theorem ok_X1_citable : ∀ c ∈ q_X1_citable, c.all (mm_ok 12) = true := by
  intro c hc
  simp only [q_X1_citable, List.mem_cons, List.not_mem_nil, or_false] at hc
  subst hc
  · exact ok_X1_citable_0
theorem ok_X1_add_0 : q_X1_add_0.all (mm_ok 13) = true := by decide +kernel
theorem ok_X1_add_1 : q_X1_add_1.all (mm_ok 13) = true := by decide +kernel
theorem ok_X1_add : ∀ c ∈ q_X1_add, c.all (mm_ok 13) = true := by
  intro c hc
  simp only [q_X1_add, List.mem_cons, List.not_mem_nil, or_false] at hc
  rcases hc with rfl | rfl
  · exact ok_X1_add_0
  · exact ok_X1_add_1
theorem ok_X1_cutTo_0 : q_X1_cutTo_0.all (mm_ok 14) = true := by decide +kernel
theorem ok_X1_cutTo : ∀ c ∈ q_X1_cutTo, c.all (mm_ok 14) = true := by
  intro c hc
  simp only [q_X1_cutTo, List.mem_cons, List.not_mem_nil, or_false] at hc
  subst hc
  · exact ok_X1_cutTo_0
theorem ok_X1_become_0 : q_X1_become_0.all (mm_ok 15) = true := by decide +kernel
theorem ok_X1_become_1 : q_X1_become_1.all (mm_ok 15) = true := by decide +kernel
theorem ok_X1_become : ∀ c ∈ q_X1_become, c.all (mm_ok 15) = true := by
  intro c hc
  simp only [q_X1_become, List.mem_cons, List.not_mem_nil, or_false] at hc
  rcases hc with rfl | rfl
  · exact ok_X1_become_0
  · exact ok_X1_become_1
theorem ok_X1_detail_0 : q_X1_detail_0.all (mm_ok 16) = true := by decide +kernel
theorem ok_X1_detail_1 : q_X1_detail_1.all (mm_ok 16) = true := by decide +kernel
theorem ok_X1_detail : ∀ c ∈ q_X1_detail, c.all (mm_ok 16) = true := by
  intro c hc
  simp only [q_X1_detail, List.mem_cons, List.not_mem_nil, or_false] at hc
  rcases hc with rfl | rfl
  · exact ok_X1_detail_0
  · exact ok_X1_detail_1
theorem ok_X1_citations_0 : q_X1_citations_0.all (mm_ok 17) = true := by decide +kernel
theorem ok_X1_citations : ∀ c ∈ q_X1_citations, c.all (mm_ok 17) = true := by
  intro c hc
  simp only [q_X1_citations, List.mem_cons, List.not_mem_nil, or_false] at hc
  subst hc
  · exact ok_X1_citations_0
theorem ok_X1_dependsOn_0 : q_X1_dependsOn_0.all (mm_ok 18) = true := by decide +kernel
theorem ok_X1_dependsOn : ∀ c ∈ q_X1_dependsOn, c.all (mm_ok 18) = true := by
  intro c hc
  simp only [q_X1_dependsOn, List.mem_cons, List.not_mem_nil, or_false] at hc
  subst hc
  · exact ok_X1_dependsOn_0
theorem ok_X1_ofDay_0 : q_X1_ofDay_0.all (mm_ok 19) = true := by decide +kernel
theorem ok_X1_ofDay : ∀ c ∈ q_X1_ofDay, c.all (mm_ok 19) = true := by
  intro c hc
  simp only [q_X1_ofDay, List.mem_cons, List.not_mem_nil, or_false] at hc
  subst hc
  · exact ok_X1_ofDay_0
theorem ok_X1_othersOfItsDay_0 : q_X1_othersOfItsDay_0.all (mm_ok 20) = true := by decide +kernel
theorem ok_X1_othersOfItsDay : ∀ c ∈ q_X1_othersOfItsDay, c.all (mm_ok 20) = true := by
  intro c hc
  simp only [q_X1_othersOfItsDay, List.mem_cons, List.not_mem_nil, or_false] at hc
  subst hc
  · exact ok_X1_othersOfItsDay_0
theorem ok_X1_laterThan_0 : q_X1_laterThan_0.all (mm_ok 21) = true := by decide +kernel
theorem ok_X1_laterThan : ∀ c ∈ q_X1_laterThan, c.all (mm_ok 21) = true := by
  intro c hc
  simp only [q_X1_laterThan, List.mem_cons, List.not_mem_nil, or_false] at hc
  subst hc
  · exact ok_X1_laterThan_0
theorem ok_X1_countOf_0 : q_X1_countOf_0.all (mm_ok 22) = true := by decide +kernel
theorem ok_X1_countOf_1 : q_X1_countOf_1.all (mm_ok 22) = true := by decide +kernel
theorem ok_X1_countOf : ∀ c ∈ q_X1_countOf, c.all (mm_ok 22) = true := by
  intro c hc
  simp only [q_X1_countOf, List.mem_cons, List.not_mem_nil, or_false] at hc
  rcases hc with rfl | rfl
  · exact ok_X1_countOf_0
  · exact ok_X1_countOf_1
theorem ok_X1_likeness_0 : q_X1_likeness_0.all (mm_ok 23) = true := by decide +kernel
theorem ok_X1_likeness : ∀ c ∈ q_X1_likeness, c.all (mm_ok 23) = true := by
  intro c hc
  simp only [q_X1_likeness, List.mem_cons, List.not_mem_nil, or_false] at hc
  subst hc
  · exact ok_X1_likeness_0
theorem ok_X1_decide_0 : q_X1_decide_0.all (mm_ok 24) = true := by decide +kernel
theorem ok_X1_decide_1 : q_X1_decide_1.all (mm_ok 24) = true := by decide +kernel
theorem ok_X1_decide : ∀ c ∈ q_X1_decide, c.all (mm_ok 24) = true := by
  intro c hc
  simp only [q_X1_decide, List.mem_cons, List.not_mem_nil, or_false] at hc
  rcases hc with rfl | rfl
  · exact ok_X1_decide_0
  · exact ok_X1_decide_1
theorem ok_X1_verdictsBy_0 : q_X1_verdictsBy_0.all (mm_ok 25) = true := by decide +kernel
theorem ok_X1_verdictsBy : ∀ c ∈ q_X1_verdictsBy, c.all (mm_ok 25) = true := by
  intro c hc
  simp only [q_X1_verdictsBy, List.mem_cons, List.not_mem_nil, or_false] at hc
  subst hc
  · exact ok_X1_verdictsBy_0
theorem ok_X1_agrees_0 : q_X1_agrees_0.all (mm_ok 26) = true := by decide +kernel
theorem ok_X1_agrees : ∀ c ∈ q_X1_agrees, c.all (mm_ok 26) = true := by
  intro c hc
  simp only [q_X1_agrees, List.mem_cons, List.not_mem_nil, or_false] at hc
  subst hc
  · exact ok_X1_agrees_0
theorem ok_X2_init_0 : q_X2_init_0.all (mm_ok 27) = true := by decide +kernel
theorem ok_X2_init : ∀ c ∈ q_X2_init, c.all (mm_ok 27) = true := by
  intro c hc
  simp only [q_X2_init, List.mem_cons, List.not_mem_nil, or_false] at hc
  subst hc
  · exact ok_X2_init_0
theorem ok_X2_read_0 : q_X2_read_0.all (mm_ok 28) = true := by decide +kernel
theorem ok_X2_read_1 : q_X2_read_1.all (mm_ok 28) = true := by decide +kernel
theorem ok_X2_read : ∀ c ∈ q_X2_read, c.all (mm_ok 28) = true := by
  intro c hc
  simp only [q_X2_read, List.mem_cons, List.not_mem_nil, or_false] at hc
  rcases hc with rfl | rfl
  · exact ok_X2_read_0
  · exact ok_X2_read_1
theorem ok_X2_skipBlanks_0 : q_X2_skipBlanks_0.all (mm_ok 29) = true := by decide +kernel
theorem ok_X2_skipBlanks : ∀ c ∈ q_X2_skipBlanks, c.all (mm_ok 29) = true := by
  intro c hc
  simp only [q_X2_skipBlanks, List.mem_cons, List.not_mem_nil, or_false] at hc
  subst hc
  · exact ok_X2_skipBlanks_0
theorem ok_X2_readItem_0 : q_X2_readItem_0.all (mm_ok 30) = true := by decide +kernel
theorem ok_X2_readItem_1 : q_X2_readItem_1.all (mm_ok 30) = true := by decide +kernel
theorem ok_X2_readItem_2 : q_X2_readItem_2.all (mm_ok 30) = true := by decide +kernel
theorem ok_X2_readItem_3 : q_X2_readItem_3.all (mm_ok 30) = true := by decide +kernel
theorem ok_X2_readItem : ∀ c ∈ q_X2_readItem, c.all (mm_ok 30) = true := by
  intro c hc
  simp only [q_X2_readItem, List.mem_cons, List.not_mem_nil, or_false] at hc
  rcases hc with rfl | rfl | rfl | rfl
  · exact ok_X2_readItem_0
  · exact ok_X2_readItem_1
  · exact ok_X2_readItem_2
  · exact ok_X2_readItem_3
theorem ok_X2_sign_0 : q_X2_sign_0.all (mm_ok 31) = true := by decide +kernel
theorem ok_X2_sign : ∀ c ∈ q_X2_sign, c.all (mm_ok 31) = true := by
  intro c hc
  simp only [q_X2_sign, List.mem_cons, List.not_mem_nil, or_false] at hc
  subst hc
  · exact ok_X2_sign_0
theorem ok_X2_letter_0 : q_X2_letter_0.all (mm_ok 32) = true := by decide +kernel
theorem ok_X2_letter : ∀ c ∈ q_X2_letter, c.all (mm_ok 32) = true := by
  intro c hc
  simp only [q_X2_letter, List.mem_cons, List.not_mem_nil, or_false] at hc
  subst hc
  · exact ok_X2_letter_0
theorem ok_X2_figure_0 : q_X2_figure_0.all (mm_ok 33) = true := by decide +kernel
theorem ok_X2_figure : ∀ c ∈ q_X2_figure, c.all (mm_ok 33) = true := by
  intro c hc
  simp only [q_X2_figure, List.mem_cons, List.not_mem_nil, or_false] at hc
  subst hc
  · exact ok_X2_figure_0
theorem ok_X2_readMarks_0 : q_X2_readMarks_0.all (mm_ok 34) = true := by decide +kernel
theorem ok_X2_readMarks : ∀ c ∈ q_X2_readMarks, c.all (mm_ok 34) = true := by
  intro c hc
  simp only [q_X2_readMarks, List.mem_cons, List.not_mem_nil, or_false] at hc
  subst hc
  · exact ok_X2_readMarks_0
theorem ok_X3_init_0 : q_X3_init_0.all (mm_ok 35) = true := by decide +kernel
theorem ok_X3_init : ∀ c ∈ q_X3_init, c.all (mm_ok 35) = true := by
  intro c hc
  simp only [q_X3_init, List.mem_cons, List.not_mem_nil, or_false] at hc
  subst hc
  · exact ok_X3_init_0
theorem ok_X3_isMissing_0 : q_X3_isMissing_0.all (mm_ok 36) = true := by decide +kernel
theorem ok_X3_isMissing : ∀ c ∈ q_X3_isMissing, c.all (mm_ok 36) = true := by
  intro c hc
  simp only [q_X3_isMissing, List.mem_cons, List.not_mem_nil, or_false] at hc
  subst hc
  · exact ok_X3_isMissing_0
theorem ok_X3_has_0 : q_X3_has_0.all (mm_ok 37) = true := by decide +kernel
theorem ok_X3_has : ∀ c ∈ q_X3_has, c.all (mm_ok 37) = true := by
  intro c hc
  simp only [q_X3_has, List.mem_cons, List.not_mem_nil, or_false] at hc
  subst hc
  · exact ok_X3_has_0
theorem ok_X3_hasRun_0 : q_X3_hasRun_0.all (mm_ok 38) = true := by decide +kernel
theorem ok_X3_hasRun : ∀ c ∈ q_X3_hasRun, c.all (mm_ok 38) = true := by
  intro c hc
  simp only [q_X3_hasRun, List.mem_cons, List.not_mem_nil, or_false] at hc
  subst hc
  · exact ok_X3_hasRun_0
theorem ok_X3_value_0 : q_X3_value_0.all (mm_ok 39) = true := by decide +kernel
theorem ok_X3_value : ∀ c ∈ q_X3_value, c.all (mm_ok 39) = true := by
  intro c hc
  simp only [q_X3_value, List.mem_cons, List.not_mem_nil, or_false] at hc
  subst hc
  · exact ok_X3_value_0
theorem ok_X3_swap_0 : q_X3_swap_0.all (mm_ok 40) = true := by decide +kernel
theorem ok_X3_swap : ∀ c ∈ q_X3_swap, c.all (mm_ok 40) = true := by
  intro c hc
  simp only [q_X3_swap, List.mem_cons, List.not_mem_nil, or_false] at hc
  subst hc
  · exact ok_X3_swap_0
theorem ok_X3_renew_0 : q_X3_renew_0.all (mm_ok 41) = true := by decide +kernel
theorem ok_X3_renew : ∀ c ∈ q_X3_renew, c.all (mm_ok 41) = true := by
  intro c hc
  simp only [q_X3_renew, List.mem_cons, List.not_mem_nil, or_false] at hc
  subst hc
  · exact ok_X3_renew_0
theorem ok_X3_remove_0 : q_X3_remove_0.all (mm_ok 42) = true := by decide +kernel
theorem ok_X3_remove : ∀ c ∈ q_X3_remove, c.all (mm_ok 42) = true := by
  intro c hc
  simp only [q_X3_remove, List.mem_cons, List.not_mem_nil, or_false] at hc
  subst hc
  · exact ok_X3_remove_0
theorem ok_X3_sum_0 : q_X3_sum_0.all (mm_ok 43) = true := by decide +kernel
theorem ok_X3_sum : ∀ c ∈ q_X3_sum, c.all (mm_ok 43) = true := by
  intro c hc
  simp only [q_X3_sum, List.mem_cons, List.not_mem_nil, or_false] at hc
  subst hc
  · exact ok_X3_sum_0
theorem ok_X3_digestFrom_0 : q_X3_digestFrom_0.all (mm_ok 44) = true := by decide +kernel
theorem ok_X3_digestFrom : ∀ c ∈ q_X3_digestFrom, c.all (mm_ok 44) = true := by
  intro c hc
  simp only [q_X3_digestFrom, List.mem_cons, List.not_mem_nil, or_false] at hc
  subst hc
  · exact ok_X3_digestFrom_0
theorem ok_X4_init_0 : q_X4_init_0.all (mm_ok 45) = true := by decide +kernel
theorem ok_X4_init : ∀ c ∈ q_X4_init, c.all (mm_ok 45) = true := by
  intro c hc
  simp only [q_X4_init, List.mem_cons, List.not_mem_nil, or_false] at hc
  subst hc
  · exact ok_X4_init_0
theorem ok_X4_find_0 : q_X4_find_0.all (mm_ok 46) = true := by decide +kernel
theorem ok_X4_find_1 : q_X4_find_1.all (mm_ok 46) = true := by decide +kernel
theorem ok_X4_find_2 : q_X4_find_2.all (mm_ok 46) = true := by decide +kernel
theorem ok_X4_find : ∀ c ∈ q_X4_find, c.all (mm_ok 46) = true := by
  intro c hc
  simp only [q_X4_find, List.mem_cons, List.not_mem_nil, or_false] at hc
  rcases hc with rfl | rfl | rfl
  · exact ok_X4_find_0
  · exact ok_X4_find_1
  · exact ok_X4_find_2
theorem ok_X4_first_0 : q_X4_first_0.all (mm_ok 47) = true := by decide +kernel
theorem ok_X4_first : ∀ c ∈ q_X4_first, c.all (mm_ok 47) = true := by
  intro c hc
  simp only [q_X4_first, List.mem_cons, List.not_mem_nil, or_false] at hc
  subst hc
  · exact ok_X4_first_0
theorem ok_X4_surelyStanding_0 : q_X4_surelyStanding_0.all (mm_ok 48) = true := by decide +kernel
theorem ok_X4_surelyStanding : ∀ c ∈ q_X4_surelyStanding, c.all (mm_ok 48) = true := by
  intro c hc
  simp only [q_X4_surelyStanding, List.mem_cons, List.not_mem_nil, or_false] at hc
  subst hc
  · exact ok_X4_surelyStanding_0
theorem ok_X4_surelyFalling_0 : q_X4_surelyFalling_0.all (mm_ok 49) = true := by decide +kernel
theorem ok_X4_surelyFalling : ∀ c ∈ q_X4_surelyFalling, c.all (mm_ok 49) = true := by
  intro c hc
  simp only [q_X4_surelyFalling, List.mem_cons, List.not_mem_nil, or_false] at hc
  subst hc
  · exact ok_X4_surelyFalling_0
theorem ok_X4_waysWith_0 : q_X4_waysWith_0.all (mm_ok 50) = true := by decide +kernel
theorem ok_X4_waysWith : ∀ c ∈ q_X4_waysWith, c.all (mm_ok 50) = true := by
  intro c hc
  simp only [q_X4_waysWith, List.mem_cons, List.not_mem_nil, or_false] at hc
  subst hc
  · exact ok_X4_waysWith_0
theorem ok_X4_meets_0 : q_X4_meets_0.all (mm_ok 51) = true := by decide +kernel
theorem ok_X4_meets : ∀ c ∈ q_X4_meets, c.all (mm_ok 51) = true := by
  intro c hc
  simp only [q_X4_meets, List.mem_cons, List.not_mem_nil, or_false] at hc
  subst hc
  · exact ok_X4_meets_0
theorem ok_X5_init_0 : q_X5_init_0.all (mm_ok 52) = true := by decide +kernel
theorem ok_X5_init_1 : q_X5_init_1.all (mm_ok 52) = true := by decide +kernel
theorem ok_X5_init_2 : q_X5_init_2.all (mm_ok 52) = true := by decide +kernel
theorem ok_X5_init_3 : q_X5_init_3.all (mm_ok 52) = true := by decide +kernel
theorem ok_X5_init : ∀ c ∈ q_X5_init, c.all (mm_ok 52) = true := by
  intro c hc
  simp only [q_X5_init, List.mem_cons, List.not_mem_nil, or_false] at hc
  rcases hc with rfl | rfl | rfl | rfl
  · exact ok_X5_init_0
  · exact ok_X5_init_1
  · exact ok_X5_init_2
  · exact ok_X5_init_3
theorem ok_X5_row_0 : q_X5_row_0.all (mm_ok 53) = true := by decide +kernel
theorem ok_X5_row : ∀ c ∈ q_X5_row, c.all (mm_ok 53) = true := by
  intro c hc
  simp only [q_X5_row, List.mem_cons, List.not_mem_nil, or_false] at hc
  subst hc
  · exact ok_X5_row_0
theorem ok_X5_lay_0 : q_X5_lay_0.all (mm_ok 54) = true := by decide +kernel
theorem ok_X5_lay : ∀ c ∈ q_X5_lay, c.all (mm_ok 54) = true := by
  intro c hc
  simp only [q_X5_lay, List.mem_cons, List.not_mem_nil, or_false] at hc
  subst hc
  · exact ok_X5_lay_0
theorem ok_X5_at_0 : q_X5_at_0.all (mm_ok 55) = true := by decide +kernel
theorem ok_X5_at : ∀ c ∈ q_X5_at, c.all (mm_ok 55) = true := by
  intro c hc
  simp only [q_X5_at, List.mem_cons, List.not_mem_nil, or_false] at hc
  subst hc
  · exact ok_X5_at_0
theorem ok_X5_tear_0 : q_X5_tear_0.all (mm_ok 56) = true := by decide +kernel
theorem ok_X5_tear : ∀ c ∈ q_X5_tear, c.all (mm_ok 56) = true := by
  intro c hc
  simp only [q_X5_tear, List.mem_cons, List.not_mem_nil, or_false] at hc
  subst hc
  · exact ok_X5_tear_0
theorem ok_X5_copy_0 : q_X5_copy_0.all (mm_ok 57) = true := by decide +kernel
theorem ok_X5_copy_1 : q_X5_copy_1.all (mm_ok 57) = true := by decide +kernel
theorem ok_X5_copy_2 : q_X5_copy_2.all (mm_ok 57) = true := by decide +kernel
theorem ok_X5_copy : ∀ c ∈ q_X5_copy, c.all (mm_ok 57) = true := by
  intro c hc
  simp only [q_X5_copy, List.mem_cons, List.not_mem_nil, or_false] at hc
  rcases hc with rfl | rfl | rfl
  · exact ok_X5_copy_0
  · exact ok_X5_copy_1
  · exact ok_X5_copy_2
theorem ok_X5_mean_0 : q_X5_mean_0.all (mm_ok 58) = true := by decide +kernel
theorem ok_X5_mean_1 : q_X5_mean_1.all (mm_ok 58) = true := by decide +kernel
theorem ok_X5_mean : ∀ c ∈ q_X5_mean, c.all (mm_ok 58) = true := by
  intro c hc
  simp only [q_X5_mean, List.mem_cons, List.not_mem_nil, or_false] at hc
  rcases hc with rfl | rfl
  · exact ok_X5_mean_0
  · exact ok_X5_mean_1
theorem ok_X5_text_0 : q_X5_text_0.all (mm_ok 59) = true := by decide +kernel
theorem ok_X5_text : ∀ c ∈ q_X5_text, c.all (mm_ok 59) = true := by
  intro c hc
  simp only [q_X5_text, List.mem_cons, List.not_mem_nil, or_false] at hc
  subst hc
  · exact ok_X5_text_0
theorem ok_X5_put_0 : q_X5_put_0.all (mm_ok 60) = true := by decide +kernel
theorem ok_X5_put : ∀ c ∈ q_X5_put, c.all (mm_ok 60) = true := by
  intro c hc
  simp only [q_X5_put, List.mem_cons, List.not_mem_nil, or_false] at hc
  subst hc
  · exact ok_X5_put_0
theorem ok_X5_fault_0 : q_X5_fault_0.all (mm_ok 61) = true := by decide +kernel
theorem ok_X5_fault : ∀ c ∈ q_X5_fault, c.all (mm_ok 61) = true := by
  intro c hc
  simp only [q_X5_fault, List.mem_cons, List.not_mem_nil, or_false] at hc
  subst hc
  · exact ok_X5_fault_0
theorem ok_X5_court_0 : q_X5_court_0.all (mm_ok 62) = true := by decide +kernel
theorem ok_X5_court_1 : q_X5_court_1.all (mm_ok 62) = true := by decide +kernel
theorem ok_X5_court : ∀ c ∈ q_X5_court, c.all (mm_ok 62) = true := by
  intro c hc
  simp only [q_X5_court, List.mem_cons, List.not_mem_nil, or_false] at hc
  rcases hc with rfl | rfl
  · exact ok_X5_court_0
  · exact ok_X5_court_1
theorem ok_X5_ruling_0 : q_X5_ruling_0.all (mm_ok 63) = true := by decide +kernel
theorem ok_X5_ruling : ∀ c ∈ q_X5_ruling, c.all (mm_ok 63) = true := by
  intro c hc
  simp only [q_X5_ruling, List.mem_cons, List.not_mem_nil, or_false] at hc
  subst hc
  · exact ok_X5_ruling_0
theorem ok_X5_mark_0 : q_X5_mark_0.all (mm_ok 64) = true := by decide +kernel
theorem ok_X5_mark_1 : q_X5_mark_1.all (mm_ok 64) = true := by decide +kernel
theorem ok_X5_mark : ∀ c ∈ q_X5_mark, c.all (mm_ok 64) = true := by
  intro c hc
  simp only [q_X5_mark, List.mem_cons, List.not_mem_nil, or_false] at hc
  rcases hc with rfl | rfl
  · exact ok_X5_mark_0
  · exact ok_X5_mark_1
theorem ok_X5_reverse_0 : q_X5_reverse_0.all (mm_ok 65) = true := by decide +kernel
theorem ok_X5_reverse : ∀ c ∈ q_X5_reverse, c.all (mm_ok 65) = true := by
  intro c hc
  simp only [q_X5_reverse, List.mem_cons, List.not_mem_nil, or_false] at hc
  subst hc
  · exact ok_X5_reverse_0
theorem ok_X5_marks_0 : q_X5_marks_0.all (mm_ok 66) = true := by decide +kernel
theorem ok_X5_marks : ∀ c ∈ q_X5_marks, c.all (mm_ok 66) = true := by
  intro c hc
  simp only [q_X5_marks, List.mem_cons, List.not_mem_nil, or_false] at hc
  subst hc
  · exact ok_X5_marks_0
theorem ok_X5_file_0 : q_X5_file_0.all (mm_ok 67) = true := by decide +kernel
theorem ok_X5_file_1 : q_X5_file_1.all (mm_ok 67) = true := by decide +kernel
theorem ok_X5_file_2 : q_X5_file_2.all (mm_ok 67) = true := by decide +kernel
theorem ok_X5_file : ∀ c ∈ q_X5_file, c.all (mm_ok 67) = true := by
  intro c hc
  simp only [q_X5_file, List.mem_cons, List.not_mem_nil, or_false] at hc
  rcases hc with rfl | rfl | rfl
  · exact ok_X5_file_0
  · exact ok_X5_file_1
  · exact ok_X5_file_2
theorem ok_X5_strike_0 : q_X5_strike_0.all (mm_ok 68) = true := by decide +kernel
theorem ok_X5_strike : ∀ c ∈ q_X5_strike, c.all (mm_ok 68) = true := by
  intro c hc
  simp only [q_X5_strike, List.mem_cons, List.not_mem_nil, or_false] at hc
  subst hc
  · exact ok_X5_strike_0
theorem ok_X5_keep_0 : q_X5_keep_0.all (mm_ok 69) = true := by decide +kernel
theorem ok_X5_keep : ∀ c ∈ q_X5_keep, c.all (mm_ok 69) = true := by
  intro c hc
  simp only [q_X5_keep, List.mem_cons, List.not_mem_nil, or_false] at hc
  subst hc
  · exact ok_X5_keep_0
theorem ok_X5_on_0 : q_X5_on_0.all (mm_ok 70) = true := by decide +kernel
theorem ok_X5_on : ∀ c ∈ q_X5_on, c.all (mm_ok 70) = true := by
  intro c hc
  simp only [q_X5_on, List.mem_cons, List.not_mem_nil, or_false] at hc
  subst hc
  · exact ok_X5_on_0
theorem ok_X5_due_0 : q_X5_due_0.all (mm_ok 71) = true := by decide +kernel
theorem ok_X5_due_1 : q_X5_due_1.all (mm_ok 71) = true := by decide +kernel
theorem ok_X5_due : ∀ c ∈ q_X5_due, c.all (mm_ok 71) = true := by
  intro c hc
  simp only [q_X5_due, List.mem_cons, List.not_mem_nil, or_false] at hc
  rcases hc with rfl | rfl
  · exact ok_X5_due_0
  · exact ok_X5_due_1
theorem ok_X5_ways_0 : q_X5_ways_0.all (mm_ok 72) = true := by decide +kernel
theorem ok_X5_ways : ∀ c ∈ q_X5_ways, c.all (mm_ok 72) = true := by
  intro c hc
  simp only [q_X5_ways, List.mem_cons, List.not_mem_nil, or_false] at hc
  subst hc
  · exact ok_X5_ways_0
theorem ok_X5_nth_0 : q_X5_nth_0.all (mm_ok 73) = true := by decide +kernel
theorem ok_X5_nth : ∀ c ∈ q_X5_nth, c.all (mm_ok 73) = true := by
  intro c hc
  simp only [q_X5_nth, List.mem_cons, List.not_mem_nil, or_false] at hc
  subst hc
  · exact ok_X5_nth_0
theorem ok_X5_sure_0 : q_X5_sure_0.all (mm_ok 74) = true := by decide +kernel
theorem ok_X5_sure : ∀ c ∈ q_X5_sure, c.all (mm_ok 74) = true := by
  intro c hc
  simp only [q_X5_sure, List.mem_cons, List.not_mem_nil, or_false] at hc
  subst hc
  · exact ok_X5_sure_0
theorem ok_X5_odds_0 : q_X5_odds_0.all (mm_ok 75) = true := by decide +kernel
theorem ok_X5_odds_1 : q_X5_odds_1.all (mm_ok 75) = true := by decide +kernel
theorem ok_X5_odds : ∀ c ∈ q_X5_odds, c.all (mm_ok 75) = true := by
  intro c hc
  simp only [q_X5_odds, List.mem_cons, List.not_mem_nil, or_false] at hc
  rcases hc with rfl | rfl
  · exact ok_X5_odds_0
  · exact ok_X5_odds_1
theorem ok_X5_together_0 : q_X5_together_0.all (mm_ok 76) = true := by decide +kernel
theorem ok_X5_together_1 : q_X5_together_1.all (mm_ok 76) = true := by decide +kernel
theorem ok_X5_together : ∀ c ∈ q_X5_together, c.all (mm_ok 76) = true := by
  intro c hc
  simp only [q_X5_together, List.mem_cons, List.not_mem_nil, or_false] at hc
  rcases hc with rfl | rfl
  · exact ok_X5_together_0
  · exact ok_X5_together_1
theorem ok_X5_till_0 : q_X5_till_0.all (mm_ok 77) = true := by decide +kernel
theorem ok_X5_till : ∀ c ∈ q_X5_till, c.all (mm_ok 77) = true := by
  intro c hc
  simp only [q_X5_till, List.mem_cons, List.not_mem_nil, or_false] at hc
  subst hc
  · exact ok_X5_till_0
theorem ok_X5_flips_0 : q_X5_flips_0.all (mm_ok 78) = true := by decide +kernel
theorem ok_X5_flips_1 : q_X5_flips_1.all (mm_ok 78) = true := by decide +kernel
theorem ok_X5_flips : ∀ c ∈ q_X5_flips, c.all (mm_ok 78) = true := by
  intro c hc
  simp only [q_X5_flips, List.mem_cons, List.not_mem_nil, or_false] at hc
  rcases hc with rfl | rfl
  · exact ok_X5_flips_0
  · exact ok_X5_flips_1
theorem ok_X5_jam_0 : q_X5_jam_0.all (mm_ok 79) = true := by decide +kernel
theorem ok_X5_jam : ∀ c ∈ q_X5_jam, c.all (mm_ok 79) = true := by
  intro c hc
  simp only [q_X5_jam, List.mem_cons, List.not_mem_nil, or_false] at hc
  subst hc
  · exact ok_X5_jam_0
theorem ok_X5_fell_0 : q_X5_fell_0.all (mm_ok 80) = true := by decide +kernel
theorem ok_X5_fell : ∀ c ∈ q_X5_fell, c.all (mm_ok 80) = true := by
  intro c hc
  simp only [q_X5_fell, List.mem_cons, List.not_mem_nil, or_false] at hc
  subst hc
  · exact ok_X5_fell_0
theorem ok_X5_guard_0 : q_X5_guard_0.all (mm_ok 81) = true := by decide +kernel
theorem ok_X5_guard : ∀ c ∈ q_X5_guard, c.all (mm_ok 81) = true := by
  intro c hc
  simp only [q_X5_guard, List.mem_cons, List.not_mem_nil, or_false] at hc
  subst hc
  · exact ok_X5_guard_0
theorem ok_X5_settle_0 : q_X5_settle_0.all (mm_ok 82) = true := by decide +kernel
theorem ok_X5_settle : ∀ c ∈ q_X5_settle, c.all (mm_ok 82) = true := by
  intro c hc
  simp only [q_X5_settle, List.mem_cons, List.not_mem_nil, or_false] at hc
  subst hc
  · exact ok_X5_settle_0
theorem ok_X5_matter_0 : q_X5_matter_0.all (mm_ok 83) = true := by decide +kernel
theorem ok_X5_matter : ∀ c ∈ q_X5_matter, c.all (mm_ok 83) = true := by
  intro c hc
  simp only [q_X5_matter, List.mem_cons, List.not_mem_nil, or_false] at hc
  subst hc
  · exact ok_X5_matter_0
theorem ok_X5_judge_0 : q_X5_judge_0.all (mm_ok 84) = true := by decide +kernel
theorem ok_X5_judge_1 : q_X5_judge_1.all (mm_ok 84) = true := by decide +kernel
theorem ok_X5_judge : ∀ c ∈ q_X5_judge, c.all (mm_ok 84) = true := by
  intro c hc
  simp only [q_X5_judge, List.mem_cons, List.not_mem_nil, or_false] at hc
  rcases hc with rfl | rfl
  · exact ok_X5_judge_0
  · exact ok_X5_judge_1
theorem ok_X5_like_0 : q_X5_like_0.all (mm_ok 85) = true := by decide +kernel
theorem ok_X5_like : ∀ c ∈ q_X5_like, c.all (mm_ok 85) = true := by
  intro c hc
  simp only [q_X5_like, List.mem_cons, List.not_mem_nil, or_false] at hc
  subst hc
  · exact ok_X5_like_0
theorem ok_X5_verdict_0 : q_X5_verdict_0.all (mm_ok 86) = true := by decide +kernel
theorem ok_X5_verdict : ∀ c ∈ q_X5_verdict, c.all (mm_ok 86) = true := by
  intro c hc
  simp only [q_X5_verdict, List.mem_cons, List.not_mem_nil, or_false] at hc
  subst hc
  · exact ok_X5_verdict_0
theorem ok_X5_surely_0 : q_X5_surely_0.all (mm_ok 87) = true := by decide +kernel
theorem ok_X5_surely_1 : q_X5_surely_1.all (mm_ok 87) = true := by decide +kernel
theorem ok_X5_surely : ∀ c ∈ q_X5_surely, c.all (mm_ok 87) = true := by
  intro c hc
  simp only [q_X5_surely, List.mem_cons, List.not_mem_nil, or_false] at hc
  rcases hc with rfl | rfl
  · exact ok_X5_surely_0
  · exact ok_X5_surely_1
theorem ok_X5_freed_0 : q_X5_freed_0.all (mm_ok 88) = true := by decide +kernel
theorem ok_X5_freed_1 : q_X5_freed_1.all (mm_ok 88) = true := by decide +kernel
theorem ok_X5_freed : ∀ c ∈ q_X5_freed, c.all (mm_ok 88) = true := by
  intro c hc
  simp only [q_X5_freed, List.mem_cons, List.not_mem_nil, or_false] at hc
  rcases hc with rfl | rfl
  · exact ok_X5_freed_0
  · exact ok_X5_freed_1
theorem ok_X5_code_0 : q_X5_code_0.all (mm_ok 89) = true := by decide +kernel
theorem ok_X5_code_1 : q_X5_code_1.all (mm_ok 89) = true := by decide +kernel
theorem ok_X5_code : ∀ c ∈ q_X5_code, c.all (mm_ok 89) = true := by
  intro c hc
  simp only [q_X5_code, List.mem_cons, List.not_mem_nil, or_false] at hc
  rcases hc with rfl | rfl
  · exact ok_X5_code_0
  · exact ok_X5_code_1
theorem ok_X5_kinds_0 : q_X5_kinds_0.all (mm_ok 90) = true := by decide +kernel
theorem ok_X5_kinds_1 : q_X5_kinds_1.all (mm_ok 90) = true := by decide +kernel
theorem ok_X5_kinds : ∀ c ∈ q_X5_kinds, c.all (mm_ok 90) = true := by
  intro c hc
  simp only [q_X5_kinds, List.mem_cons, List.not_mem_nil, or_false] at hc
  rcases hc with rfl | rfl
  · exact ok_X5_kinds_0
  · exact ok_X5_kinds_1
theorem ok_X5_forged_0 : q_X5_forged_0.all (mm_ok 91) = true := by decide +kernel
theorem ok_X5_forged_1 : q_X5_forged_1.all (mm_ok 91) = true := by decide +kernel
theorem ok_X5_forged : ∀ c ∈ q_X5_forged, c.all (mm_ok 91) = true := by
  intro c hc
  simp only [q_X5_forged, List.mem_cons, List.not_mem_nil, or_false] at hc
  rcases hc with rfl | rfl
  · exact ok_X5_forged_0
  · exact ok_X5_forged_1
theorem ok_X5_torn_0 : q_X5_torn_0.all (mm_ok 92) = true := by decide +kernel
theorem ok_X5_torn_1 : q_X5_torn_1.all (mm_ok 92) = true := by decide +kernel
theorem ok_X5_torn : ∀ c ∈ q_X5_torn, c.all (mm_ok 92) = true := by
  intro c hc
  simp only [q_X5_torn, List.mem_cons, List.not_mem_nil, or_false] at hc
  rcases hc with rfl | rfl
  · exact ok_X5_torn_0
  · exact ok_X5_torn_1
theorem ok_X5_lots_0 : q_X5_lots_0.all (mm_ok 93) = true := by decide +kernel
theorem ok_X5_lots_1 : q_X5_lots_1.all (mm_ok 93) = true := by decide +kernel
theorem ok_X5_lots : ∀ c ∈ q_X5_lots, c.all (mm_ok 93) = true := by
  intro c hc
  simp only [q_X5_lots, List.mem_cons, List.not_mem_nil, or_false] at hc
  rcases hc with rfl | rfl
  · exact ok_X5_lots_0
  · exact ok_X5_lots_1
theorem ok_X5_asked_0 : q_X5_asked_0.all (mm_ok 94) = true := by decide +kernel
theorem ok_X5_asked : ∀ c ∈ q_X5_asked, c.all (mm_ok 94) = true := by
  intro c hc
  simp only [q_X5_asked, List.mem_cons, List.not_mem_nil, or_false] at hc
  subst hc
  · exact ok_X5_asked_0
theorem ok_X5_upper_0 : q_X5_upper_0.all (mm_ok 95) = true := by decide +kernel
theorem ok_X5_upper : ∀ c ∈ q_X5_upper, c.all (mm_ok 95) = true := by
  intro c hc
  simp only [q_X5_upper, List.mem_cons, List.not_mem_nil, or_false] at hc
  subst hc
  · exact ok_X5_upper_0
theorem ok_X5_lower_0 : q_X5_lower_0.all (mm_ok 96) = true := by decide +kernel
theorem ok_X5_lower : ∀ c ∈ q_X5_lower, c.all (mm_ok 96) = true := by
  intro c hc
  simp only [q_X5_lower, List.mem_cons, List.not_mem_nil, or_false] at hc
  subst hc
  · exact ok_X5_lower_0
theorem ok_X5_count_0 : q_X5_count_0.all (mm_ok 97) = true := by decide +kernel
theorem ok_X5_count : ∀ c ∈ q_X5_count, c.all (mm_ok 97) = true := by
  intro c hc
  simp only [q_X5_count, List.mem_cons, List.not_mem_nil, or_false] at hc
  subst hc
  · exact ok_X5_count_0
theorem ok_X5_finding_0 : q_X5_finding_0.all (mm_ok 98) = true := by decide +kernel
theorem ok_X5_finding : ∀ c ∈ q_X5_finding, c.all (mm_ok 98) = true := by
  intro c hc
  simp only [q_X5_finding, List.mem_cons, List.not_mem_nil, or_false] at hc
  subst hc
  · exact ok_X5_finding_0
theorem ok_X5_findings_0 : q_X5_findings_0.all (mm_ok 99) = true := by decide +kernel
theorem ok_X5_findings : ∀ c ∈ q_X5_findings, c.all (mm_ok 99) = true := by
  intro c hc
  simp only [q_X5_findings, List.mem_cons, List.not_mem_nil, or_false] at hc
  subst hc
  · exact ok_X5_findings_0
theorem ok_X5_digest_0 : q_X5_digest_0.all (mm_ok 100) = true := by decide +kernel
theorem ok_X5_digest_1 : q_X5_digest_1.all (mm_ok 100) = true := by decide +kernel
theorem ok_X5_digest_2 : q_X5_digest_2.all (mm_ok 100) = true := by decide +kernel
theorem ok_X5_digest_3 : q_X5_digest_3.all (mm_ok 100) = true := by decide +kernel
theorem ok_X5_digest : ∀ c ∈ q_X5_digest, c.all (mm_ok 100) = true := by
  intro c hc
  simp only [q_X5_digest, List.mem_cons, List.not_mem_nil, or_false] at hc
  rcases hc with rfl | rfl | rfl | rfl
  · exact ok_X5_digest_0
  · exact ok_X5_digest_1
  · exact ok_X5_digest_2
  · exact ok_X5_digest_3
theorem ok_X5_within_0 : q_X5_within_0.all (mm_ok 101) = true := by decide +kernel
theorem ok_X5_within : ∀ c ∈ q_X5_within, c.all (mm_ok 101) = true := by
  intro c hc
  simp only [q_X5_within, List.mem_cons, List.not_mem_nil, or_false] at hc
  subst hc
  · exact ok_X5_within_0
theorem ok_X5_holds_0 : q_X5_holds_0.all (mm_ok 102) = true := by decide +kernel
theorem ok_X5_holds : ∀ c ∈ q_X5_holds, c.all (mm_ok 102) = true := by
  intro c hc
  simp only [q_X5_holds, List.mem_cons, List.not_mem_nil, or_false] at hc
  subst hc
  · exact ok_X5_holds_0
theorem ok_X5_isOfKind_0 : q_X5_isOfKind_0.all (mm_ok 103) = true := by decide +kernel
theorem ok_X5_isOfKind : ∀ c ∈ q_X5_isOfKind, c.all (mm_ok 103) = true := by
  intro c hc
  simp only [q_X5_isOfKind, List.mem_cons, List.not_mem_nil, or_false] at hc
  subst hc
  · exact ok_X5_isOfKind_0
theorem ok_X5_greatestDivisor_0 : q_X5_greatestDivisor_0.all (mm_ok 104) = true := by decide +kernel
theorem ok_X5_greatestDivisor : ∀ c ∈ q_X5_greatestDivisor, c.all (mm_ok 104) = true := by
  intro c hc
  simp only [q_X5_greatestDivisor, List.mem_cons, List.not_mem_nil, or_false] at hc
  subst hc
  · exact ok_X5_greatestDivisor_0
theorem ok_X5_refuse_0 : q_X5_refuse_0.all (mm_ok 105) = true := by decide +kernel
theorem ok_X5_refuse : ∀ c ∈ q_X5_refuse, c.all (mm_ok 105) = true := by
  intro c hc
  simp only [q_X5_refuse, List.mem_cons, List.not_mem_nil, or_false] at hc
  subst hc
  · exact ok_X5_refuse_0
theorem ok_X5_tell_0 : q_X5_tell_0.all (mm_ok 106) = true := by decide +kernel
theorem ok_X5_tell : ∀ c ∈ q_X5_tell, c.all (mm_ok 106) = true := by
  intro c hc
  simp only [q_X5_tell, List.mem_cons, List.not_mem_nil, or_false] at hc
  subst hc
  · exact ok_X5_tell_0
theorem ok_X5_renewed_0 : q_X5_renewed_0.all (mm_ok 107) = true := by decide +kernel
theorem ok_X5_renewed : ∀ c ∈ q_X5_renewed, c.all (mm_ok 107) = true := by
  intro c hc
  simp only [q_X5_renewed, List.mem_cons, List.not_mem_nil, or_false] at hc
  subst hc
  · exact ok_X5_renewed_0
theorem ok_X5_refusalOfPlace_0 : q_X5_refusalOfPlace_0.all (mm_ok 108) = true := by decide +kernel
theorem ok_X5_refusalOfPlace : ∀ c ∈ q_X5_refusalOfPlace, c.all (mm_ok 108) = true := by
  intro c hc
  simp only [q_X5_refusalOfPlace, List.mem_cons, List.not_mem_nil, or_false] at hc
  subst hc
  · exact ok_X5_refusalOfPlace_0
theorem ok_X5_isKept_0 : q_X5_isKept_0.all (mm_ok 109) = true := by decide +kernel
theorem ok_X5_isKept : ∀ c ∈ q_X5_isKept, c.all (mm_ok 109) = true := by
  intro c hc
  simp only [q_X5_isKept, List.mem_cons, List.not_mem_nil, or_false] at hc
  subst hc
  · exact ok_X5_isKept_0
theorem ok_X5_findWays_0 : q_X5_findWays_0.all (mm_ok 110) = true := by decide +kernel
theorem ok_X5_findWays : ∀ c ∈ q_X5_findWays, c.all (mm_ok 110) = true := by
  intro c hc
  simp only [q_X5_findWays, List.mem_cons, List.not_mem_nil, or_false] at hc
  subst hc
  · exact ok_X5_findWays_0
theorem ok_X5_fewest_0 : q_X5_fewest_0.all (mm_ok 111) = true := by decide +kernel
theorem ok_X5_fewest_1 : q_X5_fewest_1.all (mm_ok 111) = true := by decide +kernel
theorem ok_X5_fewest : ∀ c ∈ q_X5_fewest, c.all (mm_ok 111) = true := by
  intro c hc
  simp only [q_X5_fewest, List.mem_cons, List.not_mem_nil, or_false] at hc
  rcases hc with rfl | rfl
  · exact ok_X5_fewest_0
  · exact ok_X5_fewest_1
theorem ok_X5_canReach_0 : q_X5_canReach_0.all (mm_ok 112) = true := by decide +kernel
theorem ok_X5_canReach_1 : q_X5_canReach_1.all (mm_ok 112) = true := by decide +kernel
theorem ok_X5_canReach : ∀ c ∈ q_X5_canReach, c.all (mm_ok 112) = true := by
  intro c hc
  simp only [q_X5_canReach, List.mem_cons, List.not_mem_nil, or_false] at hc
  rcases hc with rfl | rfl
  · exact ok_X5_canReach_0
  · exact ok_X5_canReach_1
theorem ok_X5_pick_0 : q_X5_pick_0.all (mm_ok 113) = true := by decide +kernel
theorem ok_X5_pick_1 : q_X5_pick_1.all (mm_ok 113) = true := by decide +kernel
theorem ok_X5_pick : ∀ c ∈ q_X5_pick, c.all (mm_ok 113) = true := by
  intro c hc
  simp only [q_X5_pick, List.mem_cons, List.not_mem_nil, or_false] at hc
  rcases hc with rfl | rfl
  · exact ok_X5_pick_0
  · exact ok_X5_pick_1
theorem ok_X5_changedWithout_0 : q_X5_changedWithout_0.all (mm_ok 114) = true := by decide +kernel
theorem ok_X5_changedWithout_1 : q_X5_changedWithout_1.all (mm_ok 114) = true := by decide +kernel
theorem ok_X5_changedWithout : ∀ c ∈ q_X5_changedWithout, c.all (mm_ok 114) = true := by
  intro c hc
  simp only [q_X5_changedWithout, List.mem_cons, List.not_mem_nil, or_false] at hc
  rcases hc with rfl | rfl
  · exact ok_X5_changedWithout_0
  · exact ok_X5_changedWithout_1
theorem ok_X5_fileByLot_0 : q_X5_fileByLot_0.all (mm_ok 115) = true := by decide +kernel
theorem ok_X5_fileByLot_1 : q_X5_fileByLot_1.all (mm_ok 115) = true := by decide +kernel
theorem ok_X5_fileByLot_2 : q_X5_fileByLot_2.all (mm_ok 115) = true := by decide +kernel
theorem ok_X5_fileByLot : ∀ c ∈ q_X5_fileByLot, c.all (mm_ok 115) = true := by
  intro c hc
  simp only [q_X5_fileByLot, List.mem_cons, List.not_mem_nil, or_false] at hc
  rcases hc with rfl | rfl | rfl
  · exact ok_X5_fileByLot_0
  · exact ok_X5_fileByLot_1
  · exact ok_X5_fileByLot_2
theorem ok_X5_countOf_0 : q_X5_countOf_0.all (mm_ok 116) = true := by decide +kernel
theorem ok_X5_countOf_1 : q_X5_countOf_1.all (mm_ok 116) = true := by decide +kernel
theorem ok_X5_countOf : ∀ c ∈ q_X5_countOf, c.all (mm_ok 116) = true := by
  intro c hc
  simp only [q_X5_countOf, List.mem_cons, List.not_mem_nil, or_false] at hc
  rcases hc with rfl | rfl
  · exact ok_X5_countOf_0
  · exact ok_X5_countOf_1
theorem ok_X5_there_0 : q_X5_there_0.all (mm_ok 117) = true := by decide +kernel
theorem ok_X5_there : ∀ c ∈ q_X5_there, c.all (mm_ok 117) = true := by
  intro c hc
  simp only [q_X5_there, List.mem_cons, List.not_mem_nil, or_false] at hc
  subst hc
  · exact ok_X5_there_0
theorem ok_X6_init_0 : q_X6_init_0.all (mm_ok 118) = true := by decide +kernel
theorem ok_X6_init_1 : q_X6_init_1.all (mm_ok 118) = true := by decide +kernel
theorem ok_X6_init_2 : q_X6_init_2.all (mm_ok 118) = true := by decide +kernel
theorem ok_X6_init_3 : q_X6_init_3.all (mm_ok 118) = true := by decide +kernel
theorem ok_X6_init : ∀ c ∈ q_X6_init, c.all (mm_ok 118) = true := by
  intro c hc
  simp only [q_X6_init, List.mem_cons, List.not_mem_nil, or_false] at hc
  rcases hc with rfl | rfl | rfl | rfl
  · exact ok_X6_init_0
  · exact ok_X6_init_1
  · exact ok_X6_init_2
  · exact ok_X6_init_3
theorem ok_X6_in_0 : q_X6_in_0.all (mm_ok 119) = true := by decide +kernel
theorem ok_X6_in : ∀ c ∈ q_X6_in, c.all (mm_ok 119) = true := by
  intro c hc
  simp only [q_X6_in, List.mem_cons, List.not_mem_nil, or_false] at hc
  subst hc
  · exact ok_X6_in_0
theorem ok_X6_has_0 : q_X6_has_0.all (mm_ok 120) = true := by decide +kernel
theorem ok_X6_has : ∀ c ∈ q_X6_has, c.all (mm_ok 120) = true := by
  intro c hc
  simp only [q_X6_has, List.mem_cons, List.not_mem_nil, or_false] at hc
  subst hc
  · exact ok_X6_has_0
theorem ok_X6_ones_0 : q_X6_ones_0.all (mm_ok 121) = true := by decide +kernel
theorem ok_X6_ones : ∀ c ∈ q_X6_ones, c.all (mm_ok 121) = true := by
  intro c hc
  simp only [q_X6_ones, List.mem_cons, List.not_mem_nil, or_false] at hc
  subst hc
  · exact ok_X6_ones_0
theorem ok_X6_finds_0 : q_X6_finds_0.all (mm_ok 122) = true := by decide +kernel
theorem ok_X6_finds : ∀ c ∈ q_X6_finds, c.all (mm_ok 122) = true := by
  intro c hc
  simp only [q_X6_finds, List.mem_cons, List.not_mem_nil, or_false] at hc
  subst hc
  · exact ok_X6_finds_0
theorem ok_X6_tells_0 : q_X6_tells_0.all (mm_ok 123) = true := by decide +kernel
theorem ok_X6_tells : ∀ c ∈ q_X6_tells, c.all (mm_ok 123) = true := by
  intro c hc
  simp only [q_X6_tells, List.mem_cons, List.not_mem_nil, or_false] at hc
  subst hc
  · exact ok_X6_tells_0
theorem ok_X6_isRow_0 : q_X6_isRow_0.all (mm_ok 124) = true := by decide +kernel
theorem ok_X6_isRow : ∀ c ∈ q_X6_isRow, c.all (mm_ok 124) = true := by
  intro c hc
  simp only [q_X6_isRow, List.mem_cons, List.not_mem_nil, or_false] at hc
  subst hc
  · exact ok_X6_isRow_0
theorem ok_X6_isText_0 : q_X6_isText_0.all (mm_ok 125) = true := by decide +kernel
theorem ok_X6_isText : ∀ c ∈ q_X6_isText, c.all (mm_ok 125) = true := by
  intro c hc
  simp only [q_X6_isText, List.mem_cons, List.not_mem_nil, or_false] at hc
  subst hc
  · exact ok_X6_isText_0
theorem ok_X6_row_0 : q_X6_row_0.all (mm_ok 126) = true := by decide +kernel
theorem ok_X6_row_1 : q_X6_row_1.all (mm_ok 126) = true := by decide +kernel
theorem ok_X6_row : ∀ c ∈ q_X6_row, c.all (mm_ok 126) = true := by
  intro c hc
  simp only [q_X6_row, List.mem_cons, List.not_mem_nil, or_false] at hc
  rcases hc with rfl | rfl
  · exact ok_X6_row_0
  · exact ok_X6_row_1
theorem ok_X6_lay_0 : q_X6_lay_0.all (mm_ok 127) = true := by decide +kernel
theorem ok_X6_lay_1 : q_X6_lay_1.all (mm_ok 127) = true := by decide +kernel
theorem ok_X6_lay : ∀ c ∈ q_X6_lay, c.all (mm_ok 127) = true := by
  intro c hc
  simp only [q_X6_lay, List.mem_cons, List.not_mem_nil, or_false] at hc
  rcases hc with rfl | rfl
  · exact ok_X6_lay_0
  · exact ok_X6_lay_1
theorem ok_X6_at_0 : q_X6_at_0.all (mm_ok 128) = true := by decide +kernel
theorem ok_X6_at_1 : q_X6_at_1.all (mm_ok 128) = true := by decide +kernel
theorem ok_X6_at : ∀ c ∈ q_X6_at, c.all (mm_ok 128) = true := by
  intro c hc
  simp only [q_X6_at, List.mem_cons, List.not_mem_nil, or_false] at hc
  rcases hc with rfl | rfl
  · exact ok_X6_at_0
  · exact ok_X6_at_1
theorem ok_X6_tear_0 : q_X6_tear_0.all (mm_ok 129) = true := by decide +kernel
theorem ok_X6_tear : ∀ c ∈ q_X6_tear, c.all (mm_ok 129) = true := by
  intro c hc
  simp only [q_X6_tear, List.mem_cons, List.not_mem_nil, or_false] at hc
  subst hc
  · exact ok_X6_tear_0
theorem ok_X6_isPart_0 : q_X6_isPart_0.all (mm_ok 130) = true := by decide +kernel
theorem ok_X6_isPart : ∀ c ∈ q_X6_isPart, c.all (mm_ok 130) = true := by
  intro c hc
  simp only [q_X6_isPart, List.mem_cons, List.not_mem_nil, or_false] at hc
  subst hc
  · exact ok_X6_isPart_0
theorem ok_X6_copy_0 : q_X6_copy_0.all (mm_ok 131) = true := by decide +kernel
theorem ok_X6_copy_1 : q_X6_copy_1.all (mm_ok 131) = true := by decide +kernel
theorem ok_X6_copy_2 : q_X6_copy_2.all (mm_ok 131) = true := by decide +kernel
theorem ok_X6_copy : ∀ c ∈ q_X6_copy, c.all (mm_ok 131) = true := by
  intro c hc
  simp only [q_X6_copy, List.mem_cons, List.not_mem_nil, or_false] at hc
  rcases hc with rfl | rfl | rfl
  · exact ok_X6_copy_0
  · exact ok_X6_copy_1
  · exact ok_X6_copy_2
theorem ok_X6_mean_0 : q_X6_mean_0.all (mm_ok 132) = true := by decide +kernel
theorem ok_X6_mean_1 : q_X6_mean_1.all (mm_ok 132) = true := by decide +kernel
theorem ok_X6_mean : ∀ c ∈ q_X6_mean, c.all (mm_ok 132) = true := by
  intro c hc
  simp only [q_X6_mean, List.mem_cons, List.not_mem_nil, or_false] at hc
  rcases hc with rfl | rfl
  · exact ok_X6_mean_0
  · exact ok_X6_mean_1
theorem ok_X6_text_0 : q_X6_text_0.all (mm_ok 133) = true := by decide +kernel
theorem ok_X6_text_1 : q_X6_text_1.all (mm_ok 133) = true := by decide +kernel
theorem ok_X6_text : ∀ c ∈ q_X6_text, c.all (mm_ok 133) = true := by
  intro c hc
  simp only [q_X6_text, List.mem_cons, List.not_mem_nil, or_false] at hc
  rcases hc with rfl | rfl
  · exact ok_X6_text_0
  · exact ok_X6_text_1
theorem ok_X6_put_0 : q_X6_put_0.all (mm_ok 134) = true := by decide +kernel
theorem ok_X6_put_1 : q_X6_put_1.all (mm_ok 134) = true := by decide +kernel
theorem ok_X6_put : ∀ c ∈ q_X6_put, c.all (mm_ok 134) = true := by
  intro c hc
  simp only [q_X6_put, List.mem_cons, List.not_mem_nil, or_false] at hc
  rcases hc with rfl | rfl
  · exact ok_X6_put_0
  · exact ok_X6_put_1
theorem ok_X6_byteAt_0 : q_X6_byteAt_0.all (mm_ok 135) = true := by decide +kernel
theorem ok_X6_byteAt : ∀ c ∈ q_X6_byteAt, c.all (mm_ok 135) = true := by
  intro c hc
  simp only [q_X6_byteAt, List.mem_cons, List.not_mem_nil, or_false] at hc
  subst hc
  · exact ok_X6_byteAt_0
theorem ok_X6_kindOf_0 : q_X6_kindOf_0.all (mm_ok 136) = true := by decide +kernel
theorem ok_X6_kindOf : ∀ c ∈ q_X6_kindOf, c.all (mm_ok 136) = true := by
  intro c hc
  simp only [q_X6_kindOf, List.mem_cons, List.not_mem_nil, or_false] at hc
  subst hc
  · exact ok_X6_kindOf_0
theorem ok_X6_figure_0 : q_X6_figure_0.all (mm_ok 137) = true := by decide +kernel
theorem ok_X6_figure : ∀ c ∈ q_X6_figure, c.all (mm_ok 137) = true := by
  intro c hc
  simp only [q_X6_figure, List.mem_cons, List.not_mem_nil, or_false] at hc
  subst hc
  · exact ok_X6_figure_0
theorem ok_X6_faults_0 : q_X6_faults_0.all (mm_ok 138) = true := by decide +kernel
theorem ok_X6_faults : ∀ c ∈ q_X6_faults, c.all (mm_ok 138) = true := by
  intro c hc
  simp only [q_X6_faults, List.mem_cons, List.not_mem_nil, or_false] at hc
  subst hc
  · exact ok_X6_faults_0
theorem ok_X6_readsCitation_0 : q_X6_readsCitation_0.all (mm_ok 139) = true := by decide +kernel
theorem ok_X6_readsCitation_1 : q_X6_readsCitation_1.all (mm_ok 139) = true := by decide +kernel
theorem ok_X6_readsCitation_2 : q_X6_readsCitation_2.all (mm_ok 139) = true := by decide +kernel
theorem ok_X6_readsCitation : ∀ c ∈ q_X6_readsCitation, c.all (mm_ok 139) = true := by
  intro c hc
  simp only [q_X6_readsCitation, List.mem_cons, List.not_mem_nil, or_false] at hc
  rcases hc with rfl | rfl | rfl
  · exact ok_X6_readsCitation_0
  · exact ok_X6_readsCitation_1
  · exact ok_X6_readsCitation_2
theorem ok_X6_readsItem_0 : q_X6_readsItem_0.all (mm_ok 140) = true := by decide +kernel
theorem ok_X6_readsItem_1 : q_X6_readsItem_1.all (mm_ok 140) = true := by decide +kernel
theorem ok_X6_readsItem_2 : q_X6_readsItem_2.all (mm_ok 140) = true := by decide +kernel
theorem ok_X6_readsItem_3 : q_X6_readsItem_3.all (mm_ok 140) = true := by decide +kernel
theorem ok_X6_readsItem_4 : q_X6_readsItem_4.all (mm_ok 140) = true := by decide +kernel
theorem ok_X6_readsItem : ∀ c ∈ q_X6_readsItem, c.all (mm_ok 140) = true := by
  intro c hc
  simp only [q_X6_readsItem, List.mem_cons, List.not_mem_nil, or_false] at hc
  rcases hc with rfl | rfl | rfl | rfl | rfl
  · exact ok_X6_readsItem_0
  · exact ok_X6_readsItem_1
  · exact ok_X6_readsItem_2
  · exact ok_X6_readsItem_3
  · exact ok_X6_readsItem_4
theorem ok_X6_reads_0 : q_X6_reads_0.all (mm_ok 141) = true := by decide +kernel
theorem ok_X6_reads_1 : q_X6_reads_1.all (mm_ok 141) = true := by decide +kernel
theorem ok_X6_reads_2 : q_X6_reads_2.all (mm_ok 141) = true := by decide +kernel
theorem ok_X6_reads : ∀ c ∈ q_X6_reads, c.all (mm_ok 141) = true := by
  intro c hc
  simp only [q_X6_reads, List.mem_cons, List.not_mem_nil, or_false] at hc
  rcases hc with rfl | rfl | rfl
  · exact ok_X6_reads_0
  · exact ok_X6_reads_1
  · exact ok_X6_reads_2
theorem ok_X6_fault_0 : q_X6_fault_0.all (mm_ok 142) = true := by decide +kernel
theorem ok_X6_fault : ∀ c ∈ q_X6_fault, c.all (mm_ok 142) = true := by
  intro c hc
  simp only [q_X6_fault, List.mem_cons, List.not_mem_nil, or_false] at hc
  subst hc
  · exact ok_X6_fault_0
theorem ok_X6_adds_0 : q_X6_adds_0.all (mm_ok 143) = true := by decide +kernel
theorem ok_X6_adds_1 : q_X6_adds_1.all (mm_ok 143) = true := by decide +kernel
theorem ok_X6_adds : ∀ c ∈ q_X6_adds, c.all (mm_ok 143) = true := by
  intro c hc
  simp only [q_X6_adds, List.mem_cons, List.not_mem_nil, or_false] at hc
  rcases hc with rfl | rfl
  · exact ok_X6_adds_0
  · exact ok_X6_adds_1
theorem ok_X6_court_0 : q_X6_court_0.all (mm_ok 144) = true := by decide +kernel
theorem ok_X6_court_1 : q_X6_court_1.all (mm_ok 144) = true := by decide +kernel
theorem ok_X6_court : ∀ c ∈ q_X6_court, c.all (mm_ok 144) = true := by
  intro c hc
  simp only [q_X6_court, List.mem_cons, List.not_mem_nil, or_false] at hc
  rcases hc with rfl | rfl
  · exact ok_X6_court_0
  · exact ok_X6_court_1
theorem ok_X6_isRuling_0 : q_X6_isRuling_0.all (mm_ok 145) = true := by decide +kernel
theorem ok_X6_isRuling : ∀ c ∈ q_X6_isRuling, c.all (mm_ok 145) = true := by
  intro c hc
  simp only [q_X6_isRuling, List.mem_cons, List.not_mem_nil, or_false] at hc
  subst hc
  · exact ok_X6_isRuling_0
theorem ok_X6_isSet_0 : q_X6_isSet_0.all (mm_ok 146) = true := by decide +kernel
theorem ok_X6_isSet : ∀ c ∈ q_X6_isSet, c.all (mm_ok 146) = true := by
  intro c hc
  simp only [q_X6_isSet, List.mem_cons, List.not_mem_nil, or_false] at hc
  subst hc
  · exact ok_X6_isSet_0
theorem ok_X6_citing_0 : q_X6_citing_0.all (mm_ok 147) = true := by decide +kernel
theorem ok_X6_citing : ∀ c ∈ q_X6_citing, c.all (mm_ok 147) = true := by
  intro c hc
  simp only [q_X6_citing, List.mem_cons, List.not_mem_nil, or_false] at hc
  subst hc
  · exact ok_X6_citing_0
theorem ok_X6_told_0 : q_X6_told_0.all (mm_ok 148) = true := by decide +kernel
theorem ok_X6_told_1 : q_X6_told_1.all (mm_ok 148) = true := by decide +kernel
theorem ok_X6_told : ∀ c ∈ q_X6_told, c.all (mm_ok 148) = true := by
  intro c hc
  simp only [q_X6_told, List.mem_cons, List.not_mem_nil, or_false] at hc
  rcases hc with rfl | rfl
  · exact ok_X6_told_0
  · exact ok_X6_told_1
theorem ok_X6_ruling_0 : q_X6_ruling_0.all (mm_ok 149) = true := by decide +kernel
theorem ok_X6_ruling : ∀ c ∈ q_X6_ruling, c.all (mm_ok 149) = true := by
  intro c hc
  simp only [q_X6_ruling, List.mem_cons, List.not_mem_nil, or_false] at hc
  subst hc
  · exact ok_X6_ruling_0
theorem ok_X6_isOf_0 : q_X6_isOf_0.all (mm_ok 150) = true := by decide +kernel
theorem ok_X6_isOf : ∀ c ∈ q_X6_isOf, c.all (mm_ok 150) = true := by
  intro c hc
  simp only [q_X6_isOf, List.mem_cons, List.not_mem_nil, or_false] at hc
  subst hc
  · exact ok_X6_isOf_0
theorem ok_X6_depends_0 : q_X6_depends_0.all (mm_ok 151) = true := by decide +kernel
theorem ok_X6_depends : ∀ c ∈ q_X6_depends, c.all (mm_ok 151) = true := by
  intro c hc
  simp only [q_X6_depends, List.mem_cons, List.not_mem_nil, or_false] at hc
  subst hc
  · exact ok_X6_depends_0
theorem ok_X6_ofItsDay_0 : q_X6_ofItsDay_0.all (mm_ok 152) = true := by decide +kernel
theorem ok_X6_ofItsDay : ∀ c ∈ q_X6_ofItsDay, c.all (mm_ok 152) = true := by
  intro c hc
  simp only [q_X6_ofItsDay, List.mem_cons, List.not_mem_nil, or_false] at hc
  subst hc
  · exact ok_X6_ofItsDay_0
theorem ok_X6_mark_0 : q_X6_mark_0.all (mm_ok 153) = true := by decide +kernel
theorem ok_X6_mark_1 : q_X6_mark_1.all (mm_ok 153) = true := by decide +kernel
theorem ok_X6_mark : ∀ c ∈ q_X6_mark, c.all (mm_ok 153) = true := by
  intro c hc
  simp only [q_X6_mark, List.mem_cons, List.not_mem_nil, or_false] at hc
  rcases hc with rfl | rfl
  · exact ok_X6_mark_0
  · exact ok_X6_mark_1
theorem ok_X6_reverse_0 : q_X6_reverse_0.all (mm_ok 154) = true := by decide +kernel
theorem ok_X6_reverse : ∀ c ∈ q_X6_reverse, c.all (mm_ok 154) = true := by
  intro c hc
  simp only [q_X6_reverse, List.mem_cons, List.not_mem_nil, or_false] at hc
  subst hc
  · exact ok_X6_reverse_0
theorem ok_X6_marks_0 : q_X6_marks_0.all (mm_ok 155) = true := by decide +kernel
theorem ok_X6_marks : ∀ c ∈ q_X6_marks, c.all (mm_ok 155) = true := by
  intro c hc
  simp only [q_X6_marks, List.mem_cons, List.not_mem_nil, or_false] at hc
  subst hc
  · exact ok_X6_marks_0
theorem ok_X6_file_0 : q_X6_file_0.all (mm_ok 156) = true := by decide +kernel
theorem ok_X6_file_1 : q_X6_file_1.all (mm_ok 156) = true := by decide +kernel
theorem ok_X6_file_2 : q_X6_file_2.all (mm_ok 156) = true := by decide +kernel
theorem ok_X6_file : ∀ c ∈ q_X6_file, c.all (mm_ok 156) = true := by
  intro c hc
  simp only [q_X6_file, List.mem_cons, List.not_mem_nil, or_false] at hc
  rcases hc with rfl | rfl | rfl
  · exact ok_X6_file_0
  · exact ok_X6_file_1
  · exact ok_X6_file_2
theorem ok_X6_strike_0 : q_X6_strike_0.all (mm_ok 157) = true := by decide +kernel
theorem ok_X6_strike_1 : q_X6_strike_1.all (mm_ok 157) = true := by decide +kernel
theorem ok_X6_strike : ∀ c ∈ q_X6_strike, c.all (mm_ok 157) = true := by
  intro c hc
  simp only [q_X6_strike, List.mem_cons, List.not_mem_nil, or_false] at hc
  rcases hc with rfl | rfl
  · exact ok_X6_strike_0
  · exact ok_X6_strike_1
theorem ok_X6_keep_0 : q_X6_keep_0.all (mm_ok 158) = true := by decide +kernel
theorem ok_X6_keep_1 : q_X6_keep_1.all (mm_ok 158) = true := by decide +kernel
theorem ok_X6_keep : ∀ c ∈ q_X6_keep, c.all (mm_ok 158) = true := by
  intro c hc
  simp only [q_X6_keep, List.mem_cons, List.not_mem_nil, or_false] at hc
  rcases hc with rfl | rfl
  · exact ok_X6_keep_0
  · exact ok_X6_keep_1
theorem ok_X6_on_0 : q_X6_on_0.all (mm_ok 159) = true := by decide +kernel
theorem ok_X6_on_1 : q_X6_on_1.all (mm_ok 159) = true := by decide +kernel
theorem ok_X6_on_2 : q_X6_on_2.all (mm_ok 159) = true := by decide +kernel
theorem ok_X6_on : ∀ c ∈ q_X6_on, c.all (mm_ok 159) = true := by
  intro c hc
  simp only [q_X6_on, List.mem_cons, List.not_mem_nil, or_false] at hc
  rcases hc with rfl | rfl | rfl
  · exact ok_X6_on_0
  · exact ok_X6_on_1
  · exact ok_X6_on_2
theorem ok_X6_all_0 : q_X6_all_0.all (mm_ok 160) = true := by decide +kernel
theorem ok_X6_all : ∀ c ∈ q_X6_all, c.all (mm_ok 160) = true := by
  intro c hc
  simp only [q_X6_all, List.mem_cons, List.not_mem_nil, or_false] at hc
  subst hc
  · exact ok_X6_all_0
theorem ok_X6_isDue_0 : q_X6_isDue_0.all (mm_ok 161) = true := by decide +kernel
theorem ok_X6_isDue_1 : q_X6_isDue_1.all (mm_ok 161) = true := by decide +kernel
theorem ok_X6_isDue_2 : q_X6_isDue_2.all (mm_ok 161) = true := by decide +kernel
theorem ok_X6_isDue_3 : q_X6_isDue_3.all (mm_ok 161) = true := by decide +kernel
theorem ok_X6_isDue_4 : q_X6_isDue_4.all (mm_ok 161) = true := by decide +kernel
theorem ok_X6_isDue : ∀ c ∈ q_X6_isDue, c.all (mm_ok 161) = true := by
  intro c hc
  simp only [q_X6_isDue, List.mem_cons, List.not_mem_nil, or_false] at hc
  rcases hc with rfl | rfl | rfl | rfl | rfl
  · exact ok_X6_isDue_0
  · exact ok_X6_isDue_1
  · exact ok_X6_isDue_2
  · exact ok_X6_isDue_3
  · exact ok_X6_isDue_4
theorem ok_X6_dueBy_0 : q_X6_dueBy_0.all (mm_ok 162) = true := by decide +kernel
theorem ok_X6_dueBy_1 : q_X6_dueBy_1.all (mm_ok 162) = true := by decide +kernel
theorem ok_X6_dueBy : ∀ c ∈ q_X6_dueBy, c.all (mm_ok 162) = true := by
  intro c hc
  simp only [q_X6_dueBy, List.mem_cons, List.not_mem_nil, or_false] at hc
  rcases hc with rfl | rfl
  · exact ok_X6_dueBy_0
  · exact ok_X6_dueBy_1
theorem ok_X6_isWay_0 : q_X6_isWay_0.all (mm_ok 163) = true := by decide +kernel
theorem ok_X6_isWay : ∀ c ∈ q_X6_isWay, c.all (mm_ok 163) = true := by
  intro c hc
  simp only [q_X6_isWay, List.mem_cons, List.not_mem_nil, or_false] at hc
  subst hc
  · exact ok_X6_isWay_0
theorem ok_X6_due_0 : q_X6_due_0.all (mm_ok 164) = true := by decide +kernel
theorem ok_X6_due : ∀ c ∈ q_X6_due, c.all (mm_ok 164) = true := by
  intro c hc
  simp only [q_X6_due, List.mem_cons, List.not_mem_nil, or_false] at hc
  subst hc
  · exact ok_X6_due_0
theorem ok_X6_wayMany_0 : q_X6_wayMany_0.all (mm_ok 165) = true := by decide +kernel
theorem ok_X6_wayMany : ∀ c ∈ q_X6_wayMany, c.all (mm_ok 165) = true := by
  intro c hc
  simp only [q_X6_wayMany, List.mem_cons, List.not_mem_nil, or_false] at hc
  subst hc
  · exact ok_X6_wayMany_0
theorem ok_X6_firstWay_0 : q_X6_firstWay_0.all (mm_ok 166) = true := by decide +kernel
theorem ok_X6_firstWay : ∀ c ∈ q_X6_firstWay, c.all (mm_ok 166) = true := by
  intro c hc
  simp only [q_X6_firstWay, List.mem_cons, List.not_mem_nil, or_false] at hc
  subst hc
  · exact ok_X6_firstWay_0
theorem ok_X6_standsIn_0 : q_X6_standsIn_0.all (mm_ok 167) = true := by decide +kernel
theorem ok_X6_standsIn : ∀ c ∈ q_X6_standsIn, c.all (mm_ok 167) = true := by
  intro c hc
  simp only [q_X6_standsIn, List.mem_cons, List.not_mem_nil, or_false] at hc
  subst hc
  · exact ok_X6_standsIn_0
theorem ok_X6_ways_0 : q_X6_ways_0.all (mm_ok 168) = true := by decide +kernel
theorem ok_X6_ways : ∀ c ∈ q_X6_ways, c.all (mm_ok 168) = true := by
  intro c hc
  simp only [q_X6_ways, List.mem_cons, List.not_mem_nil, or_false] at hc
  subst hc
  · exact ok_X6_ways_0
theorem ok_X6_nth_0 : q_X6_nth_0.all (mm_ok 169) = true := by decide +kernel
theorem ok_X6_nth : ∀ c ∈ q_X6_nth, c.all (mm_ok 169) = true := by
  intro c hc
  simp only [q_X6_nth, List.mem_cons, List.not_mem_nil, or_false] at hc
  subst hc
  · exact ok_X6_nth_0
theorem ok_X6_findsSure_0 : q_X6_findsSure_0.all (mm_ok 170) = true := by decide +kernel
theorem ok_X6_findsSure_1 : q_X6_findsSure_1.all (mm_ok 170) = true := by decide +kernel
theorem ok_X6_findsSure : ∀ c ∈ q_X6_findsSure, c.all (mm_ok 170) = true := by
  intro c hc
  simp only [q_X6_findsSure, List.mem_cons, List.not_mem_nil, or_false] at hc
  rcases hc with rfl | rfl
  · exact ok_X6_findsSure_0
  · exact ok_X6_findsSure_1
theorem ok_X6_sure_0 : q_X6_sure_0.all (mm_ok 171) = true := by decide +kernel
theorem ok_X6_sure : ∀ c ∈ q_X6_sure, c.all (mm_ok 171) = true := by
  intro c hc
  simp only [q_X6_sure, List.mem_cons, List.not_mem_nil, or_false] at hc
  subst hc
  · exact ok_X6_sure_0
theorem ok_X6_odds_0 : q_X6_odds_0.all (mm_ok 172) = true := by decide +kernel
theorem ok_X6_odds_1 : q_X6_odds_1.all (mm_ok 172) = true := by decide +kernel
theorem ok_X6_odds : ∀ c ∈ q_X6_odds, c.all (mm_ok 172) = true := by
  intro c hc
  simp only [q_X6_odds, List.mem_cons, List.not_mem_nil, or_false] at hc
  rcases hc with rfl | rfl
  · exact ok_X6_odds_0
  · exact ok_X6_odds_1
theorem ok_X6_together_0 : q_X6_together_0.all (mm_ok 173) = true := by decide +kernel
theorem ok_X6_together_1 : q_X6_together_1.all (mm_ok 173) = true := by decide +kernel
theorem ok_X6_together : ∀ c ∈ q_X6_together, c.all (mm_ok 173) = true := by
  intro c hc
  simp only [q_X6_together, List.mem_cons, List.not_mem_nil, or_false] at hc
  rcases hc with rfl | rfl
  · exact ok_X6_together_0
  · exact ok_X6_together_1
theorem ok_X6_upTo_0 : q_X6_upTo_0.all (mm_ok 174) = true := by decide +kernel
theorem ok_X6_upTo : ∀ c ∈ q_X6_upTo, c.all (mm_ok 174) = true := by
  intro c hc
  simp only [q_X6_upTo, List.mem_cons, List.not_mem_nil, or_false] at hc
  subst hc
  · exact ok_X6_upTo_0
theorem ok_X6_till_0 : q_X6_till_0.all (mm_ok 175) = true := by decide +kernel
theorem ok_X6_till : ∀ c ∈ q_X6_till, c.all (mm_ok 175) = true := by
  intro c hc
  simp only [q_X6_till, List.mem_cons, List.not_mem_nil, or_false] at hc
  subst hc
  · exact ok_X6_till_0
theorem ok_X6_flips_0 : q_X6_flips_0.all (mm_ok 176) = true := by decide +kernel
theorem ok_X6_flips_1 : q_X6_flips_1.all (mm_ok 176) = true := by decide +kernel
theorem ok_X6_flips : ∀ c ∈ q_X6_flips, c.all (mm_ok 176) = true := by
  intro c hc
  simp only [q_X6_flips, List.mem_cons, List.not_mem_nil, or_false] at hc
  rcases hc with rfl | rfl
  · exact ok_X6_flips_0
  · exact ok_X6_flips_1
theorem ok_X6_jam_0 : q_X6_jam_0.all (mm_ok 177) = true := by decide +kernel
theorem ok_X6_jam : ∀ c ∈ q_X6_jam, c.all (mm_ok 177) = true := by
  intro c hc
  simp only [q_X6_jam, List.mem_cons, List.not_mem_nil, or_false] at hc
  subst hc
  · exact ok_X6_jam_0
theorem ok_X6_isReached_0 : q_X6_isReached_0.all (mm_ok 178) = true := by decide +kernel
theorem ok_X6_isReached : ∀ c ∈ q_X6_isReached, c.all (mm_ok 178) = true := by
  intro c hc
  simp only [q_X6_isReached, List.mem_cons, List.not_mem_nil, or_false] at hc
  subst hc
  · exact ok_X6_isReached_0
theorem ok_X6_power_0 : q_X6_power_0.all (mm_ok 179) = true := by decide +kernel
theorem ok_X6_power : ∀ c ∈ q_X6_power, c.all (mm_ok 179) = true := by
  intro c hc
  simp only [q_X6_power, List.mem_cons, List.not_mem_nil, or_false] at hc
  subst hc
  · exact ok_X6_power_0
theorem ok_X6_strikes_0 : q_X6_strikes_0.all (mm_ok 180) = true := by decide +kernel
theorem ok_X6_strikes_1 : q_X6_strikes_1.all (mm_ok 180) = true := by decide +kernel
theorem ok_X6_strikes : ∀ c ∈ q_X6_strikes, c.all (mm_ok 180) = true := by
  intro c hc
  simp only [q_X6_strikes, List.mem_cons, List.not_mem_nil, or_false] at hc
  rcases hc with rfl | rfl
  · exact ok_X6_strikes_0
  · exact ok_X6_strikes_1
theorem ok_X6_files_0 : q_X6_files_0.all (mm_ok 181) = true := by decide +kernel
theorem ok_X6_files_1 : q_X6_files_1.all (mm_ok 181) = true := by decide +kernel
theorem ok_X6_files : ∀ c ∈ q_X6_files, c.all (mm_ok 181) = true := by
  intro c hc
  simp only [q_X6_files, List.mem_cons, List.not_mem_nil, or_false] at hc
  rcases hc with rfl | rfl
  · exact ok_X6_files_0
  · exact ok_X6_files_1
theorem ok_X6_fell_0 : q_X6_fell_0.all (mm_ok 182) = true := by decide +kernel
theorem ok_X6_fell : ∀ c ∈ q_X6_fell, c.all (mm_ok 182) = true := by
  intro c hc
  simp only [q_X6_fell, List.mem_cons, List.not_mem_nil, or_false] at hc
  subst hc
  · exact ok_X6_fell_0
theorem ok_X6_guard_0 : q_X6_guard_0.all (mm_ok 183) = true := by decide +kernel
theorem ok_X6_guard : ∀ c ∈ q_X6_guard, c.all (mm_ok 183) = true := by
  intro c hc
  simp only [q_X6_guard, List.mem_cons, List.not_mem_nil, or_false] at hc
  subst hc
  · exact ok_X6_guard_0
theorem ok_X6_settle_0 : q_X6_settle_0.all (mm_ok 184) = true := by decide +kernel
theorem ok_X6_settle : ∀ c ∈ q_X6_settle, c.all (mm_ok 184) = true := by
  intro c hc
  simp only [q_X6_settle, List.mem_cons, List.not_mem_nil, or_false] at hc
  subst hc
  · exact ok_X6_settle_0
theorem ok_X6_otherwise_0 : q_X6_otherwise_0.all (mm_ok 185) = true := by decide +kernel
theorem ok_X6_otherwise_1 : q_X6_otherwise_1.all (mm_ok 185) = true := by decide +kernel
theorem ok_X6_otherwise : ∀ c ∈ q_X6_otherwise, c.all (mm_ok 185) = true := by
  intro c hc
  simp only [q_X6_otherwise, List.mem_cons, List.not_mem_nil, or_false] at hc
  rcases hc with rfl | rfl
  · exact ok_X6_otherwise_0
  · exact ok_X6_otherwise_1
theorem ok_X6_matter_0 : q_X6_matter_0.all (mm_ok 186) = true := by decide +kernel
theorem ok_X6_matter : ∀ c ∈ q_X6_matter, c.all (mm_ok 186) = true := by
  intro c hc
  simp only [q_X6_matter, List.mem_cons, List.not_mem_nil, or_false] at hc
  subst hc
  · exact ok_X6_matter_0
theorem ok_X6_judge_0 : q_X6_judge_0.all (mm_ok 187) = true := by decide +kernel
theorem ok_X6_judge_1 : q_X6_judge_1.all (mm_ok 187) = true := by decide +kernel
theorem ok_X6_judge_2 : q_X6_judge_2.all (mm_ok 187) = true := by decide +kernel
theorem ok_X6_judge : ∀ c ∈ q_X6_judge, c.all (mm_ok 187) = true := by
  intro c hc
  simp only [q_X6_judge, List.mem_cons, List.not_mem_nil, or_false] at hc
  rcases hc with rfl | rfl | rfl
  · exact ok_X6_judge_0
  · exact ok_X6_judge_1
  · exact ok_X6_judge_2
theorem ok_X6_likeness_0 : q_X6_likeness_0.all (mm_ok 188) = true := by decide +kernel
theorem ok_X6_likeness : ∀ c ∈ q_X6_likeness, c.all (mm_ok 188) = true := by
  intro c hc
  simp only [q_X6_likeness, List.mem_cons, List.not_mem_nil, or_false] at hc
  subst hc
  · exact ok_X6_likeness_0
theorem ok_X6_like_0 : q_X6_like_0.all (mm_ok 189) = true := by decide +kernel
theorem ok_X6_like : ∀ c ∈ q_X6_like, c.all (mm_ok 189) = true := by
  intro c hc
  simp only [q_X6_like, List.mem_cons, List.not_mem_nil, or_false] at hc
  subst hc
  · exact ok_X6_like_0
theorem ok_X6_verdictBy_0 : q_X6_verdictBy_0.all (mm_ok 190) = true := by decide +kernel
theorem ok_X6_verdictBy_1 : q_X6_verdictBy_1.all (mm_ok 190) = true := by decide +kernel
theorem ok_X6_verdictBy_2 : q_X6_verdictBy_2.all (mm_ok 190) = true := by decide +kernel
theorem ok_X6_verdictBy : ∀ c ∈ q_X6_verdictBy, c.all (mm_ok 190) = true := by
  intro c hc
  simp only [q_X6_verdictBy, List.mem_cons, List.not_mem_nil, or_false] at hc
  rcases hc with rfl | rfl | rfl
  · exact ok_X6_verdictBy_0
  · exact ok_X6_verdictBy_1
  · exact ok_X6_verdictBy_2
theorem ok_X6_verdict_0 : q_X6_verdict_0.all (mm_ok 191) = true := by decide +kernel
theorem ok_X6_verdict : ∀ c ∈ q_X6_verdict, c.all (mm_ok 191) = true := by
  intro c hc
  simp only [q_X6_verdict, List.mem_cons, List.not_mem_nil, or_false] at hc
  subst hc
  · exact ok_X6_verdict_0
theorem ok_X6_surely_0 : q_X6_surely_0.all (mm_ok 192) = true := by decide +kernel
theorem ok_X6_surely_1 : q_X6_surely_1.all (mm_ok 192) = true := by decide +kernel
theorem ok_X6_surely : ∀ c ∈ q_X6_surely, c.all (mm_ok 192) = true := by
  intro c hc
  simp only [q_X6_surely, List.mem_cons, List.not_mem_nil, or_false] at hc
  rcases hc with rfl | rfl
  · exact ok_X6_surely_0
  · exact ok_X6_surely_1
theorem ok_X6_freed_0 : q_X6_freed_0.all (mm_ok 193) = true := by decide +kernel
theorem ok_X6_freed_1 : q_X6_freed_1.all (mm_ok 193) = true := by decide +kernel
theorem ok_X6_freed : ∀ c ∈ q_X6_freed, c.all (mm_ok 193) = true := by
  intro c hc
  simp only [q_X6_freed, List.mem_cons, List.not_mem_nil, or_false] at hc
  rcases hc with rfl | rfl
  · exact ok_X6_freed_0
  · exact ok_X6_freed_1
theorem ok_X6_agrees_0 : q_X6_agrees_0.all (mm_ok 194) = true := by decide +kernel
theorem ok_X6_agrees : ∀ c ∈ q_X6_agrees, c.all (mm_ok 194) = true := by
  intro c hc
  simp only [q_X6_agrees, List.mem_cons, List.not_mem_nil, or_false] at hc
  subst hc
  · exact ok_X6_agrees_0
theorem ok_X6_code_0 : q_X6_code_0.all (mm_ok 195) = true := by decide +kernel
theorem ok_X6_code_1 : q_X6_code_1.all (mm_ok 195) = true := by decide +kernel
theorem ok_X6_code : ∀ c ∈ q_X6_code, c.all (mm_ok 195) = true := by
  intro c hc
  simp only [q_X6_code, List.mem_cons, List.not_mem_nil, or_false] at hc
  rcases hc with rfl | rfl
  · exact ok_X6_code_0
  · exact ok_X6_code_1
theorem ok_X6_kinds_0 : q_X6_kinds_0.all (mm_ok 196) = true := by decide +kernel
theorem ok_X6_kinds_1 : q_X6_kinds_1.all (mm_ok 196) = true := by decide +kernel
theorem ok_X6_kinds : ∀ c ∈ q_X6_kinds, c.all (mm_ok 196) = true := by
  intro c hc
  simp only [q_X6_kinds, List.mem_cons, List.not_mem_nil, or_false] at hc
  rcases hc with rfl | rfl
  · exact ok_X6_kinds_0
  · exact ok_X6_kinds_1
theorem ok_X6_forged_0 : q_X6_forged_0.all (mm_ok 197) = true := by decide +kernel
theorem ok_X6_forged_1 : q_X6_forged_1.all (mm_ok 197) = true := by decide +kernel
theorem ok_X6_forged_2 : q_X6_forged_2.all (mm_ok 197) = true := by decide +kernel
theorem ok_X6_forged : ∀ c ∈ q_X6_forged, c.all (mm_ok 197) = true := by
  intro c hc
  simp only [q_X6_forged, List.mem_cons, List.not_mem_nil, or_false] at hc
  rcases hc with rfl | rfl | rfl
  · exact ok_X6_forged_0
  · exact ok_X6_forged_1
  · exact ok_X6_forged_2
theorem ok_X6_torn_0 : q_X6_torn_0.all (mm_ok 198) = true := by decide +kernel
theorem ok_X6_torn_1 : q_X6_torn_1.all (mm_ok 198) = true := by decide +kernel
theorem ok_X6_torn : ∀ c ∈ q_X6_torn, c.all (mm_ok 198) = true := by
  intro c hc
  simp only [q_X6_torn, List.mem_cons, List.not_mem_nil, or_false] at hc
  rcases hc with rfl | rfl
  · exact ok_X6_torn_0
  · exact ok_X6_torn_1
theorem ok_X6_ahead_0 : q_X6_ahead_0.all (mm_ok 199) = true := by decide +kernel
theorem ok_X6_ahead : ∀ c ∈ q_X6_ahead, c.all (mm_ok 199) = true := by
  intro c hc
  simp only [q_X6_ahead, List.mem_cons, List.not_mem_nil, or_false] at hc
  subst hc
  · exact ok_X6_ahead_0
theorem ok_X6_nthAhead_0 : q_X6_nthAhead_0.all (mm_ok 200) = true := by decide +kernel
theorem ok_X6_nthAhead : ∀ c ∈ q_X6_nthAhead, c.all (mm_ok 200) = true := by
  intro c hc
  simp only [q_X6_nthAhead, List.mem_cons, List.not_mem_nil, or_false] at hc
  subst hc
  · exact ok_X6_nthAhead_0
theorem ok_X6_lots_0 : q_X6_lots_0.all (mm_ok 201) = true := by decide +kernel
theorem ok_X6_lots_1 : q_X6_lots_1.all (mm_ok 201) = true := by decide +kernel
theorem ok_X6_lots_2 : q_X6_lots_2.all (mm_ok 201) = true := by decide +kernel
theorem ok_X6_lots : ∀ c ∈ q_X6_lots, c.all (mm_ok 201) = true := by
  intro c hc
  simp only [q_X6_lots, List.mem_cons, List.not_mem_nil, or_false] at hc
  rcases hc with rfl | rfl | rfl
  · exact ok_X6_lots_0
  · exact ok_X6_lots_1
  · exact ok_X6_lots_2
theorem ok_X6_asked_0 : q_X6_asked_0.all (mm_ok 202) = true := by decide +kernel
theorem ok_X6_asked : ∀ c ∈ q_X6_asked, c.all (mm_ok 202) = true := by
  intro c hc
  simp only [q_X6_asked, List.mem_cons, List.not_mem_nil, or_false] at hc
  subst hc
  · exact ok_X6_asked_0
theorem ok_X6_upper_0 : q_X6_upper_0.all (mm_ok 203) = true := by decide +kernel
theorem ok_X6_upper : ∀ c ∈ q_X6_upper, c.all (mm_ok 203) = true := by
  intro c hc
  simp only [q_X6_upper, List.mem_cons, List.not_mem_nil, or_false] at hc
  subst hc
  · exact ok_X6_upper_0
theorem ok_X6_lower_0 : q_X6_lower_0.all (mm_ok 204) = true := by decide +kernel
theorem ok_X6_lower : ∀ c ∈ q_X6_lower, c.all (mm_ok 204) = true := by
  intro c hc
  simp only [q_X6_lower, List.mem_cons, List.not_mem_nil, or_false] at hc
  subst hc
  · exact ok_X6_lower_0
theorem ok_X6_counted_0 : q_X6_counted_0.all (mm_ok 205) = true := by decide +kernel
theorem ok_X6_counted_1 : q_X6_counted_1.all (mm_ok 205) = true := by decide +kernel
theorem ok_X6_counted_2 : q_X6_counted_2.all (mm_ok 205) = true := by decide +kernel
theorem ok_X6_counted_3 : q_X6_counted_3.all (mm_ok 205) = true := by decide +kernel
theorem ok_X6_counted : ∀ c ∈ q_X6_counted, c.all (mm_ok 205) = true := by
  intro c hc
  simp only [q_X6_counted, List.mem_cons, List.not_mem_nil, or_false] at hc
  rcases hc with rfl | rfl | rfl | rfl
  · exact ok_X6_counted_0
  · exact ok_X6_counted_1
  · exact ok_X6_counted_2
  · exact ok_X6_counted_3
theorem ok_X6_count_0 : q_X6_count_0.all (mm_ok 206) = true := by decide +kernel
theorem ok_X6_count : ∀ c ∈ q_X6_count, c.all (mm_ok 206) = true := by
  intro c hc
  simp only [q_X6_count, List.mem_cons, List.not_mem_nil, or_false] at hc
  subst hc
  · exact ok_X6_count_0
theorem ok_X6_finding_0 : q_X6_finding_0.all (mm_ok 207) = true := by decide +kernel
theorem ok_X6_finding : ∀ c ∈ q_X6_finding, c.all (mm_ok 207) = true := by
  intro c hc
  simp only [q_X6_finding, List.mem_cons, List.not_mem_nil, or_false] at hc
  subst hc
  · exact ok_X6_finding_0
theorem ok_X6_findings_0 : q_X6_findings_0.all (mm_ok 208) = true := by decide +kernel
theorem ok_X6_findings : ∀ c ∈ q_X6_findings, c.all (mm_ok 208) = true := by
  intro c hc
  simp only [q_X6_findings, List.mem_cons, List.not_mem_nil, or_false] at hc
  subst hc
  · exact ok_X6_findings_0
theorem ok_X6_digest_0 : q_X6_digest_0.all (mm_ok 209) = true := by decide +kernel
theorem ok_X6_digest_1 : q_X6_digest_1.all (mm_ok 209) = true := by decide +kernel
theorem ok_X6_digest_2 : q_X6_digest_2.all (mm_ok 209) = true := by decide +kernel
theorem ok_X6_digest_3 : q_X6_digest_3.all (mm_ok 209) = true := by decide +kernel
theorem ok_X6_digest_4 : q_X6_digest_4.all (mm_ok 209) = true := by decide +kernel
theorem ok_X6_digest_5 : q_X6_digest_5.all (mm_ok 209) = true := by decide +kernel
theorem ok_X6_digest : ∀ c ∈ q_X6_digest, c.all (mm_ok 209) = true := by
  intro c hc
  simp only [q_X6_digest, List.mem_cons, List.not_mem_nil, or_false] at hc
  rcases hc with rfl | rfl | rfl | rfl | rfl | rfl
  · exact ok_X6_digest_0
  · exact ok_X6_digest_1
  · exact ok_X6_digest_2
  · exact ok_X6_digest_3
  · exact ok_X6_digest_4
  · exact ok_X6_digest_5
theorem ok_J6_bitCount_0f7a4_0 : q_J6_bitCount_0f7a4_0.all (mm_ok 210) = true := by decide +kernel
theorem ok_J6_bitCount_0f7a4_1 : q_J6_bitCount_0f7a4_1.all (mm_ok 210) = true := by decide +kernel
theorem ok_J6_bitCount_0f7a4 : ∀ c ∈ q_J6_bitCount_0f7a4, c.all (mm_ok 210) = true := by
  intro c hc
  simp only [q_J6_bitCount_0f7a4, List.mem_cons, List.not_mem_nil, or_false] at hc
  rcases hc with rfl | rfl
  · exact ok_J6_bitCount_0f7a4_0
  · exact ok_J6_bitCount_0f7a4_1
theorem ok_L_law_0 : q_L_law_0.all (mm_ok 211) = true := by decide +kernel
theorem ok_L_law_1 : q_L_law_1.all (mm_ok 211) = true := by decide +kernel
theorem ok_L_law_2 : q_L_law_2.all (mm_ok 211) = true := by decide +kernel
theorem ok_L_law_3 : q_L_law_3.all (mm_ok 211) = true := by decide +kernel
theorem ok_L_law_4 : q_L_law_4.all (mm_ok 211) = true := by decide +kernel
theorem ok_L_law_5 : q_L_law_5.all (mm_ok 211) = true := by decide +kernel
theorem ok_L_law_6 : q_L_law_6.all (mm_ok 211) = true := by decide +kernel
theorem ok_L_law_7 : q_L_law_7.all (mm_ok 211) = true := by decide +kernel
theorem ok_L_law_8 : q_L_law_8.all (mm_ok 211) = true := by decide +kernel
theorem ok_L_law_9 : q_L_law_9.all (mm_ok 211) = true := by decide +kernel
theorem ok_L_law_10 : q_L_law_10.all (mm_ok 211) = true := by decide +kernel
theorem ok_L_law_11 : q_L_law_11.all (mm_ok 211) = true := by decide +kernel
theorem ok_L_law_12 : q_L_law_12.all (mm_ok 211) = true := by decide +kernel
theorem ok_L_law_13 : q_L_law_13.all (mm_ok 211) = true := by decide +kernel
theorem ok_L_law_14 : q_L_law_14.all (mm_ok 211) = true := by decide +kernel
theorem ok_L_law_15 : q_L_law_15.all (mm_ok 211) = true := by decide +kernel
theorem ok_L_law_16 : q_L_law_16.all (mm_ok 211) = true := by decide +kernel
theorem ok_L_law_17 : q_L_law_17.all (mm_ok 211) = true := by decide +kernel
theorem ok_L_law_18 : q_L_law_18.all (mm_ok 211) = true := by decide +kernel
theorem ok_L_law_19 : q_L_law_19.all (mm_ok 211) = true := by decide +kernel
theorem ok_L_law_20 : q_L_law_20.all (mm_ok 211) = true := by decide +kernel
theorem ok_L_law_21 : q_L_law_21.all (mm_ok 211) = true := by decide +kernel
theorem ok_L_law_22 : q_L_law_22.all (mm_ok 211) = true := by decide +kernel
theorem ok_L_law_23 : q_L_law_23.all (mm_ok 211) = true := by decide +kernel
theorem ok_L_law_24 : q_L_law_24.all (mm_ok 211) = true := by decide +kernel
theorem ok_L_law_25 : q_L_law_25.all (mm_ok 211) = true := by decide +kernel
theorem ok_L_law_26 : q_L_law_26.all (mm_ok 211) = true := by decide +kernel
theorem ok_L_law_27 : q_L_law_27.all (mm_ok 211) = true := by decide +kernel
theorem ok_L_law_28 : q_L_law_28.all (mm_ok 211) = true := by decide +kernel
theorem ok_L_law_29 : q_L_law_29.all (mm_ok 211) = true := by decide +kernel
theorem ok_L_law_30 : q_L_law_30.all (mm_ok 211) = true := by decide +kernel
theorem ok_L_law_31 : q_L_law_31.all (mm_ok 211) = true := by decide +kernel
theorem ok_L_law : ∀ c ∈ q_L_law, c.all (mm_ok 211) = true := by
  intro c hc
  simp only [q_L_law, List.mem_cons, List.not_mem_nil, or_false] at hc
  rcases hc with rfl | rfl | rfl | rfl | rfl | rfl | rfl | rfl | rfl | rfl | rfl | rfl | rfl | rfl | rfl | rfl | rfl | rfl | rfl | rfl | rfl | rfl | rfl | rfl | rfl | rfl | rfl | rfl | rfl | rfl | rfl | rfl
  · exact ok_L_law_0
  · exact ok_L_law_1
  · exact ok_L_law_2
  · exact ok_L_law_3
  · exact ok_L_law_4
  · exact ok_L_law_5
  · exact ok_L_law_6
  · exact ok_L_law_7
  · exact ok_L_law_8
  · exact ok_L_law_9
  · exact ok_L_law_10
  · exact ok_L_law_11
  · exact ok_L_law_12
  · exact ok_L_law_13
  · exact ok_L_law_14
  · exact ok_L_law_15
  · exact ok_L_law_16
  · exact ok_L_law_17
  · exact ok_L_law_18
  · exact ok_L_law_19
  · exact ok_L_law_20
  · exact ok_L_law_21
  · exact ok_L_law_22
  · exact ok_L_law_23
  · exact ok_L_law_24
  · exact ok_L_law_25
  · exact ok_L_law_26
  · exact ok_L_law_27
  · exact ok_L_law_28
  · exact ok_L_law_29
  · exact ok_L_law_30
  · exact ok_L_law_31
