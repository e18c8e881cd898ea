/-- the words of the tables that a call hands on -/
def zw_tbl : List Cond := lw_tbl.filter goodWord
theorem zw {w : Cond} (h : w ∈ lw_tbl) (g : goodWord w = true) : w ∈ zw_tbl := List.mem_filter.mpr ⟨h, g⟩
theorem zt_0 : ∀ w ∈ tables_1, w ∈ lw_tbl := fun w h => List.mem_append_right _ h
theorem zt_1 : ∀ w ∈ tables_1_1, w ∈ lw_tbl := fun w h => zt_0 w (List.mem_append_left _ h)
theorem zt_2 : ∀ w ∈ tables_1_2, w ∈ lw_tbl := fun w h => zt_0 w (List.mem_append_right _ (List.mem_append_left _ h))
theorem zt_3 : ∀ w ∈ tables_1_3, w ∈ lw_tbl := fun w h => zt_0 w (List.mem_append_right _ (List.mem_append_right _ (List.mem_append_left _ h)))
theorem zt_4 : ∀ w ∈ tables_1_4, w ∈ lw_tbl := fun w h => zt_0 w (List.mem_append_right _ (List.mem_append_right _ (List.mem_append_right _ (List.mem_append_left _ h))))
theorem zt_5 : ∀ w ∈ tables_1_5, w ∈ lw_tbl := fun w h => zt_0 w (List.mem_append_right _ (List.mem_append_right _ (List.mem_append_right _ (List.mem_append_right _ (List.mem_append_left _ h)))))
theorem zt_6 : ∀ w ∈ tables_1_6, w ∈ lw_tbl := fun w h => zt_0 w (List.mem_append_right _ (List.mem_append_right _ (List.mem_append_right _ (List.mem_append_right _ (List.mem_append_right _ (h))))))
theorem zp_0 : ∀ w ∈ k2_sels lw_privs, w ∈ lw_tbl := fun w h => List.mem_append_left _ h
theorem zp_1 : ∀ w ∈ k2_sels lw_privs_1, w ∈ lw_tbl := fun w h => zp_0 w (by unfold lw_privs k2_sels; rw [List.map_append]; exact List.mem_append_left _ h)
theorem zp_2 : ∀ w ∈ k2_sels lw_privs_2, w ∈ lw_tbl := fun w h => zp_0 w (by unfold lw_privs k2_sels; rw [List.map_append, List.map_append]; exact List.mem_append_right _ (List.mem_append_left _ h))
theorem zp_3 : ∀ w ∈ k2_sels lw_privs_3, w ∈ lw_tbl := fun w h => zp_0 w (by unfold lw_privs k2_sels; rw [List.map_append, List.map_append]; exact List.mem_append_right _ (List.mem_append_right _ h))
theorem wz_L : Cond.initialized "LoveLocksLaw" ∈ zw_tbl := zw (zt_1 _ (List.mem_of_getElem? (i := 0) rfl)) rfl
theorem wz_X11 : Cond.initialized "LoveLocks" ∈ zw_tbl := zw (zt_1 _ (List.mem_of_getElem? (i := 1) rfl)) rfl
theorem wz_X9 : Cond.initialized "LoveLocks$State" ∈ zw_tbl := zw (zt_1 _ (List.mem_of_getElem? (i := 2) rfl)) rfl
theorem wz_X4 : Cond.initialized "LoveLocks$Rail" ∈ zw_tbl := zw (zt_1 _ (List.mem_of_getElem? (i := 3) rfl)) rfl
theorem wz_X8 : Cond.initialized "LoveLocks$Sights" ∈ zw_tbl := zw (zt_1 _ (List.mem_of_getElem? (i := 4) rfl)) rfl
theorem wz_X2 : Cond.initialized "LoveLocks$Names" ∈ zw_tbl := zw (zt_1 _ (List.mem_of_getElem? (i := 5) rfl)) rfl
theorem wz_X3 : Cond.initialized "LoveLocks$Nights" ∈ zw_tbl := zw (zt_1 _ (List.mem_of_getElem? (i := 6) rfl)) rfl
theorem wz_X0 : Cond.initialized "LoveLocks$Growth" ∈ zw_tbl := zw (zt_1 _ (List.mem_of_getElem? (i := 7) rfl)) rfl
theorem wz_J7 : Cond.initialized "java/util/Arrays" ∈ zw_tbl := zw (zt_1 _ (List.mem_of_getElem? (i := 8) rfl)) rfl
theorem wz_X5 : Cond.initialized "LoveLocks$Reader" ∈ zw_tbl := zw (zt_1 _ (List.mem_of_getElem? (i := 9) rfl)) rfl
theorem wz_X6 : Cond.initialized "LoveLocks$Seeker" ∈ zw_tbl := zw (zt_1 _ (List.mem_of_getElem? (i := 10) rfl)) rfl
theorem wz_X1 : Cond.initialized "LoveLocks$Looter" ∈ zw_tbl := zw (zt_1 _ (List.mem_of_getElem? (i := 11) rfl)) rfl
theorem wz_X10 : Cond.initialized "LoveLocks$Tape" ∈ zw_tbl := zw (zt_1 _ (List.mem_of_getElem? (i := 12) rfl)) rfl
theorem wz_X7 : Cond.initialized "LoveLocks$Sheets" ∈ zw_tbl := zw (zt_1 _ (List.mem_of_getElem? (i := 13) rfl)) rfl
theorem wz_X12 : Cond.initialized "LoveLocksModel" ∈ zw_tbl := zw (zt_1 _ (List.mem_of_getElem? (i := 14) rfl)) rfl
theorem wz_J6 : Cond.initialized "java/lang/Integer" ∈ zw_tbl := zw (zt_1 _ (List.mem_of_getElem? (i := 15) rfl)) rfl
theorem wz_J9 : Cond.initialized "java/lang/Math" ∈ zw_tbl := zw (zt_1 _ (List.mem_of_getElem? (i := 16) rfl)) rfl
theorem wz_J10 : Cond.initialized "java/lang/System" ∈ zw_tbl := zw (zt_1 _ (List.mem_of_getElem? (i := 17) rfl)) rfl
theorem wcl_L_7 : Cond.classLink "LoveLocksLaw" 7 "LoveLocks" ∈ zw_tbl := zw (zt_1 _ (List.mem_of_getElem? (i := 18) rfl)) rfl
theorem wit_X11 : Cond.instantiable "LoveLocks" 8 ∈ zw_tbl := zw (zt_1 _ (List.mem_of_getElem? (i := 19) rfl)) rfl
theorem wl_L_9 : Cond.methodLink "LoveLocksLaw" 9 yX11_init ∈ zw_tbl := zw (zt_1 _ (List.mem_of_getElem? (i := 20) rfl)) rfl
theorem wi_X11_init : Cond.instanceMethod yX11_init ∈ zw_tbl := zw (zt_1 _ (List.mem_of_getElem? (i := 21) rfl)) rfl
theorem wc_X11_init : Cond.code yX11_init cX11_init 1 none ∈ zw_tbl := zw (zt_1 _ (List.mem_of_getElem? (i := 22) rfl)) rfl
theorem wl_X11_1 : Cond.methodLink "LoveLocks" 1 (⟨"java/lang/Object", "<init>", "()V"⟩ : MethodName) ∈ zw_tbl := zw (zt_1 _ (List.mem_of_getElem? (i := 23) rfl)) rfl
theorem wi_objinit : Cond.instanceMethod (⟨"java/lang/Object", "<init>", "()V"⟩ : MethodName) ∈ zw_tbl := zw (zt_1 _ (List.mem_of_getElem? (i := 24) rfl)) rfl
theorem wc_objinit : Cond.code (⟨"java/lang/Object", "<init>", "()V"⟩ : MethodName) object_method_1_code 1 none ∈ zw_tbl := zw (zt_1 _ (List.mem_of_getElem? (i := 25) rfl)) rfl
theorem wcl_X11_7 : Cond.classLink "LoveLocks" 7 "LoveLocks$State" ∈ zw_tbl := zw (zt_1 _ (List.mem_of_getElem? (i := 26) rfl)) rfl
theorem wit_X9 : Cond.instantiable "LoveLocks$State" 5 ∈ zw_tbl := zw (zt_1 _ (List.mem_of_getElem? (i := 27) rfl)) rfl
theorem wn_X11_9 : Cond.methodLinkNest "LoveLocks" 9 yX9_init "LoveLocks" ∈ lw_tbl := zt_1 _ (List.mem_of_getElem? (i := 28) rfl)
theorem wi_X9_init : Cond.instanceMethod yX9_init ∈ zw_tbl := zw (zt_1 _ (List.mem_of_getElem? (i := 29) rfl)) rfl
theorem wc_X9_init : Cond.code yX9_init cX9_init 1 none ∈ zw_tbl := zw (zt_1 _ (List.mem_of_getElem? (i := 30) rfl)) rfl
theorem wl_X9_1 : Cond.methodLink "LoveLocks$State" 1 (⟨"java/lang/Object", "<init>", "()V"⟩ : MethodName) ∈ zw_tbl := zw (zt_1 _ (List.mem_of_getElem? (i := 31) rfl)) rfl
theorem wcl_X9_7 : Cond.classLink "LoveLocks$State" 7 "LoveLocks$Rail" ∈ zw_tbl := zw (zt_1 _ (List.mem_of_getElem? (i := 32) rfl)) rfl
theorem wit_X4 : Cond.instantiable "LoveLocks$Rail" 12 ∈ zw_tbl := zw (zt_1 _ (List.mem_of_getElem? (i := 33) rfl)) rfl
theorem wn_X9_9 : Cond.methodLinkNest "LoveLocks$State" 9 yX4_init "LoveLocks" ∈ lw_tbl := zt_1 _ (List.mem_of_getElem? (i := 34) rfl)
theorem wi_X4_init : Cond.instanceMethod yX4_init ∈ zw_tbl := zw (zt_1 _ (List.mem_of_getElem? (i := 35) rfl)) rfl
theorem wc_X4_init : Cond.code yX4_init cX4_init 1 none ∈ zw_tbl := zw (zt_1 _ (List.mem_of_getElem? (i := 36) rfl)) rfl
theorem wl_X4_3 : Cond.methodLink "LoveLocks$Rail" 3 (⟨"java/lang/Object", "<init>", "()V"⟩ : MethodName) ∈ zw_tbl := zw (zt_1 _ (List.mem_of_getElem? (i := 37) rfl)) rfl
theorem wf_X4_39 : Cond.fieldLink "LoveLocks$Rail" 39 "LoveLocks$Rail" "panels" "I" ∈ zw_tbl := zw (zt_1 _ (List.mem_of_getElem? (i := 38) rfl)) rfl
theorem wf_X11_118 : Cond.fieldLink "LoveLocks" 118 "LoveLocks$Rail" "panels" "I" ∈ zw_tbl := zw (zt_1 _ (List.mem_of_getElem? (i := 39) rfl)) rfl
theorem wf_X4_9 : Cond.fieldLink "LoveLocks$Rail" 9 "LoveLocks$Rail" "barLimit" "[I" ∈ zw_tbl := zw (zt_1 _ (List.mem_of_getElem? (i := 40) rfl)) rfl
theorem wf_X4_15 : Cond.fieldLink "LoveLocks$Rail" 15 "LoveLocks$Rail" "allLimit" "[I" ∈ zw_tbl := zw (zt_1 _ (List.mem_of_getElem? (i := 41) rfl)) rfl
theorem wf_X11_170 : Cond.fieldLink "LoveLocks" 170 "LoveLocks$Rail" "allLimit" "[I" ∈ zw_tbl := zw (zt_1 _ (List.mem_of_getElem? (i := 42) rfl)) rfl
theorem wf_X4_18 : Cond.fieldLink "LoveLocks$Rail" 18 "LoveLocks$Rail" "sagLimit" "[I" ∈ zw_tbl := zw (zt_1 _ (List.mem_of_getElem? (i := 43) rfl)) rfl
theorem wf_X4_49 : Cond.fieldLink "LoveLocks$Rail" 49 "LoveLocks$Rail" "locks" "I" ∈ zw_tbl := zw (zt_1 _ (List.mem_of_getElem? (i := 44) rfl)) rfl
theorem wf_X5_57 : Cond.fieldLink "LoveLocks$Reader" 57 "LoveLocks$Rail" "locks" "I" ∈ zw_tbl := zw (zt_1 _ (List.mem_of_getElem? (i := 45) rfl)) rfl
theorem wf_X1_31 : Cond.fieldLink "LoveLocks$Looter" 31 "LoveLocks$Rail" "locks" "I" ∈ zw_tbl := zw (zt_1 _ (List.mem_of_getElem? (i := 46) rfl)) rfl
theorem wf_X6_29 : Cond.fieldLink "LoveLocks$Seeker" 29 "LoveLocks$Rail" "locks" "I" ∈ zw_tbl := zw (zt_1 _ (List.mem_of_getElem? (i := 47) rfl)) rfl
theorem wf_X11_122 : Cond.fieldLink "LoveLocks" 122 "LoveLocks$Rail" "locks" "I" ∈ zw_tbl := zw (zt_1 _ (List.mem_of_getElem? (i := 48) rfl)) rfl
theorem wf_X4_52 : Cond.fieldLink "LoveLocks$Rail" 52 "LoveLocks$Rail" "gone" "I" ∈ zw_tbl := zw (zt_1 _ (List.mem_of_getElem? (i := 49) rfl)) rfl
theorem wf_X11_125 : Cond.fieldLink "LoveLocks" 125 "LoveLocks$Rail" "gone" "I" ∈ zw_tbl := zw (zt_1 _ (List.mem_of_getElem? (i := 50) rfl)) rfl
theorem wf_X4_21 : Cond.fieldLink "LoveLocks$Rail" 21 "LoveLocks$Rail" "weight" "[I" ∈ zw_tbl := zw (zt_1 _ (List.mem_of_getElem? (i := 51) rfl)) rfl
theorem wf_X1_45 : Cond.fieldLink "LoveLocks$Looter" 45 "LoveLocks$Rail" "weight" "[I" ∈ zw_tbl := zw (zt_1 _ (List.mem_of_getElem? (i := 52) rfl)) rfl
theorem wf_X4_24 : Cond.fieldLink "LoveLocks$Rail" 24 "LoveLocks$Rail" "kind" "[I" ∈ zw_tbl := zw (zt_1 _ (List.mem_of_getElem? (i := 53) rfl)) rfl
theorem wf_X6_23 : Cond.fieldLink "LoveLocks$Seeker" 23 "LoveLocks$Rail" "kind" "[I" ∈ zw_tbl := zw (zt_1 _ (List.mem_of_getElem? (i := 54) rfl)) rfl
theorem wf_X1_42 : Cond.fieldLink "LoveLocks$Looter" 42 "LoveLocks$Rail" "kind" "[I" ∈ zw_tbl := zw (zt_1 _ (List.mem_of_getElem? (i := 55) rfl)) rfl
theorem wf_X4_27 : Cond.fieldLink "LoveLocks$Rail" 27 "LoveLocks$Rail" "year" "[I" ∈ zw_tbl := zw (zt_1 _ (List.mem_of_getElem? (i := 56) rfl)) rfl
theorem wf_X5_62 : Cond.fieldLink "LoveLocks$Reader" 62 "LoveLocks$Rail" "year" "[I" ∈ zw_tbl := zw (zt_1 _ (List.mem_of_getElem? (i := 57) rfl)) rfl
theorem wf_X6_20 : Cond.fieldLink "LoveLocks$Seeker" 20 "LoveLocks$Rail" "year" "[I" ∈ zw_tbl := zw (zt_1 _ (List.mem_of_getElem? (i := 58) rfl)) rfl
theorem wf_X4_30 : Cond.fieldLink "LoveLocks$Rail" 30 "LoveLocks$Rail" "panelOf" "[I" ∈ zw_tbl := zw (zt_1 _ (List.mem_of_getElem? (i := 59) rfl)) rfl
theorem wf_X6_15 : Cond.fieldLink "LoveLocks$Seeker" 15 "LoveLocks$Rail" "panelOf" "[I" ∈ zw_tbl := zw (zt_1 _ (List.mem_of_getElem? (i := 60) rfl)) rfl
theorem wf_X4_33 : Cond.fieldLink "LoveLocks$Rail" 33 "LoveLocks$Rail" "barOf" "[I" ∈ zw_tbl := zw (zt_1 _ (List.mem_of_getElem? (i := 61) rfl)) rfl
theorem wf_X4_36 : Cond.fieldLink "LoveLocks$Rail" 36 "LoveLocks$Rail" "holder" "[I" ∈ zw_tbl := zw (zt_1 _ (List.mem_of_getElem? (i := 62) rfl)) rfl
theorem wf_X1_38 : Cond.fieldLink "LoveLocks$Looter" 38 "LoveLocks$Rail" "holder" "[I" ∈ zw_tbl := zw (zt_1 _ (List.mem_of_getElem? (i := 63) rfl)) rfl
theorem wf_X6_26 : Cond.fieldLink "LoveLocks$Seeker" 26 "LoveLocks$Rail" "holder" "[I" ∈ zw_tbl := zw (zt_1 _ (List.mem_of_getElem? (i := 64) rfl)) rfl
theorem wy_X4_panels : Cond.lays "LoveLocks$Rail" "LoveLocks$Rail" "panels" "I" ∈ zw_tbl := zw (zt_1 _ (List.mem_of_getElem? (i := 65) rfl)) rfl
theorem wy_X4_barLimit : Cond.laysFinal "LoveLocks$Rail" "LoveLocks$Rail" "barLimit" "[I" ∈ zw_tbl := zw (zt_1 _ (List.mem_of_getElem? (i := 67) rfl)) rfl
theorem wy_X4_allLimit : Cond.laysFinal "LoveLocks$Rail" "LoveLocks$Rail" "allLimit" "[I" ∈ zw_tbl := zw (zt_1 _ (List.mem_of_getElem? (i := 69) rfl)) rfl
theorem wy_X4_sagLimit : Cond.laysFinal "LoveLocks$Rail" "LoveLocks$Rail" "sagLimit" "[I" ∈ zw_tbl := zw (zt_1 _ (List.mem_of_getElem? (i := 71) rfl)) rfl
theorem wy_X4_locks : Cond.lays "LoveLocks$Rail" "LoveLocks$Rail" "locks" "I" ∈ zw_tbl := zw (zt_1 _ (List.mem_of_getElem? (i := 73) rfl)) rfl
theorem wy_X4_gone : Cond.lays "LoveLocks$Rail" "LoveLocks$Rail" "gone" "I" ∈ zw_tbl := zw (zt_1 _ (List.mem_of_getElem? (i := 75) rfl)) rfl
theorem wy_X4_weight : Cond.laysFinal "LoveLocks$Rail" "LoveLocks$Rail" "weight" "[I" ∈ zw_tbl := zw (zt_1 _ (List.mem_of_getElem? (i := 77) rfl)) rfl
theorem wy_X4_kind : Cond.laysFinal "LoveLocks$Rail" "LoveLocks$Rail" "kind" "[I" ∈ zw_tbl := zw (zt_1 _ (List.mem_of_getElem? (i := 79) rfl)) rfl
theorem wy_X4_year : Cond.laysFinal "LoveLocks$Rail" "LoveLocks$Rail" "year" "[I" ∈ zw_tbl := zw (zt_1 _ (List.mem_of_getElem? (i := 81) rfl)) rfl
theorem wy_X4_panelOf : Cond.laysFinal "LoveLocks$Rail" "LoveLocks$Rail" "panelOf" "[I" ∈ zw_tbl := zw (zt_1 _ (List.mem_of_getElem? (i := 83) rfl)) rfl
theorem wy_X4_barOf : Cond.laysFinal "LoveLocks$Rail" "LoveLocks$Rail" "barOf" "[I" ∈ zw_tbl := zw (zt_1 _ (List.mem_of_getElem? (i := 85) rfl)) rfl
theorem wy_X4_holder : Cond.laysFinal "LoveLocks$Rail" "LoveLocks$Rail" "holder" "[I" ∈ zw_tbl := zw (zt_1 _ (List.mem_of_getElem? (i := 87) rfl)) rfl
theorem wa_int : Cond.arrayClass .int ∈ zw_tbl := zw (zt_1 _ (List.mem_of_getElem? (i := 90) rfl)) rfl
theorem wcl_X9_16 : Cond.classLink "LoveLocks$State" 16 "LoveLocks$Sights" ∈ zw_tbl := zw (zt_1 _ (List.mem_of_getElem? (i := 91) rfl)) rfl
theorem wit_X8 : Cond.instantiable "LoveLocks$Sights" 4 ∈ zw_tbl := zw (zt_1 _ (List.mem_of_getElem? (i := 92) rfl)) rfl
theorem wn_X9_18 : Cond.methodLinkNest "LoveLocks$State" 18 yX8_init "LoveLocks" ∈ lw_tbl := zt_1 _ (List.mem_of_getElem? (i := 93) rfl)
theorem wi_X8_init : Cond.instanceMethod yX8_init ∈ zw_tbl := zw (zt_1 _ (List.mem_of_getElem? (i := 94) rfl)) rfl
theorem wc_X8_init : Cond.code yX8_init cX8_init 1 none ∈ zw_tbl := zw (zt_1 _ (List.mem_of_getElem? (i := 95) rfl)) rfl
theorem wl_X8_3 : Cond.methodLink "LoveLocks$Sights" 3 (⟨"java/lang/Object", "<init>", "()V"⟩ : MethodName) ∈ zw_tbl := zw (zt_1 _ (List.mem_of_getElem? (i := 96) rfl)) rfl
theorem wf_X8_21 : Cond.fieldLink "LoveLocks$Sights" 21 "LoveLocks$Sights" "sights" "I" ∈ zw_tbl := zw (zt_1 _ (List.mem_of_getElem? (i := 97) rfl)) rfl
theorem wf_X11_137 : Cond.fieldLink "LoveLocks" 137 "LoveLocks$Sights" "sights" "I" ∈ zw_tbl := zw (zt_1 _ (List.mem_of_getElem? (i := 98) rfl)) rfl
theorem wf_X8_9 : Cond.fieldLink "LoveLocks$Sights" 9 "LoveLocks$Sights" "of" "[I" ∈ zw_tbl := zw (zt_1 _ (List.mem_of_getElem? (i := 99) rfl)) rfl
theorem wf_X8_15 : Cond.fieldLink "LoveLocks$Sights" 15 "LoveLocks$Sights" "least" "[I" ∈ zw_tbl := zw (zt_1 _ (List.mem_of_getElem? (i := 100) rfl)) rfl
theorem wf_X8_18 : Cond.fieldLink "LoveLocks$Sights" 18 "LoveLocks$Sights" "most" "[I" ∈ zw_tbl := zw (zt_1 _ (List.mem_of_getElem? (i := 101) rfl)) rfl
theorem wy_X8_sights : Cond.lays "LoveLocks$Sights" "LoveLocks$Sights" "sights" "I" ∈ zw_tbl := zw (zt_1 _ (List.mem_of_getElem? (i := 102) rfl)) rfl
theorem wy_X8_of : Cond.laysFinal "LoveLocks$Sights" "LoveLocks$Sights" "of" "[I" ∈ zw_tbl := zw (zt_1 _ (List.mem_of_getElem? (i := 104) rfl)) rfl
theorem wy_X8_least : Cond.laysFinal "LoveLocks$Sights" "LoveLocks$Sights" "least" "[I" ∈ zw_tbl := zw (zt_1 _ (List.mem_of_getElem? (i := 106) rfl)) rfl
theorem wy_X8_most : Cond.laysFinal "LoveLocks$Sights" "LoveLocks$Sights" "most" "[I" ∈ zw_tbl := zw (zt_1 _ (List.mem_of_getElem? (i := 108) rfl)) rfl
theorem wcl_X9_23 : Cond.classLink "LoveLocks$State" 23 "LoveLocks$Names" ∈ zw_tbl := zw (zt_1 _ (List.mem_of_getElem? (i := 111) rfl)) rfl
theorem wit_X2 : Cond.instantiable "LoveLocks$Names" 5 ∈ zw_tbl := zw (zt_1 _ (List.mem_of_getElem? (i := 112) rfl)) rfl
theorem wn_X9_25 : Cond.methodLinkNest "LoveLocks$State" 25 yX2_init "LoveLocks" ∈ lw_tbl := zt_1 _ (List.mem_of_getElem? (i := 113) rfl)
theorem wi_X2_init : Cond.instanceMethod yX2_init ∈ zw_tbl := zw (zt_1 _ (List.mem_of_getElem? (i := 114) rfl)) rfl
theorem wc_X2_init : Cond.code yX2_init cX2_init 1 none ∈ zw_tbl := zw (zt_1 _ (List.mem_of_getElem? (i := 115) rfl)) rfl
theorem wl_X2_3 : Cond.methodLink "LoveLocks$Names" 3 (⟨"java/lang/Object", "<init>", "()V"⟩ : MethodName) ∈ zw_tbl := zw (zt_1 _ (List.mem_of_getElem? (i := 116) rfl)) rfl
theorem wf_X5_27 : Cond.fieldLink "LoveLocks$Reader" 27 "LoveLocks$Names" "people" "I" ∈ zw_tbl := zw (zt_1 _ (List.mem_of_getElem? (i := 117) rfl)) rfl
theorem wf_X2_21 : Cond.fieldLink "LoveLocks$Names" 21 "LoveLocks$Names" "people" "I" ∈ zw_tbl := zw (zt_1 _ (List.mem_of_getElem? (i := 118) rfl)) rfl
theorem wf_X11_145 : Cond.fieldLink "LoveLocks" 145 "LoveLocks$Names" "people" "I" ∈ zw_tbl := zw (zt_1 _ (List.mem_of_getElem? (i := 119) rfl)) rfl
theorem wf_X5_34 : Cond.fieldLink "LoveLocks$Reader" 34 "LoveLocks$Names" "lettered" "I" ∈ zw_tbl := zw (zt_1 _ (List.mem_of_getElem? (i := 120) rfl)) rfl
theorem wf_X2_25 : Cond.fieldLink "LoveLocks$Names" 25 "LoveLocks$Names" "lettered" "I" ∈ zw_tbl := zw (zt_1 _ (List.mem_of_getElem? (i := 121) rfl)) rfl
theorem wf_X11_150 : Cond.fieldLink "LoveLocks" 150 "LoveLocks$Names" "lettered" "I" ∈ zw_tbl := zw (zt_1 _ (List.mem_of_getElem? (i := 122) rfl)) rfl
theorem wf_X2_9 : Cond.fieldLink "LoveLocks$Names" 9 "LoveLocks$Names" "name" "[J" ∈ zw_tbl := zw (zt_1 _ (List.mem_of_getElem? (i := 123) rfl)) rfl
theorem wf_X2_15 : Cond.fieldLink "LoveLocks$Names" 15 "LoveLocks$Names" "first" "[J" ∈ zw_tbl := zw (zt_1 _ (List.mem_of_getElem? (i := 124) rfl)) rfl
theorem wf_X2_18 : Cond.fieldLink "LoveLocks$Names" 18 "LoveLocks$Names" "second" "[J" ∈ zw_tbl := zw (zt_1 _ (List.mem_of_getElem? (i := 125) rfl)) rfl
theorem wy_X2_people : Cond.lays "LoveLocks$Names" "LoveLocks$Names" "people" "I" ∈ zw_tbl := zw (zt_1 _ (List.mem_of_getElem? (i := 126) rfl)) rfl
theorem wy_X2_lettered : Cond.lays "LoveLocks$Names" "LoveLocks$Names" "lettered" "I" ∈ zw_tbl := zw (zt_1 _ (List.mem_of_getElem? (i := 128) rfl)) rfl
theorem wy_X2_name : Cond.laysFinal "LoveLocks$Names" "LoveLocks$Names" "name" "[J" ∈ zw_tbl := zw (zt_1 _ (List.mem_of_getElem? (i := 130) rfl)) rfl
theorem wy_X2_first : Cond.laysFinal "LoveLocks$Names" "LoveLocks$Names" "first" "[J" ∈ zw_tbl := zw (zt_1 _ (List.mem_of_getElem? (i := 132) rfl)) rfl
theorem wy_X2_second : Cond.laysFinal "LoveLocks$Names" "LoveLocks$Names" "second" "[J" ∈ zw_tbl := zw (zt_1 _ (List.mem_of_getElem? (i := 134) rfl)) rfl
theorem wa_long : Cond.arrayClass .long ∈ zw_tbl := zw (zt_1 _ (List.mem_of_getElem? (i := 137) rfl)) rfl
theorem wcl_X9_30 : Cond.classLink "LoveLocks$State" 30 "LoveLocks$Nights" ∈ zw_tbl := zw (zt_1 _ (List.mem_of_getElem? (i := 138) rfl)) rfl
theorem wit_X3 : Cond.instantiable "LoveLocks$Nights" 9 ∈ zw_tbl := zw (zt_1 _ (List.mem_of_getElem? (i := 139) rfl)) rfl
theorem wn_X9_32 : Cond.methodLinkNest "LoveLocks$State" 32 yX3_init "LoveLocks" ∈ lw_tbl := zt_1 _ (List.mem_of_getElem? (i := 140) rfl)
theorem wi_X3_init : Cond.instanceMethod yX3_init ∈ zw_tbl := zw (zt_1 _ (List.mem_of_getElem? (i := 141) rfl)) rfl
theorem wc_X3_init : Cond.code yX3_init cX3_init 1 none ∈ zw_tbl := zw (zt_1 _ (List.mem_of_getElem? (i := 142) rfl)) rfl
theorem wl_X3_3 : Cond.methodLink "LoveLocks$Nights" 3 (⟨"java/lang/Object", "<init>", "()V"⟩ : MethodName) ∈ zw_tbl := zw (zt_1 _ (List.mem_of_getElem? (i := 143) rfl)) rfl
theorem wcl_X3_25 : Cond.classLink "LoveLocks$Nights" 25 "[[I" ∈ zw_tbl := zw (zt_1 _ (List.mem_of_getElem? (i := 144) rfl)) rfl
theorem wao_II : Cond.arrayOver (.array .int) ∈ lw_tbl := zt_1 _ (List.mem_of_getElem? (i := 145) rfl)
theorem wf_X3_9 : Cond.fieldLink "LoveLocks$Nights" 9 "LoveLocks$Nights" "nightly" "I" ∈ zw_tbl := zw (zt_1 _ (List.mem_of_getElem? (i := 146) rfl)) rfl
theorem wf_X3_15 : Cond.fieldLink "LoveLocks$Nights" 15 "LoveLocks$Nights" "risk" "[I" ∈ zw_tbl := zw (zt_1 _ (List.mem_of_getElem? (i := 147) rfl)) rfl
theorem wf_X3_19 : Cond.fieldLink "LoveLocks$Nights" 19 "LoveLocks$Nights" "grows" "[I" ∈ zw_tbl := zw (zt_1 _ (List.mem_of_getElem? (i := 148) rfl)) rfl
theorem wf_X3_22 : Cond.fieldLink "LoveLocks$Nights" 22 "LoveLocks$Nights" "till" "[I" ∈ zw_tbl := zw (zt_1 _ (List.mem_of_getElem? (i := 149) rfl)) rfl
theorem wf_X3_27 : Cond.fieldLink "LoveLocks$Nights" 27 "LoveLocks$Nights" "cost" "[[I" ∈ zw_tbl := zw (zt_1 _ (List.mem_of_getElem? (i := 150) rfl)) rfl
theorem wf_X3_30 : Cond.fieldLink "LoveLocks$Nights" 30 "LoveLocks$Nights" "choice" "[[I" ∈ zw_tbl := zw (zt_1 _ (List.mem_of_getElem? (i := 151) rfl)) rfl
theorem wf_X3_33 : Cond.fieldLink "LoveLocks$Nights" 33 "LoveLocks$Nights" "waiting" "[I" ∈ zw_tbl := zw (zt_1 _ (List.mem_of_getElem? (i := 152) rfl)) rfl
theorem wf_X3_36 : Cond.fieldLink "LoveLocks$Nights" 36 "LoveLocks$Nights" "night" "[I" ∈ zw_tbl := zw (zt_1 _ (List.mem_of_getElem? (i := 153) rfl)) rfl
theorem wf_X3_49 : Cond.fieldLink "LoveLocks$Nights" 49 "LoveLocks$Nights" "inAll" "I" ∈ zw_tbl := zw (zt_1 _ (List.mem_of_getElem? (i := 154) rfl)) rfl
theorem wy_X3_nightly : Cond.lays "LoveLocks$Nights" "LoveLocks$Nights" "nightly" "I" ∈ zw_tbl := zw (zt_1 _ (List.mem_of_getElem? (i := 155) rfl)) rfl
theorem wy_X3_risk : Cond.laysFinal "LoveLocks$Nights" "LoveLocks$Nights" "risk" "[I" ∈ zw_tbl := zw (zt_1 _ (List.mem_of_getElem? (i := 157) rfl)) rfl
theorem wy_X3_grows : Cond.laysFinal "LoveLocks$Nights" "LoveLocks$Nights" "grows" "[I" ∈ zw_tbl := zw (zt_1 _ (List.mem_of_getElem? (i := 159) rfl)) rfl
theorem wy_X3_till : Cond.laysFinal "LoveLocks$Nights" "LoveLocks$Nights" "till" "[I" ∈ zw_tbl := zw (zt_1 _ (List.mem_of_getElem? (i := 161) rfl)) rfl
theorem wy_X3_cost : Cond.laysFinal "LoveLocks$Nights" "LoveLocks$Nights" "cost" "[[I" ∈ zw_tbl := zw (zt_1 _ (List.mem_of_getElem? (i := 163) rfl)) rfl
theorem wy_X3_choice : Cond.laysFinal "LoveLocks$Nights" "LoveLocks$Nights" "choice" "[[I" ∈ zw_tbl := zw (zt_1 _ (List.mem_of_getElem? (i := 165) rfl)) rfl
theorem wy_X3_waiting : Cond.laysFinal "LoveLocks$Nights" "LoveLocks$Nights" "waiting" "[I" ∈ zw_tbl := zw (zt_1 _ (List.mem_of_getElem? (i := 167) rfl)) rfl
theorem wy_X3_night : Cond.laysFinal "LoveLocks$Nights" "LoveLocks$Nights" "night" "[I" ∈ zw_tbl := zw (zt_1 _ (List.mem_of_getElem? (i := 169) rfl)) rfl
theorem wy_X3_inAll : Cond.lays "LoveLocks$Nights" "LoveLocks$Nights" "inAll" "I" ∈ zw_tbl := zw (zt_1 _ (List.mem_of_getElem? (i := 171) rfl)) rfl
theorem wcl_X9_37 : Cond.classLink "LoveLocks$State" 37 "LoveLocks$Growth" ∈ zw_tbl := zw (zt_1 _ (List.mem_of_getElem? (i := 174) rfl)) rfl
theorem wit_X0 : Cond.instantiable "LoveLocks$Growth" 4 ∈ zw_tbl := zw (zt_1 _ (List.mem_of_getElem? (i := 175) rfl)) rfl
theorem wl_X9_39 : Cond.methodLink "LoveLocks$State" 39 yX0_init ∈ zw_tbl := zw (zt_1 _ (List.mem_of_getElem? (i := 176) rfl)) rfl
theorem wi_X0_init : Cond.instanceMethod yX0_init ∈ zw_tbl := zw (zt_1 _ (List.mem_of_getElem? (i := 177) rfl)) rfl
theorem wc_X0_init : Cond.code yX0_init cX0_init 1 none ∈ zw_tbl := zw (zt_1 _ (List.mem_of_getElem? (i := 178) rfl)) rfl
theorem wl_X0_3 : Cond.methodLink "LoveLocks$Growth" 3 (⟨"java/lang/Object", "<init>", "()V"⟩ : MethodName) ∈ zw_tbl := zw (zt_1 _ (List.mem_of_getElem? (i := 179) rfl)) rfl
theorem wk_X0_18 : Cond.constant "LoveLocks$Growth" 18 (1000000) ∈ zw_tbl := zw (zt_1 _ (List.mem_of_getElem? (i := 180) rfl)) rfl
theorem wl_X0_19 : Cond.methodLink "LoveLocks$Growth" 19 yJ7_fill_53178 ∈ zw_tbl := zw (zt_1 _ (List.mem_of_getElem? (i := 181) rfl)) rfl
theorem wst_J7_fill_53178 : Cond.static yJ7_fill_53178 ∈ zw_tbl := zw (zt_1 _ (List.mem_of_getElem? (i := 182) rfl)) rfl
theorem wc_J7_fill_53178 : Cond.code yJ7_fill_53178 cJ7_fill_53178 4 none ∈ zw_tbl := zw (zt_1 _ (List.mem_of_getElem? (i := 183) rfl)) rfl
theorem wf_X0_9 : Cond.fieldLink "LoveLocks$Growth" 9 "LoveLocks$Growth" "least" "[I" ∈ zw_tbl := zw (zt_1 _ (List.mem_of_getElem? (i := 184) rfl)) rfl
theorem wf_X0_15 : Cond.fieldLink "LoveLocks$Growth" 15 "LoveLocks$Growth" "most" "[I" ∈ zw_tbl := zw (zt_1 _ (List.mem_of_getElem? (i := 185) rfl)) rfl
theorem wf_X0_47 : Cond.fieldLink "LoveLocks$Growth" 47 "LoveLocks$Growth" "lowest" "I" ∈ zw_tbl := zw (zt_1 _ (List.mem_of_getElem? (i := 186) rfl)) rfl
theorem wf_X0_51 : Cond.fieldLink "LoveLocks$Growth" 51 "LoveLocks$Growth" "highest" "I" ∈ zw_tbl := zw (zt_1 _ (List.mem_of_getElem? (i := 187) rfl)) rfl
theorem wy_X0_least : Cond.laysFinal "LoveLocks$Growth" "LoveLocks$Growth" "least" "[I" ∈ zw_tbl := zw (zt_1 _ (List.mem_of_getElem? (i := 188) rfl)) rfl
theorem wy_X0_most : Cond.laysFinal "LoveLocks$Growth" "LoveLocks$Growth" "most" "[I" ∈ zw_tbl := zw (zt_1 _ (List.mem_of_getElem? (i := 190) rfl)) rfl
theorem wy_X0_lowest : Cond.lays "LoveLocks$Growth" "LoveLocks$Growth" "lowest" "I" ∈ zw_tbl := zw (zt_1 _ (List.mem_of_getElem? (i := 192) rfl)) rfl
theorem wy_X0_highest : Cond.lays "LoveLocks$Growth" "LoveLocks$Growth" "highest" "I" ∈ zw_tbl := zw (zt_1 _ (List.mem_of_getElem? (i := 194) rfl)) rfl
theorem wf_X9_10 : Cond.fieldLink "LoveLocks$State" 10 "LoveLocks$State" "rail" "LLoveLocks$Rail;" ∈ zw_tbl := zw (zt_1 _ (List.mem_of_getElem? (i := 197) rfl)) rfl
theorem wf_X11_59 : Cond.fieldLink "LoveLocks" 59 "LoveLocks$State" "rail" "LLoveLocks$Rail;" ∈ zw_tbl := zw (zt_1 _ (List.mem_of_getElem? (i := 198) rfl)) rfl
theorem wf_X9_19 : Cond.fieldLink "LoveLocks$State" 19 "LoveLocks$State" "sights" "LLoveLocks$Sights;" ∈ zw_tbl := zw (zt_1 _ (List.mem_of_getElem? (i := 199) rfl)) rfl
theorem wf_X11_133 : Cond.fieldLink "LoveLocks" 133 "LoveLocks$State" "sights" "LLoveLocks$Sights;" ∈ zw_tbl := zw (zt_1 _ (List.mem_of_getElem? (i := 200) rfl)) rfl
theorem wf_X9_26 : Cond.fieldLink "LoveLocks$State" 26 "LoveLocks$State" "names" "LLoveLocks$Names;" ∈ zw_tbl := zw (zt_1 _ (List.mem_of_getElem? (i := 201) rfl)) rfl
theorem wf_X11_141 : Cond.fieldLink "LoveLocks" 141 "LoveLocks$State" "names" "LLoveLocks$Names;" ∈ zw_tbl := zw (zt_1 _ (List.mem_of_getElem? (i := 202) rfl)) rfl
theorem wf_X9_33 : Cond.fieldLink "LoveLocks$State" 33 "LoveLocks$State" "nights" "LLoveLocks$Nights;" ∈ zw_tbl := zw (zt_1 _ (List.mem_of_getElem? (i := 203) rfl)) rfl
theorem wf_X11_220 : Cond.fieldLink "LoveLocks" 220 "LoveLocks$State" "nights" "LLoveLocks$Nights;" ∈ zw_tbl := zw (zt_1 _ (List.mem_of_getElem? (i := 204) rfl)) rfl
theorem wf_X9_40 : Cond.fieldLink "LoveLocks$State" 40 "LoveLocks$State" "growth" "LLoveLocks$Growth;" ∈ zw_tbl := zw (zt_1 _ (List.mem_of_getElem? (i := 205) rfl)) rfl
theorem wf_X11_247 : Cond.fieldLink "LoveLocks" 247 "LoveLocks$State" "growth" "LLoveLocks$Growth;" ∈ zw_tbl := zw (zt_1 _ (List.mem_of_getElem? (i := 206) rfl)) rfl
theorem wy_X9_rail : Cond.laysFinal "LoveLocks$State" "LoveLocks$State" "rail" "LLoveLocks$Rail;" ∈ zw_tbl := zw (zt_1 _ (List.mem_of_getElem? (i := 207) rfl)) rfl
theorem wy_X9_sights : Cond.laysFinal "LoveLocks$State" "LoveLocks$State" "sights" "LLoveLocks$Sights;" ∈ zw_tbl := zw (zt_1 _ (List.mem_of_getElem? (i := 209) rfl)) rfl
theorem wy_X9_names : Cond.laysFinal "LoveLocks$State" "LoveLocks$State" "names" "LLoveLocks$Names;" ∈ zw_tbl := zw (zt_1 _ (List.mem_of_getElem? (i := 211) rfl)) rfl
theorem wy_X9_nights : Cond.laysFinal "LoveLocks$State" "LoveLocks$State" "nights" "LLoveLocks$Nights;" ∈ zw_tbl := zw (zt_1 _ (List.mem_of_getElem? (i := 213) rfl)) rfl
theorem wy_X9_growth : Cond.laysFinal "LoveLocks$State" "LoveLocks$State" "growth" "LLoveLocks$Growth;" ∈ zw_tbl := zw (zt_1 _ (List.mem_of_getElem? (i := 215) rfl)) rfl
theorem wcl_X11_19 : Cond.classLink "LoveLocks" 19 "LoveLocks$Reader" ∈ zw_tbl := zw (zt_1 _ (List.mem_of_getElem? (i := 218) rfl)) rfl
theorem wit_X5 : Cond.instantiable "LoveLocks$Reader" 8 ∈ zw_tbl := zw (zt_1 _ (List.mem_of_getElem? (i := 219) rfl)) rfl
theorem wn_X11_21 : Cond.methodLinkNest "LoveLocks" 21 yX5_init "LoveLocks" ∈ lw_tbl := zt_1 _ (List.mem_of_getElem? (i := 220) rfl)
theorem wi_X5_init : Cond.instanceMethod yX5_init ∈ zw_tbl := zw (zt_1 _ (List.mem_of_getElem? (i := 221) rfl)) rfl
theorem wc_X5_init : Cond.code yX5_init cX5_init 1 none ∈ zw_tbl := zw (zt_1 _ (List.mem_of_getElem? (i := 222) rfl)) rfl
theorem wl_X5_3 : Cond.methodLink "LoveLocks$Reader" 3 (⟨"java/lang/Object", "<init>", "()V"⟩ : MethodName) ∈ zw_tbl := zw (zt_1 _ (List.mem_of_getElem? (i := 223) rfl)) rfl
theorem wf_X5_45 : Cond.fieldLink "LoveLocks$Reader" 45 "LoveLocks$Reader" "ways" "J" ∈ zw_tbl := zw (zt_1 _ (List.mem_of_getElem? (i := 224) rfl)) rfl
theorem wf_X11_211 : Cond.fieldLink "LoveLocks" 211 "LoveLocks$Reader" "ways" "J" ∈ zw_tbl := zw (zt_1 _ (List.mem_of_getElem? (i := 225) rfl)) rfl
theorem wf_X5_33 : Cond.fieldLink "LoveLocks$Reader" 33 "LoveLocks$Reader" "people" "I" ∈ zw_tbl := zw (zt_1 _ (List.mem_of_getElem? (i := 226) rfl)) rfl
theorem wf_X5_37 : Cond.fieldLink "LoveLocks$Reader" 37 "LoveLocks$Reader" "lettered" "I" ∈ zw_tbl := zw (zt_1 _ (List.mem_of_getElem? (i := 227) rfl)) rfl
theorem wf_X5_9 : Cond.fieldLink "LoveLocks$Reader" 9 "LoveLocks$Reader" "one" "[I" ∈ zw_tbl := zw (zt_1 _ (List.mem_of_getElem? (i := 228) rfl)) rfl
theorem wf_X5_15 : Cond.fieldLink "LoveLocks$Reader" 15 "LoveLocks$Reader" "other" "[I" ∈ zw_tbl := zw (zt_1 _ (List.mem_of_getElem? (i := 229) rfl)) rfl
theorem wf_X5_18 : Cond.fieldLink "LoveLocks$Reader" 18 "LoveLocks$Reader" "pair" "[I" ∈ zw_tbl := zw (zt_1 _ (List.mem_of_getElem? (i := 230) rfl)) rfl
theorem wf_X5_21 : Cond.fieldLink "LoveLocks$Reader" 21 "LoveLocks$Reader" "some" "[I" ∈ zw_tbl := zw (zt_1 _ (List.mem_of_getElem? (i := 231) rfl)) rfl
theorem wf_X5_24 : Cond.fieldLink "LoveLocks$Reader" 24 "LoveLocks$Reader" "all" "[I" ∈ zw_tbl := zw (zt_1 _ (List.mem_of_getElem? (i := 232) rfl)) rfl
theorem wy_X5_ways : Cond.lays "LoveLocks$Reader" "LoveLocks$Reader" "ways" "J" ∈ zw_tbl := zw (zt_1 _ (List.mem_of_getElem? (i := 233) rfl)) rfl
theorem wy_X5_people : Cond.lays "LoveLocks$Reader" "LoveLocks$Reader" "people" "I" ∈ zw_tbl := zw (zt_1 _ (List.mem_of_getElem? (i := 235) rfl)) rfl
theorem wy_X5_lettered : Cond.lays "LoveLocks$Reader" "LoveLocks$Reader" "lettered" "I" ∈ zw_tbl := zw (zt_1 _ (List.mem_of_getElem? (i := 237) rfl)) rfl
theorem wy_X5_one : Cond.laysFinal "LoveLocks$Reader" "LoveLocks$Reader" "one" "[I" ∈ zw_tbl := zw (zt_1 _ (List.mem_of_getElem? (i := 239) rfl)) rfl
theorem wy_X5_other : Cond.laysFinal "LoveLocks$Reader" "LoveLocks$Reader" "other" "[I" ∈ zw_tbl := zw (zt_2 _ (List.mem_of_getElem? (i := 1) rfl)) rfl
theorem wy_X5_pair : Cond.laysFinal "LoveLocks$Reader" "LoveLocks$Reader" "pair" "[I" ∈ zw_tbl := zw (zt_2 _ (List.mem_of_getElem? (i := 3) rfl)) rfl
theorem wy_X5_some : Cond.laysFinal "LoveLocks$Reader" "LoveLocks$Reader" "some" "[I" ∈ zw_tbl := zw (zt_2 _ (List.mem_of_getElem? (i := 5) rfl)) rfl
theorem wy_X5_all : Cond.laysFinal "LoveLocks$Reader" "LoveLocks$Reader" "all" "[I" ∈ zw_tbl := zw (zt_2 _ (List.mem_of_getElem? (i := 7) rfl)) rfl
theorem wcl_X11_26 : Cond.classLink "LoveLocks" 26 "LoveLocks$Seeker" ∈ zw_tbl := zw (zt_2 _ (List.mem_of_getElem? (i := 10) rfl)) rfl
theorem wit_X6 : Cond.instantiable "LoveLocks$Seeker" 1 ∈ zw_tbl := zw (zt_2 _ (List.mem_of_getElem? (i := 11) rfl)) rfl
theorem wn_X11_28 : Cond.methodLinkNest "LoveLocks" 28 yX6_init "LoveLocks" ∈ lw_tbl := zt_2 _ (List.mem_of_getElem? (i := 12) rfl)
theorem wi_X6_init : Cond.instanceMethod yX6_init ∈ zw_tbl := zw (zt_2 _ (List.mem_of_getElem? (i := 13) rfl)) rfl
theorem wc_X6_init : Cond.code yX6_init cX6_init 1 none ∈ zw_tbl := zw (zt_2 _ (List.mem_of_getElem? (i := 14) rfl)) rfl
theorem wl_X6_3 : Cond.methodLink "LoveLocks$Seeker" 3 (⟨"java/lang/Object", "<init>", "()V"⟩ : MethodName) ∈ zw_tbl := zw (zt_2 _ (List.mem_of_getElem? (i := 15) rfl)) rfl
theorem wf_X6_11 : Cond.fieldLink "LoveLocks$Seeker" 11 "LoveLocks$Seeker" "yes" "[I" ∈ zw_tbl := zw (zt_2 _ (List.mem_of_getElem? (i := 16) rfl)) rfl
theorem wy_X6_yes : Cond.laysFinal "LoveLocks$Seeker" "LoveLocks$Seeker" "yes" "[I" ∈ zw_tbl := zw (zt_2 _ (List.mem_of_getElem? (i := 17) rfl)) rfl
theorem wcl_X11_33 : Cond.classLink "LoveLocks" 33 "LoveLocks$Looter" ∈ zw_tbl := zw (zt_2 _ (List.mem_of_getElem? (i := 20) rfl)) rfl
theorem wit_X1 : Cond.instantiable "LoveLocks$Looter" 3 ∈ zw_tbl := zw (zt_2 _ (List.mem_of_getElem? (i := 21) rfl)) rfl
theorem wn_X11_35 : Cond.methodLinkNest "LoveLocks" 35 yX1_init "LoveLocks" ∈ lw_tbl := zt_2 _ (List.mem_of_getElem? (i := 22) rfl)
theorem wi_X1_init : Cond.instanceMethod yX1_init ∈ zw_tbl := zw (zt_2 _ (List.mem_of_getElem? (i := 23) rfl)) rfl
theorem wc_X1_init : Cond.code yX1_init cX1_init 1 none ∈ zw_tbl := zw (zt_2 _ (List.mem_of_getElem? (i := 24) rfl)) rfl
theorem wl_X1_3 : Cond.methodLink "LoveLocks$Looter" 3 (⟨"java/lang/Object", "<init>", "()V"⟩ : MethodName) ∈ zw_tbl := zw (zt_2 _ (List.mem_of_getElem? (i := 25) rfl)) rfl
theorem wf_X1_9 : Cond.fieldLink "LoveLocks$Looter" 9 "LoveLocks$Looter" "loots" "I" ∈ zw_tbl := zw (zt_2 _ (List.mem_of_getElem? (i := 26) rfl)) rfl
theorem wf_X11_286 : Cond.fieldLink "LoveLocks" 286 "LoveLocks$Looter" "loots" "I" ∈ zw_tbl := zw (zt_2 _ (List.mem_of_getElem? (i := 27) rfl)) rfl
theorem wf_X1_15 : Cond.fieldLink "LoveLocks$Looter" 15 "LoveLocks$Looter" "inAll" "I" ∈ zw_tbl := zw (zt_2 _ (List.mem_of_getElem? (i := 28) rfl)) rfl
theorem wf_X11_289 : Cond.fieldLink "LoveLocks" 289 "LoveLocks$Looter" "inAll" "I" ∈ zw_tbl := zw (zt_2 _ (List.mem_of_getElem? (i := 29) rfl)) rfl
theorem wf_X1_18 : Cond.fieldLink "LoveLocks$Looter" 18 "LoveLocks$Looter" "inSome" "I" ∈ zw_tbl := zw (zt_2 _ (List.mem_of_getElem? (i := 30) rfl)) rfl
theorem wf_X11_292 : Cond.fieldLink "LoveLocks" 292 "LoveLocks$Looter" "inSome" "I" ∈ zw_tbl := zw (zt_2 _ (List.mem_of_getElem? (i := 31) rfl)) rfl
theorem wy_X1_loots : Cond.lays "LoveLocks$Looter" "LoveLocks$Looter" "loots" "I" ∈ zw_tbl := zw (zt_2 _ (List.mem_of_getElem? (i := 32) rfl)) rfl
theorem wy_X1_inAll : Cond.lays "LoveLocks$Looter" "LoveLocks$Looter" "inAll" "I" ∈ zw_tbl := zw (zt_2 _ (List.mem_of_getElem? (i := 34) rfl)) rfl
theorem wy_X1_inSome : Cond.lays "LoveLocks$Looter" "LoveLocks$Looter" "inSome" "I" ∈ zw_tbl := zw (zt_2 _ (List.mem_of_getElem? (i := 36) rfl)) rfl
theorem wcl_X11_40 : Cond.classLink "LoveLocks" 40 "LoveLocks$Tape" ∈ zw_tbl := zw (zt_2 _ (List.mem_of_getElem? (i := 39) rfl)) rfl
theorem wit_X10 : Cond.instantiable "LoveLocks$Tape" 4 ∈ zw_tbl := zw (zt_2 _ (List.mem_of_getElem? (i := 40) rfl)) rfl
theorem wn_X11_42 : Cond.methodLinkNest "LoveLocks" 42 yX10_init "LoveLocks" ∈ lw_tbl := zt_2 _ (List.mem_of_getElem? (i := 41) rfl)
theorem wi_X10_init : Cond.instanceMethod yX10_init ∈ zw_tbl := zw (zt_2 _ (List.mem_of_getElem? (i := 42) rfl)) rfl
theorem wc_X10_init : Cond.code yX10_init cX10_init 1 none ∈ zw_tbl := zw (zt_2 _ (List.mem_of_getElem? (i := 43) rfl)) rfl
theorem wl_X10_3 : Cond.methodLink "LoveLocks$Tape" 3 (⟨"java/lang/Object", "<init>", "()V"⟩ : MethodName) ∈ zw_tbl := zw (zt_2 _ (List.mem_of_getElem? (i := 44) rfl)) rfl
theorem wf_X10_21 : Cond.fieldLink "LoveLocks$Tape" 21 "LoveLocks$Tape" "length" "I" ∈ zw_tbl := zw (zt_2 _ (List.mem_of_getElem? (i := 45) rfl)) rfl
theorem wf_X11_180 : Cond.fieldLink "LoveLocks" 180 "LoveLocks$Tape" "length" "I" ∈ zw_tbl := zw (zt_2 _ (List.mem_of_getElem? (i := 46) rfl)) rfl
theorem wf_X10_33 : Cond.fieldLink "LoveLocks$Tape" 33 "LoveLocks$Tape" "first" "J" ∈ zw_tbl := zw (zt_2 _ (List.mem_of_getElem? (i := 47) rfl)) rfl
theorem wf_X11_183 : Cond.fieldLink "LoveLocks" 183 "LoveLocks$Tape" "first" "J" ∈ zw_tbl := zw (zt_2 _ (List.mem_of_getElem? (i := 48) rfl)) rfl
theorem wf_X10_37 : Cond.fieldLink "LoveLocks$Tape" 37 "LoveLocks$Tape" "second" "J" ∈ zw_tbl := zw (zt_2 _ (List.mem_of_getElem? (i := 49) rfl)) rfl
theorem wf_X11_194 : Cond.fieldLink "LoveLocks" 194 "LoveLocks$Tape" "second" "J" ∈ zw_tbl := zw (zt_2 _ (List.mem_of_getElem? (i := 50) rfl)) rfl
theorem wf_X10_9 : Cond.fieldLink "LoveLocks$Tape" 9 "LoveLocks$Tape" "bytes" "[B" ∈ zw_tbl := zw (zt_2 _ (List.mem_of_getElem? (i := 51) rfl)) rfl
theorem wy_X10_length : Cond.lays "LoveLocks$Tape" "LoveLocks$Tape" "length" "I" ∈ zw_tbl := zw (zt_2 _ (List.mem_of_getElem? (i := 52) rfl)) rfl
theorem wy_X10_first : Cond.lays "LoveLocks$Tape" "LoveLocks$Tape" "first" "J" ∈ zw_tbl := zw (zt_2 _ (List.mem_of_getElem? (i := 54) rfl)) rfl
theorem wy_X10_second : Cond.lays "LoveLocks$Tape" "LoveLocks$Tape" "second" "J" ∈ zw_tbl := zw (zt_2 _ (List.mem_of_getElem? (i := 56) rfl)) rfl
theorem wy_X10_bytes : Cond.laysFinal "LoveLocks$Tape" "LoveLocks$Tape" "bytes" "[B" ∈ zw_tbl := zw (zt_2 _ (List.mem_of_getElem? (i := 58) rfl)) rfl
theorem wa_byte : Cond.arrayClass .byte ∈ zw_tbl := zw (zt_2 _ (List.mem_of_getElem? (i := 61) rfl)) rfl
theorem wcl_X11_47 : Cond.classLink "LoveLocks" 47 "LoveLocks$Sheets" ∈ zw_tbl := zw (zt_2 _ (List.mem_of_getElem? (i := 62) rfl)) rfl
theorem wit_X7 : Cond.instantiable "LoveLocks$Sheets" 3 ∈ zw_tbl := zw (zt_2 _ (List.mem_of_getElem? (i := 63) rfl)) rfl
theorem wl_X11_49 : Cond.methodLink "LoveLocks" 49 yX7_init ∈ zw_tbl := zw (zt_2 _ (List.mem_of_getElem? (i := 64) rfl)) rfl
theorem wi_X7_init : Cond.instanceMethod yX7_init ∈ zw_tbl := zw (zt_2 _ (List.mem_of_getElem? (i := 65) rfl)) rfl
theorem wc_X7_init : Cond.code yX7_init cX7_init 1 none ∈ zw_tbl := zw (zt_2 _ (List.mem_of_getElem? (i := 66) rfl)) rfl
theorem wl_X7_3 : Cond.methodLink "LoveLocks$Sheets" 3 (⟨"java/lang/Object", "<init>", "()V"⟩ : MethodName) ∈ zw_tbl := zw (zt_2 _ (List.mem_of_getElem? (i := 67) rfl)) rfl
theorem wcl_X7_18 : Cond.classLink "LoveLocks$Sheets" 18 "[[I" ∈ zw_tbl := zw (zt_2 _ (List.mem_of_getElem? (i := 68) rfl)) rfl
theorem wl_X7_23 : Cond.methodLink "LoveLocks$Sheets" 23 yJ7_fill_53178 ∈ zw_tbl := zw (zt_2 _ (List.mem_of_getElem? (i := 69) rfl)) rfl
theorem wf_X7_9 : Cond.fieldLink "LoveLocks$Sheets" 9 "LoveLocks$Sheets" "lane" "[I" ∈ zw_tbl := zw (zt_2 _ (List.mem_of_getElem? (i := 70) rfl)) rfl
theorem wf_X7_15 : Cond.fieldLink "LoveLocks$Sheets" 15 "LoveLocks$Sheets" "size" "[I" ∈ zw_tbl := zw (zt_2 _ (List.mem_of_getElem? (i := 71) rfl)) rfl
theorem wf_X7_20 : Cond.fieldLink "LoveLocks$Sheets" 20 "LoveLocks$Sheets" "items" "[[I" ∈ zw_tbl := zw (zt_2 _ (List.mem_of_getElem? (i := 72) rfl)) rfl
theorem wy_X7_lane : Cond.laysFinal "LoveLocks$Sheets" "LoveLocks$Sheets" "lane" "[I" ∈ zw_tbl := zw (zt_2 _ (List.mem_of_getElem? (i := 73) rfl)) rfl
theorem wy_X7_size : Cond.laysFinal "LoveLocks$Sheets" "LoveLocks$Sheets" "size" "[I" ∈ zw_tbl := zw (zt_2 _ (List.mem_of_getElem? (i := 75) rfl)) rfl
theorem wy_X7_items : Cond.laysFinal "LoveLocks$Sheets" "LoveLocks$Sheets" "items" "[[I" ∈ zw_tbl := zw (zt_2 _ (List.mem_of_getElem? (i := 77) rfl)) rfl
theorem wf_X11_10 : Cond.fieldLink "LoveLocks" 10 "LoveLocks" "now" "LLoveLocks$State;" ∈ zw_tbl := zw (zt_2 _ (List.mem_of_getElem? (i := 80) rfl)) rfl
theorem wf_X11_16 : Cond.fieldLink "LoveLocks" 16 "LoveLocks" "kept" "LLoveLocks$State;" ∈ zw_tbl := zw (zt_2 _ (List.mem_of_getElem? (i := 81) rfl)) rfl
theorem wf_X11_299 : Cond.fieldLink "LoveLocks" 299 "LoveLocks" "hasImage" "Z" ∈ zw_tbl := zw (zt_2 _ (List.mem_of_getElem? (i := 82) rfl)) rfl
theorem wf_X11_22 : Cond.fieldLink "LoveLocks" 22 "LoveLocks" "reader" "LLoveLocks$Reader;" ∈ zw_tbl := zw (zt_2 _ (List.mem_of_getElem? (i := 83) rfl)) rfl
theorem wf_X11_29 : Cond.fieldLink "LoveLocks" 29 "LoveLocks" "seeker" "LLoveLocks$Seeker;" ∈ zw_tbl := zw (zt_2 _ (List.mem_of_getElem? (i := 84) rfl)) rfl
theorem wf_X11_36 : Cond.fieldLink "LoveLocks" 36 "LoveLocks" "looter" "LLoveLocks$Looter;" ∈ zw_tbl := zw (zt_2 _ (List.mem_of_getElem? (i := 85) rfl)) rfl
theorem wf_X11_43 : Cond.fieldLink "LoveLocks" 43 "LoveLocks" "tape" "LLoveLocks$Tape;" ∈ zw_tbl := zw (zt_2 _ (List.mem_of_getElem? (i := 86) rfl)) rfl
theorem wf_X11_50 : Cond.fieldLink "LoveLocks" 50 "LoveLocks" "sheets" "LLoveLocks$Sheets;" ∈ zw_tbl := zw (zt_2 _ (List.mem_of_getElem? (i := 87) rfl)) rfl
theorem wy_X11_now : Cond.laysFinal "LoveLocks" "LoveLocks" "now" "LLoveLocks$State;" ∈ zw_tbl := zw (zt_2 _ (List.mem_of_getElem? (i := 88) rfl)) rfl
theorem wy_X11_kept : Cond.laysFinal "LoveLocks" "LoveLocks" "kept" "LLoveLocks$State;" ∈ zw_tbl := zw (zt_2 _ (List.mem_of_getElem? (i := 90) rfl)) rfl
theorem wy_X11_hasImage : Cond.lays "LoveLocks" "LoveLocks" "hasImage" "Z" ∈ zw_tbl := zw (zt_2 _ (List.mem_of_getElem? (i := 92) rfl)) rfl
theorem wy_X11_reader : Cond.laysFinal "LoveLocks" "LoveLocks" "reader" "LLoveLocks$Reader;" ∈ zw_tbl := zw (zt_2 _ (List.mem_of_getElem? (i := 94) rfl)) rfl
theorem wy_X11_seeker : Cond.laysFinal "LoveLocks" "LoveLocks" "seeker" "LLoveLocks$Seeker;" ∈ zw_tbl := zw (zt_2 _ (List.mem_of_getElem? (i := 96) rfl)) rfl
theorem wy_X11_looter : Cond.laysFinal "LoveLocks" "LoveLocks" "looter" "LLoveLocks$Looter;" ∈ zw_tbl := zw (zt_2 _ (List.mem_of_getElem? (i := 98) rfl)) rfl
theorem wy_X11_tape : Cond.laysFinal "LoveLocks" "LoveLocks" "tape" "LLoveLocks$Tape;" ∈ zw_tbl := zw (zt_2 _ (List.mem_of_getElem? (i := 100) rfl)) rfl
theorem wy_X11_sheets : Cond.laysFinal "LoveLocks" "LoveLocks" "sheets" "LLoveLocks$Sheets;" ∈ zw_tbl := zw (zt_2 _ (List.mem_of_getElem? (i := 102) rfl)) rfl
theorem wl_L_13 : Cond.methodLink "LoveLocksLaw" 13 yX11_panel ∈ zw_tbl := zw (zt_2 _ (List.mem_of_getElem? (i := 105) rfl)) rfl
theorem wi_X11_panel : Cond.instanceMethod yX11_panel ∈ zw_tbl := zw (zt_2 _ (List.mem_of_getElem? (i := 106) rfl)) rfl
theorem ws_X11_panel : Cond.selects "LoveLocks" yX11_panel yX11_panel ∈ zw_tbl := zw (zt_2 _ (List.mem_of_getElem? (i := 107) rfl)) rfl
theorem wc_X11_panel : Cond.code yX11_panel cX11_panel 4 (some .int) ∈ zw_tbl := zw (zt_2 _ (List.mem_of_getElem? (i := 108) rfl)) rfl
theorem wk_X11_54 : Cond.constant "LoveLocks" 54 (99999) ∈ zw_tbl := zw (zt_2 _ (List.mem_of_getElem? (i := 109) rfl)) rfl
theorem wl_X11_55 : Cond.methodLink "LoveLocks" 55 yX11_within ∈ zw_tbl := zw (zt_2 _ (List.mem_of_getElem? (i := 110) rfl)) rfl
theorem wst_X11_within : Cond.static yX11_within ∈ zw_tbl := zw (zt_2 _ (List.mem_of_getElem? (i := 111) rfl)) rfl
theorem wc_X11_within : Cond.code yX11_within cX11_within 3 (some .boolean) ∈ zw_tbl := zw (zt_2 _ (List.mem_of_getElem? (i := 112) rfl)) rfl
theorem wl_X11_63 : Cond.methodLink "LoveLocks" 63 yX4_addPanel ∈ zw_tbl := zw (zt_2 _ (List.mem_of_getElem? (i := 113) rfl)) rfl
theorem wi_X4_addPanel : Cond.instanceMethod yX4_addPanel ∈ zw_tbl := zw (zt_2 _ (List.mem_of_getElem? (i := 114) rfl)) rfl
theorem ws_X4_addPanel : Cond.selects "LoveLocks$Rail" yX4_addPanel yX4_addPanel ∈ zw_tbl := zw (zt_2 _ (List.mem_of_getElem? (i := 115) rfl)) rfl
theorem wc_X4_addPanel : Cond.code yX4_addPanel cX4_addPanel 4 (some .int) ∈ zw_tbl := zw (zt_2 _ (List.mem_of_getElem? (i := 116) rfl)) rfl
theorem wl_L_18 : Cond.methodLink "LoveLocksLaw" 18 yX11_hang ∈ zw_tbl := zw (zt_2 _ (List.mem_of_getElem? (i := 117) rfl)) rfl
theorem wi_X11_hang : Cond.instanceMethod yX11_hang ∈ zw_tbl := zw (zt_2 _ (List.mem_of_getElem? (i := 118) rfl)) rfl
theorem ws_X11_hang : Cond.selects "LoveLocks" yX11_hang yX11_hang ∈ zw_tbl := zw (zt_2 _ (List.mem_of_getElem? (i := 119) rfl)) rfl
theorem wc_X11_hang : Cond.code yX11_hang cX11_hang 6 (some .int) ∈ zw_tbl := zw (zt_2 _ (List.mem_of_getElem? (i := 120) rfl)) rfl
theorem wl_X11_73 : Cond.methodLink "LoveLocks" 73 yX11_isBar ∈ zw_tbl := zw (zt_2 _ (List.mem_of_getElem? (i := 121) rfl)) rfl
theorem wi_X11_isBar : Cond.instanceMethod yX11_isBar ∈ zw_tbl := zw (zt_2 _ (List.mem_of_getElem? (i := 123) rfl)) rfl
theorem wc_X11_isBar : Cond.code yX11_isBar cX11_isBar 3 (some .boolean) ∈ zw_tbl := zw (zt_2 _ (List.mem_of_getElem? (i := 124) rfl)) rfl
theorem wl_X11_69 : Cond.methodLink "LoveLocks" 69 yX4_hasPanel ∈ zw_tbl := zw (zt_2 _ (List.mem_of_getElem? (i := 125) rfl)) rfl
theorem wi_X4_hasPanel : Cond.instanceMethod yX4_hasPanel ∈ zw_tbl := zw (zt_2 _ (List.mem_of_getElem? (i := 126) rfl)) rfl
theorem ws_X4_hasPanel : Cond.selects "LoveLocks$Rail" yX4_hasPanel yX4_hasPanel ∈ zw_tbl := zw (zt_2 _ (List.mem_of_getElem? (i := 127) rfl)) rfl
theorem wc_X4_hasPanel : Cond.code yX4_hasPanel cX4_hasPanel 2 (some .boolean) ∈ zw_tbl := zw (zt_2 _ (List.mem_of_getElem? (i := 128) rfl)) rfl
theorem wl_X11_77 : Cond.methodLink "LoveLocks" 77 yX11_isLock ∈ zw_tbl := zw (zt_2 _ (List.mem_of_getElem? (i := 129) rfl)) rfl
theorem wst_X11_isLock : Cond.static yX11_isLock ∈ zw_tbl := zw (zt_2 _ (List.mem_of_getElem? (i := 130) rfl)) rfl
theorem wc_X11_isLock : Cond.code yX11_isLock cX11_isLock 3 (some .boolean) ∈ zw_tbl := zw (zt_2 _ (List.mem_of_getElem? (i := 131) rfl)) rfl
theorem wl_X11_80 : Cond.methodLink "LoveLocks" 80 yX4_addToBar ∈ zw_tbl := zw (zt_2 _ (List.mem_of_getElem? (i := 132) rfl)) rfl
theorem wi_X4_addToBar : Cond.instanceMethod yX4_addToBar ∈ zw_tbl := zw (zt_2 _ (List.mem_of_getElem? (i := 133) rfl)) rfl
theorem ws_X4_addToBar : Cond.selects "LoveLocks$Rail" yX4_addToBar yX4_addToBar ∈ zw_tbl := zw (zt_2 _ (List.mem_of_getElem? (i := 134) rfl)) rfl
theorem wc_X4_addToBar : Cond.code yX4_addToBar cX4_addToBar 6 (some .int) ∈ zw_tbl := zw (zt_2 _ (List.mem_of_getElem? (i := 135) rfl)) rfl
theorem wl_L_23 : Cond.methodLink "LoveLocksLaw" 23 yX11_hangOn ∈ zw_tbl := zw (zt_2 _ (List.mem_of_getElem? (i := 136) rfl)) rfl
theorem wi_X11_hangOn : Cond.instanceMethod yX11_hangOn ∈ zw_tbl := zw (zt_2 _ (List.mem_of_getElem? (i := 137) rfl)) rfl
theorem ws_X11_hangOn : Cond.selects "LoveLocks" yX11_hangOn yX11_hangOn ∈ zw_tbl := zw (zt_2 _ (List.mem_of_getElem? (i := 138) rfl)) rfl
theorem wc_X11_hangOn : Cond.code yX11_hangOn cX11_hangOn 5 (some .int) ∈ zw_tbl := zw (zt_2 _ (List.mem_of_getElem? (i := 139) rfl)) rfl
theorem wl_X11_84 : Cond.methodLink "LoveLocks" 84 yX4_hasLock ∈ zw_tbl := zw (zt_2 _ (List.mem_of_getElem? (i := 140) rfl)) rfl
theorem wi_X4_hasLock : Cond.instanceMethod yX4_hasLock ∈ zw_tbl := zw (zt_2 _ (List.mem_of_getElem? (i := 141) rfl)) rfl
theorem ws_X4_hasLock : Cond.selects "LoveLocks$Rail" yX4_hasLock yX4_hasLock ∈ zw_tbl := zw (zt_2 _ (List.mem_of_getElem? (i := 142) rfl)) rfl
theorem wc_X4_hasLock : Cond.code yX4_hasLock cX4_hasLock 2 (some .boolean) ∈ zw_tbl := zw (zt_2 _ (List.mem_of_getElem? (i := 143) rfl)) rfl
theorem wl_X11_87 : Cond.methodLink "LoveLocks" 87 yX4_isGone ∈ zw_tbl := zw (zt_2 _ (List.mem_of_getElem? (i := 144) rfl)) rfl
theorem wi_X4_isGone : Cond.instanceMethod yX4_isGone ∈ zw_tbl := zw (zt_2 _ (List.mem_of_getElem? (i := 145) rfl)) rfl
theorem ws_X4_isGone : Cond.selects "LoveLocks$Rail" yX4_isGone yX4_isGone ∈ zw_tbl := zw (zt_2 _ (List.mem_of_getElem? (i := 146) rfl)) rfl
theorem wc_X4_isGone : Cond.code yX4_isGone cX4_isGone 2 (some .boolean) ∈ zw_tbl := zw (zt_2 _ (List.mem_of_getElem? (i := 147) rfl)) rfl
theorem wl_X11_90 : Cond.methodLink "LoveLocks" 90 yX4_addToLock ∈ zw_tbl := zw (zt_2 _ (List.mem_of_getElem? (i := 148) rfl)) rfl
theorem wi_X4_addToLock : Cond.instanceMethod yX4_addToLock ∈ zw_tbl := zw (zt_2 _ (List.mem_of_getElem? (i := 149) rfl)) rfl
theorem ws_X4_addToLock : Cond.selects "LoveLocks$Rail" yX4_addToLock yX4_addToLock ∈ zw_tbl := zw (zt_2 _ (List.mem_of_getElem? (i := 150) rfl)) rfl
theorem wc_X4_addToLock : Cond.code yX4_addToLock cX4_addToLock 6 (some .int) ∈ zw_tbl := zw (zt_2 _ (List.mem_of_getElem? (i := 151) rfl)) rfl
theorem wl_X4_55 : Cond.methodLink "LoveLocks$Rail" 55 yX4_addToBar ∈ zw_tbl := zw (zt_2 _ (List.mem_of_getElem? (i := 152) rfl)) rfl
theorem wl_L_28 : Cond.methodLink "LoveLocksLaw" 28 yX11_told ∈ zw_tbl := zw (zt_2 _ (List.mem_of_getElem? (i := 153) rfl)) rfl
theorem wi_X11_told : Cond.instanceMethod yX11_told ∈ zw_tbl := zw (zt_2 _ (List.mem_of_getElem? (i := 154) rfl)) rfl
theorem ws_X11_told : Cond.selects "LoveLocks" yX11_told yX11_told ∈ zw_tbl := zw (zt_2 _ (List.mem_of_getElem? (i := 155) rfl)) rfl
theorem wc_X11_told : Cond.code yX11_told cX11_told 3 (some .int) ∈ zw_tbl := zw (zt_2 _ (List.mem_of_getElem? (i := 156) rfl)) rfl
theorem wl_X11_94 : Cond.methodLink "LoveLocks" 94 yX4_tell ∈ zw_tbl := zw (zt_2 _ (List.mem_of_getElem? (i := 157) rfl)) rfl
theorem wi_X4_tell : Cond.instanceMethod yX4_tell ∈ zw_tbl := zw (zt_2 _ (List.mem_of_getElem? (i := 158) rfl)) rfl
theorem ws_X4_tell : Cond.selects "LoveLocks$Rail" yX4_tell yX4_tell ∈ zw_tbl := zw (zt_2 _ (List.mem_of_getElem? (i := 159) rfl)) rfl
theorem wc_X4_tell : Cond.code yX4_tell cX4_tell 3 (some .int) ∈ zw_tbl := zw (zt_2 _ (List.mem_of_getElem? (i := 160) rfl)) rfl
theorem wl_X4_59 : Cond.methodLink "LoveLocks$Rail" 59 yX4_borneBy ∈ zw_tbl := zw (zt_2 _ (List.mem_of_getElem? (i := 161) rfl)) rfl
theorem wi_X4_borneBy : Cond.instanceMethod yX4_borneBy ∈ zw_tbl := zw (zt_2 _ (List.mem_of_getElem? (i := 162) rfl)) rfl
theorem ws_X4_borneBy : Cond.selects "LoveLocks$Rail" yX4_borneBy yX4_borneBy ∈ zw_tbl := zw (zt_2 _ (List.mem_of_getElem? (i := 163) rfl)) rfl
theorem wc_X4_borneBy : Cond.code yX4_borneBy cX4_borneBy 2 (some .int) ∈ zw_tbl := zw (zt_2 _ (List.mem_of_getElem? (i := 164) rfl)) rfl
theorem wl_X4_67 : Cond.methodLink "LoveLocks$Rail" 67 yX4_withAllOn ∈ zw_tbl := zw (zt_2 _ (List.mem_of_getElem? (i := 165) rfl)) rfl
theorem wi_X4_withAllOn : Cond.instanceMethod yX4_withAllOn ∈ zw_tbl := zw (zt_2 _ (List.mem_of_getElem? (i := 166) rfl)) rfl
theorem ws_X4_withAllOn : Cond.selects "LoveLocks$Rail" yX4_withAllOn yX4_withAllOn ∈ zw_tbl := zw (zt_2 _ (List.mem_of_getElem? (i := 167) rfl)) rfl
theorem wc_X4_withAllOn : Cond.code yX4_withAllOn cX4_withAllOn 4 (some .int) ∈ zw_tbl := zw (zt_2 _ (List.mem_of_getElem? (i := 168) rfl)) rfl
theorem wl_X4_63 : Cond.methodLink "LoveLocks$Rail" 63 yX4_isGone ∈ zw_tbl := zw (zt_2 _ (List.mem_of_getElem? (i := 169) rfl)) rfl
theorem wl_X4_70 : Cond.methodLink "LoveLocks$Rail" 70 yX4_weightOf ∈ zw_tbl := zw (zt_2 _ (List.mem_of_getElem? (i := 170) rfl)) rfl
theorem wi_X4_weightOf : Cond.instanceMethod yX4_weightOf ∈ zw_tbl := zw (zt_2 _ (List.mem_of_getElem? (i := 171) rfl)) rfl
theorem ws_X4_weightOf : Cond.selects "LoveLocks$Rail" yX4_weightOf yX4_weightOf ∈ zw_tbl := zw (zt_2 _ (List.mem_of_getElem? (i := 172) rfl)) rfl
theorem wc_X4_weightOf : Cond.code yX4_weightOf cX4_weightOf 4 (some .int) ∈ zw_tbl := zw (zt_2 _ (List.mem_of_getElem? (i := 173) rfl)) rfl
theorem wl_L_33 : Cond.methodLink "LoveLocksLaw" 33 yX11_load ∈ zw_tbl := zw (zt_2 _ (List.mem_of_getElem? (i := 174) rfl)) rfl
theorem wi_X11_load : Cond.instanceMethod yX11_load ∈ zw_tbl := zw (zt_2 _ (List.mem_of_getElem? (i := 175) rfl)) rfl
theorem ws_X11_load : Cond.selects "LoveLocks" yX11_load yX11_load ∈ zw_tbl := zw (zt_2 _ (List.mem_of_getElem? (i := 176) rfl)) rfl
theorem wc_X11_load : Cond.code yX11_load cX11_load 3 (some .int) ∈ zw_tbl := zw (zt_2 _ (List.mem_of_getElem? (i := 177) rfl)) rfl
theorem wl_X11_98 : Cond.methodLink "LoveLocks" 98 yX4_loadOf ∈ zw_tbl := zw (zt_2 _ (List.mem_of_getElem? (i := 178) rfl)) rfl
theorem wi_X4_loadOf : Cond.instanceMethod yX4_loadOf ∈ zw_tbl := zw (zt_2 _ (List.mem_of_getElem? (i := 179) rfl)) rfl
theorem ws_X4_loadOf : Cond.selects "LoveLocks$Rail" yX4_loadOf yX4_loadOf ∈ zw_tbl := zw (zt_2 _ (List.mem_of_getElem? (i := 180) rfl)) rfl
theorem wc_X4_loadOf : Cond.code yX4_loadOf cX4_loadOf 3 (some .int) ∈ zw_tbl := zw (zt_2 _ (List.mem_of_getElem? (i := 181) rfl)) rfl
theorem wl_X4_77 : Cond.methodLink "LoveLocks$Rail" 77 yX4_barLoad ∈ zw_tbl := zw (zt_2 _ (List.mem_of_getElem? (i := 182) rfl)) rfl
theorem wi_X4_barLoad : Cond.instanceMethod yX4_barLoad ∈ zw_tbl := zw (zt_2 _ (List.mem_of_getElem? (i := 183) rfl)) rfl
theorem ws_X4_barLoad : Cond.selects "LoveLocks$Rail" yX4_barLoad yX4_barLoad ∈ zw_tbl := zw (zt_2 _ (List.mem_of_getElem? (i := 184) rfl)) rfl
theorem wc_X4_barLoad : Cond.code yX4_barLoad cX4_barLoad 3 (some .int) ∈ zw_tbl := zw (zt_2 _ (List.mem_of_getElem? (i := 185) rfl)) rfl
theorem wl_X4_73 : Cond.methodLink "LoveLocks$Rail" 73 yX4_hangingAt ∈ zw_tbl := zw (zt_2 _ (List.mem_of_getElem? (i := 186) rfl)) rfl
theorem wi_X4_hangingAt : Cond.instanceMethod yX4_hangingAt ∈ zw_tbl := zw (zt_2 _ (List.mem_of_getElem? (i := 187) rfl)) rfl
theorem ws_X4_hangingAt : Cond.selects "LoveLocks$Rail" yX4_hangingAt yX4_hangingAt ∈ zw_tbl := zw (zt_2 _ (List.mem_of_getElem? (i := 188) rfl)) rfl
theorem wc_X4_hangingAt : Cond.code yX4_hangingAt cX4_hangingAt 5 (some .int) ∈ zw_tbl := zw (zt_2 _ (List.mem_of_getElem? (i := 189) rfl)) rfl
theorem wl_X4_80 : Cond.methodLink "LoveLocks$Rail" 80 yX4_panelLoad ∈ zw_tbl := zw (zt_2 _ (List.mem_of_getElem? (i := 190) rfl)) rfl
theorem wi_X4_panelLoad : Cond.instanceMethod yX4_panelLoad ∈ zw_tbl := zw (zt_2 _ (List.mem_of_getElem? (i := 191) rfl)) rfl
theorem ws_X4_panelLoad : Cond.selects "LoveLocks$Rail" yX4_panelLoad yX4_panelLoad ∈ zw_tbl := zw (zt_2 _ (List.mem_of_getElem? (i := 192) rfl)) rfl
theorem wc_X4_panelLoad : Cond.code yX4_panelLoad cX4_panelLoad 2 (some .int) ∈ zw_tbl := zw (zt_2 _ (List.mem_of_getElem? (i := 193) rfl)) rfl
theorem wl_X4_83 : Cond.methodLink "LoveLocks$Rail" 83 yX4_sagOf ∈ zw_tbl := zw (zt_2 _ (List.mem_of_getElem? (i := 194) rfl)) rfl
theorem wi_X4_sagOf : Cond.instanceMethod yX4_sagOf ∈ zw_tbl := zw (zt_2 _ (List.mem_of_getElem? (i := 195) rfl)) rfl
theorem ws_X4_sagOf : Cond.selects "LoveLocks$Rail" yX4_sagOf yX4_sagOf ∈ zw_tbl := zw (zt_2 _ (List.mem_of_getElem? (i := 196) rfl)) rfl
theorem wc_X4_sagOf : Cond.code yX4_sagOf cX4_sagOf 2 (some .int) ∈ zw_tbl := zw (zt_2 _ (List.mem_of_getElem? (i := 197) rfl)) rfl
theorem wl_L_37 : Cond.methodLink "LoveLocksLaw" 37 yX11_on ∈ zw_tbl := zw (zt_2 _ (List.mem_of_getElem? (i := 198) rfl)) rfl
theorem wi_X11_on : Cond.instanceMethod yX11_on ∈ zw_tbl := zw (zt_2 _ (List.mem_of_getElem? (i := 199) rfl)) rfl
theorem ws_X11_on : Cond.selects "LoveLocks" yX11_on yX11_on ∈ zw_tbl := zw (zt_2 _ (List.mem_of_getElem? (i := 200) rfl)) rfl
theorem wc_X11_on : Cond.code yX11_on cX11_on 3 (some .int) ∈ zw_tbl := zw (zt_2 _ (List.mem_of_getElem? (i := 201) rfl)) rfl
theorem wl_X11_101 : Cond.methodLink "LoveLocks" 101 yX4_hangingAt ∈ zw_tbl := zw (zt_2 _ (List.mem_of_getElem? (i := 202) rfl)) rfl
theorem wl_L_41 : Cond.methodLink "LoveLocksLaw" 41 yX11_cut ∈ zw_tbl := zw (zt_2 _ (List.mem_of_getElem? (i := 203) rfl)) rfl
theorem wi_X11_cut : Cond.instanceMethod yX11_cut ∈ zw_tbl := zw (zt_2 _ (List.mem_of_getElem? (i := 204) rfl)) rfl
theorem ws_X11_cut : Cond.selects "LoveLocks" yX11_cut yX11_cut ∈ zw_tbl := zw (zt_2 _ (List.mem_of_getElem? (i := 205) rfl)) rfl
theorem wc_X11_cut : Cond.code yX11_cut cX11_cut 2 (some .int) ∈ zw_tbl := zw (zt_2 _ (List.mem_of_getElem? (i := 206) rfl)) rfl
theorem wl_X11_104 : Cond.methodLink "LoveLocks" 104 yX4_withAllOn ∈ zw_tbl := zw (zt_2 _ (List.mem_of_getElem? (i := 207) rfl)) rfl
theorem wl_X11_108 : Cond.methodLink "LoveLocks" 108 yX4_fall ∈ zw_tbl := zw (zt_2 _ (List.mem_of_getElem? (i := 208) rfl)) rfl
theorem wi_X4_fall : Cond.instanceMethod yX4_fall ∈ zw_tbl := zw (zt_2 _ (List.mem_of_getElem? (i := 209) rfl)) rfl
theorem ws_X4_fall : Cond.selects "LoveLocks$Rail" yX4_fall yX4_fall ∈ zw_tbl := zw (zt_2 _ (List.mem_of_getElem? (i := 210) rfl)) rfl
theorem wc_X4_fall : Cond.code yX4_fall cX4_fall 3 (some .int) ∈ zw_tbl := zw (zt_2 _ (List.mem_of_getElem? (i := 211) rfl)) rfl
theorem wl_X4_89 : Cond.methodLink "LoveLocks$Rail" 89 yJ6_bitCount_0f7a4 ∈ zw_tbl := zw (zt_2 _ (List.mem_of_getElem? (i := 212) rfl)) rfl
theorem wst_J6_bitCount_0f7a4 : Cond.static yJ6_bitCount_0f7a4 ∈ zw_tbl := zw (zt_2 _ (List.mem_of_getElem? (i := 213) rfl)) rfl
theorem wc_J6_bitCount_0f7a4 : Cond.code yJ6_bitCount_0f7a4 cJ6_bitCount_0f7a4 1 (some .int) ∈ zw_tbl := zw (zt_2 _ (List.mem_of_getElem? (i := 214) rfl)) rfl
theorem wk_J6_265 : Cond.constant "java/lang/Integer" 265 (1431655765) ∈ zw_tbl := zw (zt_2 _ (List.mem_of_getElem? (i := 215) rfl)) rfl
theorem wk_J6_266 : Cond.constant "java/lang/Integer" 266 (858993459) ∈ zw_tbl := zw (zt_2 _ (List.mem_of_getElem? (i := 216) rfl)) rfl
theorem wk_J6_267 : Cond.constant "java/lang/Integer" 267 (252645135) ∈ zw_tbl := zw (zt_2 _ (List.mem_of_getElem? (i := 217) rfl)) rfl
theorem wl_L_46 : Cond.methodLink "LoveLocksLaw" 46 yX11_over ∈ zw_tbl := zw (zt_2 _ (List.mem_of_getElem? (i := 218) rfl)) rfl
theorem wi_X11_over : Cond.instanceMethod yX11_over ∈ zw_tbl := zw (zt_2 _ (List.mem_of_getElem? (i := 219) rfl)) rfl
theorem ws_X11_over : Cond.selects "LoveLocks" yX11_over yX11_over ∈ zw_tbl := zw (zt_2 _ (List.mem_of_getElem? (i := 220) rfl)) rfl
theorem wc_X11_over : Cond.code yX11_over cX11_over 1 (some .int) ∈ zw_tbl := zw (zt_2 _ (List.mem_of_getElem? (i := 221) rfl)) rfl
theorem wl_X11_111 : Cond.methodLink "LoveLocks" 111 yX4_firstOver ∈ zw_tbl := zw (zt_2 _ (List.mem_of_getElem? (i := 222) rfl)) rfl
theorem wi_X4_firstOver : Cond.instanceMethod yX4_firstOver ∈ zw_tbl := zw (zt_2 _ (List.mem_of_getElem? (i := 223) rfl)) rfl
theorem ws_X4_firstOver : Cond.selects "LoveLocks$Rail" yX4_firstOver yX4_firstOver ∈ zw_tbl := zw (zt_2 _ (List.mem_of_getElem? (i := 224) rfl)) rfl
theorem wc_X4_firstOver : Cond.code yX4_firstOver cX4_firstOver 3 (some .int) ∈ zw_tbl := zw (zt_2 _ (List.mem_of_getElem? (i := 225) rfl)) rfl
theorem wl_X4_86 : Cond.methodLink "LoveLocks$Rail" 86 yX4_isOver ∈ zw_tbl := zw (zt_2 _ (List.mem_of_getElem? (i := 226) rfl)) rfl
theorem wi_X4_isOver : Cond.instanceMethod yX4_isOver ∈ zw_tbl := zw (zt_2 _ (List.mem_of_getElem? (i := 228) rfl)) rfl
theorem wc_X4_isOver : Cond.code yX4_isOver cX4_isOver 2 (some .boolean) ∈ zw_tbl := zw (zt_2 _ (List.mem_of_getElem? (i := 229) rfl)) rfl
theorem wl_L_51 : Cond.methodLink "LoveLocksLaw" 51 yX11_giveWay ∈ zw_tbl := zw (zt_2 _ (List.mem_of_getElem? (i := 230) rfl)) rfl
theorem wi_X11_giveWay : Cond.instanceMethod yX11_giveWay ∈ zw_tbl := zw (zt_2 _ (List.mem_of_getElem? (i := 231) rfl)) rfl
theorem ws_X11_giveWay : Cond.selects "LoveLocks" yX11_giveWay yX11_giveWay ∈ zw_tbl := zw (zt_2 _ (List.mem_of_getElem? (i := 232) rfl)) rfl
theorem wc_X11_giveWay : Cond.code yX11_giveWay cX11_giveWay 1 (some .int) ∈ zw_tbl := zw (zt_2 _ (List.mem_of_getElem? (i := 233) rfl)) rfl
theorem wl_X11_115 : Cond.methodLink "LoveLocks" 115 yX4_fallWhileOver ∈ zw_tbl := zw (zt_2 _ (List.mem_of_getElem? (i := 234) rfl)) rfl
theorem wi_X4_fallWhileOver : Cond.instanceMethod yX4_fallWhileOver ∈ zw_tbl := zw (zt_2 _ (List.mem_of_getElem? (i := 235) rfl)) rfl
theorem ws_X4_fallWhileOver : Cond.selects "LoveLocks$Rail" yX4_fallWhileOver yX4_fallWhileOver ∈ zw_tbl := zw (zt_2 _ (List.mem_of_getElem? (i := 236) rfl)) rfl
theorem wc_X4_fallWhileOver : Cond.code yX4_fallWhileOver cX4_fallWhileOver 4 (some .int) ∈ zw_tbl := zw (zt_2 _ (List.mem_of_getElem? (i := 237) rfl)) rfl
theorem wl_X4_94 : Cond.methodLink "LoveLocks$Rail" 94 yX4_firstOver ∈ zw_tbl := zw (zt_2 _ (List.mem_of_getElem? (i := 238) rfl)) rfl
theorem wl_X4_98 : Cond.methodLink "LoveLocks$Rail" 98 yX4_hangingFrom ∈ zw_tbl := zw (zt_2 _ (List.mem_of_getElem? (i := 239) rfl)) rfl
theorem wi_X4_hangingFrom : Cond.instanceMethod yX4_hangingFrom ∈ zw_tbl := zw (zt_3 _ (List.mem_of_getElem? (i := 1) rfl)) rfl
theorem wc_X4_hangingFrom : Cond.code yX4_hangingFrom cX4_hangingFrom 2 (some .int) ∈ zw_tbl := zw (zt_3 _ (List.mem_of_getElem? (i := 2) rfl)) rfl
theorem wl_X4_101 : Cond.methodLink "LoveLocks$Rail" 101 yX4_fall ∈ zw_tbl := zw (zt_3 _ (List.mem_of_getElem? (i := 3) rfl)) rfl
theorem wl_L_55 : Cond.methodLink "LoveLocksLaw" 55 yX11_count ∈ zw_tbl := zw (zt_3 _ (List.mem_of_getElem? (i := 4) rfl)) rfl
theorem wi_X11_count : Cond.instanceMethod yX11_count ∈ zw_tbl := zw (zt_3 _ (List.mem_of_getElem? (i := 5) rfl)) rfl
theorem ws_X11_count : Cond.selects "LoveLocks" yX11_count yX11_count ∈ zw_tbl := zw (zt_3 _ (List.mem_of_getElem? (i := 6) rfl)) rfl
theorem wc_X11_count : Cond.code yX11_count cX11_count 2 (some .int) ∈ zw_tbl := zw (zt_3 _ (List.mem_of_getElem? (i := 7) rfl)) rfl
theorem wl_X11_128 : Cond.methodLink "LoveLocks" 128 yJ6_bitCount_0f7a4 ∈ zw_tbl := zw (zt_3 _ (List.mem_of_getElem? (i := 8) rfl)) rfl
theorem wl_L_59 : Cond.methodLink "LoveLocksLaw" 59 yX11_photo ∈ zw_tbl := zw (zt_3 _ (List.mem_of_getElem? (i := 9) rfl)) rfl
theorem wi_X11_photo : Cond.instanceMethod yX11_photo ∈ zw_tbl := zw (zt_3 _ (List.mem_of_getElem? (i := 10) rfl)) rfl
theorem ws_X11_photo : Cond.selects "LoveLocks" yX11_photo yX11_photo ∈ zw_tbl := zw (zt_3 _ (List.mem_of_getElem? (i := 11) rfl)) rfl
theorem wc_X11_photo : Cond.code yX11_photo cX11_photo 4 (some .int) ∈ zw_tbl := zw (zt_3 _ (List.mem_of_getElem? (i := 12) rfl)) rfl
theorem wl_X11_153 : Cond.methodLink "LoveLocks" 153 yX8_add ∈ zw_tbl := zw (zt_3 _ (List.mem_of_getElem? (i := 13) rfl)) rfl
theorem wi_X8_add : Cond.instanceMethod yX8_add ∈ zw_tbl := zw (zt_3 _ (List.mem_of_getElem? (i := 14) rfl)) rfl
theorem ws_X8_add : Cond.selects "LoveLocks$Sights" yX8_add yX8_add ∈ zw_tbl := zw (zt_3 _ (List.mem_of_getElem? (i := 15) rfl)) rfl
theorem wc_X8_add : Cond.code yX8_add cX8_add 4 (some .int) ∈ zw_tbl := zw (zt_3 _ (List.mem_of_getElem? (i := 16) rfl)) rfl
theorem wl_X8_31 : Cond.methodLink "LoveLocks$Sights" 31 yJ9_max_7cf53 ∈ zw_tbl := zw (zt_3 _ (List.mem_of_getElem? (i := 17) rfl)) rfl
theorem wst_J9_max_7cf53 : Cond.static yJ9_max_7cf53 ∈ zw_tbl := zw (zt_3 _ (List.mem_of_getElem? (i := 18) rfl)) rfl
theorem wc_J9_max_7cf53 : Cond.code yJ9_max_7cf53 cJ9_max_7cf53 2 (some .int) ∈ zw_tbl := zw (zt_3 _ (List.mem_of_getElem? (i := 19) rfl)) rfl
theorem wl_X8_37 : Cond.methodLink "LoveLocks$Sights" 37 yJ9_min_7cf53 ∈ zw_tbl := zw (zt_3 _ (List.mem_of_getElem? (i := 20) rfl)) rfl
theorem wst_J9_min_7cf53 : Cond.static yJ9_min_7cf53 ∈ zw_tbl := zw (zt_3 _ (List.mem_of_getElem? (i := 21) rfl)) rfl
theorem wc_J9_min_7cf53 : Cond.code yJ9_min_7cf53 cJ9_min_7cf53 2 (some .int) ∈ zw_tbl := zw (zt_3 _ (List.mem_of_getElem? (i := 22) rfl)) rfl
theorem wl_L_63 : Cond.methodLink "LoveLocksLaw" 63 yX11_truck ∈ zw_tbl := zw (zt_3 _ (List.mem_of_getElem? (i := 23) rfl)) rfl
theorem wi_X11_truck : Cond.instanceMethod yX11_truck ∈ zw_tbl := zw (zt_3 _ (List.mem_of_getElem? (i := 24) rfl)) rfl
theorem ws_X11_truck : Cond.selects "LoveLocks" yX11_truck yX11_truck ∈ zw_tbl := zw (zt_3 _ (List.mem_of_getElem? (i := 25) rfl)) rfl
theorem wc_X11_truck : Cond.code yX11_truck cX11_truck 7 (some .int) ∈ zw_tbl := zw (zt_3 _ (List.mem_of_getElem? (i := 26) rfl)) rfl
theorem wl_X11_156 : Cond.methodLink "LoveLocks" 156 yJ9_max_7cf53 ∈ zw_tbl := zw (zt_3 _ (List.mem_of_getElem? (i := 27) rfl)) rfl
theorem wl_L_67 : Cond.methodLink "LoveLocksLaw" 67 yX11_span ∈ zw_tbl := zw (zt_3 _ (List.mem_of_getElem? (i := 28) rfl)) rfl
theorem wi_X11_span : Cond.instanceMethod yX11_span ∈ zw_tbl := zw (zt_3 _ (List.mem_of_getElem? (i := 29) rfl)) rfl
theorem ws_X11_span : Cond.selects "LoveLocks" yX11_span yX11_span ∈ zw_tbl := zw (zt_3 _ (List.mem_of_getElem? (i := 30) rfl)) rfl
theorem wc_X11_span : Cond.code yX11_span cX11_span 3 (some .int) ∈ zw_tbl := zw (zt_3 _ (List.mem_of_getElem? (i := 31) rfl)) rfl
theorem wl_X11_161 : Cond.methodLink "LoveLocks" 161 yX8_hasSpan ∈ zw_tbl := zw (zt_3 _ (List.mem_of_getElem? (i := 32) rfl)) rfl
theorem wi_X8_hasSpan : Cond.instanceMethod yX8_hasSpan ∈ zw_tbl := zw (zt_3 _ (List.mem_of_getElem? (i := 33) rfl)) rfl
theorem ws_X8_hasSpan : Cond.selects "LoveLocks$Sights" yX8_hasSpan yX8_hasSpan ∈ zw_tbl := zw (zt_3 _ (List.mem_of_getElem? (i := 34) rfl)) rfl
theorem wc_X8_hasSpan : Cond.code yX8_hasSpan cX8_hasSpan 2 (some .boolean) ∈ zw_tbl := zw (zt_3 _ (List.mem_of_getElem? (i := 35) rfl)) rfl
theorem wl_X8_41 : Cond.methodLink "LoveLocks$Sights" 41 yX8_leastOf ∈ zw_tbl := zw (zt_3 _ (List.mem_of_getElem? (i := 36) rfl)) rfl
theorem wi_X8_leastOf : Cond.instanceMethod yX8_leastOf ∈ zw_tbl := zw (zt_3 _ (List.mem_of_getElem? (i := 37) rfl)) rfl
theorem ws_X8_leastOf : Cond.selects "LoveLocks$Sights" yX8_leastOf yX8_leastOf ∈ zw_tbl := zw (zt_3 _ (List.mem_of_getElem? (i := 38) rfl)) rfl
theorem wc_X8_leastOf : Cond.code yX8_leastOf cX8_leastOf 2 (some .int) ∈ zw_tbl := zw (zt_3 _ (List.mem_of_getElem? (i := 39) rfl)) rfl
theorem wl_X8_45 : Cond.methodLink "LoveLocks$Sights" 45 yX8_mostOf ∈ zw_tbl := zw (zt_3 _ (List.mem_of_getElem? (i := 40) rfl)) rfl
theorem wi_X8_mostOf : Cond.instanceMethod yX8_mostOf ∈ zw_tbl := zw (zt_3 _ (List.mem_of_getElem? (i := 41) rfl)) rfl
theorem ws_X8_mostOf : Cond.selects "LoveLocks$Sights" yX8_mostOf yX8_mostOf ∈ zw_tbl := zw (zt_3 _ (List.mem_of_getElem? (i := 42) rfl)) rfl
theorem wc_X8_mostOf : Cond.code yX8_mostOf cX8_mostOf 2 (some .int) ∈ zw_tbl := zw (zt_3 _ (List.mem_of_getElem? (i := 43) rfl)) rfl
theorem wk_X8_40 : Cond.constant "LoveLocks$Sights" 40 (99999) ∈ zw_tbl := zw (zt_3 _ (List.mem_of_getElem? (i := 44) rfl)) rfl
theorem wl_X11_164 : Cond.methodLink "LoveLocks" 164 yX8_leastOf ∈ zw_tbl := zw (zt_3 _ (List.mem_of_getElem? (i := 45) rfl)) rfl
theorem wl_X11_167 : Cond.methodLink "LoveLocks" 167 yX8_mostOf ∈ zw_tbl := zw (zt_3 _ (List.mem_of_getElem? (i := 46) rfl)) rfl
theorem wl_L_71 : Cond.methodLink "LoveLocksLaw" 71 yX11_safe ∈ zw_tbl := zw (zt_3 _ (List.mem_of_getElem? (i := 47) rfl)) rfl
theorem wi_X11_safe : Cond.instanceMethod yX11_safe ∈ zw_tbl := zw (zt_3 _ (List.mem_of_getElem? (i := 48) rfl)) rfl
theorem ws_X11_safe : Cond.selects "LoveLocks" yX11_safe yX11_safe ∈ zw_tbl := zw (zt_3 _ (List.mem_of_getElem? (i := 49) rfl)) rfl
theorem wc_X11_safe : Cond.code yX11_safe cX11_safe 3 (some .int) ∈ zw_tbl := zw (zt_3 _ (List.mem_of_getElem? (i := 50) rfl)) rfl
theorem wl_L_77 : Cond.methodLink "LoveLocksLaw" 77 yX11_type ∈ zw_tbl := zw (zt_3 _ (List.mem_of_getElem? (i := 51) rfl)) rfl
theorem wi_X11_type : Cond.instanceMethod yX11_type ∈ zw_tbl := zw (zt_3 _ (List.mem_of_getElem? (i := 52) rfl)) rfl
theorem ws_X11_type : Cond.selects "LoveLocks" yX11_type yX11_type ∈ zw_tbl := zw (zt_3 _ (List.mem_of_getElem? (i := 53) rfl)) rfl
theorem wc_X11_type : Cond.code yX11_type cX11_type 4 (some .int) ∈ zw_tbl := zw (zt_3 _ (List.mem_of_getElem? (i := 54) rfl)) rfl
theorem wl_X11_174 : Cond.methodLink "LoveLocks" 174 yX10_add ∈ zw_tbl := zw (zt_3 _ (List.mem_of_getElem? (i := 55) rfl)) rfl
theorem wi_X10_add : Cond.instanceMethod yX10_add ∈ zw_tbl := zw (zt_3 _ (List.mem_of_getElem? (i := 56) rfl)) rfl
theorem ws_X10_add : Cond.selects "LoveLocks$Tape" yX10_add yX10_add ∈ zw_tbl := zw (zt_3 _ (List.mem_of_getElem? (i := 57) rfl)) rfl
theorem wc_X10_add : Cond.code yX10_add cX10_add 5 (some .int) ∈ zw_tbl := zw (zt_3 _ (List.mem_of_getElem? (i := 58) rfl)) rfl
theorem wk_X10_15 : Cond.constantLong "LoveLocks$Tape" 15 (255) ∈ zw_tbl := zw (zt_3 _ (List.mem_of_getElem? (i := 59) rfl)) rfl
theorem wl_X10_17 : Cond.methodLink "LoveLocks$Tape" 17 yX10_isSign ∈ zw_tbl := zw (zt_3 _ (List.mem_of_getElem? (i := 60) rfl)) rfl
theorem wst_X10_isSign : Cond.static yX10_isSign ∈ zw_tbl := zw (zt_3 _ (List.mem_of_getElem? (i := 61) rfl)) rfl
theorem wc_X10_isSign : Cond.code yX10_isSign cX10_isSign 2 (some .boolean) ∈ zw_tbl := zw (zt_3 _ (List.mem_of_getElem? (i := 62) rfl)) rfl
theorem wk_X10_25 : Cond.constantLong "LoveLocks$Tape" 25 (32) ∈ zw_tbl := zw (zt_3 _ (List.mem_of_getElem? (i := 63) rfl)) rfl
theorem wk_X10_27 : Cond.constantLong "LoveLocks$Tape" 27 (126) ∈ zw_tbl := zw (zt_3 _ (List.mem_of_getElem? (i := 64) rfl)) rfl
theorem wl_L_82 : Cond.methodLink "LoveLocksLaw" 82 yX11_person ∈ zw_tbl := zw (zt_3 _ (List.mem_of_getElem? (i := 65) rfl)) rfl
theorem wi_X11_person : Cond.instanceMethod yX11_person ∈ zw_tbl := zw (zt_3 _ (List.mem_of_getElem? (i := 66) rfl)) rfl
theorem ws_X11_person : Cond.selects "LoveLocks" yX11_person yX11_person ∈ zw_tbl := zw (zt_3 _ (List.mem_of_getElem? (i := 67) rfl)) rfl
theorem wc_X11_person : Cond.code yX11_person cX11_person 2 (some .int) ∈ zw_tbl := zw (zt_3 _ (List.mem_of_getElem? (i := 68) rfl)) rfl
theorem wl_X11_177 : Cond.methodLink "LoveLocks" 177 yX10_readName ∈ zw_tbl := zw (zt_3 _ (List.mem_of_getElem? (i := 69) rfl)) rfl
theorem wi_X10_readName : Cond.instanceMethod yX10_readName ∈ zw_tbl := zw (zt_3 _ (List.mem_of_getElem? (i := 70) rfl)) rfl
theorem ws_X10_readName : Cond.selects "LoveLocks$Tape" yX10_readName yX10_readName ∈ zw_tbl := zw (zt_3 _ (List.mem_of_getElem? (i := 71) rfl)) rfl
theorem wc_X10_readName : Cond.code yX10_readName cX10_readName 1 (some .int) ∈ zw_tbl := zw (zt_3 _ (List.mem_of_getElem? (i := 72) rfl)) rfl
theorem wl_X10_29 : Cond.methodLink "LoveLocks$Tape" 29 yX10_read ∈ zw_tbl := zw (zt_3 _ (List.mem_of_getElem? (i := 73) rfl)) rfl
theorem wi_X10_read : Cond.instanceMethod yX10_read ∈ zw_tbl := zw (zt_3 _ (List.mem_of_getElem? (i := 75) rfl)) rfl
theorem wc_X10_read : Cond.code yX10_read cX10_read 7 (some .int) ∈ zw_tbl := zw (zt_3 _ (List.mem_of_getElem? (i := 76) rfl)) rfl
theorem wl_X10_40 : Cond.methodLink "LoveLocks$Tape" 40 yX10_isLetter ∈ zw_tbl := zw (zt_3 _ (List.mem_of_getElem? (i := 77) rfl)) rfl
theorem wst_X10_isLetter : Cond.static yX10_isLetter ∈ zw_tbl := zw (zt_3 _ (List.mem_of_getElem? (i := 78) rfl)) rfl
theorem wc_X10_isLetter : Cond.code yX10_isLetter cX10_isLetter 2 (some .boolean) ∈ zw_tbl := zw (zt_3 _ (List.mem_of_getElem? (i := 79) rfl)) rfl
theorem wl_X11_187 : Cond.methodLink "LoveLocks" 187 yX2_addPerson ∈ zw_tbl := zw (zt_3 _ (List.mem_of_getElem? (i := 80) rfl)) rfl
theorem wi_X2_addPerson : Cond.instanceMethod yX2_addPerson ∈ zw_tbl := zw (zt_3 _ (List.mem_of_getElem? (i := 81) rfl)) rfl
theorem ws_X2_addPerson : Cond.selects "LoveLocks$Names" yX2_addPerson yX2_addPerson ∈ zw_tbl := zw (zt_3 _ (List.mem_of_getElem? (i := 82) rfl)) rfl
theorem wc_X2_addPerson : Cond.code yX2_addPerson cX2_addPerson 3 (some .int) ∈ zw_tbl := zw (zt_3 _ (List.mem_of_getElem? (i := 83) rfl)) rfl
theorem wl_L_86 : Cond.methodLink "LoveLocksLaw" 86 yX11_letters ∈ zw_tbl := zw (zt_3 _ (List.mem_of_getElem? (i := 84) rfl)) rfl
theorem wi_X11_letters : Cond.instanceMethod yX11_letters ∈ zw_tbl := zw (zt_3 _ (List.mem_of_getElem? (i := 85) rfl)) rfl
theorem ws_X11_letters : Cond.selects "LoveLocks" yX11_letters yX11_letters ∈ zw_tbl := zw (zt_3 _ (List.mem_of_getElem? (i := 86) rfl)) rfl
theorem wc_X11_letters : Cond.code yX11_letters cX11_letters 3 (some .int) ∈ zw_tbl := zw (zt_3 _ (List.mem_of_getElem? (i := 87) rfl)) rfl
theorem wl_X11_191 : Cond.methodLink "LoveLocks" 191 yX10_readPair ∈ zw_tbl := zw (zt_3 _ (List.mem_of_getElem? (i := 88) rfl)) rfl
theorem wi_X10_readPair : Cond.instanceMethod yX10_readPair ∈ zw_tbl := zw (zt_3 _ (List.mem_of_getElem? (i := 89) rfl)) rfl
theorem ws_X10_readPair : Cond.selects "LoveLocks$Tape" yX10_readPair yX10_readPair ∈ zw_tbl := zw (zt_3 _ (List.mem_of_getElem? (i := 90) rfl)) rfl
theorem wc_X10_readPair : Cond.code yX10_readPair cX10_readPair 1 (some .int) ∈ zw_tbl := zw (zt_3 _ (List.mem_of_getElem? (i := 91) rfl)) rfl
theorem wl_X11_197 : Cond.methodLink "LoveLocks" 197 yX2_putLetters ∈ zw_tbl := zw (zt_3 _ (List.mem_of_getElem? (i := 92) rfl)) rfl
theorem wi_X2_putLetters : Cond.instanceMethod yX2_putLetters ∈ zw_tbl := zw (zt_3 _ (List.mem_of_getElem? (i := 93) rfl)) rfl
theorem ws_X2_putLetters : Cond.selects "LoveLocks$Names" yX2_putLetters yX2_putLetters ∈ zw_tbl := zw (zt_3 _ (List.mem_of_getElem? (i := 94) rfl)) rfl
theorem wc_X2_putLetters : Cond.code yX2_putLetters cX2_putLetters 6 (some .boolean) ∈ zw_tbl := zw (zt_3 _ (List.mem_of_getElem? (i := 95) rfl)) rfl
theorem wl_X2_34 : Cond.methodLink "LoveLocks$Names" 34 yJ6_bitCount_0f7a4 ∈ zw_tbl := zw (zt_3 _ (List.mem_of_getElem? (i := 96) rfl)) rfl
theorem wl_L_90 : Cond.methodLink "LoveLocksLaw" 90 yX11_readings ∈ zw_tbl := zw (zt_3 _ (List.mem_of_getElem? (i := 97) rfl)) rfl
theorem wi_X11_readings : Cond.instanceMethod yX11_readings ∈ zw_tbl := zw (zt_3 _ (List.mem_of_getElem? (i := 98) rfl)) rfl
theorem ws_X11_readings : Cond.selects "LoveLocks" yX11_readings yX11_readings ∈ zw_tbl := zw (zt_3 _ (List.mem_of_getElem? (i := 99) rfl)) rfl
theorem wc_X11_readings : Cond.code yX11_readings cX11_readings 2 (some .int) ∈ zw_tbl := zw (zt_3 _ (List.mem_of_getElem? (i := 100) rfl)) rfl
theorem wl_X11_201 : Cond.methodLink "LoveLocks" 201 yX2_hasLetters ∈ zw_tbl := zw (zt_3 _ (List.mem_of_getElem? (i := 101) rfl)) rfl
theorem wi_X2_hasLetters : Cond.instanceMethod yX2_hasLetters ∈ zw_tbl := zw (zt_3 _ (List.mem_of_getElem? (i := 102) rfl)) rfl
theorem ws_X2_hasLetters : Cond.selects "LoveLocks$Names" yX2_hasLetters yX2_hasLetters ∈ zw_tbl := zw (zt_3 _ (List.mem_of_getElem? (i := 103) rfl)) rfl
theorem wc_X2_hasLetters : Cond.code yX2_hasLetters cX2_hasLetters 2 (some .boolean) ∈ zw_tbl := zw (zt_3 _ (List.mem_of_getElem? (i := 104) rfl)) rfl
theorem wl_X11_204 : Cond.methodLink "LoveLocks" 204 yX2_readingsOf ∈ zw_tbl := zw (zt_3 _ (List.mem_of_getElem? (i := 105) rfl)) rfl
theorem wi_X2_readingsOf : Cond.instanceMethod yX2_readingsOf ∈ zw_tbl := zw (zt_3 _ (List.mem_of_getElem? (i := 106) rfl)) rfl
theorem ws_X2_readingsOf : Cond.selects "LoveLocks$Names" yX2_readingsOf yX2_readingsOf ∈ zw_tbl := zw (zt_3 _ (List.mem_of_getElem? (i := 107) rfl)) rfl
theorem wc_X2_readingsOf : Cond.code yX2_readingsOf cX2_readingsOf 7 (some .int) ∈ zw_tbl := zw (zt_3 _ (List.mem_of_getElem? (i := 108) rfl)) rfl
theorem wl_X2_52 : Cond.methodLink "LoveLocks$Names" 52 yX2_peopleOfFirst ∈ zw_tbl := zw (zt_3 _ (List.mem_of_getElem? (i := 109) rfl)) rfl
theorem wi_X2_peopleOfFirst : Cond.instanceMethod yX2_peopleOfFirst ∈ zw_tbl := zw (zt_3 _ (List.mem_of_getElem? (i := 110) rfl)) rfl
theorem ws_X2_peopleOfFirst : Cond.selects "LoveLocks$Names" yX2_peopleOfFirst yX2_peopleOfFirst ∈ zw_tbl := zw (zt_3 _ (List.mem_of_getElem? (i := 111) rfl)) rfl
theorem wc_X2_peopleOfFirst : Cond.code yX2_peopleOfFirst cX2_peopleOfFirst 2 (some .int) ∈ zw_tbl := zw (zt_3 _ (List.mem_of_getElem? (i := 112) rfl)) rfl
theorem wl_X2_48 : Cond.methodLink "LoveLocks$Names" 48 yX2_allWhoAgree ∈ zw_tbl := zw (zt_3 _ (List.mem_of_getElem? (i := 113) rfl)) rfl
theorem wi_X2_allWhoAgree : Cond.instanceMethod yX2_allWhoAgree ∈ zw_tbl := zw (zt_3 _ (List.mem_of_getElem? (i := 115) rfl)) rfl
theorem wc_X2_allWhoAgree : Cond.code yX2_allWhoAgree cX2_allWhoAgree 5 (some .int) ∈ zw_tbl := zw (zt_3 _ (List.mem_of_getElem? (i := 116) rfl)) rfl
theorem wl_X2_44 : Cond.methodLink "LoveLocks$Names" 44 yX2_agree ∈ zw_tbl := zw (zt_3 _ (List.mem_of_getElem? (i := 117) rfl)) rfl
theorem wst_X2_agree : Cond.static yX2_agree ∈ zw_tbl := zw (zt_3 _ (List.mem_of_getElem? (i := 118) rfl)) rfl
theorem wc_X2_agree : Cond.code yX2_agree cX2_agree 9 (some .boolean) ∈ zw_tbl := zw (zt_3 _ (List.mem_of_getElem? (i := 119) rfl)) rfl
theorem wk_X2_40 : Cond.constantLong "LoveLocks$Names" 40 (255) ∈ zw_tbl := zw (zt_3 _ (List.mem_of_getElem? (i := 120) rfl)) rfl
theorem wk_X2_42 : Cond.constantLong "LoveLocks$Names" 42 (63) ∈ zw_tbl := zw (zt_3 _ (List.mem_of_getElem? (i := 121) rfl)) rfl
theorem wl_X2_55 : Cond.methodLink "LoveLocks$Names" 55 yX2_peopleOfSecond ∈ zw_tbl := zw (zt_3 _ (List.mem_of_getElem? (i := 122) rfl)) rfl
theorem wi_X2_peopleOfSecond : Cond.instanceMethod yX2_peopleOfSecond ∈ zw_tbl := zw (zt_3 _ (List.mem_of_getElem? (i := 123) rfl)) rfl
theorem ws_X2_peopleOfSecond : Cond.selects "LoveLocks$Names" yX2_peopleOfSecond yX2_peopleOfSecond ∈ zw_tbl := zw (zt_3 _ (List.mem_of_getElem? (i := 124) rfl)) rfl
theorem wc_X2_peopleOfSecond : Cond.code yX2_peopleOfSecond cX2_peopleOfSecond 2 (some .int) ∈ zw_tbl := zw (zt_3 _ (List.mem_of_getElem? (i := 125) rfl)) rfl
theorem wl_X2_58 : Cond.methodLink "LoveLocks$Names" 58 yX2_canBe ∈ zw_tbl := zw (zt_3 _ (List.mem_of_getElem? (i := 126) rfl)) rfl
theorem wst_X2_canBe : Cond.static yX2_canBe ∈ zw_tbl := zw (zt_3 _ (List.mem_of_getElem? (i := 127) rfl)) rfl
theorem wc_X2_canBe : Cond.code yX2_canBe cX2_canBe 4 (some .boolean) ∈ zw_tbl := zw (zt_3 _ (List.mem_of_getElem? (i := 128) rfl)) rfl
theorem wl_L_94 : Cond.methodLink "LoveLocksLaw" 94 yX11_ways ∈ zw_tbl := zw (zt_3 _ (List.mem_of_getElem? (i := 129) rfl)) rfl
theorem wi_X11_ways : Cond.instanceMethod yX11_ways ∈ zw_tbl := zw (zt_3 _ (List.mem_of_getElem? (i := 130) rfl)) rfl
theorem ws_X11_ways : Cond.selects "LoveLocks" yX11_ways yX11_ways ∈ zw_tbl := zw (zt_3 _ (List.mem_of_getElem? (i := 131) rfl)) rfl
theorem wc_X11_ways : Cond.code yX11_ways cX11_ways 1 (some .long) ∈ zw_tbl := zw (zt_3 _ (List.mem_of_getElem? (i := 132) rfl)) rfl
theorem wl_X11_207 : Cond.methodLink "LoveLocks" 207 yX5_findWays ∈ zw_tbl := zw (zt_3 _ (List.mem_of_getElem? (i := 133) rfl)) rfl
theorem wi_X5_findWays : Cond.instanceMethod yX5_findWays ∈ zw_tbl := zw (zt_3 _ (List.mem_of_getElem? (i := 134) rfl)) rfl
theorem ws_X5_findWays : Cond.selects "LoveLocks$Reader" yX5_findWays yX5_findWays ∈ zw_tbl := zw (zt_3 _ (List.mem_of_getElem? (i := 135) rfl)) rfl
theorem wc_X5_findWays : Cond.code yX5_findWays cX5_findWays 5 none ∈ zw_tbl := zw (zt_3 _ (List.mem_of_getElem? (i := 136) rfl)) rfl
theorem wl_X5_38 : Cond.methodLink "LoveLocks$Reader" 38 yX2_peopleOfFirst ∈ zw_tbl := zw (zt_3 _ (List.mem_of_getElem? (i := 137) rfl)) rfl
theorem wl_X5_42 : Cond.methodLink "LoveLocks$Reader" 42 yX2_peopleOfSecond ∈ zw_tbl := zw (zt_3 _ (List.mem_of_getElem? (i := 138) rfl)) rfl
theorem wl_X5_49 : Cond.methodLink "LoveLocks$Reader" 49 yX5_locksOfYear ∈ zw_tbl := zw (zt_3 _ (List.mem_of_getElem? (i := 139) rfl)) rfl
theorem wst_X5_locksOfYear : Cond.static yX5_locksOfYear ∈ zw_tbl := zw (zt_3 _ (List.mem_of_getElem? (i := 140) rfl)) rfl
theorem wc_X5_locksOfYear : Cond.code yX5_locksOfYear cX5_locksOfYear 4 (some .int) ∈ zw_tbl := zw (zt_3 _ (List.mem_of_getElem? (i := 141) rfl)) rfl
theorem wl_X5_53 : Cond.methodLink "LoveLocks$Reader" 53 yX5_waysToRead ∈ zw_tbl := zw (zt_3 _ (List.mem_of_getElem? (i := 142) rfl)) rfl
theorem wst_X5_waysToRead : Cond.static yX5_waysToRead ∈ zw_tbl := zw (zt_3 _ (List.mem_of_getElem? (i := 143) rfl)) rfl
theorem wc_X5_waysToRead : Cond.code yX5_waysToRead cX5_waysToRead 11 (some .long) ∈ zw_tbl := zw (zt_3 _ (List.mem_of_getElem? (i := 144) rfl)) rfl
theorem wl_X5_65 : Cond.methodLink "LoveLocks$Reader" 65 yX5_keepPairs ∈ zw_tbl := zw (zt_3 _ (List.mem_of_getElem? (i := 145) rfl)) rfl
theorem wi_X5_keepPairs : Cond.instanceMethod yX5_keepPairs ∈ zw_tbl := zw (zt_3 _ (List.mem_of_getElem? (i := 147) rfl)) rfl
theorem wc_X5_keepPairs : Cond.code yX5_keepPairs cX5_keepPairs 3 none ∈ zw_tbl := zw (zt_3 _ (List.mem_of_getElem? (i := 148) rfl)) rfl
theorem wl_X5_69 : Cond.methodLink "LoveLocks$Reader" 69 yJ6_bitCount_0f7a4 ∈ zw_tbl := zw (zt_3 _ (List.mem_of_getElem? (i := 149) rfl)) rfl
theorem wl_X5_74 : Cond.methodLink "LoveLocks$Reader" 74 yJ6_numberOfTrailingZeros_0f7a4 ∈ zw_tbl := zw (zt_3 _ (List.mem_of_getElem? (i := 150) rfl)) rfl
theorem wst_J6_numberOfTrailingZeros_0f7a4 : Cond.static yJ6_numberOfTrailingZeros_0f7a4 ∈ zw_tbl := zw (zt_3 _ (List.mem_of_getElem? (i := 151) rfl)) rfl
theorem wc_J6_numberOfTrailingZeros_0f7a4 : Cond.code yJ6_numberOfTrailingZeros_0f7a4 cJ6_numberOfTrailingZeros_0f7a4 2 (some .int) ∈ zw_tbl := zw (zt_3 _ (List.mem_of_getElem? (i := 152) rfl)) rfl
theorem wk_J6_264 : Cond.constant "java/lang/Integer" 264 (65536) ∈ zw_tbl := zw (zt_3 _ (List.mem_of_getElem? (i := 153) rfl)) rfl
theorem wl_X5_77 : Cond.methodLink "LoveLocks$Reader" 77 yX2_canBe ∈ zw_tbl := zw (zt_3 _ (List.mem_of_getElem? (i := 154) rfl)) rfl
theorem wl_L_99 : Cond.methodLink "LoveLocksLaw" 99 yX11_who ∈ zw_tbl := zw (zt_3 _ (List.mem_of_getElem? (i := 155) rfl)) rfl
theorem wi_X11_who : Cond.instanceMethod yX11_who ∈ zw_tbl := zw (zt_3 _ (List.mem_of_getElem? (i := 156) rfl)) rfl
theorem ws_X11_who : Cond.selects "LoveLocks" yX11_who yX11_who ∈ zw_tbl := zw (zt_3 _ (List.mem_of_getElem? (i := 157) rfl)) rfl
theorem wc_X11_who : Cond.code yX11_who cX11_who 3 (some .int) ∈ zw_tbl := zw (zt_3 _ (List.mem_of_getElem? (i := 158) rfl)) rfl
theorem wl_X11_214 : Cond.methodLink "LoveLocks" 214 yX5_peopleOn ∈ zw_tbl := zw (zt_3 _ (List.mem_of_getElem? (i := 159) rfl)) rfl
theorem wi_X5_peopleOn : Cond.instanceMethod yX5_peopleOn ∈ zw_tbl := zw (zt_3 _ (List.mem_of_getElem? (i := 160) rfl)) rfl
theorem ws_X5_peopleOn : Cond.selects "LoveLocks$Reader" yX5_peopleOn yX5_peopleOn ∈ zw_tbl := zw (zt_3 _ (List.mem_of_getElem? (i := 161) rfl)) rfl
theorem wc_X5_peopleOn : Cond.code yX5_peopleOn cX5_peopleOn 3 (some .int) ∈ zw_tbl := zw (zt_3 _ (List.mem_of_getElem? (i := 162) rfl)) rfl
theorem wl_L_103 : Cond.methodLink "LoveLocksLaw" 103 yX11_where ∈ zw_tbl := zw (zt_3 _ (List.mem_of_getElem? (i := 163) rfl)) rfl
theorem wi_X11_where : Cond.instanceMethod yX11_where ∈ zw_tbl := zw (zt_3 _ (List.mem_of_getElem? (i := 164) rfl)) rfl
theorem ws_X11_where : Cond.selects "LoveLocks" yX11_where yX11_where ∈ zw_tbl := zw (zt_3 _ (List.mem_of_getElem? (i := 165) rfl)) rfl
theorem wc_X11_where : Cond.code yX11_where cX11_where 3 (some .int) ∈ zw_tbl := zw (zt_3 _ (List.mem_of_getElem? (i := 166) rfl)) rfl
theorem wl_X11_217 : Cond.methodLink "LoveLocks" 217 yX5_locksOf ∈ zw_tbl := zw (zt_3 _ (List.mem_of_getElem? (i := 167) rfl)) rfl
theorem wi_X5_locksOf : Cond.instanceMethod yX5_locksOf ∈ zw_tbl := zw (zt_3 _ (List.mem_of_getElem? (i := 168) rfl)) rfl
theorem ws_X5_locksOf : Cond.selects "LoveLocks$Reader" yX5_locksOf yX5_locksOf ∈ zw_tbl := zw (zt_3 _ (List.mem_of_getElem? (i := 169) rfl)) rfl
theorem wc_X5_locksOf : Cond.code yX5_locksOf cX5_locksOf 5 (some .int) ∈ zw_tbl := zw (zt_3 _ (List.mem_of_getElem? (i := 170) rfl)) rfl
theorem wl_X5_81 : Cond.methodLink "LoveLocks$Reader" 81 yX5_peopleOn ∈ zw_tbl := zw (zt_3 _ (List.mem_of_getElem? (i := 171) rfl)) rfl
theorem wl_L_107 : Cond.methodLink "LoveLocksLaw" 107 yX11_nightly ∈ zw_tbl := zw (zt_3 _ (List.mem_of_getElem? (i := 172) rfl)) rfl
theorem wi_X11_nightly : Cond.instanceMethod yX11_nightly ∈ zw_tbl := zw (zt_3 _ (List.mem_of_getElem? (i := 173) rfl)) rfl
theorem ws_X11_nightly : Cond.selects "LoveLocks" yX11_nightly yX11_nightly ∈ zw_tbl := zw (zt_3 _ (List.mem_of_getElem? (i := 174) rfl)) rfl
theorem wc_X11_nightly : Cond.code yX11_nightly cX11_nightly 2 (some .int) ∈ zw_tbl := zw (zt_3 _ (List.mem_of_getElem? (i := 175) rfl)) rfl
theorem wl_X11_224 : Cond.methodLink "LoveLocks" 224 yX3_setNightly ∈ zw_tbl := zw (zt_3 _ (List.mem_of_getElem? (i := 176) rfl)) rfl
theorem wi_X3_setNightly : Cond.instanceMethod yX3_setNightly ∈ zw_tbl := zw (zt_3 _ (List.mem_of_getElem? (i := 177) rfl)) rfl
theorem ws_X3_setNightly : Cond.selects "LoveLocks$Nights" yX3_setNightly yX3_setNightly ∈ zw_tbl := zw (zt_3 _ (List.mem_of_getElem? (i := 178) rfl)) rfl
theorem wc_X3_setNightly : Cond.code yX3_setNightly cX3_setNightly 3 (some .int) ∈ zw_tbl := zw (zt_3 _ (List.mem_of_getElem? (i := 179) rfl)) rfl
theorem wl_L_111 : Cond.methodLink "LoveLocksLaw" 111 yX11_risk ∈ zw_tbl := zw (zt_3 _ (List.mem_of_getElem? (i := 180) rfl)) rfl
theorem wi_X11_risk : Cond.instanceMethod yX11_risk ∈ zw_tbl := zw (zt_3 _ (List.mem_of_getElem? (i := 181) rfl)) rfl
theorem ws_X11_risk : Cond.selects "LoveLocks" yX11_risk yX11_risk ∈ zw_tbl := zw (zt_3 _ (List.mem_of_getElem? (i := 182) rfl)) rfl
theorem wc_X11_risk : Cond.code yX11_risk cX11_risk 4 (some .int) ∈ zw_tbl := zw (zt_3 _ (List.mem_of_getElem? (i := 183) rfl)) rfl
theorem wl_X11_229 : Cond.methodLink "LoveLocks" 229 yX3_setTerm ∈ zw_tbl := zw (zt_3 _ (List.mem_of_getElem? (i := 184) rfl)) rfl
theorem wi_X3_setTerm : Cond.instanceMethod yX3_setTerm ∈ zw_tbl := zw (zt_3 _ (List.mem_of_getElem? (i := 185) rfl)) rfl
theorem ws_X3_setTerm : Cond.selects "LoveLocks$Nights" yX3_setTerm yX3_setTerm ∈ zw_tbl := zw (zt_3 _ (List.mem_of_getElem? (i := 186) rfl)) rfl
theorem wc_X3_setTerm : Cond.code yX3_setTerm cX3_setTerm 4 (some .int) ∈ zw_tbl := zw (zt_3 _ (List.mem_of_getElem? (i := 187) rfl)) rfl
theorem wl_X3_45 : Cond.methodLink "LoveLocks$Nights" 45 yX3_change ∈ zw_tbl := zw (zt_3 _ (List.mem_of_getElem? (i := 188) rfl)) rfl
theorem wst_X3_change : Cond.static yX3_change ∈ zw_tbl := zw (zt_3 _ (List.mem_of_getElem? (i := 189) rfl)) rfl
theorem wc_X3_change : Cond.code yX3_change cX3_change 5 (some .int) ∈ zw_tbl := zw (zt_3 _ (List.mem_of_getElem? (i := 190) rfl)) rfl
theorem wl_L_115 : Cond.methodLink "LoveLocksLaw" 115 yX11_order ∈ zw_tbl := zw (zt_3 _ (List.mem_of_getElem? (i := 191) rfl)) rfl
theorem wi_X11_order : Cond.instanceMethod yX11_order ∈ zw_tbl := zw (zt_3 _ (List.mem_of_getElem? (i := 192) rfl)) rfl
theorem ws_X11_order : Cond.selects "LoveLocks" yX11_order yX11_order ∈ zw_tbl := zw (zt_3 _ (List.mem_of_getElem? (i := 193) rfl)) rfl
theorem wc_X11_order : Cond.code yX11_order cX11_order 2 (some .int) ∈ zw_tbl := zw (zt_3 _ (List.mem_of_getElem? (i := 194) rfl)) rfl
theorem wl_X11_232 : Cond.methodLink "LoveLocks" 232 yX3_plan ∈ zw_tbl := zw (zt_3 _ (List.mem_of_getElem? (i := 195) rfl)) rfl
theorem wi_X3_plan : Cond.instanceMethod yX3_plan ∈ zw_tbl := zw (zt_3 _ (List.mem_of_getElem? (i := 196) rfl)) rfl
theorem ws_X3_plan : Cond.selects "LoveLocks$Nights" yX3_plan yX3_plan ∈ zw_tbl := zw (zt_3 _ (List.mem_of_getElem? (i := 197) rfl)) rfl
theorem wc_X3_plan : Cond.code yX3_plan cX3_plan 6 none ∈ zw_tbl := zw (zt_3 _ (List.mem_of_getElem? (i := 198) rfl)) rfl
theorem wk_X3_52 : Cond.constant "LoveLocks$Nights" 52 (1000000) ∈ zw_tbl := zw (zt_3 _ (List.mem_of_getElem? (i := 199) rfl)) rfl
theorem wl_X3_53 : Cond.methodLink "LoveLocks$Nights" 53 yJ7_fill_53178 ∈ zw_tbl := zw (zt_3 _ (List.mem_of_getElem? (i := 200) rfl)) rfl
theorem wl_X3_59 : Cond.methodLink "LoveLocks$Nights" 59 yX3_costOfWaiting ∈ zw_tbl := zw (zt_3 _ (List.mem_of_getElem? (i := 201) rfl)) rfl
theorem wi_X3_costOfWaiting : Cond.instanceMethod yX3_costOfWaiting ∈ zw_tbl := zw (zt_3 _ (List.mem_of_getElem? (i := 203) rfl)) rfl
theorem wc_X3_costOfWaiting : Cond.code yX3_costOfWaiting cX3_costOfWaiting 5 (some .int) ∈ zw_tbl := zw (zt_3 _ (List.mem_of_getElem? (i := 204) rfl)) rfl
theorem wl_X3_63 : Cond.methodLink "LoveLocks$Nights" 63 yX3_chooseBest ∈ zw_tbl := zw (zt_3 _ (List.mem_of_getElem? (i := 205) rfl)) rfl
theorem wi_X3_chooseBest : Cond.instanceMethod yX3_chooseBest ∈ zw_tbl := zw (zt_3 _ (List.mem_of_getElem? (i := 207) rfl)) rfl
theorem wc_X3_chooseBest : Cond.code yX3_chooseBest cX3_chooseBest 9 none ∈ zw_tbl := zw (zt_3 _ (List.mem_of_getElem? (i := 208) rfl)) rfl
theorem wl_X3_71 : Cond.methodLink "LoveLocks$Nights" 71 yJ6_bitCount_0f7a4 ∈ zw_tbl := zw (zt_3 _ (List.mem_of_getElem? (i := 209) rfl)) rfl
theorem wl_X3_67 : Cond.methodLink "LoveLocks$Nights" 67 yX3_followChoices ∈ zw_tbl := zw (zt_3 _ (List.mem_of_getElem? (i := 210) rfl)) rfl
theorem wi_X3_followChoices : Cond.instanceMethod yX3_followChoices ∈ zw_tbl := zw (zt_3 _ (List.mem_of_getElem? (i := 212) rfl)) rfl
theorem wc_X3_followChoices : Cond.code yX3_followChoices cX3_followChoices 6 none ∈ zw_tbl := zw (zt_3 _ (List.mem_of_getElem? (i := 213) rfl)) rfl
theorem wl_X11_236 : Cond.methodLink "LoveLocks" 236 yX3_costInAll ∈ zw_tbl := zw (zt_3 _ (List.mem_of_getElem? (i := 214) rfl)) rfl
theorem wi_X3_costInAll : Cond.instanceMethod yX3_costInAll ∈ zw_tbl := zw (zt_3 _ (List.mem_of_getElem? (i := 215) rfl)) rfl
theorem ws_X3_costInAll : Cond.selects "LoveLocks$Nights" yX3_costInAll yX3_costInAll ∈ zw_tbl := zw (zt_3 _ (List.mem_of_getElem? (i := 216) rfl)) rfl
theorem wc_X3_costInAll : Cond.code yX3_costInAll cX3_costInAll 1 (some .int) ∈ zw_tbl := zw (zt_3 _ (List.mem_of_getElem? (i := 217) rfl)) rfl
theorem wl_X11_239 : Cond.methodLink "LoveLocks" 239 yX3_nightOf ∈ zw_tbl := zw (zt_3 _ (List.mem_of_getElem? (i := 218) rfl)) rfl
theorem wi_X3_nightOf : Cond.instanceMethod yX3_nightOf ∈ zw_tbl := zw (zt_3 _ (List.mem_of_getElem? (i := 219) rfl)) rfl
theorem ws_X3_nightOf : Cond.selects "LoveLocks$Nights" yX3_nightOf yX3_nightOf ∈ zw_tbl := zw (zt_3 _ (List.mem_of_getElem? (i := 220) rfl)) rfl
theorem wc_X3_nightOf : Cond.code yX3_nightOf cX3_nightOf 2 (some .int) ∈ zw_tbl := zw (zt_3 _ (List.mem_of_getElem? (i := 221) rfl)) rfl
theorem wl_L_119 : Cond.methodLink "LoveLocksLaw" 119 yX11_month ∈ zw_tbl := zw (zt_3 _ (List.mem_of_getElem? (i := 222) rfl)) rfl
theorem wi_X11_month : Cond.instanceMethod yX11_month ∈ zw_tbl := zw (zt_3 _ (List.mem_of_getElem? (i := 223) rfl)) rfl
theorem ws_X11_month : Cond.selects "LoveLocks" yX11_month yX11_month ∈ zw_tbl := zw (zt_3 _ (List.mem_of_getElem? (i := 224) rfl)) rfl
theorem wc_X11_month : Cond.code yX11_month cX11_month 4 (some .int) ∈ zw_tbl := zw (zt_3 _ (List.mem_of_getElem? (i := 225) rfl)) rfl
theorem wl_X11_242 : Cond.methodLink "LoveLocks" 242 yX0_isCount ∈ zw_tbl := zw (zt_3 _ (List.mem_of_getElem? (i := 226) rfl)) rfl
theorem wst_X0_isCount : Cond.static yX0_isCount ∈ zw_tbl := zw (zt_3 _ (List.mem_of_getElem? (i := 227) rfl)) rfl
theorem wc_X0_isCount : Cond.code yX0_isCount cX0_isCount 2 (some .boolean) ∈ zw_tbl := zw (zt_3 _ (List.mem_of_getElem? (i := 228) rfl)) rfl
theorem wl_X11_251 : Cond.methodLink "LoveLocks" 251 yX0_put ∈ zw_tbl := zw (zt_3 _ (List.mem_of_getElem? (i := 229) rfl)) rfl
theorem wi_X0_put : Cond.instanceMethod yX0_put ∈ zw_tbl := zw (zt_3 _ (List.mem_of_getElem? (i := 230) rfl)) rfl
theorem ws_X0_put : Cond.selects "LoveLocks$Growth" yX0_put yX0_put ∈ zw_tbl := zw (zt_3 _ (List.mem_of_getElem? (i := 231) rfl)) rfl
theorem wc_X0_put : Cond.code yX0_put cX0_put 4 none ∈ zw_tbl := zw (zt_3 _ (List.mem_of_getElem? (i := 232) rfl)) rfl
theorem wl_L_123 : Cond.methodLink "LoveLocksLaw" 123 yX11_laws ∈ zw_tbl := zw (zt_3 _ (List.mem_of_getElem? (i := 233) rfl)) rfl
theorem wi_X11_laws : Cond.instanceMethod yX11_laws ∈ zw_tbl := zw (zt_3 _ (List.mem_of_getElem? (i := 234) rfl)) rfl
theorem ws_X11_laws : Cond.selects "LoveLocks" yX11_laws yX11_laws ∈ zw_tbl := zw (zt_3 _ (List.mem_of_getElem? (i := 235) rfl)) rfl
theorem wc_X11_laws : Cond.code yX11_laws cX11_laws 2 (some .int) ∈ zw_tbl := zw (zt_3 _ (List.mem_of_getElem? (i := 236) rfl)) rfl
theorem wl_X11_255 : Cond.methodLink "LoveLocks" 255 yX0_lawsThatFit ∈ zw_tbl := zw (zt_3 _ (List.mem_of_getElem? (i := 237) rfl)) rfl
theorem wi_X0_lawsThatFit : Cond.instanceMethod yX0_lawsThatFit ∈ zw_tbl := zw (zt_3 _ (List.mem_of_getElem? (i := 238) rfl)) rfl
theorem ws_X0_lawsThatFit : Cond.selects "LoveLocks$Growth" yX0_lawsThatFit yX0_lawsThatFit ∈ zw_tbl := zw (zt_3 _ (List.mem_of_getElem? (i := 239) rfl)) rfl
theorem wc_X0_lawsThatFit : Cond.code yX0_lawsThatFit cX0_lawsThatFit 5 (some .int) ∈ zw_tbl := zw (zt_4 _ (List.mem_of_getElem? (i := 0) rfl)) rfl
theorem wl_X0_54 : Cond.methodLink "LoveLocks$Growth" 54 yX0_fits ∈ zw_tbl := zw (zt_4 _ (List.mem_of_getElem? (i := 1) rfl)) rfl
theorem wi_X0_fits : Cond.instanceMethod yX0_fits ∈ zw_tbl := zw (zt_4 _ (List.mem_of_getElem? (i := 3) rfl)) rfl
theorem wc_X0_fits : Cond.code yX0_fits cX0_fits 6 (some .boolean) ∈ zw_tbl := zw (zt_4 _ (List.mem_of_getElem? (i := 4) rfl)) rfl
theorem wl_X0_31 : Cond.methodLink "LoveLocks$Growth" 31 yX0_leastTo ∈ zw_tbl := zw (zt_4 _ (List.mem_of_getElem? (i := 5) rfl)) rfl
theorem wst_X0_leastTo : Cond.static yX0_leastTo ∈ zw_tbl := zw (zt_4 _ (List.mem_of_getElem? (i := 6) rfl)) rfl
theorem wc_X0_leastTo : Cond.code yX0_leastTo cX0_leastTo 3 (some .int) ∈ zw_tbl := zw (zt_4 _ (List.mem_of_getElem? (i := 7) rfl)) rfl
theorem wl_X0_35 : Cond.methodLink "LoveLocks$Growth" 35 yJ9_max_7cf53 ∈ zw_tbl := zw (zt_4 _ (List.mem_of_getElem? (i := 8) rfl)) rfl
theorem wl_X0_41 : Cond.methodLink "LoveLocks$Growth" 41 yX0_mostTo ∈ zw_tbl := zw (zt_4 _ (List.mem_of_getElem? (i := 9) rfl)) rfl
theorem wst_X0_mostTo : Cond.static yX0_mostTo ∈ zw_tbl := zw (zt_4 _ (List.mem_of_getElem? (i := 10) rfl)) rfl
theorem wc_X0_mostTo : Cond.code yX0_mostTo cX0_mostTo 3 (some .int) ∈ zw_tbl := zw (zt_4 _ (List.mem_of_getElem? (i := 11) rfl)) rfl
theorem wl_X0_44 : Cond.methodLink "LoveLocks$Growth" 44 yJ9_min_7cf53 ∈ zw_tbl := zw (zt_4 _ (List.mem_of_getElem? (i := 12) rfl)) rfl
theorem wl_L_127 : Cond.methodLink "LoveLocksLaw" 127 yX11_grown ∈ zw_tbl := zw (zt_4 _ (List.mem_of_getElem? (i := 13) rfl)) rfl
theorem wi_X11_grown : Cond.instanceMethod yX11_grown ∈ zw_tbl := zw (zt_4 _ (List.mem_of_getElem? (i := 14) rfl)) rfl
theorem ws_X11_grown : Cond.selects "LoveLocks" yX11_grown yX11_grown ∈ zw_tbl := zw (zt_4 _ (List.mem_of_getElem? (i := 15) rfl)) rfl
theorem wc_X11_grown : Cond.code yX11_grown cX11_grown 3 (some .long) ∈ zw_tbl := zw (zt_4 _ (List.mem_of_getElem? (i := 16) rfl)) rfl
theorem wk_X11_258 : Cond.constantLong "LoveLocks" 258 (-1) ∈ zw_tbl := zw (zt_4 _ (List.mem_of_getElem? (i := 17) rfl)) rfl
theorem wl_X11_260 : Cond.methodLink "LoveLocks" 260 yX0_farthest ∈ zw_tbl := zw (zt_4 _ (List.mem_of_getElem? (i := 18) rfl)) rfl
theorem wi_X0_farthest : Cond.instanceMethod yX0_farthest ∈ zw_tbl := zw (zt_4 _ (List.mem_of_getElem? (i := 19) rfl)) rfl
theorem ws_X0_farthest : Cond.selects "LoveLocks$Growth" yX0_farthest yX0_farthest ∈ zw_tbl := zw (zt_4 _ (List.mem_of_getElem? (i := 20) rfl)) rfl
theorem wc_X0_farthest : Cond.code yX0_farthest cX0_farthest 7 (some .int) ∈ zw_tbl := zw (zt_4 _ (List.mem_of_getElem? (i := 21) rfl)) rfl
theorem wl_X0_58 : Cond.methodLink "LoveLocks$Growth" 58 yX0_grow ∈ zw_tbl := zw (zt_4 _ (List.mem_of_getElem? (i := 22) rfl)) rfl
theorem wst_X0_grow : Cond.static yX0_grow ∈ zw_tbl := zw (zt_4 _ (List.mem_of_getElem? (i := 23) rfl)) rfl
theorem wc_X0_grow : Cond.code yX0_grow cX0_grow 6 (some .int) ∈ zw_tbl := zw (zt_4 _ (List.mem_of_getElem? (i := 24) rfl)) rfl
theorem wl_L_132 : Cond.methodLink "LoveLocksLaw" 132 yX11_ask ∈ zw_tbl := zw (zt_4 _ (List.mem_of_getElem? (i := 25) rfl)) rfl
theorem wi_X11_ask : Cond.instanceMethod yX11_ask ∈ zw_tbl := zw (zt_4 _ (List.mem_of_getElem? (i := 26) rfl)) rfl
theorem ws_X11_ask : Cond.selects "LoveLocks" yX11_ask yX11_ask ∈ zw_tbl := zw (zt_4 _ (List.mem_of_getElem? (i := 27) rfl)) rfl
theorem wc_X11_ask : Cond.code yX11_ask cX11_ask 4 (some .int) ∈ zw_tbl := zw (zt_4 _ (List.mem_of_getElem? (i := 28) rfl)) rfl
theorem wl_X11_263 : Cond.methodLink "LoveLocks" 263 yX11_isSought ∈ zw_tbl := zw (zt_4 _ (List.mem_of_getElem? (i := 29) rfl)) rfl
theorem wi_X11_isSought : Cond.instanceMethod yX11_isSought ∈ zw_tbl := zw (zt_4 _ (List.mem_of_getElem? (i := 31) rfl)) rfl
theorem wc_X11_isSought : Cond.code yX11_isSought cX11_isSought 3 (some .boolean) ∈ zw_tbl := zw (zt_4 _ (List.mem_of_getElem? (i := 32) rfl)) rfl
theorem wl_X11_266 : Cond.methodLink "LoveLocks" 266 yX6_learn ∈ zw_tbl := zw (zt_4 _ (List.mem_of_getElem? (i := 33) rfl)) rfl
theorem wi_X6_learn : Cond.instanceMethod yX6_learn ∈ zw_tbl := zw (zt_4 _ (List.mem_of_getElem? (i := 34) rfl)) rfl
theorem ws_X6_learn : Cond.selects "LoveLocks$Seeker" yX6_learn yX6_learn ∈ zw_tbl := zw (zt_4 _ (List.mem_of_getElem? (i := 35) rfl)) rfl
theorem wc_X6_learn : Cond.code yX6_learn cX6_learn 4 none ∈ zw_tbl := zw (zt_4 _ (List.mem_of_getElem? (i := 36) rfl)) rfl
theorem wl_X6_33 : Cond.methodLink "LoveLocks$Seeker" 33 yX6_answer ∈ zw_tbl := zw (zt_4 _ (List.mem_of_getElem? (i := 37) rfl)) rfl
theorem wst_X6_answer : Cond.static yX6_answer ∈ zw_tbl := zw (zt_4 _ (List.mem_of_getElem? (i := 38) rfl)) rfl
theorem wc_X6_answer : Cond.code yX6_answer cX6_answer 3 (some .boolean) ∈ zw_tbl := zw (zt_4 _ (List.mem_of_getElem? (i := 39) rfl)) rfl
theorem wl_X11_270 : Cond.methodLink "LoveLocks" 270 yX6_bestQuestion ∈ zw_tbl := zw (zt_4 _ (List.mem_of_getElem? (i := 40) rfl)) rfl
theorem wi_X6_bestQuestion : Cond.instanceMethod yX6_bestQuestion ∈ zw_tbl := zw (zt_4 _ (List.mem_of_getElem? (i := 41) rfl)) rfl
theorem ws_X6_bestQuestion : Cond.selects "LoveLocks$Seeker" yX6_bestQuestion yX6_bestQuestion ∈ zw_tbl := zw (zt_4 _ (List.mem_of_getElem? (i := 42) rfl)) rfl
theorem wc_X6_bestQuestion : Cond.code yX6_bestQuestion cX6_bestQuestion 4 (some .int) ∈ zw_tbl := zw (zt_4 _ (List.mem_of_getElem? (i := 43) rfl)) rfl
theorem wl_X6_49 : Cond.methodLink "LoveLocks$Seeker" 49 yX6_leftAtWorst ∈ zw_tbl := zw (zt_4 _ (List.mem_of_getElem? (i := 44) rfl)) rfl
theorem wi_X6_leftAtWorst : Cond.instanceMethod yX6_leftAtWorst ∈ zw_tbl := zw (zt_4 _ (List.mem_of_getElem? (i := 45) rfl)) rfl
theorem ws_X6_leftAtWorst : Cond.selects "LoveLocks$Seeker" yX6_leftAtWorst yX6_leftAtWorst ∈ zw_tbl := zw (zt_4 _ (List.mem_of_getElem? (i := 46) rfl)) rfl
theorem wc_X6_leftAtWorst : Cond.code yX6_leftAtWorst cX6_leftAtWorst 4 (some .int) ∈ zw_tbl := zw (zt_4 _ (List.mem_of_getElem? (i := 47) rfl)) rfl
theorem wl_X6_37 : Cond.methodLink "LoveLocks$Seeker" 37 yJ6_bitCount_0f7a4 ∈ zw_tbl := zw (zt_4 _ (List.mem_of_getElem? (i := 48) rfl)) rfl
theorem wl_X6_43 : Cond.methodLink "LoveLocks$Seeker" 43 yJ9_max_7cf53 ∈ zw_tbl := zw (zt_4 _ (List.mem_of_getElem? (i := 49) rfl)) rfl
theorem wl_X11_273 : Cond.methodLink "LoveLocks" 273 yX6_numberOf ∈ zw_tbl := zw (zt_4 _ (List.mem_of_getElem? (i := 50) rfl)) rfl
theorem wst_X6_numberOf : Cond.static yX6_numberOf ∈ zw_tbl := zw (zt_4 _ (List.mem_of_getElem? (i := 51) rfl)) rfl
theorem wc_X6_numberOf : Cond.code yX6_numberOf cX6_numberOf 1 (some .int) ∈ zw_tbl := zw (zt_4 _ (List.mem_of_getElem? (i := 52) rfl)) rfl
theorem wl_X11_276 : Cond.methodLink "LoveLocks" 276 yX6_leftAtWorst ∈ zw_tbl := zw (zt_4 _ (List.mem_of_getElem? (i := 53) rfl)) rfl
theorem wl_L_136 : Cond.methodLink "LoveLocksLaw" 136 yX11_needed ∈ zw_tbl := zw (zt_4 _ (List.mem_of_getElem? (i := 54) rfl)) rfl
theorem wi_X11_needed : Cond.instanceMethod yX11_needed ∈ zw_tbl := zw (zt_4 _ (List.mem_of_getElem? (i := 55) rfl)) rfl
theorem ws_X11_needed : Cond.selects "LoveLocks" yX11_needed yX11_needed ∈ zw_tbl := zw (zt_4 _ (List.mem_of_getElem? (i := 56) rfl)) rfl
theorem wc_X11_needed : Cond.code yX11_needed cX11_needed 2 (some .int) ∈ zw_tbl := zw (zt_4 _ (List.mem_of_getElem? (i := 57) rfl)) rfl
theorem wl_X11_279 : Cond.methodLink "LoveLocks" 279 yX6_questionsFor ∈ zw_tbl := zw (zt_4 _ (List.mem_of_getElem? (i := 58) rfl)) rfl
theorem wi_X6_questionsFor : Cond.instanceMethod yX6_questionsFor ∈ zw_tbl := zw (zt_4 _ (List.mem_of_getElem? (i := 59) rfl)) rfl
theorem ws_X6_questionsFor : Cond.selects "LoveLocks$Seeker" yX6_questionsFor yX6_questionsFor ∈ zw_tbl := zw (zt_4 _ (List.mem_of_getElem? (i := 60) rfl)) rfl
theorem wc_X6_questionsFor : Cond.code yX6_questionsFor cX6_questionsFor 3 (some .int) ∈ zw_tbl := zw (zt_4 _ (List.mem_of_getElem? (i := 61) rfl)) rfl
theorem wl_X6_52 : Cond.methodLink "LoveLocks$Seeker" 52 yX6_areApart ∈ zw_tbl := zw (zt_4 _ (List.mem_of_getElem? (i := 62) rfl)) rfl
theorem wi_X6_areApart : Cond.instanceMethod yX6_areApart ∈ zw_tbl := zw (zt_4 _ (List.mem_of_getElem? (i := 64) rfl)) rfl
theorem wc_X6_areApart : Cond.code yX6_areApart cX6_areApart 5 (some .boolean) ∈ zw_tbl := zw (zt_4 _ (List.mem_of_getElem? (i := 65) rfl)) rfl
theorem wl_X6_56 : Cond.methodLink "LoveLocks$Seeker" 56 yX6_areEnough ∈ zw_tbl := zw (zt_4 _ (List.mem_of_getElem? (i := 66) rfl)) rfl
theorem wst_X6_areEnough : Cond.static yX6_areEnough ∈ zw_tbl := zw (zt_4 _ (List.mem_of_getElem? (i := 67) rfl)) rfl
theorem wc_X6_areEnough : Cond.code yX6_areEnough cX6_areEnough 7 (some .boolean) ∈ zw_tbl := zw (zt_4 _ (List.mem_of_getElem? (i := 68) rfl)) rfl
theorem wl_L_140 : Cond.methodLink "LoveLocksLaw" 140 yX11_stolen ∈ zw_tbl := zw (zt_4 _ (List.mem_of_getElem? (i := 69) rfl)) rfl
theorem wi_X11_stolen : Cond.instanceMethod yX11_stolen ∈ zw_tbl := zw (zt_4 _ (List.mem_of_getElem? (i := 70) rfl)) rfl
theorem ws_X11_stolen : Cond.selects "LoveLocks" yX11_stolen yX11_stolen ∈ zw_tbl := zw (zt_4 _ (List.mem_of_getElem? (i := 71) rfl)) rfl
theorem wc_X11_stolen : Cond.code yX11_stolen cX11_stolen 5 (some .int) ∈ zw_tbl := zw (zt_4 _ (List.mem_of_getElem? (i := 72) rfl)) rfl
theorem wl_X11_282 : Cond.methodLink "LoveLocks" 282 yX1_findLoots ∈ zw_tbl := zw (zt_4 _ (List.mem_of_getElem? (i := 73) rfl)) rfl
theorem wi_X1_findLoots : Cond.instanceMethod yX1_findLoots ∈ zw_tbl := zw (zt_4 _ (List.mem_of_getElem? (i := 74) rfl)) rfl
theorem ws_X1_findLoots : Cond.selects "LoveLocks$Looter" yX1_findLoots yX1_findLoots ∈ zw_tbl := zw (zt_4 _ (List.mem_of_getElem? (i := 75) rfl)) rfl
theorem wc_X1_findLoots : Cond.code yX1_findLoots cX1_findLoots 4 none ∈ zw_tbl := zw (zt_4 _ (List.mem_of_getElem? (i := 76) rfl)) rfl
theorem wl_X1_21 : Cond.methodLink "LoveLocks$Looter" 21 yX4_weightOf ∈ zw_tbl := zw (zt_4 _ (List.mem_of_getElem? (i := 77) rfl)) rfl
theorem wl_X1_27 : Cond.methodLink "LoveLocks$Looter" 27 yX1_takeFrom ∈ zw_tbl := zw (zt_4 _ (List.mem_of_getElem? (i := 78) rfl)) rfl
theorem wst_X1_takeFrom : Cond.static yX1_takeFrom ∈ zw_tbl := zw (zt_4 _ (List.mem_of_getElem? (i := 79) rfl)) rfl
theorem wc_X1_takeFrom : Cond.code yX1_takeFrom cX1_takeFrom 8 none ∈ zw_tbl := zw (zt_4 _ (List.mem_of_getElem? (i := 80) rfl)) rfl
theorem wl_X1_34 : Cond.methodLink "LoveLocks$Looter" 34 yX1_keepLoot ∈ zw_tbl := zw (zt_4 _ (List.mem_of_getElem? (i := 81) rfl)) rfl
theorem wi_X1_keepLoot : Cond.instanceMethod yX1_keepLoot ∈ zw_tbl := zw (zt_4 _ (List.mem_of_getElem? (i := 83) rfl)) rfl
theorem wc_X1_keepLoot : Cond.code yX1_keepLoot cX1_keepLoot 2 none ∈ zw_tbl := zw (zt_4 _ (List.mem_of_getElem? (i := 84) rfl)) rfl
theorem wl_L_144 : Cond.methodLink "LoveLocksLaw" 144 yX11_image ∈ zw_tbl := zw (zt_4 _ (List.mem_of_getElem? (i := 85) rfl)) rfl
theorem wi_X11_image : Cond.instanceMethod yX11_image ∈ zw_tbl := zw (zt_4 _ (List.mem_of_getElem? (i := 86) rfl)) rfl
theorem ws_X11_image : Cond.selects "LoveLocks" yX11_image yX11_image ∈ zw_tbl := zw (zt_4 _ (List.mem_of_getElem? (i := 87) rfl)) rfl
theorem wc_X11_image : Cond.code yX11_image cX11_image 1 (some .int) ∈ zw_tbl := zw (zt_4 _ (List.mem_of_getElem? (i := 88) rfl)) rfl
theorem wl_X11_295 : Cond.methodLink "LoveLocks" 295 yX9_takeOver ∈ zw_tbl := zw (zt_4 _ (List.mem_of_getElem? (i := 89) rfl)) rfl
theorem wi_X9_takeOver : Cond.instanceMethod yX9_takeOver ∈ zw_tbl := zw (zt_4 _ (List.mem_of_getElem? (i := 90) rfl)) rfl
theorem ws_X9_takeOver : Cond.selects "LoveLocks$State" yX9_takeOver yX9_takeOver ∈ zw_tbl := zw (zt_4 _ (List.mem_of_getElem? (i := 91) rfl)) rfl
theorem wc_X9_takeOver : Cond.code yX9_takeOver cX9_takeOver 2 none ∈ zw_tbl := zw (zt_4 _ (List.mem_of_getElem? (i := 92) rfl)) rfl
theorem wl_X9_44 : Cond.methodLink "LoveLocks$State" 44 yX4_takeOver ∈ zw_tbl := zw (zt_4 _ (List.mem_of_getElem? (i := 93) rfl)) rfl
theorem wi_X4_takeOver : Cond.instanceMethod yX4_takeOver ∈ zw_tbl := zw (zt_4 _ (List.mem_of_getElem? (i := 94) rfl)) rfl
theorem ws_X4_takeOver : Cond.selects "LoveLocks$Rail" yX4_takeOver yX4_takeOver ∈ zw_tbl := zw (zt_4 _ (List.mem_of_getElem? (i := 95) rfl)) rfl
theorem wc_X4_takeOver : Cond.code yX4_takeOver cX4_takeOver 2 none ∈ zw_tbl := zw (zt_4 _ (List.mem_of_getElem? (i := 96) rfl)) rfl
theorem wl_X4_43 : Cond.methodLink "LoveLocks$Rail" 43 (⟨"java/lang/System", "arraycopy", "(Ljava/lang/Object;ILjava/lang/Object;II)V"⟩ : MethodName) ∈ zw_tbl := zw (zt_4 _ (List.mem_of_getElem? (i := 97) rfl)) rfl
theorem wst_arraycopy : Cond.static (⟨"java/lang/System", "arraycopy", "(Ljava/lang/Object;ILjava/lang/Object;II)V"⟩ : MethodName) ∈ zw_tbl := zw (zt_4 _ (List.mem_of_getElem? (i := 98) rfl)) rfl
theorem wnat_arraycopy : Cond.native (⟨"java/lang/System", "arraycopy", "(Ljava/lang/Object;ILjava/lang/Object;II)V"⟩ : MethodName) ∈ zw_tbl := zw (zt_4 _ (List.mem_of_getElem? (i := 99) rfl)) rfl
theorem wl_X9_48 : Cond.methodLink "LoveLocks$State" 48 yX8_takeOver ∈ zw_tbl := zw (zt_4 _ (List.mem_of_getElem? (i := 100) rfl)) rfl
theorem wi_X8_takeOver : Cond.instanceMethod yX8_takeOver ∈ zw_tbl := zw (zt_4 _ (List.mem_of_getElem? (i := 101) rfl)) rfl
theorem ws_X8_takeOver : Cond.selects "LoveLocks$Sights" yX8_takeOver yX8_takeOver ∈ zw_tbl := zw (zt_4 _ (List.mem_of_getElem? (i := 102) rfl)) rfl
theorem wc_X8_takeOver : Cond.code yX8_takeOver cX8_takeOver 2 none ∈ zw_tbl := zw (zt_4 _ (List.mem_of_getElem? (i := 103) rfl)) rfl
theorem wl_X8_25 : Cond.methodLink "LoveLocks$Sights" 25 (⟨"java/lang/System", "arraycopy", "(Ljava/lang/Object;ILjava/lang/Object;II)V"⟩ : MethodName) ∈ zw_tbl := zw (zt_4 _ (List.mem_of_getElem? (i := 104) rfl)) rfl
theorem wl_X9_51 : Cond.methodLink "LoveLocks$State" 51 yX2_takeOver ∈ zw_tbl := zw (zt_4 _ (List.mem_of_getElem? (i := 105) rfl)) rfl
theorem wi_X2_takeOver : Cond.instanceMethod yX2_takeOver ∈ zw_tbl := zw (zt_4 _ (List.mem_of_getElem? (i := 106) rfl)) rfl
theorem ws_X2_takeOver : Cond.selects "LoveLocks$Names" yX2_takeOver yX2_takeOver ∈ zw_tbl := zw (zt_4 _ (List.mem_of_getElem? (i := 107) rfl)) rfl
theorem wc_X2_takeOver : Cond.code yX2_takeOver cX2_takeOver 2 none ∈ zw_tbl := zw (zt_4 _ (List.mem_of_getElem? (i := 108) rfl)) rfl
theorem wl_X2_28 : Cond.methodLink "LoveLocks$Names" 28 (⟨"java/lang/System", "arraycopy", "(Ljava/lang/Object;ILjava/lang/Object;II)V"⟩ : MethodName) ∈ zw_tbl := zw (zt_4 _ (List.mem_of_getElem? (i := 109) rfl)) rfl
theorem wl_X9_54 : Cond.methodLink "LoveLocks$State" 54 yX3_takeOver ∈ zw_tbl := zw (zt_4 _ (List.mem_of_getElem? (i := 110) rfl)) rfl
theorem wi_X3_takeOver : Cond.instanceMethod yX3_takeOver ∈ zw_tbl := zw (zt_4 _ (List.mem_of_getElem? (i := 111) rfl)) rfl
theorem ws_X3_takeOver : Cond.selects "LoveLocks$Nights" yX3_takeOver yX3_takeOver ∈ zw_tbl := zw (zt_4 _ (List.mem_of_getElem? (i := 112) rfl)) rfl
theorem wc_X3_takeOver : Cond.code yX3_takeOver cX3_takeOver 2 none ∈ zw_tbl := zw (zt_4 _ (List.mem_of_getElem? (i := 113) rfl)) rfl
theorem wl_X3_39 : Cond.methodLink "LoveLocks$Nights" 39 (⟨"java/lang/System", "arraycopy", "(Ljava/lang/Object;ILjava/lang/Object;II)V"⟩ : MethodName) ∈ zw_tbl := zw (zt_4 _ (List.mem_of_getElem? (i := 114) rfl)) rfl
theorem wl_X9_57 : Cond.methodLink "LoveLocks$State" 57 yX0_takeOver ∈ zw_tbl := zw (zt_4 _ (List.mem_of_getElem? (i := 115) rfl)) rfl
theorem wi_X0_takeOver : Cond.instanceMethod yX0_takeOver ∈ zw_tbl := zw (zt_4 _ (List.mem_of_getElem? (i := 116) rfl)) rfl
theorem ws_X0_takeOver : Cond.selects "LoveLocks$Growth" yX0_takeOver yX0_takeOver ∈ zw_tbl := zw (zt_4 _ (List.mem_of_getElem? (i := 117) rfl)) rfl
theorem wc_X0_takeOver : Cond.code yX0_takeOver cX0_takeOver 2 none ∈ zw_tbl := zw (zt_4 _ (List.mem_of_getElem? (i := 118) rfl)) rfl
theorem wl_X0_25 : Cond.methodLink "LoveLocks$Growth" 25 (⟨"java/lang/System", "arraycopy", "(Ljava/lang/Object;ILjava/lang/Object;II)V"⟩ : MethodName) ∈ zw_tbl := zw (zt_4 _ (List.mem_of_getElem? (i := 119) rfl)) rfl
theorem wl_L_148 : Cond.methodLink "LoveLocksLaw" 148 yX11_restore ∈ zw_tbl := zw (zt_4 _ (List.mem_of_getElem? (i := 120) rfl)) rfl
theorem wi_X11_restore : Cond.instanceMethod yX11_restore ∈ zw_tbl := zw (zt_4 _ (List.mem_of_getElem? (i := 121) rfl)) rfl
theorem ws_X11_restore : Cond.selects "LoveLocks" yX11_restore yX11_restore ∈ zw_tbl := zw (zt_4 _ (List.mem_of_getElem? (i := 122) rfl)) rfl
theorem wc_X11_restore : Cond.code yX11_restore cX11_restore 1 (some .int) ∈ zw_tbl := zw (zt_4 _ (List.mem_of_getElem? (i := 123) rfl)) rfl
theorem wl_L_152 : Cond.methodLink "LoveLocksLaw" 152 yX11_months ∈ zw_tbl := zw (zt_4 _ (List.mem_of_getElem? (i := 124) rfl)) rfl
theorem wi_X11_months : Cond.instanceMethod yX11_months ∈ zw_tbl := zw (zt_4 _ (List.mem_of_getElem? (i := 125) rfl)) rfl
theorem ws_X11_months : Cond.selects "LoveLocks" yX11_months yX11_months ∈ zw_tbl := zw (zt_4 _ (List.mem_of_getElem? (i := 126) rfl)) rfl
theorem wc_X11_months : Cond.code yX11_months cX11_months 7 (some .int) ∈ zw_tbl := zw (zt_4 _ (List.mem_of_getElem? (i := 127) rfl)) rfl
theorem wl_X11_303 : Cond.methodLink "LoveLocks" 303 yX11_isSheet ∈ zw_tbl := zw (zt_4 _ (List.mem_of_getElem? (i := 128) rfl)) rfl
theorem wst_X11_isSheet : Cond.static yX11_isSheet ∈ zw_tbl := zw (zt_4 _ (List.mem_of_getElem? (i := 129) rfl)) rfl
theorem wc_X11_isSheet : Cond.code yX11_isSheet cX11_isSheet 1 (some .boolean) ∈ zw_tbl := zw (zt_4 _ (List.mem_of_getElem? (i := 130) rfl)) rfl
theorem wl_X11_306 : Cond.methodLink "LoveLocks" 306 yX11_isLane ∈ zw_tbl := zw (zt_4 _ (List.mem_of_getElem? (i := 131) rfl)) rfl
theorem wst_X11_isLane : Cond.static yX11_isLane ∈ zw_tbl := zw (zt_4 _ (List.mem_of_getElem? (i := 132) rfl)) rfl
theorem wc_X11_isLane : Cond.code yX11_isLane cX11_isLane 1 (some .boolean) ∈ zw_tbl := zw (zt_4 _ (List.mem_of_getElem? (i := 133) rfl)) rfl
theorem wl_X11_309 : Cond.methodLink "LoveLocks" 309 yX7_faultOf ∈ zw_tbl := zw (zt_4 _ (List.mem_of_getElem? (i := 134) rfl)) rfl
theorem wi_X7_faultOf : Cond.instanceMethod yX7_faultOf ∈ zw_tbl := zw (zt_4 _ (List.mem_of_getElem? (i := 135) rfl)) rfl
theorem ws_X7_faultOf : Cond.selects "LoveLocks$Sheets" yX7_faultOf yX7_faultOf ∈ zw_tbl := zw (zt_4 _ (List.mem_of_getElem? (i := 136) rfl)) rfl
theorem wc_X7_faultOf : Cond.code yX7_faultOf cX7_faultOf 5 (some .int) ∈ zw_tbl := zw (zt_4 _ (List.mem_of_getElem? (i := 137) rfl)) rfl
theorem wl_X7_29 : Cond.methodLink "LoveLocks$Sheets" 29 yX7_holds ∈ zw_tbl := zw (zt_4 _ (List.mem_of_getElem? (i := 138) rfl)) rfl
theorem wi_X7_holds : Cond.instanceMethod yX7_holds ∈ zw_tbl := zw (zt_4 _ (List.mem_of_getElem? (i := 139) rfl)) rfl
theorem ws_X7_holds : Cond.selects "LoveLocks$Sheets" yX7_holds yX7_holds ∈ zw_tbl := zw (zt_4 _ (List.mem_of_getElem? (i := 140) rfl)) rfl
theorem wc_X7_holds : Cond.code yX7_holds cX7_holds 2 (some .boolean) ∈ zw_tbl := zw (zt_4 _ (List.mem_of_getElem? (i := 141) rfl)) rfl
theorem wl_X11_312 : Cond.methodLink "LoveLocks" 312 yX7_at ∈ zw_tbl := zw (zt_4 _ (List.mem_of_getElem? (i := 142) rfl)) rfl
theorem wi_X7_at : Cond.instanceMethod yX7_at ∈ zw_tbl := zw (zt_4 _ (List.mem_of_getElem? (i := 143) rfl)) rfl
theorem ws_X7_at : Cond.selects "LoveLocks$Sheets" yX7_at yX7_at ∈ zw_tbl := zw (zt_4 _ (List.mem_of_getElem? (i := 144) rfl)) rfl
theorem wc_X7_at : Cond.code yX7_at cX7_at 3 (some .int) ∈ zw_tbl := zw (zt_4 _ (List.mem_of_getElem? (i := 145) rfl)) rfl
theorem wl_L_156 : Cond.methodLink "LoveLocksLaw" 156 yX11_sheet ∈ zw_tbl := zw (zt_4 _ (List.mem_of_getElem? (i := 146) rfl)) rfl
theorem wi_X11_sheet : Cond.instanceMethod yX11_sheet ∈ zw_tbl := zw (zt_4 _ (List.mem_of_getElem? (i := 147) rfl)) rfl
theorem ws_X11_sheet : Cond.selects "LoveLocks" yX11_sheet yX11_sheet ∈ zw_tbl := zw (zt_4 _ (List.mem_of_getElem? (i := 148) rfl)) rfl
theorem wc_X11_sheet : Cond.code yX11_sheet cX11_sheet 4 (some .int) ∈ zw_tbl := zw (zt_4 _ (List.mem_of_getElem? (i := 149) rfl)) rfl
theorem wl_X11_315 : Cond.methodLink "LoveLocks" 315 yX7_renew ∈ zw_tbl := zw (zt_4 _ (List.mem_of_getElem? (i := 150) rfl)) rfl
theorem wi_X7_renew : Cond.instanceMethod yX7_renew ∈ zw_tbl := zw (zt_4 _ (List.mem_of_getElem? (i := 151) rfl)) rfl
theorem ws_X7_renew : Cond.selects "LoveLocks$Sheets" yX7_renew yX7_renew ∈ zw_tbl := zw (zt_4 _ (List.mem_of_getElem? (i := 152) rfl)) rfl
theorem wc_X7_renew : Cond.code yX7_renew cX7_renew 4 none ∈ zw_tbl := zw (zt_4 _ (List.mem_of_getElem? (i := 153) rfl)) rfl
theorem wl_L_160 : Cond.methodLink "LoveLocksLaw" 160 yX11_drop ∈ zw_tbl := zw (zt_4 _ (List.mem_of_getElem? (i := 154) rfl)) rfl
theorem wi_X11_drop : Cond.instanceMethod yX11_drop ∈ zw_tbl := zw (zt_4 _ (List.mem_of_getElem? (i := 155) rfl)) rfl
theorem ws_X11_drop : Cond.selects "LoveLocks" yX11_drop yX11_drop ∈ zw_tbl := zw (zt_4 _ (List.mem_of_getElem? (i := 156) rfl)) rfl
theorem wc_X11_drop : Cond.code yX11_drop cX11_drop 2 (some .int) ∈ zw_tbl := zw (zt_4 _ (List.mem_of_getElem? (i := 157) rfl)) rfl
theorem wl_X11_318 : Cond.methodLink "LoveLocks" 318 yX7_holds ∈ zw_tbl := zw (zt_4 _ (List.mem_of_getElem? (i := 158) rfl)) rfl
theorem wl_X11_321 : Cond.methodLink "LoveLocks" 321 yX7_clear ∈ zw_tbl := zw (zt_4 _ (List.mem_of_getElem? (i := 159) rfl)) rfl
theorem wi_X7_clear : Cond.instanceMethod yX7_clear ∈ zw_tbl := zw (zt_4 _ (List.mem_of_getElem? (i := 160) rfl)) rfl
theorem ws_X7_clear : Cond.selects "LoveLocks$Sheets" yX7_clear yX7_clear ∈ zw_tbl := zw (zt_4 _ (List.mem_of_getElem? (i := 161) rfl)) rfl
theorem wc_X7_clear : Cond.code yX7_clear cX7_clear 2 (some .int) ∈ zw_tbl := zw (zt_4 _ (List.mem_of_getElem? (i := 162) rfl)) rfl
theorem wl_L_164 : Cond.methodLink "LoveLocksLaw" 164 yX11_item ∈ zw_tbl := zw (zt_4 _ (List.mem_of_getElem? (i := 163) rfl)) rfl
theorem wi_X11_item : Cond.instanceMethod yX11_item ∈ zw_tbl := zw (zt_4 _ (List.mem_of_getElem? (i := 164) rfl)) rfl
theorem ws_X11_item : Cond.selects "LoveLocks" yX11_item yX11_item ∈ zw_tbl := zw (zt_4 _ (List.mem_of_getElem? (i := 165) rfl)) rfl
theorem wc_X11_item : Cond.code yX11_item cX11_item 6 (some .int) ∈ zw_tbl := zw (zt_4 _ (List.mem_of_getElem? (i := 166) rfl)) rfl
theorem wl_X11_324 : Cond.methodLink "LoveLocks" 324 yX7_put ∈ zw_tbl := zw (zt_4 _ (List.mem_of_getElem? (i := 167) rfl)) rfl
theorem wi_X7_put : Cond.instanceMethod yX7_put ∈ zw_tbl := zw (zt_4 _ (List.mem_of_getElem? (i := 168) rfl)) rfl
theorem ws_X7_put : Cond.selects "LoveLocks$Sheets" yX7_put yX7_put ∈ zw_tbl := zw (zt_4 _ (List.mem_of_getElem? (i := 169) rfl)) rfl
theorem wc_X7_put : Cond.code yX7_put cX7_put 4 none ∈ zw_tbl := zw (zt_4 _ (List.mem_of_getElem? (i := 170) rfl)) rfl
theorem wl_L_168 : Cond.methodLink "LoveLocksLaw" 168 yX11_copy ∈ zw_tbl := zw (zt_4 _ (List.mem_of_getElem? (i := 171) rfl)) rfl
theorem wi_X11_copy : Cond.instanceMethod yX11_copy ∈ zw_tbl := zw (zt_4 _ (List.mem_of_getElem? (i := 172) rfl)) rfl
theorem ws_X11_copy : Cond.selects "LoveLocks" yX11_copy yX11_copy ∈ zw_tbl := zw (zt_4 _ (List.mem_of_getElem? (i := 173) rfl)) rfl
theorem wc_X11_copy : Cond.code yX11_copy cX11_copy 8 (some .int) ∈ zw_tbl := zw (zt_4 _ (List.mem_of_getElem? (i := 174) rfl)) rfl
theorem wl_X11_325 : Cond.methodLink "LoveLocks" 325 yX7_laneOf ∈ zw_tbl := zw (zt_4 _ (List.mem_of_getElem? (i := 175) rfl)) rfl
theorem wi_X7_laneOf : Cond.instanceMethod yX7_laneOf ∈ zw_tbl := zw (zt_4 _ (List.mem_of_getElem? (i := 176) rfl)) rfl
theorem ws_X7_laneOf : Cond.selects "LoveLocks$Sheets" yX7_laneOf yX7_laneOf ∈ zw_tbl := zw (zt_4 _ (List.mem_of_getElem? (i := 177) rfl)) rfl
theorem wc_X7_laneOf : Cond.code yX7_laneOf cX7_laneOf 2 (some .int) ∈ zw_tbl := zw (zt_4 _ (List.mem_of_getElem? (i := 178) rfl)) rfl
theorem wl_X11_328 : Cond.methodLink "LoveLocks" 328 yX7_move ∈ zw_tbl := zw (zt_4 _ (List.mem_of_getElem? (i := 179) rfl)) rfl
theorem wi_X7_move : Cond.instanceMethod yX7_move ∈ zw_tbl := zw (zt_4 _ (List.mem_of_getElem? (i := 180) rfl)) rfl
theorem ws_X7_move : Cond.selects "LoveLocks$Sheets" yX7_move yX7_move ∈ zw_tbl := zw (zt_4 _ (List.mem_of_getElem? (i := 181) rfl)) rfl
theorem wc_X7_move : Cond.code yX7_move cX7_move 6 none ∈ zw_tbl := zw (zt_4 _ (List.mem_of_getElem? (i := 182) rfl)) rfl
theorem wl_X7_33 : Cond.methodLink "LoveLocks$Sheets" 33 (⟨"java/lang/System", "arraycopy", "(Ljava/lang/Object;ILjava/lang/Object;II)V"⟩ : MethodName) ∈ zw_tbl := zw (zt_4 _ (List.mem_of_getElem? (i := 183) rfl)) rfl
theorem wcl_L_10 : Cond.classLink "LoveLocksLaw" 10 "LoveLocksModel" ∈ zw_tbl := zw (zt_4 _ (List.mem_of_getElem? (i := 184) rfl)) rfl
theorem wit_X12 : Cond.instantiable "LoveLocksModel" 42 ∈ zw_tbl := zw (zt_4 _ (List.mem_of_getElem? (i := 185) rfl)) rfl
theorem wl_L_12 : Cond.methodLink "LoveLocksLaw" 12 yX12_init ∈ zw_tbl := zw (zt_4 _ (List.mem_of_getElem? (i := 186) rfl)) rfl
theorem wi_X12_init : Cond.instanceMethod yX12_init ∈ zw_tbl := zw (zt_4 _ (List.mem_of_getElem? (i := 187) rfl)) rfl
theorem wc_X12_init : Cond.code yX12_init cX12_init 2 none ∈ zw_tbl := zw (zt_4 _ (List.mem_of_getElem? (i := 188) rfl)) rfl
theorem wl_X12_1 : Cond.methodLink "LoveLocksModel" 1 (⟨"java/lang/Object", "<init>", "()V"⟩ : MethodName) ∈ zw_tbl := zw (zt_4 _ (List.mem_of_getElem? (i := 189) rfl)) rfl
theorem wf_X12_108 : Cond.fieldLink "LoveLocksModel" 108 "LoveLocksModel" "panels" "I" ∈ zw_tbl := zw (zt_4 _ (List.mem_of_getElem? (i := 190) rfl)) rfl
theorem wf_X12_7 : Cond.fieldLink "LoveLocksModel" 7 "LoveLocksModel" "limits" "[I" ∈ zw_tbl := zw (zt_4 _ (List.mem_of_getElem? (i := 191) rfl)) rfl
theorem wf_X12_115 : Cond.fieldLink "LoveLocksModel" 115 "LoveLocksModel" "locks" "I" ∈ zw_tbl := zw (zt_4 _ (List.mem_of_getElem? (i := 192) rfl)) rfl
theorem wf_X12_13 : Cond.fieldLink "LoveLocksModel" 13 "LoveLocksModel" "weightOf" "[I" ∈ zw_tbl := zw (zt_4 _ (List.mem_of_getElem? (i := 193) rfl)) rfl
theorem wf_X12_16 : Cond.fieldLink "LoveLocksModel" 16 "LoveLocksModel" "kindOf" "[I" ∈ zw_tbl := zw (zt_4 _ (List.mem_of_getElem? (i := 194) rfl)) rfl
theorem wf_X12_19 : Cond.fieldLink "LoveLocksModel" 19 "LoveLocksModel" "yearOf" "[I" ∈ zw_tbl := zw (zt_4 _ (List.mem_of_getElem? (i := 195) rfl)) rfl
theorem wf_X12_22 : Cond.fieldLink "LoveLocksModel" 22 "LoveLocksModel" "panelOf" "[I" ∈ zw_tbl := zw (zt_4 _ (List.mem_of_getElem? (i := 196) rfl)) rfl
theorem wf_X12_25 : Cond.fieldLink "LoveLocksModel" 25 "LoveLocksModel" "barOf" "[I" ∈ zw_tbl := zw (zt_4 _ (List.mem_of_getElem? (i := 197) rfl)) rfl
theorem wf_X12_28 : Cond.fieldLink "LoveLocksModel" 28 "LoveLocksModel" "onto" "[I" ∈ zw_tbl := zw (zt_4 _ (List.mem_of_getElem? (i := 198) rfl)) rfl
theorem wf_X12_31 : Cond.fieldLink "LoveLocksModel" 31 "LoveLocksModel" "isGone" "[I" ∈ zw_tbl := zw (zt_4 _ (List.mem_of_getElem? (i := 199) rfl)) rfl
theorem wf_X12_172 : Cond.fieldLink "LoveLocksModel" 172 "LoveLocksModel" "sights" "I" ∈ zw_tbl := zw (zt_4 _ (List.mem_of_getElem? (i := 200) rfl)) rfl
theorem wf_X12_34 : Cond.fieldLink "LoveLocksModel" 34 "LoveLocksModel" "sightParts" "[I" ∈ zw_tbl := zw (zt_4 _ (List.mem_of_getElem? (i := 201) rfl)) rfl
theorem wf_X12_37 : Cond.fieldLink "LoveLocksModel" 37 "LoveLocksModel" "tape" "[I" ∈ zw_tbl := zw (zt_4 _ (List.mem_of_getElem? (i := 202) rfl)) rfl
theorem wf_X12_196 : Cond.fieldLink "LoveLocksModel" 196 "LoveLocksModel" "taped" "I" ∈ zw_tbl := zw (zt_4 _ (List.mem_of_getElem? (i := 203) rfl)) rfl
theorem wf_X12_199 : Cond.fieldLink "LoveLocksModel" 199 "LoveLocksModel" "at" "I" ∈ zw_tbl := zw (zt_4 _ (List.mem_of_getElem? (i := 204) rfl)) rfl
theorem wf_X12_202 : Cond.fieldLink "LoveLocksModel" 202 "LoveLocksModel" "wrong" "Z" ∈ zw_tbl := zw (zt_4 _ (List.mem_of_getElem? (i := 205) rfl)) rfl
theorem wf_X12_175 : Cond.fieldLink "LoveLocksModel" 175 "LoveLocksModel" "people" "I" ∈ zw_tbl := zw (zt_4 _ (List.mem_of_getElem? (i := 206) rfl)) rfl
theorem wf_X12_40 : Cond.fieldLink "LoveLocksModel" 40 "LoveLocksModel" "names" "[I" ∈ zw_tbl := zw (zt_4 _ (List.mem_of_getElem? (i := 207) rfl)) rfl
theorem wf_X12_43 : Cond.fieldLink "LoveLocksModel" 43 "LoveLocksModel" "nameMany" "[I" ∈ zw_tbl := zw (zt_4 _ (List.mem_of_getElem? (i := 208) rfl)) rfl
theorem wf_X12_46 : Cond.fieldLink "LoveLocksModel" 46 "LoveLocksModel" "worn" "[I" ∈ zw_tbl := zw (zt_4 _ (List.mem_of_getElem? (i := 209) rfl)) rfl
theorem wf_X12_49 : Cond.fieldLink "LoveLocksModel" 49 "LoveLocksModel" "firstMany" "[I" ∈ zw_tbl := zw (zt_4 _ (List.mem_of_getElem? (i := 210) rfl)) rfl
theorem wf_X12_52 : Cond.fieldLink "LoveLocksModel" 52 "LoveLocksModel" "secondMany" "[I" ∈ zw_tbl := zw (zt_4 _ (List.mem_of_getElem? (i := 211) rfl)) rfl
theorem wf_X12_55 : Cond.fieldLink "LoveLocksModel" 55 "LoveLocksModel" "read" "[I" ∈ zw_tbl := zw (zt_4 _ (List.mem_of_getElem? (i := 212) rfl)) rfl
theorem wf_X12_58 : Cond.fieldLink "LoveLocksModel" 58 "LoveLocksModel" "used" "[J" ∈ zw_tbl := zw (zt_4 _ (List.mem_of_getElem? (i := 213) rfl)) rfl
theorem wf_X12_62 : Cond.fieldLink "LoveLocksModel" 62 "LoveLocksModel" "then" "[J" ∈ zw_tbl := zw (zt_4 _ (List.mem_of_getElem? (i := 214) rfl)) rfl
theorem wf_X12_65 : Cond.fieldLink "LoveLocksModel" 65 "LoveLocksModel" "nightly" "I" ∈ zw_tbl := zw (zt_4 _ (List.mem_of_getElem? (i := 215) rfl)) rfl
theorem wf_X12_69 : Cond.fieldLink "LoveLocksModel" 69 "LoveLocksModel" "risks" "[I" ∈ zw_tbl := zw (zt_4 _ (List.mem_of_getElem? (i := 216) rfl)) rfl
theorem wf_X12_72 : Cond.fieldLink "LoveLocksModel" 72 "LoveLocksModel" "grows" "[I" ∈ zw_tbl := zw (zt_4 _ (List.mem_of_getElem? (i := 217) rfl)) rfl
theorem wf_X12_75 : Cond.fieldLink "LoveLocksModel" 75 "LoveLocksModel" "keptTill" "[I" ∈ zw_tbl := zw (zt_4 _ (List.mem_of_getElem? (i := 218) rfl)) rfl
theorem wf_X12_78 : Cond.fieldLink "LoveLocksModel" 78 "LoveLocksModel" "least" "[I" ∈ zw_tbl := zw (zt_4 _ (List.mem_of_getElem? (i := 219) rfl)) rfl
theorem wf_X12_81 : Cond.fieldLink "LoveLocksModel" 81 "LoveLocksModel" "leastOf" "[I" ∈ zw_tbl := zw (zt_4 _ (List.mem_of_getElem? (i := 220) rfl)) rfl
theorem wf_X12_84 : Cond.fieldLink "LoveLocksModel" 84 "LoveLocksModel" "mostOf" "[I" ∈ zw_tbl := zw (zt_4 _ (List.mem_of_getElem? (i := 221) rfl)) rfl
theorem wf_X12_284 : Cond.fieldLink "LoveLocksModel" 284 "LoveLocksModel" "low" "I" ∈ zw_tbl := zw (zt_4 _ (List.mem_of_getElem? (i := 222) rfl)) rfl
theorem wf_X12_287 : Cond.fieldLink "LoveLocksModel" 287 "LoveLocksModel" "high" "I" ∈ zw_tbl := zw (zt_4 _ (List.mem_of_getElem? (i := 223) rfl)) rfl
theorem wf_X12_87 : Cond.fieldLink "LoveLocksModel" 87 "LoveLocksModel" "needs" "[I" ∈ zw_tbl := zw (zt_4 _ (List.mem_of_getElem? (i := 224) rfl)) rfl
theorem wf_X12_90 : Cond.fieldLink "LoveLocksModel" 90 "LoveLocksModel" "said" "[I" ∈ zw_tbl := zw (zt_4 _ (List.mem_of_getElem? (i := 225) rfl)) rfl
theorem wf_X12_93 : Cond.fieldLink "LoveLocksModel" 93 "LoveLocksModel" "image" "[I" ∈ zw_tbl := zw (zt_4 _ (List.mem_of_getElem? (i := 226) rfl)) rfl
theorem wf_X12_309 : Cond.fieldLink "LoveLocksModel" 309 "LoveLocksModel" "kept" "Z" ∈ zw_tbl := zw (zt_4 _ (List.mem_of_getElem? (i := 227) rfl)) rfl
theorem wf_X12_96 : Cond.fieldLink "LoveLocksModel" 96 "LoveLocksModel" "lanes" "[I" ∈ zw_tbl := zw (zt_4 _ (List.mem_of_getElem? (i := 228) rfl)) rfl
theorem wf_X12_99 : Cond.fieldLink "LoveLocksModel" 99 "LoveLocksModel" "sizes" "[I" ∈ zw_tbl := zw (zt_4 _ (List.mem_of_getElem? (i := 229) rfl)) rfl
theorem wf_X12_102 : Cond.fieldLink "LoveLocksModel" 102 "LoveLocksModel" "items" "[I" ∈ zw_tbl := zw (zt_4 _ (List.mem_of_getElem? (i := 230) rfl)) rfl
theorem wf_X12_105 : Cond.fieldLink "LoveLocksModel" 105 "LoveLocksModel" "moved" "[I" ∈ zw_tbl := zw (zt_4 _ (List.mem_of_getElem? (i := 231) rfl)) rfl
theorem wy_X12_panels : Cond.lays "LoveLocksModel" "LoveLocksModel" "panels" "I" ∈ zw_tbl := zw (zt_4 _ (List.mem_of_getElem? (i := 232) rfl)) rfl
theorem wy_X12_limits : Cond.laysFinal "LoveLocksModel" "LoveLocksModel" "limits" "[I" ∈ zw_tbl := zw (zt_4 _ (List.mem_of_getElem? (i := 234) rfl)) rfl
theorem wy_X12_locks : Cond.lays "LoveLocksModel" "LoveLocksModel" "locks" "I" ∈ zw_tbl := zw (zt_4 _ (List.mem_of_getElem? (i := 236) rfl)) rfl
theorem wy_X12_weightOf : Cond.laysFinal "LoveLocksModel" "LoveLocksModel" "weightOf" "[I" ∈ zw_tbl := zw (zt_4 _ (List.mem_of_getElem? (i := 238) rfl)) rfl
theorem wy_X12_kindOf : Cond.laysFinal "LoveLocksModel" "LoveLocksModel" "kindOf" "[I" ∈ zw_tbl := zw (zt_5 _ (List.mem_of_getElem? (i := 0) rfl)) rfl
theorem wy_X12_yearOf : Cond.laysFinal "LoveLocksModel" "LoveLocksModel" "yearOf" "[I" ∈ zw_tbl := zw (zt_5 _ (List.mem_of_getElem? (i := 2) rfl)) rfl
theorem wy_X12_panelOf : Cond.laysFinal "LoveLocksModel" "LoveLocksModel" "panelOf" "[I" ∈ zw_tbl := zw (zt_5 _ (List.mem_of_getElem? (i := 4) rfl)) rfl
theorem wy_X12_barOf : Cond.laysFinal "LoveLocksModel" "LoveLocksModel" "barOf" "[I" ∈ zw_tbl := zw (zt_5 _ (List.mem_of_getElem? (i := 6) rfl)) rfl
theorem wy_X12_onto : Cond.laysFinal "LoveLocksModel" "LoveLocksModel" "onto" "[I" ∈ zw_tbl := zw (zt_5 _ (List.mem_of_getElem? (i := 8) rfl)) rfl
theorem wy_X12_isGone : Cond.laysFinal "LoveLocksModel" "LoveLocksModel" "isGone" "[I" ∈ zw_tbl := zw (zt_5 _ (List.mem_of_getElem? (i := 10) rfl)) rfl
theorem wy_X12_sights : Cond.lays "LoveLocksModel" "LoveLocksModel" "sights" "I" ∈ zw_tbl := zw (zt_5 _ (List.mem_of_getElem? (i := 12) rfl)) rfl
theorem wy_X12_sightParts : Cond.laysFinal "LoveLocksModel" "LoveLocksModel" "sightParts" "[I" ∈ zw_tbl := zw (zt_5 _ (List.mem_of_getElem? (i := 14) rfl)) rfl
theorem wy_X12_tape : Cond.laysFinal "LoveLocksModel" "LoveLocksModel" "tape" "[I" ∈ zw_tbl := zw (zt_5 _ (List.mem_of_getElem? (i := 16) rfl)) rfl
theorem wy_X12_taped : Cond.lays "LoveLocksModel" "LoveLocksModel" "taped" "I" ∈ zw_tbl := zw (zt_5 _ (List.mem_of_getElem? (i := 18) rfl)) rfl
theorem wy_X12_at : Cond.lays "LoveLocksModel" "LoveLocksModel" "at" "I" ∈ zw_tbl := zw (zt_5 _ (List.mem_of_getElem? (i := 20) rfl)) rfl
theorem wy_X12_wrong : Cond.lays "LoveLocksModel" "LoveLocksModel" "wrong" "Z" ∈ zw_tbl := zw (zt_5 _ (List.mem_of_getElem? (i := 22) rfl)) rfl
theorem wy_X12_people : Cond.lays "LoveLocksModel" "LoveLocksModel" "people" "I" ∈ zw_tbl := zw (zt_5 _ (List.mem_of_getElem? (i := 24) rfl)) rfl
theorem wy_X12_names : Cond.laysFinal "LoveLocksModel" "LoveLocksModel" "names" "[I" ∈ zw_tbl := zw (zt_5 _ (List.mem_of_getElem? (i := 26) rfl)) rfl
theorem wy_X12_nameMany : Cond.laysFinal "LoveLocksModel" "LoveLocksModel" "nameMany" "[I" ∈ zw_tbl := zw (zt_5 _ (List.mem_of_getElem? (i := 28) rfl)) rfl
theorem wy_X12_worn : Cond.laysFinal "LoveLocksModel" "LoveLocksModel" "worn" "[I" ∈ zw_tbl := zw (zt_5 _ (List.mem_of_getElem? (i := 30) rfl)) rfl
theorem wy_X12_firstMany : Cond.laysFinal "LoveLocksModel" "LoveLocksModel" "firstMany" "[I" ∈ zw_tbl := zw (zt_5 _ (List.mem_of_getElem? (i := 32) rfl)) rfl
theorem wy_X12_secondMany : Cond.laysFinal "LoveLocksModel" "LoveLocksModel" "secondMany" "[I" ∈ zw_tbl := zw (zt_5 _ (List.mem_of_getElem? (i := 34) rfl)) rfl
theorem wy_X12_read : Cond.laysFinal "LoveLocksModel" "LoveLocksModel" "read" "[I" ∈ zw_tbl := zw (zt_5 _ (List.mem_of_getElem? (i := 36) rfl)) rfl
theorem wy_X12_used : Cond.laysFinal "LoveLocksModel" "LoveLocksModel" "used" "[J" ∈ zw_tbl := zw (zt_5 _ (List.mem_of_getElem? (i := 38) rfl)) rfl
theorem wy_X12_then : Cond.laysFinal "LoveLocksModel" "LoveLocksModel" "then" "[J" ∈ zw_tbl := zw (zt_5 _ (List.mem_of_getElem? (i := 40) rfl)) rfl
theorem wy_X12_nightly : Cond.lays "LoveLocksModel" "LoveLocksModel" "nightly" "I" ∈ zw_tbl := zw (zt_5 _ (List.mem_of_getElem? (i := 42) rfl)) rfl
theorem wy_X12_risks : Cond.laysFinal "LoveLocksModel" "LoveLocksModel" "risks" "[I" ∈ zw_tbl := zw (zt_5 _ (List.mem_of_getElem? (i := 44) rfl)) rfl
theorem wy_X12_grows : Cond.laysFinal "LoveLocksModel" "LoveLocksModel" "grows" "[I" ∈ zw_tbl := zw (zt_5 _ (List.mem_of_getElem? (i := 46) rfl)) rfl
theorem wy_X12_keptTill : Cond.laysFinal "LoveLocksModel" "LoveLocksModel" "keptTill" "[I" ∈ zw_tbl := zw (zt_5 _ (List.mem_of_getElem? (i := 48) rfl)) rfl
theorem wy_X12_least : Cond.laysFinal "LoveLocksModel" "LoveLocksModel" "least" "[I" ∈ zw_tbl := zw (zt_5 _ (List.mem_of_getElem? (i := 50) rfl)) rfl
theorem wy_X12_leastOf : Cond.laysFinal "LoveLocksModel" "LoveLocksModel" "leastOf" "[I" ∈ zw_tbl := zw (zt_5 _ (List.mem_of_getElem? (i := 52) rfl)) rfl
theorem wy_X12_mostOf : Cond.laysFinal "LoveLocksModel" "LoveLocksModel" "mostOf" "[I" ∈ zw_tbl := zw (zt_5 _ (List.mem_of_getElem? (i := 54) rfl)) rfl
theorem wy_X12_low : Cond.lays "LoveLocksModel" "LoveLocksModel" "low" "I" ∈ zw_tbl := zw (zt_5 _ (List.mem_of_getElem? (i := 56) rfl)) rfl
theorem wy_X12_high : Cond.lays "LoveLocksModel" "LoveLocksModel" "high" "I" ∈ zw_tbl := zw (zt_5 _ (List.mem_of_getElem? (i := 58) rfl)) rfl
theorem wy_X12_needs : Cond.laysFinal "LoveLocksModel" "LoveLocksModel" "needs" "[I" ∈ zw_tbl := zw (zt_5 _ (List.mem_of_getElem? (i := 60) rfl)) rfl
theorem wy_X12_said : Cond.laysFinal "LoveLocksModel" "LoveLocksModel" "said" "[I" ∈ zw_tbl := zw (zt_5 _ (List.mem_of_getElem? (i := 62) rfl)) rfl
theorem wy_X12_image : Cond.laysFinal "LoveLocksModel" "LoveLocksModel" "image" "[I" ∈ zw_tbl := zw (zt_5 _ (List.mem_of_getElem? (i := 64) rfl)) rfl
theorem wy_X12_kept : Cond.lays "LoveLocksModel" "LoveLocksModel" "kept" "Z" ∈ zw_tbl := zw (zt_5 _ (List.mem_of_getElem? (i := 66) rfl)) rfl
theorem wy_X12_lanes : Cond.laysFinal "LoveLocksModel" "LoveLocksModel" "lanes" "[I" ∈ zw_tbl := zw (zt_5 _ (List.mem_of_getElem? (i := 68) rfl)) rfl
theorem wy_X12_sizes : Cond.laysFinal "LoveLocksModel" "LoveLocksModel" "sizes" "[I" ∈ zw_tbl := zw (zt_5 _ (List.mem_of_getElem? (i := 70) rfl)) rfl
theorem wy_X12_items : Cond.laysFinal "LoveLocksModel" "LoveLocksModel" "items" "[I" ∈ zw_tbl := zw (zt_5 _ (List.mem_of_getElem? (i := 72) rfl)) rfl
theorem wy_X12_moved : Cond.laysFinal "LoveLocksModel" "LoveLocksModel" "moved" "[I" ∈ zw_tbl := zw (zt_5 _ (List.mem_of_getElem? (i := 74) rfl)) rfl
theorem wl_L_17 : Cond.methodLink "LoveLocksLaw" 17 yX12_panel ∈ zw_tbl := zw (zt_5 _ (List.mem_of_getElem? (i := 77) rfl)) rfl
theorem wi_X12_panel : Cond.instanceMethod yX12_panel ∈ zw_tbl := zw (zt_5 _ (List.mem_of_getElem? (i := 78) rfl)) rfl
theorem ws_X12_panel : Cond.selects "LoveLocksModel" yX12_panel yX12_panel ∈ zw_tbl := zw (zt_5 _ (List.mem_of_getElem? (i := 79) rfl)) rfl
theorem wc_X12_panel : Cond.code yX12_panel cX12_panel 4 (some .int) ∈ zw_tbl := zw (zt_5 _ (List.mem_of_getElem? (i := 80) rfl)) rfl
theorem wk_X12_118 : Cond.constantLong "LoveLocksModel" 118 (99999) ∈ zw_tbl := zw (zt_5 _ (List.mem_of_getElem? (i := 81) rfl)) rfl
theorem wl_X12_111 : Cond.methodLink "LoveLocksModel" 111 yX12_in ∈ zw_tbl := zw (zt_5 _ (List.mem_of_getElem? (i := 82) rfl)) rfl
theorem wst_X12_in : Cond.static yX12_in ∈ zw_tbl := zw (zt_5 _ (List.mem_of_getElem? (i := 83) rfl)) rfl
theorem wc_X12_in : Cond.code yX12_in cX12_in 6 (some .boolean) ∈ zw_tbl := zw (zt_5 _ (List.mem_of_getElem? (i := 84) rfl)) rfl
theorem wl_L_22 : Cond.methodLink "LoveLocksLaw" 22 yX12_hang ∈ zw_tbl := zw (zt_5 _ (List.mem_of_getElem? (i := 85) rfl)) rfl
theorem wi_X12_hang : Cond.instanceMethod yX12_hang ∈ zw_tbl := zw (zt_5 _ (List.mem_of_getElem? (i := 86) rfl)) rfl
theorem ws_X12_hang : Cond.selects "LoveLocksModel" yX12_hang yX12_hang ∈ zw_tbl := zw (zt_5 _ (List.mem_of_getElem? (i := 87) rfl)) rfl
theorem wc_X12_hang : Cond.code yX12_hang cX12_hang 6 (some .int) ∈ zw_tbl := zw (zt_5 _ (List.mem_of_getElem? (i := 88) rfl)) rfl
theorem wl_X12_124 : Cond.methodLink "LoveLocksModel" 124 yX12_isPanel ∈ zw_tbl := zw (zt_5 _ (List.mem_of_getElem? (i := 89) rfl)) rfl
theorem wi_X12_isPanel : Cond.instanceMethod yX12_isPanel ∈ zw_tbl := zw (zt_5 _ (List.mem_of_getElem? (i := 91) rfl)) rfl
theorem wc_X12_isPanel : Cond.code yX12_isPanel cX12_isPanel 2 (some .boolean) ∈ zw_tbl := zw (zt_5 _ (List.mem_of_getElem? (i := 92) rfl)) rfl
theorem wk_X12_128 : Cond.constantLong "LoveLocksModel" 128 (2) ∈ zw_tbl := zw (zt_5 _ (List.mem_of_getElem? (i := 93) rfl)) rfl
theorem wl_X12_130 : Cond.methodLink "LoveLocksModel" 130 yX12_isTold ∈ zw_tbl := zw (zt_5 _ (List.mem_of_getElem? (i := 94) rfl)) rfl
theorem wst_X12_isTold : Cond.static yX12_isTold ∈ zw_tbl := zw (zt_5 _ (List.mem_of_getElem? (i := 95) rfl)) rfl
theorem wc_X12_isTold : Cond.code yX12_isTold cX12_isTold 3 (some .boolean) ∈ zw_tbl := zw (zt_5 _ (List.mem_of_getElem? (i := 96) rfl)) rfl
theorem wk_X12_120 : Cond.constantLong "LoveLocksModel" 120 (999) ∈ zw_tbl := zw (zt_5 _ (List.mem_of_getElem? (i := 97) rfl)) rfl
theorem wk_X12_122 : Cond.constantLong "LoveLocksModel" 122 (19) ∈ zw_tbl := zw (zt_5 _ (List.mem_of_getElem? (i := 98) rfl)) rfl
theorem wl_X12_134 : Cond.methodLink "LoveLocksModel" 134 yX12_comes ∈ zw_tbl := zw (zt_5 _ (List.mem_of_getElem? (i := 99) rfl)) rfl
theorem wi_X12_comes : Cond.instanceMethod yX12_comes ∈ zw_tbl := zw (zt_5 _ (List.mem_of_getElem? (i := 101) rfl)) rfl
theorem wc_X12_comes : Cond.code yX12_comes cX12_comes 7 (some .int) ∈ zw_tbl := zw (zt_5 _ (List.mem_of_getElem? (i := 102) rfl)) rfl
theorem wl_L_27 : Cond.methodLink "LoveLocksLaw" 27 yX12_hangOn ∈ zw_tbl := zw (zt_5 _ (List.mem_of_getElem? (i := 103) rfl)) rfl
theorem wi_X12_hangOn : Cond.instanceMethod yX12_hangOn ∈ zw_tbl := zw (zt_5 _ (List.mem_of_getElem? (i := 104) rfl)) rfl
theorem ws_X12_hangOn : Cond.selects "LoveLocksModel" yX12_hangOn yX12_hangOn ∈ zw_tbl := zw (zt_5 _ (List.mem_of_getElem? (i := 105) rfl)) rfl
theorem wc_X12_hangOn : Cond.code yX12_hangOn cX12_hangOn 5 (some .int) ∈ zw_tbl := zw (zt_5 _ (List.mem_of_getElem? (i := 106) rfl)) rfl
theorem wl_X12_138 : Cond.methodLink "LoveLocksModel" 138 yX12_isLock ∈ zw_tbl := zw (zt_5 _ (List.mem_of_getElem? (i := 107) rfl)) rfl
theorem wi_X12_isLock : Cond.instanceMethod yX12_isLock ∈ zw_tbl := zw (zt_5 _ (List.mem_of_getElem? (i := 109) rfl)) rfl
theorem wc_X12_isLock : Cond.code yX12_isLock cX12_isLock 2 (some .boolean) ∈ zw_tbl := zw (zt_5 _ (List.mem_of_getElem? (i := 110) rfl)) rfl
theorem wl_L_32 : Cond.methodLink "LoveLocksLaw" 32 yX12_told ∈ zw_tbl := zw (zt_5 _ (List.mem_of_getElem? (i := 111) rfl)) rfl
theorem wi_X12_told : Cond.instanceMethod yX12_told ∈ zw_tbl := zw (zt_5 _ (List.mem_of_getElem? (i := 112) rfl)) rfl
theorem ws_X12_told : Cond.selects "LoveLocksModel" yX12_told yX12_told ∈ zw_tbl := zw (zt_5 _ (List.mem_of_getElem? (i := 113) rfl)) rfl
theorem wc_X12_told : Cond.code yX12_told cX12_told 3 (some .int) ∈ zw_tbl := zw (zt_5 _ (List.mem_of_getElem? (i := 114) rfl)) rfl
theorem wk_X12_148 : Cond.constantLong "LoveLocksModel" 148 (7) ∈ zw_tbl := zw (zt_5 _ (List.mem_of_getElem? (i := 115) rfl)) rfl
theorem wl_X12_150 : Cond.methodLink "LoveLocksModel" 150 yX12_bears ∈ zw_tbl := zw (zt_5 _ (List.mem_of_getElem? (i := 116) rfl)) rfl
theorem wi_X12_bears : Cond.instanceMethod yX12_bears ∈ zw_tbl := zw (zt_5 _ (List.mem_of_getElem? (i := 118) rfl)) rfl
theorem wc_X12_bears : Cond.code yX12_bears cX12_bears 2 (some .int) ∈ zw_tbl := zw (zt_5 _ (List.mem_of_getElem? (i := 119) rfl)) rfl
theorem wl_X12_141 : Cond.methodLink "LoveLocksModel" 141 yX12_under ∈ zw_tbl := zw (zt_5 _ (List.mem_of_getElem? (i := 120) rfl)) rfl
theorem wi_X12_under : Cond.instanceMethod yX12_under ∈ zw_tbl := zw (zt_5 _ (List.mem_of_getElem? (i := 122) rfl)) rfl
theorem wc_X12_under : Cond.code yX12_under cX12_under 5 (some .int) ∈ zw_tbl := zw (zt_5 _ (List.mem_of_getElem? (i := 123) rfl)) rfl
theorem wl_X12_145 : Cond.methodLink "LoveLocksModel" 145 yX12_weigh ∈ zw_tbl := zw (zt_5 _ (List.mem_of_getElem? (i := 124) rfl)) rfl
theorem wi_X12_weigh : Cond.instanceMethod yX12_weigh ∈ zw_tbl := zw (zt_5 _ (List.mem_of_getElem? (i := 126) rfl)) rfl
theorem wc_X12_weigh : Cond.code yX12_weigh cX12_weigh 4 (some .int) ∈ zw_tbl := zw (zt_5 _ (List.mem_of_getElem? (i := 127) rfl)) rfl
theorem wl_L_36 : Cond.methodLink "LoveLocksLaw" 36 yX12_load ∈ zw_tbl := zw (zt_5 _ (List.mem_of_getElem? (i := 128) rfl)) rfl
theorem wi_X12_load : Cond.instanceMethod yX12_load ∈ zw_tbl := zw (zt_5 _ (List.mem_of_getElem? (i := 129) rfl)) rfl
theorem ws_X12_load : Cond.selects "LoveLocksModel" yX12_load yX12_load ∈ zw_tbl := zw (zt_5 _ (List.mem_of_getElem? (i := 130) rfl)) rfl
theorem wc_X12_load : Cond.code yX12_load cX12_load 3 (some .int) ∈ zw_tbl := zw (zt_5 _ (List.mem_of_getElem? (i := 131) rfl)) rfl
theorem wk_X12_157 : Cond.constantLong "LoveLocksModel" 157 (4) ∈ zw_tbl := zw (zt_5 _ (List.mem_of_getElem? (i := 132) rfl)) rfl
theorem wl_X12_159 : Cond.methodLink "LoveLocksModel" 159 yX12_loadOf ∈ zw_tbl := zw (zt_5 _ (List.mem_of_getElem? (i := 133) rfl)) rfl
theorem wi_X12_loadOf : Cond.instanceMethod yX12_loadOf ∈ zw_tbl := zw (zt_5 _ (List.mem_of_getElem? (i := 135) rfl)) rfl
theorem wc_X12_loadOf : Cond.code yX12_loadOf cX12_loadOf 3 (some .int) ∈ zw_tbl := zw (zt_5 _ (List.mem_of_getElem? (i := 136) rfl)) rfl
theorem wl_X12_153 : Cond.methodLink "LoveLocksModel" 153 yX12_hung ∈ zw_tbl := zw (zt_5 _ (List.mem_of_getElem? (i := 137) rfl)) rfl
theorem wi_X12_hung : Cond.instanceMethod yX12_hung ∈ zw_tbl := zw (zt_5 _ (List.mem_of_getElem? (i := 139) rfl)) rfl
theorem wc_X12_hung : Cond.code yX12_hung cX12_hung 5 (some .int) ∈ zw_tbl := zw (zt_5 _ (List.mem_of_getElem? (i := 140) rfl)) rfl
theorem wl_L_40 : Cond.methodLink "LoveLocksLaw" 40 yX12_on ∈ zw_tbl := zw (zt_5 _ (List.mem_of_getElem? (i := 141) rfl)) rfl
theorem wi_X12_on : Cond.instanceMethod yX12_on ∈ zw_tbl := zw (zt_5 _ (List.mem_of_getElem? (i := 142) rfl)) rfl
theorem ws_X12_on : Cond.selects "LoveLocksModel" yX12_on yX12_on ∈ zw_tbl := zw (zt_5 _ (List.mem_of_getElem? (i := 143) rfl)) rfl
theorem wc_X12_on : Cond.code yX12_on cX12_on 3 (some .int) ∈ zw_tbl := zw (zt_5 _ (List.mem_of_getElem? (i := 144) rfl)) rfl
theorem wl_L_45 : Cond.methodLink "LoveLocksLaw" 45 yX12_cut ∈ zw_tbl := zw (zt_5 _ (List.mem_of_getElem? (i := 145) rfl)) rfl
theorem wi_X12_cut : Cond.instanceMethod yX12_cut ∈ zw_tbl := zw (zt_5 _ (List.mem_of_getElem? (i := 146) rfl)) rfl
theorem ws_X12_cut : Cond.selects "LoveLocksModel" yX12_cut yX12_cut ∈ zw_tbl := zw (zt_5 _ (List.mem_of_getElem? (i := 147) rfl)) rfl
theorem wc_X12_cut : Cond.code yX12_cut cX12_cut 2 (some .int) ∈ zw_tbl := zw (zt_5 _ (List.mem_of_getElem? (i := 148) rfl)) rfl
theorem wl_X12_165 : Cond.methodLink "LoveLocksModel" 165 yX12_falls ∈ zw_tbl := zw (zt_5 _ (List.mem_of_getElem? (i := 149) rfl)) rfl
theorem wi_X12_falls : Cond.instanceMethod yX12_falls ∈ zw_tbl := zw (zt_5 _ (List.mem_of_getElem? (i := 151) rfl)) rfl
theorem wc_X12_falls : Cond.code yX12_falls cX12_falls 3 (some .int) ∈ zw_tbl := zw (zt_5 _ (List.mem_of_getElem? (i := 152) rfl)) rfl
theorem wl_X12_162 : Cond.methodLink "LoveLocksModel" 162 yX12_size ∈ zw_tbl := zw (zt_5 _ (List.mem_of_getElem? (i := 153) rfl)) rfl
theorem wst_X12_size : Cond.static yX12_size ∈ zw_tbl := zw (zt_5 _ (List.mem_of_getElem? (i := 154) rfl)) rfl
theorem wc_X12_size : Cond.code yX12_size cX12_size 3 (some .int) ∈ zw_tbl := zw (zt_5 _ (List.mem_of_getElem? (i := 155) rfl)) rfl
theorem wl_L_50 : Cond.methodLink "LoveLocksLaw" 50 yX12_over ∈ zw_tbl := zw (zt_5 _ (List.mem_of_getElem? (i := 156) rfl)) rfl
theorem wi_X12_over : Cond.instanceMethod yX12_over ∈ zw_tbl := zw (zt_5 _ (List.mem_of_getElem? (i := 157) rfl)) rfl
theorem ws_X12_over : Cond.selects "LoveLocksModel" yX12_over yX12_over ∈ zw_tbl := zw (zt_5 _ (List.mem_of_getElem? (i := 158) rfl)) rfl
theorem wc_X12_over : Cond.code yX12_over cX12_over 3 (some .int) ∈ zw_tbl := zw (zt_5 _ (List.mem_of_getElem? (i := 159) rfl)) rfl
theorem wl_L_54 : Cond.methodLink "LoveLocksLaw" 54 yX12_giveWay ∈ zw_tbl := zw (zt_5 _ (List.mem_of_getElem? (i := 160) rfl)) rfl
theorem wi_X12_giveWay : Cond.instanceMethod yX12_giveWay ∈ zw_tbl := zw (zt_5 _ (List.mem_of_getElem? (i := 161) rfl)) rfl
theorem ws_X12_giveWay : Cond.selects "LoveLocksModel" yX12_giveWay yX12_giveWay ∈ zw_tbl := zw (zt_5 _ (List.mem_of_getElem? (i := 162) rfl)) rfl
theorem wc_X12_giveWay : Cond.code yX12_giveWay cX12_giveWay 3 (some .int) ∈ zw_tbl := zw (zt_5 _ (List.mem_of_getElem? (i := 163) rfl)) rfl
theorem wl_X12_168 : Cond.methodLink "LoveLocksModel" 168 yX12_over ∈ zw_tbl := zw (zt_5 _ (List.mem_of_getElem? (i := 164) rfl)) rfl
theorem wl_L_58 : Cond.methodLink "LoveLocksLaw" 58 yX12_count ∈ zw_tbl := zw (zt_5 _ (List.mem_of_getElem? (i := 165) rfl)) rfl
theorem wi_X12_count : Cond.instanceMethod yX12_count ∈ zw_tbl := zw (zt_5 _ (List.mem_of_getElem? (i := 166) rfl)) rfl
theorem ws_X12_count : Cond.selects "LoveLocksModel" yX12_count yX12_count ∈ zw_tbl := zw (zt_5 _ (List.mem_of_getElem? (i := 167) rfl)) rfl
theorem wc_X12_count : Cond.code yX12_count cX12_count 4 (some .int) ∈ zw_tbl := zw (zt_5 _ (List.mem_of_getElem? (i := 168) rfl)) rfl
theorem wl_L_62 : Cond.methodLink "LoveLocksLaw" 62 yX12_photo ∈ zw_tbl := zw (zt_5 _ (List.mem_of_getElem? (i := 169) rfl)) rfl
theorem wi_X12_photo : Cond.instanceMethod yX12_photo ∈ zw_tbl := zw (zt_5 _ (List.mem_of_getElem? (i := 170) rfl)) rfl
theorem ws_X12_photo : Cond.selects "LoveLocksModel" yX12_photo yX12_photo ∈ zw_tbl := zw (zt_5 _ (List.mem_of_getElem? (i := 171) rfl)) rfl
theorem wc_X12_photo : Cond.code yX12_photo cX12_photo 4 (some .int) ∈ zw_tbl := zw (zt_5 _ (List.mem_of_getElem? (i := 172) rfl)) rfl
theorem wl_X12_178 : Cond.methodLink "LoveLocksModel" 178 yX12_sees ∈ zw_tbl := zw (zt_5 _ (List.mem_of_getElem? (i := 173) rfl)) rfl
theorem wi_X12_sees : Cond.instanceMethod yX12_sees ∈ zw_tbl := zw (zt_5 _ (List.mem_of_getElem? (i := 175) rfl)) rfl
theorem wc_X12_sees : Cond.code yX12_sees cX12_sees 4 (some .int) ∈ zw_tbl := zw (zt_5 _ (List.mem_of_getElem? (i := 176) rfl)) rfl
theorem wl_L_66 : Cond.methodLink "LoveLocksLaw" 66 yX12_truck ∈ zw_tbl := zw (zt_5 _ (List.mem_of_getElem? (i := 177) rfl)) rfl
theorem wi_X12_truck : Cond.instanceMethod yX12_truck ∈ zw_tbl := zw (zt_5 _ (List.mem_of_getElem? (i := 178) rfl)) rfl
theorem ws_X12_truck : Cond.selects "LoveLocksModel" yX12_truck yX12_truck ∈ zw_tbl := zw (zt_5 _ (List.mem_of_getElem? (i := 179) rfl)) rfl
theorem wc_X12_truck : Cond.code yX12_truck cX12_truck 7 (some .int) ∈ zw_tbl := zw (zt_5 _ (List.mem_of_getElem? (i := 180) rfl)) rfl
theorem wk_X12_182 : Cond.constantLong "LoveLocksModel" 182 (9999) ∈ zw_tbl := zw (zt_5 _ (List.mem_of_getElem? (i := 181) rfl)) rfl
theorem wl_L_70 : Cond.methodLink "LoveLocksLaw" 70 yX12_span ∈ zw_tbl := zw (zt_5 _ (List.mem_of_getElem? (i := 182) rfl)) rfl
theorem wi_X12_span : Cond.instanceMethod yX12_span ∈ zw_tbl := zw (zt_5 _ (List.mem_of_getElem? (i := 183) rfl)) rfl
theorem ws_X12_span : Cond.selects "LoveLocksModel" yX12_span yX12_span ∈ zw_tbl := zw (zt_5 _ (List.mem_of_getElem? (i := 184) rfl)) rfl
theorem wc_X12_span : Cond.code yX12_span cX12_span 3 (some .int) ∈ zw_tbl := zw (zt_5 _ (List.mem_of_getElem? (i := 185) rfl)) rfl
theorem wl_X12_185 : Cond.methodLink "LoveLocksModel" 185 yX12_spanOf ∈ zw_tbl := zw (zt_5 _ (List.mem_of_getElem? (i := 186) rfl)) rfl
theorem wi_X12_spanOf : Cond.instanceMethod yX12_spanOf ∈ zw_tbl := zw (zt_5 _ (List.mem_of_getElem? (i := 188) rfl)) rfl
theorem wc_X12_spanOf : Cond.code yX12_spanOf cX12_spanOf 9 (some .int) ∈ zw_tbl := zw (zt_5 _ (List.mem_of_getElem? (i := 189) rfl)) rfl
theorem wk_X12_184 : Cond.constant "LoveLocksModel" 184 (99999) ∈ zw_tbl := zw (zt_5 _ (List.mem_of_getElem? (i := 190) rfl)) rfl
theorem wl_L_74 : Cond.methodLink "LoveLocksLaw" 74 yX12_safe ∈ zw_tbl := zw (zt_5 _ (List.mem_of_getElem? (i := 191) rfl)) rfl
theorem wi_X12_safe : Cond.instanceMethod yX12_safe ∈ zw_tbl := zw (zt_5 _ (List.mem_of_getElem? (i := 192) rfl)) rfl
theorem ws_X12_safe : Cond.selects "LoveLocksModel" yX12_safe yX12_safe ∈ zw_tbl := zw (zt_5 _ (List.mem_of_getElem? (i := 193) rfl)) rfl
theorem wc_X12_safe : Cond.code yX12_safe cX12_safe 4 (some .int) ∈ zw_tbl := zw (zt_5 _ (List.mem_of_getElem? (i := 194) rfl)) rfl
theorem wl_L_81 : Cond.methodLink "LoveLocksLaw" 81 yX12_type ∈ zw_tbl := zw (zt_5 _ (List.mem_of_getElem? (i := 195) rfl)) rfl
theorem wi_X12_type : Cond.instanceMethod yX12_type ∈ zw_tbl := zw (zt_5 _ (List.mem_of_getElem? (i := 196) rfl)) rfl
theorem ws_X12_type : Cond.selects "LoveLocksModel" yX12_type yX12_type ∈ zw_tbl := zw (zt_5 _ (List.mem_of_getElem? (i := 197) rfl)) rfl
theorem wc_X12_type : Cond.code yX12_type cX12_type 5 (some .int) ∈ zw_tbl := zw (zt_5 _ (List.mem_of_getElem? (i := 198) rfl)) rfl
theorem wk_X12_188 : Cond.constantLong "LoveLocksModel" 188 (8) ∈ zw_tbl := zw (zt_5 _ (List.mem_of_getElem? (i := 199) rfl)) rfl
theorem wk_X12_190 : Cond.constantLong "LoveLocksModel" 190 (255) ∈ zw_tbl := zw (zt_5 _ (List.mem_of_getElem? (i := 200) rfl)) rfl
theorem wk_X12_192 : Cond.constantLong "LoveLocksModel" 192 (32) ∈ zw_tbl := zw (zt_5 _ (List.mem_of_getElem? (i := 201) rfl)) rfl
theorem wk_X12_194 : Cond.constantLong "LoveLocksModel" 194 (126) ∈ zw_tbl := zw (zt_5 _ (List.mem_of_getElem? (i := 202) rfl)) rfl
theorem wl_L_85 : Cond.methodLink "LoveLocksLaw" 85 yX12_person ∈ zw_tbl := zw (zt_5 _ (List.mem_of_getElem? (i := 203) rfl)) rfl
theorem wi_X12_person : Cond.instanceMethod yX12_person ∈ zw_tbl := zw (zt_5 _ (List.mem_of_getElem? (i := 204) rfl)) rfl
theorem ws_X12_person : Cond.selects "LoveLocksModel" yX12_person yX12_person ∈ zw_tbl := zw (zt_5 _ (List.mem_of_getElem? (i := 205) rfl)) rfl
theorem wc_X12_person : Cond.code yX12_person cX12_person 3 (some .int) ∈ zw_tbl := zw (zt_5 _ (List.mem_of_getElem? (i := 206) rfl)) rfl
theorem wl_X12_213 : Cond.methodLink "LoveLocksModel" 213 yX12_name ∈ zw_tbl := zw (zt_5 _ (List.mem_of_getElem? (i := 207) rfl)) rfl
theorem wi_X12_name : Cond.instanceMethod yX12_name ∈ zw_tbl := zw (zt_5 _ (List.mem_of_getElem? (i := 209) rfl)) rfl
theorem wc_X12_name : Cond.code yX12_name cX12_name 7 (some .int) ∈ zw_tbl := zw (zt_5 _ (List.mem_of_getElem? (i := 210) rfl)) rfl
theorem wl_X12_206 : Cond.methodLink "LoveLocksModel" 206 yX12_here ∈ zw_tbl := zw (zt_5 _ (List.mem_of_getElem? (i := 211) rfl)) rfl
theorem wi_X12_here : Cond.instanceMethod yX12_here ∈ zw_tbl := zw (zt_5 _ (List.mem_of_getElem? (i := 213) rfl)) rfl
theorem wc_X12_here : Cond.code yX12_here cX12_here 1 (some .int) ∈ zw_tbl := zw (zt_5 _ (List.mem_of_getElem? (i := 214) rfl)) rfl
theorem wk_X12_209 : Cond.constantLong "LoveLocksModel" 209 (65) ∈ zw_tbl := zw (zt_5 _ (List.mem_of_getElem? (i := 215) rfl)) rfl
theorem wk_X12_211 : Cond.constantLong "LoveLocksModel" 211 (90) ∈ zw_tbl := zw (zt_5 _ (List.mem_of_getElem? (i := 216) rfl)) rfl
theorem wl_L_89 : Cond.methodLink "LoveLocksLaw" 89 yX12_letters ∈ zw_tbl := zw (zt_5 _ (List.mem_of_getElem? (i := 217) rfl)) rfl
theorem wi_X12_letters : Cond.instanceMethod yX12_letters ∈ zw_tbl := zw (zt_5 _ (List.mem_of_getElem? (i := 218) rfl)) rfl
theorem ws_X12_letters : Cond.selects "LoveLocksModel" yX12_letters yX12_letters ∈ zw_tbl := zw (zt_5 _ (List.mem_of_getElem? (i := 219) rfl)) rfl
theorem wc_X12_letters : Cond.code yX12_letters cX12_letters 5 (some .int) ∈ zw_tbl := zw (zt_5 _ (List.mem_of_getElem? (i := 220) rfl)) rfl
theorem wl_X12_217 : Cond.methodLink "LoveLocksModel" 217 yX12_count ∈ zw_tbl := zw (zt_5 _ (List.mem_of_getElem? (i := 221) rfl)) rfl
theorem wl_L_93 : Cond.methodLink "LoveLocksLaw" 93 yX12_readings ∈ zw_tbl := zw (zt_5 _ (List.mem_of_getElem? (i := 222) rfl)) rfl
theorem wi_X12_readings : Cond.instanceMethod yX12_readings ∈ zw_tbl := zw (zt_5 _ (List.mem_of_getElem? (i := 223) rfl)) rfl
theorem ws_X12_readings : Cond.selects "LoveLocksModel" yX12_readings yX12_readings ∈ zw_tbl := zw (zt_5 _ (List.mem_of_getElem? (i := 224) rfl)) rfl
theorem wc_X12_readings : Cond.code yX12_readings cX12_readings 5 (some .int) ∈ zw_tbl := zw (zt_5 _ (List.mem_of_getElem? (i := 225) rfl)) rfl
theorem wl_X12_224 : Cond.methodLink "LoveLocksModel" 224 yX12_isRead ∈ zw_tbl := zw (zt_5 _ (List.mem_of_getElem? (i := 226) rfl)) rfl
theorem wi_X12_isRead : Cond.instanceMethod yX12_isRead ∈ zw_tbl := zw (zt_5 _ (List.mem_of_getElem? (i := 228) rfl)) rfl
theorem wc_X12_isRead : Cond.code yX12_isRead cX12_isRead 5 (some .boolean) ∈ zw_tbl := zw (zt_5 _ (List.mem_of_getElem? (i := 229) rfl)) rfl
theorem wl_X12_220 : Cond.methodLink "LoveLocksModel" 220 yX12_fits ∈ zw_tbl := zw (zt_5 _ (List.mem_of_getElem? (i := 230) rfl)) rfl
theorem wi_X12_fits : Cond.instanceMethod yX12_fits ∈ zw_tbl := zw (zt_5 _ (List.mem_of_getElem? (i := 232) rfl)) rfl
theorem wc_X12_fits : Cond.code yX12_fits cX12_fits 8 (some .boolean) ∈ zw_tbl := zw (zt_5 _ (List.mem_of_getElem? (i := 233) rfl)) rfl
theorem wl_L_98 : Cond.methodLink "LoveLocksLaw" 98 yX12_ways ∈ zw_tbl := zw (zt_5 _ (List.mem_of_getElem? (i := 234) rfl)) rfl
theorem wi_X12_ways : Cond.instanceMethod yX12_ways ∈ zw_tbl := zw (zt_5 _ (List.mem_of_getElem? (i := 235) rfl)) rfl
theorem ws_X12_ways : Cond.selects "LoveLocksModel" yX12_ways yX12_ways ∈ zw_tbl := zw (zt_5 _ (List.mem_of_getElem? (i := 236) rfl)) rfl
theorem wc_X12_ways : Cond.code yX12_ways cX12_ways 1 (some .long) ∈ zw_tbl := zw (zt_5 _ (List.mem_of_getElem? (i := 237) rfl)) rfl
theorem wl_X12_235 : Cond.methodLink "LoveLocksModel" 235 yX12_waysBy ∈ zw_tbl := zw (zt_5 _ (List.mem_of_getElem? (i := 238) rfl)) rfl
theorem wi_X12_waysBy : Cond.instanceMethod yX12_waysBy ∈ zw_tbl := zw (zt_6 _ (List.mem_of_getElem? (i := 0) rfl)) rfl
theorem wc_X12_waysBy : Cond.code yX12_waysBy cX12_waysBy 7 (some .long) ∈ zw_tbl := zw (zt_6 _ (List.mem_of_getElem? (i := 1) rfl)) rfl
theorem wl_X12_231 : Cond.methodLink "LoveLocksModel" 231 yX12_waysOf ∈ zw_tbl := zw (zt_6 _ (List.mem_of_getElem? (i := 2) rfl)) rfl
theorem wi_X12_waysOf : Cond.instanceMethod yX12_waysOf ∈ zw_tbl := zw (zt_6 _ (List.mem_of_getElem? (i := 4) rfl)) rfl
theorem wc_X12_waysOf : Cond.code yX12_waysOf cX12_waysOf 8 (some .long) ∈ zw_tbl := zw (zt_6 _ (List.mem_of_getElem? (i := 5) rfl)) rfl
theorem wl_X12_227 : Cond.methodLink "LoveLocksModel" 227 yX12_uses ∈ zw_tbl := zw (zt_6 _ (List.mem_of_getElem? (i := 6) rfl)) rfl
theorem wi_X12_uses : Cond.instanceMethod yX12_uses ∈ zw_tbl := zw (zt_6 _ (List.mem_of_getElem? (i := 8) rfl)) rfl
theorem wc_X12_uses : Cond.code yX12_uses cX12_uses 11 none ∈ zw_tbl := zw (zt_6 _ (List.mem_of_getElem? (i := 9) rfl)) rfl
theorem wl_L_102 : Cond.methodLink "LoveLocksLaw" 102 yX12_who ∈ zw_tbl := zw (zt_6 _ (List.mem_of_getElem? (i := 10) rfl)) rfl
theorem wi_X12_who : Cond.instanceMethod yX12_who ∈ zw_tbl := zw (zt_6 _ (List.mem_of_getElem? (i := 11) rfl)) rfl
theorem ws_X12_who : Cond.selects "LoveLocksModel" yX12_who yX12_who ∈ zw_tbl := zw (zt_6 _ (List.mem_of_getElem? (i := 12) rfl)) rfl
theorem wc_X12_who : Cond.code yX12_who cX12_who 5 (some .int) ∈ zw_tbl := zw (zt_6 _ (List.mem_of_getElem? (i := 13) rfl)) rfl
theorem wl_X12_239 : Cond.methodLink "LoveLocksModel" 239 yX12_ways ∈ zw_tbl := zw (zt_6 _ (List.mem_of_getElem? (i := 14) rfl)) rfl
theorem wl_X12_243 : Cond.methodLink "LoveLocksModel" 243 yX12_isOn ∈ zw_tbl := zw (zt_6 _ (List.mem_of_getElem? (i := 15) rfl)) rfl
theorem wi_X12_isOn : Cond.instanceMethod yX12_isOn ∈ zw_tbl := zw (zt_6 _ (List.mem_of_getElem? (i := 17) rfl)) rfl
theorem wc_X12_isOn : Cond.code yX12_isOn cX12_isOn 4 (some .boolean) ∈ zw_tbl := zw (zt_6 _ (List.mem_of_getElem? (i := 18) rfl)) rfl
theorem wl_L_106 : Cond.methodLink "LoveLocksLaw" 106 yX12_where ∈ zw_tbl := zw (zt_6 _ (List.mem_of_getElem? (i := 19) rfl)) rfl
theorem wi_X12_where : Cond.instanceMethod yX12_where ∈ zw_tbl := zw (zt_6 _ (List.mem_of_getElem? (i := 20) rfl)) rfl
theorem ws_X12_where : Cond.selects "LoveLocksModel" yX12_where yX12_where ∈ zw_tbl := zw (zt_6 _ (List.mem_of_getElem? (i := 21) rfl)) rfl
theorem wc_X12_where : Cond.code yX12_where cX12_where 5 (some .int) ∈ zw_tbl := zw (zt_6 _ (List.mem_of_getElem? (i := 22) rfl)) rfl
theorem wl_L_110 : Cond.methodLink "LoveLocksLaw" 110 yX12_nightly ∈ zw_tbl := zw (zt_6 _ (List.mem_of_getElem? (i := 23) rfl)) rfl
theorem wi_X12_nightly : Cond.instanceMethod yX12_nightly ∈ zw_tbl := zw (zt_6 _ (List.mem_of_getElem? (i := 24) rfl)) rfl
theorem ws_X12_nightly : Cond.selects "LoveLocksModel" yX12_nightly yX12_nightly ∈ zw_tbl := zw (zt_6 _ (List.mem_of_getElem? (i := 25) rfl)) rfl
theorem wc_X12_nightly : Cond.code yX12_nightly cX12_nightly 3 (some .int) ∈ zw_tbl := zw (zt_6 _ (List.mem_of_getElem? (i := 26) rfl)) rfl
theorem wk_X12_246 : Cond.constantLong "LoveLocksModel" 246 (3) ∈ zw_tbl := zw (zt_6 _ (List.mem_of_getElem? (i := 27) rfl)) rfl
theorem wl_L_114 : Cond.methodLink "LoveLocksLaw" 114 yX12_risk ∈ zw_tbl := zw (zt_6 _ (List.mem_of_getElem? (i := 28) rfl)) rfl
theorem wi_X12_risk : Cond.instanceMethod yX12_risk ∈ zw_tbl := zw (zt_6 _ (List.mem_of_getElem? (i := 29) rfl)) rfl
theorem ws_X12_risk : Cond.selects "LoveLocksModel" yX12_risk yX12_risk ∈ zw_tbl := zw (zt_6 _ (List.mem_of_getElem? (i := 30) rfl)) rfl
theorem wc_X12_risk : Cond.code yX12_risk cX12_risk 5 (some .int) ∈ zw_tbl := zw (zt_6 _ (List.mem_of_getElem? (i := 31) rfl)) rfl
theorem wk_X12_248 : Cond.constantLong "LoveLocksModel" 248 (99) ∈ zw_tbl := zw (zt_6 _ (List.mem_of_getElem? (i := 32) rfl)) rfl
theorem wk_X12_250 : Cond.constantLong "LoveLocksModel" 250 (9) ∈ zw_tbl := zw (zt_6 _ (List.mem_of_getElem? (i := 33) rfl)) rfl
theorem wk_X12_252 : Cond.constantLong "LoveLocksModel" 252 (5) ∈ zw_tbl := zw (zt_6 _ (List.mem_of_getElem? (i := 34) rfl)) rfl
theorem wl_L_118 : Cond.methodLink "LoveLocksLaw" 118 yX12_order ∈ zw_tbl := zw (zt_6 _ (List.mem_of_getElem? (i := 35) rfl)) rfl
theorem wi_X12_order : Cond.instanceMethod yX12_order ∈ zw_tbl := zw (zt_6 _ (List.mem_of_getElem? (i := 36) rfl)) rfl
theorem ws_X12_order : Cond.selects "LoveLocksModel" yX12_order yX12_order ∈ zw_tbl := zw (zt_6 _ (List.mem_of_getElem? (i := 37) rfl)) rfl
theorem wc_X12_order : Cond.code yX12_order cX12_order 8 (some .int) ∈ zw_tbl := zw (zt_6 _ (List.mem_of_getElem? (i := 38) rfl)) rfl
theorem wk_X12_262 : Cond.constantLong "LoveLocksModel" 262 (-1) ∈ zw_tbl := zw (zt_6 _ (List.mem_of_getElem? (i := 39) rfl)) rfl
theorem wl_X12_264 : Cond.methodLink "LoveLocksModel" 264 yX12_settles ∈ zw_tbl := zw (zt_6 _ (List.mem_of_getElem? (i := 40) rfl)) rfl
theorem wi_X12_settles : Cond.instanceMethod yX12_settles ∈ zw_tbl := zw (zt_6 _ (List.mem_of_getElem? (i := 42) rfl)) rfl
theorem wc_X12_settles : Cond.code yX12_settles cX12_settles 8 none ∈ zw_tbl := zw (zt_6 _ (List.mem_of_getElem? (i := 43) rfl)) rfl
theorem wk_X12_254 : Cond.constant "LoveLocksModel" 254 (1000000000) ∈ zw_tbl := zw (zt_6 _ (List.mem_of_getElem? (i := 44) rfl)) rfl
theorem wl_X12_255 : Cond.methodLink "LoveLocksModel" 255 yX12_mayCut ∈ zw_tbl := zw (zt_6 _ (List.mem_of_getElem? (i := 45) rfl)) rfl
theorem wi_X12_mayCut : Cond.instanceMethod yX12_mayCut ∈ zw_tbl := zw (zt_6 _ (List.mem_of_getElem? (i := 47) rfl)) rfl
theorem wc_X12_mayCut : Cond.code yX12_mayCut cX12_mayCut 5 (some .boolean) ∈ zw_tbl := zw (zt_6 _ (List.mem_of_getElem? (i := 48) rfl)) rfl
theorem wl_X12_259 : Cond.methodLink "LoveLocksModel" 259 yX12_costs ∈ zw_tbl := zw (zt_6 _ (List.mem_of_getElem? (i := 49) rfl)) rfl
theorem wi_X12_costs : Cond.instanceMethod yX12_costs ∈ zw_tbl := zw (zt_6 _ (List.mem_of_getElem? (i := 51) rfl)) rfl
theorem wc_X12_costs : Cond.code yX12_costs cX12_costs 5 (some .int) ∈ zw_tbl := zw (zt_6 _ (List.mem_of_getElem? (i := 52) rfl)) rfl
theorem wl_L_122 : Cond.methodLink "LoveLocksLaw" 122 yX12_month ∈ zw_tbl := zw (zt_6 _ (List.mem_of_getElem? (i := 53) rfl)) rfl
theorem wi_X12_month : Cond.instanceMethod yX12_month ∈ zw_tbl := zw (zt_6 _ (List.mem_of_getElem? (i := 54) rfl)) rfl
theorem ws_X12_month : Cond.selects "LoveLocksModel" yX12_month yX12_month ∈ zw_tbl := zw (zt_6 _ (List.mem_of_getElem? (i := 55) rfl)) rfl
theorem wc_X12_month : Cond.code yX12_month cX12_month 4 (some .int) ∈ zw_tbl := zw (zt_6 _ (List.mem_of_getElem? (i := 56) rfl)) rfl
theorem wk_X12_267 : Cond.constantLong "LoveLocksModel" 267 (11) ∈ zw_tbl := zw (zt_6 _ (List.mem_of_getElem? (i := 57) rfl)) rfl
theorem wl_X12_269 : Cond.methodLink "LoveLocksModel" 269 yX12_isMonth ∈ zw_tbl := zw (zt_6 _ (List.mem_of_getElem? (i := 58) rfl)) rfl
theorem wst_X12_isMonth : Cond.static yX12_isMonth ∈ zw_tbl := zw (zt_6 _ (List.mem_of_getElem? (i := 59) rfl)) rfl
theorem wc_X12_isMonth : Cond.code yX12_isMonth cX12_isMonth 2 (some .boolean) ∈ zw_tbl := zw (zt_6 _ (List.mem_of_getElem? (i := 60) rfl)) rfl
theorem wl_L_155 : Cond.methodLink "LoveLocksLaw" 155 yX12_months ∈ zw_tbl := zw (zt_6 _ (List.mem_of_getElem? (i := 61) rfl)) rfl
theorem wi_X12_months : Cond.instanceMethod yX12_months ∈ zw_tbl := zw (zt_6 _ (List.mem_of_getElem? (i := 62) rfl)) rfl
theorem ws_X12_months : Cond.selects "LoveLocksModel" yX12_months yX12_months ∈ zw_tbl := zw (zt_6 _ (List.mem_of_getElem? (i := 63) rfl)) rfl
theorem wc_X12_months : Cond.code yX12_months cX12_months 7 (some .int) ∈ zw_tbl := zw (zt_6 _ (List.mem_of_getElem? (i := 64) rfl)) rfl
theorem wl_X12_272 : Cond.methodLink "LoveLocksModel" 272 yX12_isSheet ∈ zw_tbl := zw (zt_6 _ (List.mem_of_getElem? (i := 65) rfl)) rfl
theorem wst_X12_isSheet : Cond.static yX12_isSheet ∈ zw_tbl := zw (zt_6 _ (List.mem_of_getElem? (i := 66) rfl)) rfl
theorem wc_X12_isSheet : Cond.code yX12_isSheet cX12_isSheet 1 (some .boolean) ∈ zw_tbl := zw (zt_6 _ (List.mem_of_getElem? (i := 67) rfl)) rfl
theorem wl_X12_275 : Cond.methodLink "LoveLocksModel" 275 yX12_isLane ∈ zw_tbl := zw (zt_6 _ (List.mem_of_getElem? (i := 68) rfl)) rfl
theorem wst_X12_isLane : Cond.static yX12_isLane ∈ zw_tbl := zw (zt_6 _ (List.mem_of_getElem? (i := 69) rfl)) rfl
theorem wc_X12_isLane : Cond.code yX12_isLane cX12_isLane 1 (some .boolean) ∈ zw_tbl := zw (zt_6 _ (List.mem_of_getElem? (i := 70) rfl)) rfl
theorem wk_X12_278 : Cond.constantLong "LoveLocksModel" 278 (12) ∈ zw_tbl := zw (zt_6 _ (List.mem_of_getElem? (i := 71) rfl)) rfl
theorem wl_X12_280 : Cond.methodLink "LoveLocksModel" 280 yX12_finds ∈ zw_tbl := zw (zt_6 _ (List.mem_of_getElem? (i := 72) rfl)) rfl
theorem wi_X12_finds : Cond.instanceMethod yX12_finds ∈ zw_tbl := zw (zt_6 _ (List.mem_of_getElem? (i := 74) rfl)) rfl
theorem wc_X12_finds : Cond.code yX12_finds cX12_finds 5 (some .int) ∈ zw_tbl := zw (zt_6 _ (List.mem_of_getElem? (i := 75) rfl)) rfl
theorem wl_L_126 : Cond.methodLink "LoveLocksLaw" 126 yX12_laws ∈ zw_tbl := zw (zt_6 _ (List.mem_of_getElem? (i := 76) rfl)) rfl
theorem wi_X12_laws : Cond.instanceMethod yX12_laws ∈ zw_tbl := zw (zt_6 _ (List.mem_of_getElem? (i := 77) rfl)) rfl
theorem ws_X12_laws : Cond.selects "LoveLocksModel" yX12_laws yX12_laws ∈ zw_tbl := zw (zt_6 _ (List.mem_of_getElem? (i := 78) rfl)) rfl
theorem wc_X12_laws : Cond.code yX12_laws cX12_laws 6 (some .int) ∈ zw_tbl := zw (zt_6 _ (List.mem_of_getElem? (i := 79) rfl)) rfl
theorem wl_X12_293 : Cond.methodLink "LoveLocksModel" 293 yX12_isLaw ∈ zw_tbl := zw (zt_6 _ (List.mem_of_getElem? (i := 80) rfl)) rfl
theorem wi_X12_isLaw : Cond.instanceMethod yX12_isLaw ∈ zw_tbl := zw (zt_6 _ (List.mem_of_getElem? (i := 82) rfl)) rfl
theorem wc_X12_isLaw : Cond.code yX12_isLaw cX12_isLaw 8 (some .boolean) ∈ zw_tbl := zw (zt_6 _ (List.mem_of_getElem? (i := 83) rfl)) rfl
theorem wl_X12_290 : Cond.methodLink "LoveLocksModel" 290 yX12_growsTo ∈ zw_tbl := zw (zt_6 _ (List.mem_of_getElem? (i := 84) rfl)) rfl
theorem wst_X12_growsTo : Cond.static yX12_growsTo ∈ zw_tbl := zw (zt_6 _ (List.mem_of_getElem? (i := 85) rfl)) rfl
theorem wc_X12_growsTo : Cond.code yX12_growsTo cX12_growsTo 6 (some .int) ∈ zw_tbl := zw (zt_6 _ (List.mem_of_getElem? (i := 86) rfl)) rfl
theorem wl_L_131 : Cond.methodLink "LoveLocksLaw" 131 yX12_grown ∈ zw_tbl := zw (zt_6 _ (List.mem_of_getElem? (i := 87) rfl)) rfl
theorem wi_X12_grown : Cond.instanceMethod yX12_grown ∈ zw_tbl := zw (zt_6 _ (List.mem_of_getElem? (i := 88) rfl)) rfl
theorem ws_X12_grown : Cond.selects "LoveLocksModel" yX12_grown yX12_grown ∈ zw_tbl := zw (zt_6 _ (List.mem_of_getElem? (i := 89) rfl)) rfl
theorem wc_X12_grown : Cond.code yX12_grown cX12_grown 6 (some .long) ∈ zw_tbl := zw (zt_6 _ (List.mem_of_getElem? (i := 90) rfl)) rfl
theorem wl_L_135 : Cond.methodLink "LoveLocksLaw" 135 yX12_ask ∈ zw_tbl := zw (zt_6 _ (List.mem_of_getElem? (i := 91) rfl)) rfl
theorem wi_X12_ask : Cond.instanceMethod yX12_ask ∈ zw_tbl := zw (zt_6 _ (List.mem_of_getElem? (i := 92) rfl)) rfl
theorem ws_X12_ask : Cond.selects "LoveLocksModel" yX12_ask yX12_ask ∈ zw_tbl := zw (zt_6 _ (List.mem_of_getElem? (i := 93) rfl)) rfl
theorem wc_X12_ask : Cond.code yX12_ask cX12_ask 9 (some .int) ∈ zw_tbl := zw (zt_6 _ (List.mem_of_getElem? (i := 94) rfl)) rfl
theorem wl_X12_296 : Cond.methodLink "LoveLocksModel" 296 yX12_isSought ∈ zw_tbl := zw (zt_6 _ (List.mem_of_getElem? (i := 95) rfl)) rfl
theorem wi_X12_isSought : Cond.instanceMethod yX12_isSought ∈ zw_tbl := zw (zt_6 _ (List.mem_of_getElem? (i := 97) rfl)) rfl
theorem wc_X12_isSought : Cond.code yX12_isSought cX12_isSought 4 (some .boolean) ∈ zw_tbl := zw (zt_6 _ (List.mem_of_getElem? (i := 98) rfl)) rfl
theorem wl_X12_299 : Cond.methodLink "LoveLocksModel" 299 yX12_yes ∈ zw_tbl := zw (zt_6 _ (List.mem_of_getElem? (i := 99) rfl)) rfl
theorem wi_X12_yes : Cond.instanceMethod yX12_yes ∈ zw_tbl := zw (zt_6 _ (List.mem_of_getElem? (i := 101) rfl)) rfl
theorem wc_X12_yes : Cond.code yX12_yes cX12_yes 6 (some .int) ∈ zw_tbl := zw (zt_6 _ (List.mem_of_getElem? (i := 102) rfl)) rfl
theorem wl_L_139 : Cond.methodLink "LoveLocksLaw" 139 yX12_needed ∈ zw_tbl := zw (zt_6 _ (List.mem_of_getElem? (i := 103) rfl)) rfl
theorem wi_X12_needed : Cond.instanceMethod yX12_needed ∈ zw_tbl := zw (zt_6 _ (List.mem_of_getElem? (i := 104) rfl)) rfl
theorem ws_X12_needed : Cond.selects "LoveLocksModel" yX12_needed yX12_needed ∈ zw_tbl := zw (zt_6 _ (List.mem_of_getElem? (i := 105) rfl)) rfl
theorem wc_X12_needed : Cond.code yX12_needed cX12_needed 8 (some .int) ∈ zw_tbl := zw (zt_6 _ (List.mem_of_getElem? (i := 106) rfl)) rfl
theorem wl_L_143 : Cond.methodLink "LoveLocksLaw" 143 yX12_stolen ∈ zw_tbl := zw (zt_6 _ (List.mem_of_getElem? (i := 107) rfl)) rfl
theorem wi_X12_stolen : Cond.instanceMethod yX12_stolen ∈ zw_tbl := zw (zt_6 _ (List.mem_of_getElem? (i := 108) rfl)) rfl
theorem ws_X12_stolen : Cond.selects "LoveLocksModel" yX12_stolen yX12_stolen ∈ zw_tbl := zw (zt_6 _ (List.mem_of_getElem? (i := 109) rfl)) rfl
theorem wc_X12_stolen : Cond.code yX12_stolen cX12_stolen 11 (some .int) ∈ zw_tbl := zw (zt_6 _ (List.mem_of_getElem? (i := 110) rfl)) rfl
theorem wl_X12_302 : Cond.methodLink "LoveLocksModel" 302 yX12_isLoot ∈ zw_tbl := zw (zt_6 _ (List.mem_of_getElem? (i := 111) rfl)) rfl
theorem wi_X12_isLoot : Cond.instanceMethod yX12_isLoot ∈ zw_tbl := zw (zt_6 _ (List.mem_of_getElem? (i := 113) rfl)) rfl
theorem wc_X12_isLoot : Cond.code yX12_isLoot cX12_isLoot 6 (some .boolean) ∈ zw_tbl := zw (zt_6 _ (List.mem_of_getElem? (i := 114) rfl)) rfl
theorem wl_L_147 : Cond.methodLink "LoveLocksLaw" 147 yX12_image ∈ zw_tbl := zw (zt_6 _ (List.mem_of_getElem? (i := 115) rfl)) rfl
theorem wi_X12_image : Cond.instanceMethod yX12_image ∈ zw_tbl := zw (zt_6 _ (List.mem_of_getElem? (i := 116) rfl)) rfl
theorem ws_X12_image : Cond.selects "LoveLocksModel" yX12_image yX12_image ∈ zw_tbl := zw (zt_6 _ (List.mem_of_getElem? (i := 117) rfl)) rfl
theorem wc_X12_image : Cond.code yX12_image cX12_image 2 (some .int) ∈ zw_tbl := zw (zt_6 _ (List.mem_of_getElem? (i := 118) rfl)) rfl
theorem wl_X12_305 : Cond.methodLink "LoveLocksModel" 305 yX12_saves ∈ zw_tbl := zw (zt_6 _ (List.mem_of_getElem? (i := 119) rfl)) rfl
theorem wst_X12_saves : Cond.static yX12_saves ∈ zw_tbl := zw (zt_6 _ (List.mem_of_getElem? (i := 120) rfl)) rfl
theorem wc_X12_saves : Cond.code yX12_saves cX12_saves 4 (some .int) ∈ zw_tbl := zw (zt_6 _ (List.mem_of_getElem? (i := 121) rfl)) rfl
theorem wl_L_151 : Cond.methodLink "LoveLocksLaw" 151 yX12_restore ∈ zw_tbl := zw (zt_6 _ (List.mem_of_getElem? (i := 122) rfl)) rfl
theorem wi_X12_restore : Cond.instanceMethod yX12_restore ∈ zw_tbl := zw (zt_6 _ (List.mem_of_getElem? (i := 123) rfl)) rfl
theorem ws_X12_restore : Cond.selects "LoveLocksModel" yX12_restore yX12_restore ∈ zw_tbl := zw (zt_6 _ (List.mem_of_getElem? (i := 124) rfl)) rfl
theorem wc_X12_restore : Cond.code yX12_restore cX12_restore 2 (some .int) ∈ zw_tbl := zw (zt_6 _ (List.mem_of_getElem? (i := 125) rfl)) rfl
theorem wl_X12_312 : Cond.methodLink "LoveLocksModel" 312 yX12_gives ∈ zw_tbl := zw (zt_6 _ (List.mem_of_getElem? (i := 126) rfl)) rfl
theorem wst_X12_gives : Cond.static yX12_gives ∈ zw_tbl := zw (zt_6 _ (List.mem_of_getElem? (i := 127) rfl)) rfl
theorem wc_X12_gives : Cond.code yX12_gives cX12_gives 4 (some .int) ∈ zw_tbl := zw (zt_6 _ (List.mem_of_getElem? (i := 128) rfl)) rfl
theorem wl_L_159 : Cond.methodLink "LoveLocksLaw" 159 yX12_sheet ∈ zw_tbl := zw (zt_6 _ (List.mem_of_getElem? (i := 129) rfl)) rfl
theorem wi_X12_sheet : Cond.instanceMethod yX12_sheet ∈ zw_tbl := zw (zt_6 _ (List.mem_of_getElem? (i := 130) rfl)) rfl
theorem ws_X12_sheet : Cond.selects "LoveLocksModel" yX12_sheet yX12_sheet ∈ zw_tbl := zw (zt_6 _ (List.mem_of_getElem? (i := 131) rfl)) rfl
theorem wc_X12_sheet : Cond.code yX12_sheet cX12_sheet 5 (some .int) ∈ zw_tbl := zw (zt_6 _ (List.mem_of_getElem? (i := 132) rfl)) rfl
theorem wl_L_163 : Cond.methodLink "LoveLocksLaw" 163 yX12_drop ∈ zw_tbl := zw (zt_6 _ (List.mem_of_getElem? (i := 133) rfl)) rfl
theorem wi_X12_drop : Cond.instanceMethod yX12_drop ∈ zw_tbl := zw (zt_6 _ (List.mem_of_getElem? (i := 134) rfl)) rfl
theorem ws_X12_drop : Cond.selects "LoveLocksModel" yX12_drop yX12_drop ∈ zw_tbl := zw (zt_6 _ (List.mem_of_getElem? (i := 135) rfl)) rfl
theorem wc_X12_drop : Cond.code yX12_drop cX12_drop 2 (some .int) ∈ zw_tbl := zw (zt_6 _ (List.mem_of_getElem? (i := 136) rfl)) rfl
theorem wl_L_167 : Cond.methodLink "LoveLocksLaw" 167 yX12_item ∈ zw_tbl := zw (zt_6 _ (List.mem_of_getElem? (i := 137) rfl)) rfl
theorem wi_X12_item : Cond.instanceMethod yX12_item ∈ zw_tbl := zw (zt_6 _ (List.mem_of_getElem? (i := 138) rfl)) rfl
theorem ws_X12_item : Cond.selects "LoveLocksModel" yX12_item yX12_item ∈ zw_tbl := zw (zt_6 _ (List.mem_of_getElem? (i := 139) rfl)) rfl
theorem wc_X12_item : Cond.code yX12_item cX12_item 6 (some .int) ∈ zw_tbl := zw (zt_6 _ (List.mem_of_getElem? (i := 140) rfl)) rfl
theorem wl_L_171 : Cond.methodLink "LoveLocksLaw" 171 yX12_copy ∈ zw_tbl := zw (zt_6 _ (List.mem_of_getElem? (i := 141) rfl)) rfl
theorem wi_X12_copy : Cond.instanceMethod yX12_copy ∈ zw_tbl := zw (zt_6 _ (List.mem_of_getElem? (i := 142) rfl)) rfl
theorem ws_X12_copy : Cond.selects "LoveLocksModel" yX12_copy yX12_copy ∈ zw_tbl := zw (zt_6 _ (List.mem_of_getElem? (i := 143) rfl)) rfl
theorem wc_X12_copy : Cond.code yX12_copy cX12_copy 7 (some .int) ∈ zw_tbl := zw (zt_6 _ (List.mem_of_getElem? (i := 144) rfl)) rfl
theorem wk_L_75 : Cond.constantLong "LoveLocksLaw" 75 (4294967295) ∈ zw_tbl := zw (zt_6 _ (List.mem_of_getElem? (i := 145) rfl)) rfl
theorem ws_X11_isBar : Cond.selects "LoveLocks" yX11_isBar yX11_isBar ∈ zw_tbl := zw (zp_1 _ (List.mem_of_getElem? (i := 0) rfl)) rfl
theorem ws_X4_isOver : Cond.selects "LoveLocks$Rail" yX4_isOver yX4_isOver ∈ zw_tbl := zw (zp_1 _ (List.mem_of_getElem? (i := 1) rfl)) rfl
theorem ws_X4_hangingFrom : Cond.selects "LoveLocks$Rail" yX4_hangingFrom yX4_hangingFrom ∈ zw_tbl := zw (zp_1 _ (List.mem_of_getElem? (i := 2) rfl)) rfl
theorem ws_X10_read : Cond.selects "LoveLocks$Tape" yX10_read yX10_read ∈ zw_tbl := zw (zp_1 _ (List.mem_of_getElem? (i := 3) rfl)) rfl
theorem ws_X2_allWhoAgree : Cond.selects "LoveLocks$Names" yX2_allWhoAgree yX2_allWhoAgree ∈ zw_tbl := zw (zp_1 _ (List.mem_of_getElem? (i := 4) rfl)) rfl
theorem ws_X5_keepPairs : Cond.selects "LoveLocks$Reader" yX5_keepPairs yX5_keepPairs ∈ zw_tbl := zw (zp_1 _ (List.mem_of_getElem? (i := 5) rfl)) rfl
theorem ws_X3_costOfWaiting : Cond.selects "LoveLocks$Nights" yX3_costOfWaiting yX3_costOfWaiting ∈ zw_tbl := zw (zp_1 _ (List.mem_of_getElem? (i := 6) rfl)) rfl
theorem ws_X3_chooseBest : Cond.selects "LoveLocks$Nights" yX3_chooseBest yX3_chooseBest ∈ zw_tbl := zw (zp_1 _ (List.mem_of_getElem? (i := 7) rfl)) rfl
theorem ws_X3_followChoices : Cond.selects "LoveLocks$Nights" yX3_followChoices yX3_followChoices ∈ zw_tbl := zw (zp_1 _ (List.mem_of_getElem? (i := 8) rfl)) rfl
theorem ws_X0_fits : Cond.selects "LoveLocks$Growth" yX0_fits yX0_fits ∈ zw_tbl := zw (zp_1 _ (List.mem_of_getElem? (i := 9) rfl)) rfl
theorem ws_X11_isSought : Cond.selects "LoveLocks" yX11_isSought yX11_isSought ∈ zw_tbl := zw (zp_1 _ (List.mem_of_getElem? (i := 10) rfl)) rfl
theorem ws_X6_areApart : Cond.selects "LoveLocks$Seeker" yX6_areApart yX6_areApart ∈ zw_tbl := zw (zp_1 _ (List.mem_of_getElem? (i := 11) rfl)) rfl
theorem ws_X1_keepLoot : Cond.selects "LoveLocks$Looter" yX1_keepLoot yX1_keepLoot ∈ zw_tbl := zw (zp_1 _ (List.mem_of_getElem? (i := 12) rfl)) rfl
theorem ws_X12_isPanel : Cond.selects "LoveLocksModel" yX12_isPanel yX12_isPanel ∈ zw_tbl := zw (zp_1 _ (List.mem_of_getElem? (i := 13) rfl)) rfl
theorem ws_X12_comes : Cond.selects "LoveLocksModel" yX12_comes yX12_comes ∈ zw_tbl := zw (zp_1 _ (List.mem_of_getElem? (i := 14) rfl)) rfl
theorem ws_X12_isLock : Cond.selects "LoveLocksModel" yX12_isLock yX12_isLock ∈ zw_tbl := zw (zp_1 _ (List.mem_of_getElem? (i := 15) rfl)) rfl
theorem ws_X12_bears : Cond.selects "LoveLocksModel" yX12_bears yX12_bears ∈ zw_tbl := zw (zp_2 _ (List.mem_of_getElem? (i := 0) rfl)) rfl
theorem ws_X12_under : Cond.selects "LoveLocksModel" yX12_under yX12_under ∈ zw_tbl := zw (zp_2 _ (List.mem_of_getElem? (i := 1) rfl)) rfl
theorem ws_X12_weigh : Cond.selects "LoveLocksModel" yX12_weigh yX12_weigh ∈ zw_tbl := zw (zp_2 _ (List.mem_of_getElem? (i := 2) rfl)) rfl
theorem ws_X12_loadOf : Cond.selects "LoveLocksModel" yX12_loadOf yX12_loadOf ∈ zw_tbl := zw (zp_2 _ (List.mem_of_getElem? (i := 3) rfl)) rfl
theorem ws_X12_hung : Cond.selects "LoveLocksModel" yX12_hung yX12_hung ∈ zw_tbl := zw (zp_2 _ (List.mem_of_getElem? (i := 4) rfl)) rfl
theorem ws_X12_falls : Cond.selects "LoveLocksModel" yX12_falls yX12_falls ∈ zw_tbl := zw (zp_2 _ (List.mem_of_getElem? (i := 5) rfl)) rfl
theorem ws_X12_sees : Cond.selects "LoveLocksModel" yX12_sees yX12_sees ∈ zw_tbl := zw (zp_2 _ (List.mem_of_getElem? (i := 6) rfl)) rfl
theorem ws_X12_spanOf : Cond.selects "LoveLocksModel" yX12_spanOf yX12_spanOf ∈ zw_tbl := zw (zp_2 _ (List.mem_of_getElem? (i := 7) rfl)) rfl
theorem ws_X12_name : Cond.selects "LoveLocksModel" yX12_name yX12_name ∈ zw_tbl := zw (zp_2 _ (List.mem_of_getElem? (i := 8) rfl)) rfl
theorem ws_X12_here : Cond.selects "LoveLocksModel" yX12_here yX12_here ∈ zw_tbl := zw (zp_2 _ (List.mem_of_getElem? (i := 9) rfl)) rfl
theorem ws_X12_isRead : Cond.selects "LoveLocksModel" yX12_isRead yX12_isRead ∈ zw_tbl := zw (zp_2 _ (List.mem_of_getElem? (i := 10) rfl)) rfl
theorem ws_X12_fits : Cond.selects "LoveLocksModel" yX12_fits yX12_fits ∈ zw_tbl := zw (zp_2 _ (List.mem_of_getElem? (i := 11) rfl)) rfl
theorem ws_X12_waysBy : Cond.selects "LoveLocksModel" yX12_waysBy yX12_waysBy ∈ zw_tbl := zw (zp_2 _ (List.mem_of_getElem? (i := 12) rfl)) rfl
theorem ws_X12_waysOf : Cond.selects "LoveLocksModel" yX12_waysOf yX12_waysOf ∈ zw_tbl := zw (zp_2 _ (List.mem_of_getElem? (i := 13) rfl)) rfl
theorem ws_X12_uses : Cond.selects "LoveLocksModel" yX12_uses yX12_uses ∈ zw_tbl := zw (zp_2 _ (List.mem_of_getElem? (i := 14) rfl)) rfl
theorem ws_X12_isOn : Cond.selects "LoveLocksModel" yX12_isOn yX12_isOn ∈ zw_tbl := zw (zp_2 _ (List.mem_of_getElem? (i := 15) rfl)) rfl
theorem ws_X12_settles : Cond.selects "LoveLocksModel" yX12_settles yX12_settles ∈ zw_tbl := zw (zp_3 _ (List.mem_of_getElem? (i := 0) rfl)) rfl
theorem ws_X12_mayCut : Cond.selects "LoveLocksModel" yX12_mayCut yX12_mayCut ∈ zw_tbl := zw (zp_3 _ (List.mem_of_getElem? (i := 1) rfl)) rfl
theorem ws_X12_costs : Cond.selects "LoveLocksModel" yX12_costs yX12_costs ∈ zw_tbl := zw (zp_3 _ (List.mem_of_getElem? (i := 2) rfl)) rfl
theorem ws_X12_finds : Cond.selects "LoveLocksModel" yX12_finds yX12_finds ∈ zw_tbl := zw (zp_3 _ (List.mem_of_getElem? (i := 3) rfl)) rfl
theorem ws_X12_isLaw : Cond.selects "LoveLocksModel" yX12_isLaw yX12_isLaw ∈ zw_tbl := zw (zp_3 _ (List.mem_of_getElem? (i := 4) rfl)) rfl
theorem ws_X12_isSought : Cond.selects "LoveLocksModel" yX12_isSought yX12_isSought ∈ zw_tbl := zw (zp_3 _ (List.mem_of_getElem? (i := 5) rfl)) rfl
theorem ws_X12_yes : Cond.selects "LoveLocksModel" yX12_yes yX12_yes ∈ zw_tbl := zw (zp_3 _ (List.mem_of_getElem? (i := 6) rfl)) rfl
theorem ws_X12_isLoot : Cond.selects "LoveLocksModel" yX12_isLoot yX12_isLoot ∈ zw_tbl := zw (zp_3 _ (List.mem_of_getElem? (i := 7) rfl)) rfl
theorem inz0 : ∀ w ∈ u_ws RX0 TX0 4, w ∈ zw_tbl := List.forall_mem_cons.mpr ⟨wy_X0_least, List.forall_mem_cons.mpr ⟨wy_X0_most, List.forall_mem_cons.mpr ⟨wy_X0_lowest, List.forall_mem_cons.mpr ⟨wy_X0_highest, fun _ h => absurd h List.not_mem_nil⟩⟩⟩⟩
theorem inz1 : ∀ w ∈ u_ws RX1 TX1 3, w ∈ zw_tbl := List.forall_mem_cons.mpr ⟨wy_X1_loots, List.forall_mem_cons.mpr ⟨wy_X1_inAll, List.forall_mem_cons.mpr ⟨wy_X1_inSome, fun _ h => absurd h List.not_mem_nil⟩⟩⟩
theorem inz2 : ∀ w ∈ u_ws RX2 TX2 5, w ∈ zw_tbl := List.forall_mem_cons.mpr ⟨wy_X2_people, List.forall_mem_cons.mpr ⟨wy_X2_lettered, List.forall_mem_cons.mpr ⟨wy_X2_name, List.forall_mem_cons.mpr ⟨wy_X2_first, List.forall_mem_cons.mpr ⟨wy_X2_second, fun _ h => absurd h List.not_mem_nil⟩⟩⟩⟩⟩
theorem inz3 : ∀ w ∈ u_ws RX3 TX3 9, w ∈ zw_tbl := List.forall_mem_cons.mpr ⟨wy_X3_nightly, List.forall_mem_cons.mpr ⟨wy_X3_risk, List.forall_mem_cons.mpr ⟨wy_X3_grows, List.forall_mem_cons.mpr ⟨wy_X3_till, List.forall_mem_cons.mpr ⟨wy_X3_cost, List.forall_mem_cons.mpr ⟨wy_X3_choice, List.forall_mem_cons.mpr ⟨wy_X3_waiting, List.forall_mem_cons.mpr ⟨wy_X3_night, List.forall_mem_cons.mpr ⟨wy_X3_inAll, fun _ h => absurd h List.not_mem_nil⟩⟩⟩⟩⟩⟩⟩⟩⟩
theorem inz4 : ∀ w ∈ u_ws RX4 TX4 12, w ∈ zw_tbl := List.forall_mem_cons.mpr ⟨wy_X4_panels, List.forall_mem_cons.mpr ⟨wy_X4_barLimit, List.forall_mem_cons.mpr ⟨wy_X4_allLimit, List.forall_mem_cons.mpr ⟨wy_X4_sagLimit, List.forall_mem_cons.mpr ⟨wy_X4_locks, List.forall_mem_cons.mpr ⟨wy_X4_gone, List.forall_mem_cons.mpr ⟨wy_X4_weight, List.forall_mem_cons.mpr ⟨wy_X4_kind, List.forall_mem_cons.mpr ⟨wy_X4_year, List.forall_mem_cons.mpr ⟨wy_X4_panelOf, List.forall_mem_cons.mpr ⟨wy_X4_barOf, List.forall_mem_cons.mpr ⟨wy_X4_holder, fun _ h => absurd h List.not_mem_nil⟩⟩⟩⟩⟩⟩⟩⟩⟩⟩⟩⟩
theorem inz5 : ∀ w ∈ u_ws RX5 TX5 8, w ∈ zw_tbl := List.forall_mem_cons.mpr ⟨wy_X5_ways, List.forall_mem_cons.mpr ⟨wy_X5_people, List.forall_mem_cons.mpr ⟨wy_X5_lettered, List.forall_mem_cons.mpr ⟨wy_X5_one, List.forall_mem_cons.mpr ⟨wy_X5_other, List.forall_mem_cons.mpr ⟨wy_X5_pair, List.forall_mem_cons.mpr ⟨wy_X5_some, List.forall_mem_cons.mpr ⟨wy_X5_all, fun _ h => absurd h List.not_mem_nil⟩⟩⟩⟩⟩⟩⟩⟩
theorem inz6 : ∀ w ∈ u_ws RX6 TX6 1, w ∈ zw_tbl := List.forall_mem_cons.mpr ⟨wy_X6_yes, fun _ h => absurd h List.not_mem_nil⟩
theorem inz7 : ∀ w ∈ u_ws RX7 TX7 3, w ∈ zw_tbl := List.forall_mem_cons.mpr ⟨wy_X7_lane, List.forall_mem_cons.mpr ⟨wy_X7_size, List.forall_mem_cons.mpr ⟨wy_X7_items, fun _ h => absurd h List.not_mem_nil⟩⟩⟩
theorem inz8 : ∀ w ∈ u_ws RX8 TX8 4, w ∈ zw_tbl := List.forall_mem_cons.mpr ⟨wy_X8_sights, List.forall_mem_cons.mpr ⟨wy_X8_of, List.forall_mem_cons.mpr ⟨wy_X8_least, List.forall_mem_cons.mpr ⟨wy_X8_most, fun _ h => absurd h List.not_mem_nil⟩⟩⟩⟩
theorem inz9 : ∀ w ∈ u_ws RX9 TX9 5, w ∈ zw_tbl := List.forall_mem_cons.mpr ⟨wy_X9_rail, List.forall_mem_cons.mpr ⟨wy_X9_sights, List.forall_mem_cons.mpr ⟨wy_X9_names, List.forall_mem_cons.mpr ⟨wy_X9_nights, List.forall_mem_cons.mpr ⟨wy_X9_growth, fun _ h => absurd h List.not_mem_nil⟩⟩⟩⟩⟩
theorem inz10 : ∀ w ∈ u_ws RX10 TX10 4, w ∈ zw_tbl := List.forall_mem_cons.mpr ⟨wy_X10_length, List.forall_mem_cons.mpr ⟨wy_X10_first, List.forall_mem_cons.mpr ⟨wy_X10_second, List.forall_mem_cons.mpr ⟨wy_X10_bytes, fun _ h => absurd h List.not_mem_nil⟩⟩⟩⟩
theorem inz11 : ∀ w ∈ u_ws RX11 TX11 8, w ∈ zw_tbl := List.forall_mem_cons.mpr ⟨wy_X11_now, List.forall_mem_cons.mpr ⟨wy_X11_kept, List.forall_mem_cons.mpr ⟨wy_X11_hasImage, List.forall_mem_cons.mpr ⟨wy_X11_reader, List.forall_mem_cons.mpr ⟨wy_X11_seeker, List.forall_mem_cons.mpr ⟨wy_X11_looter, List.forall_mem_cons.mpr ⟨wy_X11_tape, List.forall_mem_cons.mpr ⟨wy_X11_sheets, fun _ h => absurd h List.not_mem_nil⟩⟩⟩⟩⟩⟩⟩⟩
theorem inz12 : ∀ w ∈ u_ws RX12 TX12 42, w ∈ zw_tbl := List.forall_mem_cons.mpr ⟨wy_X12_panels, List.forall_mem_cons.mpr ⟨wy_X12_limits, List.forall_mem_cons.mpr ⟨wy_X12_locks, List.forall_mem_cons.mpr ⟨wy_X12_weightOf, List.forall_mem_cons.mpr ⟨wy_X12_kindOf, List.forall_mem_cons.mpr ⟨wy_X12_yearOf, List.forall_mem_cons.mpr ⟨wy_X12_panelOf, List.forall_mem_cons.mpr ⟨wy_X12_barOf, List.forall_mem_cons.mpr ⟨wy_X12_onto, List.forall_mem_cons.mpr ⟨wy_X12_isGone, List.forall_mem_cons.mpr ⟨wy_X12_sights, List.forall_mem_cons.mpr ⟨wy_X12_sightParts, List.forall_mem_cons.mpr ⟨wy_X12_tape, List.forall_mem_cons.mpr ⟨wy_X12_taped, List.forall_mem_cons.mpr ⟨wy_X12_at, List.forall_mem_cons.mpr ⟨wy_X12_wrong, List.forall_mem_cons.mpr ⟨wy_X12_people, List.forall_mem_cons.mpr ⟨wy_X12_names, List.forall_mem_cons.mpr ⟨wy_X12_nameMany, List.forall_mem_cons.mpr ⟨wy_X12_worn, List.forall_mem_cons.mpr ⟨wy_X12_firstMany, List.forall_mem_cons.mpr ⟨wy_X12_secondMany, List.forall_mem_cons.mpr ⟨wy_X12_read, List.forall_mem_cons.mpr ⟨wy_X12_used, List.forall_mem_cons.mpr ⟨wy_X12_then, List.forall_mem_cons.mpr ⟨wy_X12_nightly, List.forall_mem_cons.mpr ⟨wy_X12_risks, List.forall_mem_cons.mpr ⟨wy_X12_grows, List.forall_mem_cons.mpr ⟨wy_X12_keptTill, List.forall_mem_cons.mpr ⟨wy_X12_least, List.forall_mem_cons.mpr ⟨wy_X12_leastOf, List.forall_mem_cons.mpr ⟨wy_X12_mostOf, List.forall_mem_cons.mpr ⟨wy_X12_low, List.forall_mem_cons.mpr ⟨wy_X12_high, List.forall_mem_cons.mpr ⟨wy_X12_needs, List.forall_mem_cons.mpr ⟨wy_X12_said, List.forall_mem_cons.mpr ⟨wy_X12_image, List.forall_mem_cons.mpr ⟨wy_X12_kept, List.forall_mem_cons.mpr ⟨wy_X12_lanes, List.forall_mem_cons.mpr ⟨wy_X12_sizes, List.forall_mem_cons.mpr ⟨wy_X12_items, List.forall_mem_cons.mpr ⟨wy_X12_moved, fun _ h => absurd h List.not_mem_nil⟩⟩⟩⟩⟩⟩⟩⟩⟩⟩⟩⟩⟩⟩⟩⟩⟩⟩⟩⟩⟩⟩⟩⟩⟩⟩⟩⟩⟩⟩⟩⟩⟩⟩⟩⟩⟩⟩⟩⟩⟩⟩
