/-- the words of the tables that a call hands on -/
def zw_tbl : List Cond := lw_tbl.filter goodWord
theorem zw {w : Cond} (h : w ∈ lw_tbl) (g : goodWord w = true) : w ∈ zw_tbl := List.mem_filter.mpr ⟨h, g⟩
theorem zt_0 : ∀ w ∈ tables_1, w ∈ lw_tbl := fun w h => List.mem_append_right _ h
theorem zt_1 : ∀ w ∈ tables_1_1, w ∈ lw_tbl := fun w h => zt_0 w (List.mem_append_left _ h)
theorem zt_2 : ∀ w ∈ tables_1_2, w ∈ lw_tbl := fun w h => zt_0 w (List.mem_append_right _ (List.mem_append_left _ h))
theorem zt_3 : ∀ w ∈ tables_1_3, w ∈ lw_tbl := fun w h => zt_0 w (List.mem_append_right _ (List.mem_append_right _ (List.mem_append_left _ h)))
theorem zt_4 : ∀ w ∈ tables_1_4, w ∈ lw_tbl := fun w h => zt_0 w (List.mem_append_right _ (List.mem_append_right _ (List.mem_append_right _ (h))))
theorem zp_0 : ∀ w ∈ k2_sels lw_privs, w ∈ lw_tbl := fun w h => List.mem_append_left _ h
theorem zp_1 : ∀ w ∈ k2_sels lw_privs_1, w ∈ lw_tbl := fun w h => zp_0 w h
theorem wz_L : Cond.initialized "LoveLocksLaw" ∈ zw_tbl := zw (zt_1 _ (List.mem_of_getElem? (i := 0) rfl)) rfl
theorem wz_X11 : Cond.initialized "LoveLocks" ∈ zw_tbl := zw (zt_1 _ (List.mem_of_getElem? (i := 1) rfl)) rfl
theorem wz_X9 : Cond.initialized "LoveLocks$State" ∈ zw_tbl := zw (zt_1 _ (List.mem_of_getElem? (i := 2) rfl)) rfl
theorem wz_X4 : Cond.initialized "LoveLocks$Rail" ∈ zw_tbl := zw (zt_1 _ (List.mem_of_getElem? (i := 3) rfl)) rfl
theorem wz_X8 : Cond.initialized "LoveLocks$Sights" ∈ zw_tbl := zw (zt_1 _ (List.mem_of_getElem? (i := 4) rfl)) rfl
theorem wz_X2 : Cond.initialized "LoveLocks$Names" ∈ zw_tbl := zw (zt_1 _ (List.mem_of_getElem? (i := 5) rfl)) rfl
theorem wz_X3 : Cond.initialized "LoveLocks$Nights" ∈ zw_tbl := zw (zt_1 _ (List.mem_of_getElem? (i := 6) rfl)) rfl
theorem wz_X0 : Cond.initialized "LoveLocks$Growth" ∈ zw_tbl := zw (zt_1 _ (List.mem_of_getElem? (i := 7) rfl)) rfl
theorem wz_J7 : Cond.initialized "java/util/Arrays" ∈ zw_tbl := zw (zt_1 _ (List.mem_of_getElem? (i := 8) rfl)) rfl
theorem wz_X5 : Cond.initialized "LoveLocks$Reader" ∈ zw_tbl := zw (zt_1 _ (List.mem_of_getElem? (i := 9) rfl)) rfl
theorem wz_X6 : Cond.initialized "LoveLocks$Seeker" ∈ zw_tbl := zw (zt_1 _ (List.mem_of_getElem? (i := 10) rfl)) rfl
theorem wz_X1 : Cond.initialized "LoveLocks$Looter" ∈ zw_tbl := zw (zt_1 _ (List.mem_of_getElem? (i := 11) rfl)) rfl
theorem wz_X10 : Cond.initialized "LoveLocks$Tape" ∈ zw_tbl := zw (zt_1 _ (List.mem_of_getElem? (i := 12) rfl)) rfl
theorem wz_X7 : Cond.initialized "LoveLocks$Sheets" ∈ zw_tbl := zw (zt_1 _ (List.mem_of_getElem? (i := 13) rfl)) rfl
theorem wz_J6 : Cond.initialized "java/lang/Integer" ∈ zw_tbl := zw (zt_1 _ (List.mem_of_getElem? (i := 14) rfl)) rfl
theorem wz_J10 : Cond.initialized "java/lang/System" ∈ zw_tbl := zw (zt_1 _ (List.mem_of_getElem? (i := 15) rfl)) rfl
theorem wcl_L_16 : Cond.classLink "LoveLocksLaw" 16 "LoveLocks" ∈ zw_tbl := zw (zt_1 _ (List.mem_of_getElem? (i := 16) rfl)) rfl
theorem wit_X11 : Cond.instantiable "LoveLocks" 8 ∈ zw_tbl := zw (zt_1 _ (List.mem_of_getElem? (i := 17) rfl)) rfl
theorem wl_L_29 : Cond.methodLink "LoveLocksLaw" 29 yX11_init ∈ zw_tbl := zw (zt_1 _ (List.mem_of_getElem? (i := 18) rfl)) rfl
theorem wi_X11_init : Cond.instanceMethod yX11_init ∈ zw_tbl := zw (zt_1 _ (List.mem_of_getElem? (i := 19) rfl)) rfl
theorem wc_X11_init : Cond.code yX11_init cX11_init 1 none ∈ zw_tbl := zw (zt_1 _ (List.mem_of_getElem? (i := 20) rfl)) rfl
theorem wl_X11_1 : Cond.methodLink "LoveLocks" 1 (⟨"java/lang/Object", "<init>", "()V"⟩ : MethodName) ∈ zw_tbl := zw (zt_1 _ (List.mem_of_getElem? (i := 21) rfl)) rfl
theorem wi_objinit : Cond.instanceMethod (⟨"java/lang/Object", "<init>", "()V"⟩ : MethodName) ∈ zw_tbl := zw (zt_1 _ (List.mem_of_getElem? (i := 22) rfl)) rfl
theorem wc_objinit : Cond.code (⟨"java/lang/Object", "<init>", "()V"⟩ : MethodName) object_method_1_code 1 none ∈ zw_tbl := zw (zt_1 _ (List.mem_of_getElem? (i := 23) rfl)) rfl
theorem wcl_X11_7 : Cond.classLink "LoveLocks" 7 "LoveLocks$State" ∈ zw_tbl := zw (zt_1 _ (List.mem_of_getElem? (i := 24) rfl)) rfl
theorem wit_X9 : Cond.instantiable "LoveLocks$State" 5 ∈ zw_tbl := zw (zt_1 _ (List.mem_of_getElem? (i := 25) rfl)) rfl
theorem wn_X11_9 : Cond.methodLinkNest "LoveLocks" 9 yX9_init "LoveLocks" ∈ lw_tbl := zt_1 _ (List.mem_of_getElem? (i := 26) rfl)
theorem wi_X9_init : Cond.instanceMethod yX9_init ∈ zw_tbl := zw (zt_1 _ (List.mem_of_getElem? (i := 27) rfl)) rfl
theorem wc_X9_init : Cond.code yX9_init cX9_init 1 none ∈ zw_tbl := zw (zt_1 _ (List.mem_of_getElem? (i := 28) rfl)) rfl
theorem wl_X9_1 : Cond.methodLink "LoveLocks$State" 1 (⟨"java/lang/Object", "<init>", "()V"⟩ : MethodName) ∈ zw_tbl := zw (zt_1 _ (List.mem_of_getElem? (i := 29) rfl)) rfl
theorem wcl_X9_7 : Cond.classLink "LoveLocks$State" 7 "LoveLocks$Rail" ∈ zw_tbl := zw (zt_1 _ (List.mem_of_getElem? (i := 30) rfl)) rfl
theorem wit_X4 : Cond.instantiable "LoveLocks$Rail" 12 ∈ zw_tbl := zw (zt_1 _ (List.mem_of_getElem? (i := 31) rfl)) rfl
theorem wn_X9_9 : Cond.methodLinkNest "LoveLocks$State" 9 yX4_init "LoveLocks" ∈ lw_tbl := zt_1 _ (List.mem_of_getElem? (i := 32) rfl)
theorem wi_X4_init : Cond.instanceMethod yX4_init ∈ zw_tbl := zw (zt_1 _ (List.mem_of_getElem? (i := 33) rfl)) rfl
theorem wc_X4_init : Cond.code yX4_init cX4_init 1 none ∈ zw_tbl := zw (zt_1 _ (List.mem_of_getElem? (i := 34) rfl)) rfl
theorem wl_X4_3 : Cond.methodLink "LoveLocks$Rail" 3 (⟨"java/lang/Object", "<init>", "()V"⟩ : MethodName) ∈ zw_tbl := zw (zt_1 _ (List.mem_of_getElem? (i := 35) rfl)) rfl
theorem wf_X4_39 : Cond.fieldLink "LoveLocks$Rail" 39 "LoveLocks$Rail" "panels" "I" ∈ zw_tbl := zw (zt_1 _ (List.mem_of_getElem? (i := 36) rfl)) rfl
theorem wf_X11_118 : Cond.fieldLink "LoveLocks" 118 "LoveLocks$Rail" "panels" "I" ∈ zw_tbl := zw (zt_1 _ (List.mem_of_getElem? (i := 37) rfl)) rfl
theorem wf_X4_9 : Cond.fieldLink "LoveLocks$Rail" 9 "LoveLocks$Rail" "barLimit" "[I" ∈ zw_tbl := zw (zt_1 _ (List.mem_of_getElem? (i := 38) rfl)) rfl
theorem wf_X4_15 : Cond.fieldLink "LoveLocks$Rail" 15 "LoveLocks$Rail" "allLimit" "[I" ∈ zw_tbl := zw (zt_1 _ (List.mem_of_getElem? (i := 39) rfl)) rfl
theorem wf_X4_18 : Cond.fieldLink "LoveLocks$Rail" 18 "LoveLocks$Rail" "sagLimit" "[I" ∈ zw_tbl := zw (zt_1 _ (List.mem_of_getElem? (i := 40) rfl)) rfl
theorem wf_X4_49 : Cond.fieldLink "LoveLocks$Rail" 49 "LoveLocks$Rail" "locks" "I" ∈ zw_tbl := zw (zt_1 _ (List.mem_of_getElem? (i := 41) rfl)) rfl
theorem wf_X5_57 : Cond.fieldLink "LoveLocks$Reader" 57 "LoveLocks$Rail" "locks" "I" ∈ zw_tbl := zw (zt_1 _ (List.mem_of_getElem? (i := 42) rfl)) rfl
theorem wf_X1_31 : Cond.fieldLink "LoveLocks$Looter" 31 "LoveLocks$Rail" "locks" "I" ∈ zw_tbl := zw (zt_1 _ (List.mem_of_getElem? (i := 43) rfl)) rfl
theorem wf_X6_29 : Cond.fieldLink "LoveLocks$Seeker" 29 "LoveLocks$Rail" "locks" "I" ∈ zw_tbl := zw (zt_1 _ (List.mem_of_getElem? (i := 44) rfl)) rfl
theorem wf_X11_122 : Cond.fieldLink "LoveLocks" 122 "LoveLocks$Rail" "locks" "I" ∈ zw_tbl := zw (zt_1 _ (List.mem_of_getElem? (i := 45) rfl)) rfl
theorem wf_X4_52 : Cond.fieldLink "LoveLocks$Rail" 52 "LoveLocks$Rail" "gone" "I" ∈ zw_tbl := zw (zt_1 _ (List.mem_of_getElem? (i := 46) rfl)) rfl
theorem wf_X11_125 : Cond.fieldLink "LoveLocks" 125 "LoveLocks$Rail" "gone" "I" ∈ zw_tbl := zw (zt_1 _ (List.mem_of_getElem? (i := 47) rfl)) rfl
theorem wf_X4_21 : Cond.fieldLink "LoveLocks$Rail" 21 "LoveLocks$Rail" "weight" "[I" ∈ zw_tbl := zw (zt_1 _ (List.mem_of_getElem? (i := 48) rfl)) rfl
theorem wf_X1_45 : Cond.fieldLink "LoveLocks$Looter" 45 "LoveLocks$Rail" "weight" "[I" ∈ zw_tbl := zw (zt_1 _ (List.mem_of_getElem? (i := 49) rfl)) rfl
theorem wf_X4_24 : Cond.fieldLink "LoveLocks$Rail" 24 "LoveLocks$Rail" "kind" "[I" ∈ zw_tbl := zw (zt_1 _ (List.mem_of_getElem? (i := 50) rfl)) rfl
theorem wf_X6_23 : Cond.fieldLink "LoveLocks$Seeker" 23 "LoveLocks$Rail" "kind" "[I" ∈ zw_tbl := zw (zt_1 _ (List.mem_of_getElem? (i := 51) rfl)) rfl
theorem wf_X1_42 : Cond.fieldLink "LoveLocks$Looter" 42 "LoveLocks$Rail" "kind" "[I" ∈ zw_tbl := zw (zt_1 _ (List.mem_of_getElem? (i := 52) rfl)) rfl
theorem wf_X4_27 : Cond.fieldLink "LoveLocks$Rail" 27 "LoveLocks$Rail" "year" "[I" ∈ zw_tbl := zw (zt_1 _ (List.mem_of_getElem? (i := 53) rfl)) rfl
theorem wf_X5_62 : Cond.fieldLink "LoveLocks$Reader" 62 "LoveLocks$Rail" "year" "[I" ∈ zw_tbl := zw (zt_1 _ (List.mem_of_getElem? (i := 54) rfl)) rfl
theorem wf_X6_20 : Cond.fieldLink "LoveLocks$Seeker" 20 "LoveLocks$Rail" "year" "[I" ∈ zw_tbl := zw (zt_1 _ (List.mem_of_getElem? (i := 55) rfl)) rfl
theorem wf_X4_30 : Cond.fieldLink "LoveLocks$Rail" 30 "LoveLocks$Rail" "panelOf" "[I" ∈ zw_tbl := zw (zt_1 _ (List.mem_of_getElem? (i := 56) rfl)) rfl
theorem wf_X6_15 : Cond.fieldLink "LoveLocks$Seeker" 15 "LoveLocks$Rail" "panelOf" "[I" ∈ zw_tbl := zw (zt_1 _ (List.mem_of_getElem? (i := 57) rfl)) rfl
theorem wf_X4_33 : Cond.fieldLink "LoveLocks$Rail" 33 "LoveLocks$Rail" "barOf" "[I" ∈ zw_tbl := zw (zt_1 _ (List.mem_of_getElem? (i := 58) rfl)) rfl
theorem wf_X4_36 : Cond.fieldLink "LoveLocks$Rail" 36 "LoveLocks$Rail" "holder" "[I" ∈ zw_tbl := zw (zt_1 _ (List.mem_of_getElem? (i := 59) rfl)) rfl
theorem wf_X1_38 : Cond.fieldLink "LoveLocks$Looter" 38 "LoveLocks$Rail" "holder" "[I" ∈ zw_tbl := zw (zt_1 _ (List.mem_of_getElem? (i := 60) rfl)) rfl
theorem wf_X6_26 : Cond.fieldLink "LoveLocks$Seeker" 26 "LoveLocks$Rail" "holder" "[I" ∈ zw_tbl := zw (zt_1 _ (List.mem_of_getElem? (i := 61) rfl)) rfl
theorem wy_X4_panels : Cond.lays "LoveLocks$Rail" "LoveLocks$Rail" "panels" "I" ∈ zw_tbl := zw (zt_1 _ (List.mem_of_getElem? (i := 62) rfl)) rfl
theorem wy_X4_barLimit : Cond.laysFinal "LoveLocks$Rail" "LoveLocks$Rail" "barLimit" "[I" ∈ zw_tbl := zw (zt_1 _ (List.mem_of_getElem? (i := 64) rfl)) rfl
theorem wy_X4_allLimit : Cond.laysFinal "LoveLocks$Rail" "LoveLocks$Rail" "allLimit" "[I" ∈ zw_tbl := zw (zt_1 _ (List.mem_of_getElem? (i := 66) rfl)) rfl
theorem wy_X4_sagLimit : Cond.laysFinal "LoveLocks$Rail" "LoveLocks$Rail" "sagLimit" "[I" ∈ zw_tbl := zw (zt_1 _ (List.mem_of_getElem? (i := 68) rfl)) rfl
theorem wy_X4_locks : Cond.lays "LoveLocks$Rail" "LoveLocks$Rail" "locks" "I" ∈ zw_tbl := zw (zt_1 _ (List.mem_of_getElem? (i := 70) rfl)) rfl
theorem wy_X4_gone : Cond.lays "LoveLocks$Rail" "LoveLocks$Rail" "gone" "I" ∈ zw_tbl := zw (zt_1 _ (List.mem_of_getElem? (i := 72) rfl)) rfl
theorem wy_X4_weight : Cond.laysFinal "LoveLocks$Rail" "LoveLocks$Rail" "weight" "[I" ∈ zw_tbl := zw (zt_1 _ (List.mem_of_getElem? (i := 74) rfl)) rfl
theorem wy_X4_kind : Cond.laysFinal "LoveLocks$Rail" "LoveLocks$Rail" "kind" "[I" ∈ zw_tbl := zw (zt_1 _ (List.mem_of_getElem? (i := 76) rfl)) rfl
theorem wy_X4_year : Cond.laysFinal "LoveLocks$Rail" "LoveLocks$Rail" "year" "[I" ∈ zw_tbl := zw (zt_1 _ (List.mem_of_getElem? (i := 78) rfl)) rfl
theorem wy_X4_panelOf : Cond.laysFinal "LoveLocks$Rail" "LoveLocks$Rail" "panelOf" "[I" ∈ zw_tbl := zw (zt_1 _ (List.mem_of_getElem? (i := 80) rfl)) rfl
theorem wy_X4_barOf : Cond.laysFinal "LoveLocks$Rail" "LoveLocks$Rail" "barOf" "[I" ∈ zw_tbl := zw (zt_1 _ (List.mem_of_getElem? (i := 82) rfl)) rfl
theorem wy_X4_holder : Cond.laysFinal "LoveLocks$Rail" "LoveLocks$Rail" "holder" "[I" ∈ zw_tbl := zw (zt_1 _ (List.mem_of_getElem? (i := 84) rfl)) rfl
theorem wa_int : Cond.arrayClass .int ∈ zw_tbl := zw (zt_1 _ (List.mem_of_getElem? (i := 87) rfl)) rfl
theorem wcl_X9_16 : Cond.classLink "LoveLocks$State" 16 "LoveLocks$Sights" ∈ zw_tbl := zw (zt_1 _ (List.mem_of_getElem? (i := 88) rfl)) rfl
theorem wit_X8 : Cond.instantiable "LoveLocks$Sights" 4 ∈ zw_tbl := zw (zt_1 _ (List.mem_of_getElem? (i := 89) rfl)) rfl
theorem wn_X9_18 : Cond.methodLinkNest "LoveLocks$State" 18 yX8_init "LoveLocks" ∈ lw_tbl := zt_1 _ (List.mem_of_getElem? (i := 90) rfl)
theorem wi_X8_init : Cond.instanceMethod yX8_init ∈ zw_tbl := zw (zt_1 _ (List.mem_of_getElem? (i := 91) rfl)) rfl
theorem wc_X8_init : Cond.code yX8_init cX8_init 1 none ∈ zw_tbl := zw (zt_1 _ (List.mem_of_getElem? (i := 92) rfl)) rfl
theorem wl_X8_3 : Cond.methodLink "LoveLocks$Sights" 3 (⟨"java/lang/Object", "<init>", "()V"⟩ : MethodName) ∈ zw_tbl := zw (zt_1 _ (List.mem_of_getElem? (i := 93) rfl)) rfl
theorem wf_X8_21 : Cond.fieldLink "LoveLocks$Sights" 21 "LoveLocks$Sights" "sights" "I" ∈ zw_tbl := zw (zt_1 _ (List.mem_of_getElem? (i := 94) rfl)) rfl
theorem wf_X11_137 : Cond.fieldLink "LoveLocks" 137 "LoveLocks$Sights" "sights" "I" ∈ zw_tbl := zw (zt_1 _ (List.mem_of_getElem? (i := 95) rfl)) rfl
theorem wf_X8_9 : Cond.fieldLink "LoveLocks$Sights" 9 "LoveLocks$Sights" "of" "[I" ∈ zw_tbl := zw (zt_1 _ (List.mem_of_getElem? (i := 96) rfl)) rfl
theorem wf_X8_15 : Cond.fieldLink "LoveLocks$Sights" 15 "LoveLocks$Sights" "least" "[I" ∈ zw_tbl := zw (zt_1 _ (List.mem_of_getElem? (i := 97) rfl)) rfl
theorem wf_X8_18 : Cond.fieldLink "LoveLocks$Sights" 18 "LoveLocks$Sights" "most" "[I" ∈ zw_tbl := zw (zt_1 _ (List.mem_of_getElem? (i := 98) rfl)) rfl
theorem wy_X8_sights : Cond.lays "LoveLocks$Sights" "LoveLocks$Sights" "sights" "I" ∈ zw_tbl := zw (zt_1 _ (List.mem_of_getElem? (i := 99) rfl)) rfl
theorem wy_X8_of : Cond.laysFinal "LoveLocks$Sights" "LoveLocks$Sights" "of" "[I" ∈ zw_tbl := zw (zt_1 _ (List.mem_of_getElem? (i := 101) rfl)) rfl
theorem wy_X8_least : Cond.laysFinal "LoveLocks$Sights" "LoveLocks$Sights" "least" "[I" ∈ zw_tbl := zw (zt_1 _ (List.mem_of_getElem? (i := 103) rfl)) rfl
theorem wy_X8_most : Cond.laysFinal "LoveLocks$Sights" "LoveLocks$Sights" "most" "[I" ∈ zw_tbl := zw (zt_1 _ (List.mem_of_getElem? (i := 105) rfl)) rfl
theorem wcl_X9_23 : Cond.classLink "LoveLocks$State" 23 "LoveLocks$Names" ∈ zw_tbl := zw (zt_1 _ (List.mem_of_getElem? (i := 108) rfl)) rfl
theorem wit_X2 : Cond.instantiable "LoveLocks$Names" 5 ∈ zw_tbl := zw (zt_1 _ (List.mem_of_getElem? (i := 109) rfl)) rfl
theorem wn_X9_25 : Cond.methodLinkNest "LoveLocks$State" 25 yX2_init "LoveLocks" ∈ lw_tbl := zt_1 _ (List.mem_of_getElem? (i := 110) rfl)
theorem wi_X2_init : Cond.instanceMethod yX2_init ∈ zw_tbl := zw (zt_1 _ (List.mem_of_getElem? (i := 111) rfl)) rfl
theorem wc_X2_init : Cond.code yX2_init cX2_init 1 none ∈ zw_tbl := zw (zt_1 _ (List.mem_of_getElem? (i := 112) rfl)) rfl
theorem wl_X2_3 : Cond.methodLink "LoveLocks$Names" 3 (⟨"java/lang/Object", "<init>", "()V"⟩ : MethodName) ∈ zw_tbl := zw (zt_1 _ (List.mem_of_getElem? (i := 113) rfl)) rfl
theorem wf_X5_27 : Cond.fieldLink "LoveLocks$Reader" 27 "LoveLocks$Names" "people" "I" ∈ zw_tbl := zw (zt_1 _ (List.mem_of_getElem? (i := 114) rfl)) rfl
theorem wf_X2_21 : Cond.fieldLink "LoveLocks$Names" 21 "LoveLocks$Names" "people" "I" ∈ zw_tbl := zw (zt_1 _ (List.mem_of_getElem? (i := 115) rfl)) rfl
theorem wf_X11_145 : Cond.fieldLink "LoveLocks" 145 "LoveLocks$Names" "people" "I" ∈ zw_tbl := zw (zt_1 _ (List.mem_of_getElem? (i := 116) rfl)) rfl
theorem wf_X5_34 : Cond.fieldLink "LoveLocks$Reader" 34 "LoveLocks$Names" "lettered" "I" ∈ zw_tbl := zw (zt_1 _ (List.mem_of_getElem? (i := 117) rfl)) rfl
theorem wf_X2_25 : Cond.fieldLink "LoveLocks$Names" 25 "LoveLocks$Names" "lettered" "I" ∈ zw_tbl := zw (zt_1 _ (List.mem_of_getElem? (i := 118) rfl)) rfl
theorem wf_X11_150 : Cond.fieldLink "LoveLocks" 150 "LoveLocks$Names" "lettered" "I" ∈ zw_tbl := zw (zt_1 _ (List.mem_of_getElem? (i := 119) rfl)) rfl
theorem wf_X2_9 : Cond.fieldLink "LoveLocks$Names" 9 "LoveLocks$Names" "name" "[J" ∈ zw_tbl := zw (zt_1 _ (List.mem_of_getElem? (i := 120) rfl)) rfl
theorem wf_X2_15 : Cond.fieldLink "LoveLocks$Names" 15 "LoveLocks$Names" "first" "[J" ∈ zw_tbl := zw (zt_1 _ (List.mem_of_getElem? (i := 121) rfl)) rfl
theorem wf_X2_18 : Cond.fieldLink "LoveLocks$Names" 18 "LoveLocks$Names" "second" "[J" ∈ zw_tbl := zw (zt_1 _ (List.mem_of_getElem? (i := 122) rfl)) rfl
theorem wy_X2_people : Cond.lays "LoveLocks$Names" "LoveLocks$Names" "people" "I" ∈ zw_tbl := zw (zt_1 _ (List.mem_of_getElem? (i := 123) rfl)) rfl
theorem wy_X2_lettered : Cond.lays "LoveLocks$Names" "LoveLocks$Names" "lettered" "I" ∈ zw_tbl := zw (zt_1 _ (List.mem_of_getElem? (i := 125) rfl)) rfl
theorem wy_X2_name : Cond.laysFinal "LoveLocks$Names" "LoveLocks$Names" "name" "[J" ∈ zw_tbl := zw (zt_1 _ (List.mem_of_getElem? (i := 127) rfl)) rfl
theorem wy_X2_first : Cond.laysFinal "LoveLocks$Names" "LoveLocks$Names" "first" "[J" ∈ zw_tbl := zw (zt_1 _ (List.mem_of_getElem? (i := 129) rfl)) rfl
theorem wy_X2_second : Cond.laysFinal "LoveLocks$Names" "LoveLocks$Names" "second" "[J" ∈ zw_tbl := zw (zt_1 _ (List.mem_of_getElem? (i := 131) rfl)) rfl
theorem wa_long : Cond.arrayClass .long ∈ zw_tbl := zw (zt_1 _ (List.mem_of_getElem? (i := 134) rfl)) rfl
theorem wcl_X9_30 : Cond.classLink "LoveLocks$State" 30 "LoveLocks$Nights" ∈ zw_tbl := zw (zt_1 _ (List.mem_of_getElem? (i := 135) rfl)) rfl
theorem wit_X3 : Cond.instantiable "LoveLocks$Nights" 9 ∈ zw_tbl := zw (zt_1 _ (List.mem_of_getElem? (i := 136) rfl)) rfl
theorem wn_X9_32 : Cond.methodLinkNest "LoveLocks$State" 32 yX3_init "LoveLocks" ∈ lw_tbl := zt_1 _ (List.mem_of_getElem? (i := 137) rfl)
theorem wi_X3_init : Cond.instanceMethod yX3_init ∈ zw_tbl := zw (zt_1 _ (List.mem_of_getElem? (i := 138) rfl)) rfl
theorem wc_X3_init : Cond.code yX3_init cX3_init 1 none ∈ zw_tbl := zw (zt_1 _ (List.mem_of_getElem? (i := 139) rfl)) rfl
theorem wl_X3_3 : Cond.methodLink "LoveLocks$Nights" 3 (⟨"java/lang/Object", "<init>", "()V"⟩ : MethodName) ∈ zw_tbl := zw (zt_1 _ (List.mem_of_getElem? (i := 140) rfl)) rfl
theorem wcl_X3_25 : Cond.classLink "LoveLocks$Nights" 25 "[[I" ∈ zw_tbl := zw (zt_1 _ (List.mem_of_getElem? (i := 141) rfl)) rfl
theorem wao_II : Cond.arrayOver (.array .int) ∈ lw_tbl := zt_1 _ (List.mem_of_getElem? (i := 142) rfl)
theorem wf_X3_9 : Cond.fieldLink "LoveLocks$Nights" 9 "LoveLocks$Nights" "nightly" "I" ∈ zw_tbl := zw (zt_1 _ (List.mem_of_getElem? (i := 143) rfl)) rfl
theorem wf_X3_15 : Cond.fieldLink "LoveLocks$Nights" 15 "LoveLocks$Nights" "risk" "[I" ∈ zw_tbl := zw (zt_1 _ (List.mem_of_getElem? (i := 144) rfl)) rfl
theorem wf_X3_19 : Cond.fieldLink "LoveLocks$Nights" 19 "LoveLocks$Nights" "grows" "[I" ∈ zw_tbl := zw (zt_1 _ (List.mem_of_getElem? (i := 145) rfl)) rfl
theorem wf_X3_22 : Cond.fieldLink "LoveLocks$Nights" 22 "LoveLocks$Nights" "till" "[I" ∈ zw_tbl := zw (zt_1 _ (List.mem_of_getElem? (i := 146) rfl)) rfl
theorem wf_X3_27 : Cond.fieldLink "LoveLocks$Nights" 27 "LoveLocks$Nights" "cost" "[[I" ∈ zw_tbl := zw (zt_1 _ (List.mem_of_getElem? (i := 147) rfl)) rfl
theorem wf_X3_30 : Cond.fieldLink "LoveLocks$Nights" 30 "LoveLocks$Nights" "choice" "[[I" ∈ zw_tbl := zw (zt_1 _ (List.mem_of_getElem? (i := 148) rfl)) rfl
theorem wf_X3_33 : Cond.fieldLink "LoveLocks$Nights" 33 "LoveLocks$Nights" "waiting" "[I" ∈ zw_tbl := zw (zt_1 _ (List.mem_of_getElem? (i := 149) rfl)) rfl
theorem wf_X3_36 : Cond.fieldLink "LoveLocks$Nights" 36 "LoveLocks$Nights" "night" "[I" ∈ zw_tbl := zw (zt_1 _ (List.mem_of_getElem? (i := 150) rfl)) rfl
theorem wf_X3_49 : Cond.fieldLink "LoveLocks$Nights" 49 "LoveLocks$Nights" "inAll" "I" ∈ zw_tbl := zw (zt_1 _ (List.mem_of_getElem? (i := 151) rfl)) rfl
theorem wy_X3_nightly : Cond.lays "LoveLocks$Nights" "LoveLocks$Nights" "nightly" "I" ∈ zw_tbl := zw (zt_1 _ (List.mem_of_getElem? (i := 152) rfl)) rfl
theorem wy_X3_risk : Cond.laysFinal "LoveLocks$Nights" "LoveLocks$Nights" "risk" "[I" ∈ zw_tbl := zw (zt_1 _ (List.mem_of_getElem? (i := 154) rfl)) rfl
theorem wy_X3_grows : Cond.laysFinal "LoveLocks$Nights" "LoveLocks$Nights" "grows" "[I" ∈ zw_tbl := zw (zt_1 _ (List.mem_of_getElem? (i := 156) rfl)) rfl
theorem wy_X3_till : Cond.laysFinal "LoveLocks$Nights" "LoveLocks$Nights" "till" "[I" ∈ zw_tbl := zw (zt_1 _ (List.mem_of_getElem? (i := 158) rfl)) rfl
theorem wy_X3_cost : Cond.laysFinal "LoveLocks$Nights" "LoveLocks$Nights" "cost" "[[I" ∈ zw_tbl := zw (zt_1 _ (List.mem_of_getElem? (i := 160) rfl)) rfl
theorem wy_X3_choice : Cond.laysFinal "LoveLocks$Nights" "LoveLocks$Nights" "choice" "[[I" ∈ zw_tbl := zw (zt_1 _ (List.mem_of_getElem? (i := 162) rfl)) rfl
theorem wy_X3_waiting : Cond.laysFinal "LoveLocks$Nights" "LoveLocks$Nights" "waiting" "[I" ∈ zw_tbl := zw (zt_1 _ (List.mem_of_getElem? (i := 164) rfl)) rfl
theorem wy_X3_night : Cond.laysFinal "LoveLocks$Nights" "LoveLocks$Nights" "night" "[I" ∈ zw_tbl := zw (zt_1 _ (List.mem_of_getElem? (i := 166) rfl)) rfl
theorem wy_X3_inAll : Cond.lays "LoveLocks$Nights" "LoveLocks$Nights" "inAll" "I" ∈ zw_tbl := zw (zt_1 _ (List.mem_of_getElem? (i := 168) rfl)) rfl
theorem wcl_X9_37 : Cond.classLink "LoveLocks$State" 37 "LoveLocks$Growth" ∈ zw_tbl := zw (zt_1 _ (List.mem_of_getElem? (i := 171) rfl)) rfl
theorem wit_X0 : Cond.instantiable "LoveLocks$Growth" 4 ∈ zw_tbl := zw (zt_1 _ (List.mem_of_getElem? (i := 172) rfl)) rfl
theorem wl_X9_39 : Cond.methodLink "LoveLocks$State" 39 yX0_init ∈ zw_tbl := zw (zt_1 _ (List.mem_of_getElem? (i := 173) rfl)) rfl
theorem wi_X0_init : Cond.instanceMethod yX0_init ∈ zw_tbl := zw (zt_1 _ (List.mem_of_getElem? (i := 174) rfl)) rfl
theorem wc_X0_init : Cond.code yX0_init cX0_init 1 none ∈ zw_tbl := zw (zt_1 _ (List.mem_of_getElem? (i := 175) rfl)) rfl
theorem wl_X0_3 : Cond.methodLink "LoveLocks$Growth" 3 (⟨"java/lang/Object", "<init>", "()V"⟩ : MethodName) ∈ zw_tbl := zw (zt_1 _ (List.mem_of_getElem? (i := 176) rfl)) rfl
theorem wk_X0_18 : Cond.constant "LoveLocks$Growth" 18 (1000000) ∈ zw_tbl := zw (zt_1 _ (List.mem_of_getElem? (i := 177) rfl)) rfl
theorem wl_X0_19 : Cond.methodLink "LoveLocks$Growth" 19 yJ7_fill_53178 ∈ zw_tbl := zw (zt_1 _ (List.mem_of_getElem? (i := 178) rfl)) rfl
theorem wst_J7_fill_53178 : Cond.static yJ7_fill_53178 ∈ zw_tbl := zw (zt_1 _ (List.mem_of_getElem? (i := 179) rfl)) rfl
theorem wc_J7_fill_53178 : Cond.code yJ7_fill_53178 cJ7_fill_53178 4 none ∈ zw_tbl := zw (zt_1 _ (List.mem_of_getElem? (i := 180) rfl)) rfl
theorem wf_X0_9 : Cond.fieldLink "LoveLocks$Growth" 9 "LoveLocks$Growth" "least" "[I" ∈ zw_tbl := zw (zt_1 _ (List.mem_of_getElem? (i := 181) rfl)) rfl
theorem wf_X0_15 : Cond.fieldLink "LoveLocks$Growth" 15 "LoveLocks$Growth" "most" "[I" ∈ zw_tbl := zw (zt_1 _ (List.mem_of_getElem? (i := 182) rfl)) rfl
theorem wy_X0_least : Cond.laysFinal "LoveLocks$Growth" "LoveLocks$Growth" "least" "[I" ∈ zw_tbl := zw (zt_1 _ (List.mem_of_getElem? (i := 183) rfl)) rfl
theorem wy_X0_most : Cond.laysFinal "LoveLocks$Growth" "LoveLocks$Growth" "most" "[I" ∈ zw_tbl := zw (zt_1 _ (List.mem_of_getElem? (i := 185) rfl)) rfl
theorem wy_X0_lowest : Cond.lays "LoveLocks$Growth" "LoveLocks$Growth" "lowest" "I" ∈ zw_tbl := zw (zt_1 _ (List.mem_of_getElem? (i := 187) rfl)) rfl
theorem wy_X0_highest : Cond.lays "LoveLocks$Growth" "LoveLocks$Growth" "highest" "I" ∈ zw_tbl := zw (zt_1 _ (List.mem_of_getElem? (i := 189) rfl)) rfl
theorem wf_X9_10 : Cond.fieldLink "LoveLocks$State" 10 "LoveLocks$State" "rail" "LLoveLocks$Rail;" ∈ zw_tbl := zw (zt_1 _ (List.mem_of_getElem? (i := 192) rfl)) rfl
theorem wf_X11_59 : Cond.fieldLink "LoveLocks" 59 "LoveLocks$State" "rail" "LLoveLocks$Rail;" ∈ zw_tbl := zw (zt_1 _ (List.mem_of_getElem? (i := 193) rfl)) rfl
theorem wf_X9_19 : Cond.fieldLink "LoveLocks$State" 19 "LoveLocks$State" "sights" "LLoveLocks$Sights;" ∈ zw_tbl := zw (zt_1 _ (List.mem_of_getElem? (i := 194) rfl)) rfl
theorem wf_X11_133 : Cond.fieldLink "LoveLocks" 133 "LoveLocks$State" "sights" "LLoveLocks$Sights;" ∈ zw_tbl := zw (zt_1 _ (List.mem_of_getElem? (i := 195) rfl)) rfl
theorem wf_X9_26 : Cond.fieldLink "LoveLocks$State" 26 "LoveLocks$State" "names" "LLoveLocks$Names;" ∈ zw_tbl := zw (zt_1 _ (List.mem_of_getElem? (i := 196) rfl)) rfl
theorem wf_X11_141 : Cond.fieldLink "LoveLocks" 141 "LoveLocks$State" "names" "LLoveLocks$Names;" ∈ zw_tbl := zw (zt_1 _ (List.mem_of_getElem? (i := 197) rfl)) rfl
theorem wf_X9_33 : Cond.fieldLink "LoveLocks$State" 33 "LoveLocks$State" "nights" "LLoveLocks$Nights;" ∈ zw_tbl := zw (zt_1 _ (List.mem_of_getElem? (i := 198) rfl)) rfl
theorem wf_X11_220 : Cond.fieldLink "LoveLocks" 220 "LoveLocks$State" "nights" "LLoveLocks$Nights;" ∈ zw_tbl := zw (zt_1 _ (List.mem_of_getElem? (i := 199) rfl)) rfl
theorem wf_X9_40 : Cond.fieldLink "LoveLocks$State" 40 "LoveLocks$State" "growth" "LLoveLocks$Growth;" ∈ zw_tbl := zw (zt_1 _ (List.mem_of_getElem? (i := 200) rfl)) rfl
theorem wy_X9_rail : Cond.laysFinal "LoveLocks$State" "LoveLocks$State" "rail" "LLoveLocks$Rail;" ∈ zw_tbl := zw (zt_1 _ (List.mem_of_getElem? (i := 201) rfl)) rfl
theorem wy_X9_sights : Cond.laysFinal "LoveLocks$State" "LoveLocks$State" "sights" "LLoveLocks$Sights;" ∈ zw_tbl := zw (zt_1 _ (List.mem_of_getElem? (i := 203) rfl)) rfl
theorem wy_X9_names : Cond.laysFinal "LoveLocks$State" "LoveLocks$State" "names" "LLoveLocks$Names;" ∈ zw_tbl := zw (zt_1 _ (List.mem_of_getElem? (i := 205) rfl)) rfl
theorem wy_X9_nights : Cond.laysFinal "LoveLocks$State" "LoveLocks$State" "nights" "LLoveLocks$Nights;" ∈ zw_tbl := zw (zt_1 _ (List.mem_of_getElem? (i := 207) rfl)) rfl
theorem wy_X9_growth : Cond.laysFinal "LoveLocks$State" "LoveLocks$State" "growth" "LLoveLocks$Growth;" ∈ zw_tbl := zw (zt_1 _ (List.mem_of_getElem? (i := 209) rfl)) rfl
theorem wcl_X11_19 : Cond.classLink "LoveLocks" 19 "LoveLocks$Reader" ∈ zw_tbl := zw (zt_1 _ (List.mem_of_getElem? (i := 212) rfl)) rfl
theorem wit_X5 : Cond.instantiable "LoveLocks$Reader" 8 ∈ zw_tbl := zw (zt_1 _ (List.mem_of_getElem? (i := 213) rfl)) rfl
theorem wn_X11_21 : Cond.methodLinkNest "LoveLocks" 21 yX5_init "LoveLocks" ∈ lw_tbl := zt_1 _ (List.mem_of_getElem? (i := 214) rfl)
theorem wi_X5_init : Cond.instanceMethod yX5_init ∈ zw_tbl := zw (zt_1 _ (List.mem_of_getElem? (i := 215) rfl)) rfl
theorem wc_X5_init : Cond.code yX5_init cX5_init 1 none ∈ zw_tbl := zw (zt_1 _ (List.mem_of_getElem? (i := 216) rfl)) rfl
theorem wl_X5_3 : Cond.methodLink "LoveLocks$Reader" 3 (⟨"java/lang/Object", "<init>", "()V"⟩ : MethodName) ∈ zw_tbl := zw (zt_1 _ (List.mem_of_getElem? (i := 217) rfl)) rfl
theorem wf_X5_45 : Cond.fieldLink "LoveLocks$Reader" 45 "LoveLocks$Reader" "ways" "J" ∈ zw_tbl := zw (zt_1 _ (List.mem_of_getElem? (i := 218) rfl)) rfl
theorem wf_X11_211 : Cond.fieldLink "LoveLocks" 211 "LoveLocks$Reader" "ways" "J" ∈ zw_tbl := zw (zt_1 _ (List.mem_of_getElem? (i := 219) rfl)) rfl
theorem wf_X5_33 : Cond.fieldLink "LoveLocks$Reader" 33 "LoveLocks$Reader" "people" "I" ∈ zw_tbl := zw (zt_1 _ (List.mem_of_getElem? (i := 220) rfl)) rfl
theorem wf_X5_37 : Cond.fieldLink "LoveLocks$Reader" 37 "LoveLocks$Reader" "lettered" "I" ∈ zw_tbl := zw (zt_1 _ (List.mem_of_getElem? (i := 221) rfl)) rfl
theorem wf_X5_9 : Cond.fieldLink "LoveLocks$Reader" 9 "LoveLocks$Reader" "one" "[I" ∈ zw_tbl := zw (zt_1 _ (List.mem_of_getElem? (i := 222) rfl)) rfl
theorem wf_X5_15 : Cond.fieldLink "LoveLocks$Reader" 15 "LoveLocks$Reader" "other" "[I" ∈ zw_tbl := zw (zt_1 _ (List.mem_of_getElem? (i := 223) rfl)) rfl
theorem wf_X5_18 : Cond.fieldLink "LoveLocks$Reader" 18 "LoveLocks$Reader" "pair" "[I" ∈ zw_tbl := zw (zt_1 _ (List.mem_of_getElem? (i := 224) rfl)) rfl
theorem wf_X5_21 : Cond.fieldLink "LoveLocks$Reader" 21 "LoveLocks$Reader" "some" "[I" ∈ zw_tbl := zw (zt_1 _ (List.mem_of_getElem? (i := 225) rfl)) rfl
theorem wf_X5_24 : Cond.fieldLink "LoveLocks$Reader" 24 "LoveLocks$Reader" "all" "[I" ∈ zw_tbl := zw (zt_1 _ (List.mem_of_getElem? (i := 226) rfl)) rfl
theorem wy_X5_ways : Cond.lays "LoveLocks$Reader" "LoveLocks$Reader" "ways" "J" ∈ zw_tbl := zw (zt_1 _ (List.mem_of_getElem? (i := 227) rfl)) rfl
theorem wy_X5_people : Cond.lays "LoveLocks$Reader" "LoveLocks$Reader" "people" "I" ∈ zw_tbl := zw (zt_1 _ (List.mem_of_getElem? (i := 229) rfl)) rfl
theorem wy_X5_lettered : Cond.lays "LoveLocks$Reader" "LoveLocks$Reader" "lettered" "I" ∈ zw_tbl := zw (zt_1 _ (List.mem_of_getElem? (i := 231) rfl)) rfl
theorem wy_X5_one : Cond.laysFinal "LoveLocks$Reader" "LoveLocks$Reader" "one" "[I" ∈ zw_tbl := zw (zt_1 _ (List.mem_of_getElem? (i := 233) rfl)) rfl
theorem wy_X5_other : Cond.laysFinal "LoveLocks$Reader" "LoveLocks$Reader" "other" "[I" ∈ zw_tbl := zw (zt_1 _ (List.mem_of_getElem? (i := 235) rfl)) rfl
theorem wy_X5_pair : Cond.laysFinal "LoveLocks$Reader" "LoveLocks$Reader" "pair" "[I" ∈ zw_tbl := zw (zt_1 _ (List.mem_of_getElem? (i := 237) rfl)) rfl
theorem wy_X5_some : Cond.laysFinal "LoveLocks$Reader" "LoveLocks$Reader" "some" "[I" ∈ zw_tbl := zw (zt_1 _ (List.mem_of_getElem? (i := 239) rfl)) rfl
theorem wy_X5_all : Cond.laysFinal "LoveLocks$Reader" "LoveLocks$Reader" "all" "[I" ∈ zw_tbl := zw (zt_2 _ (List.mem_of_getElem? (i := 1) rfl)) rfl
theorem wcl_X11_26 : Cond.classLink "LoveLocks" 26 "LoveLocks$Seeker" ∈ zw_tbl := zw (zt_2 _ (List.mem_of_getElem? (i := 4) rfl)) rfl
theorem wit_X6 : Cond.instantiable "LoveLocks$Seeker" 1 ∈ zw_tbl := zw (zt_2 _ (List.mem_of_getElem? (i := 5) rfl)) rfl
theorem wn_X11_28 : Cond.methodLinkNest "LoveLocks" 28 yX6_init "LoveLocks" ∈ lw_tbl := zt_2 _ (List.mem_of_getElem? (i := 6) rfl)
theorem wi_X6_init : Cond.instanceMethod yX6_init ∈ zw_tbl := zw (zt_2 _ (List.mem_of_getElem? (i := 7) rfl)) rfl
theorem wc_X6_init : Cond.code yX6_init cX6_init 1 none ∈ zw_tbl := zw (zt_2 _ (List.mem_of_getElem? (i := 8) rfl)) rfl
theorem wl_X6_3 : Cond.methodLink "LoveLocks$Seeker" 3 (⟨"java/lang/Object", "<init>", "()V"⟩ : MethodName) ∈ zw_tbl := zw (zt_2 _ (List.mem_of_getElem? (i := 9) rfl)) rfl
theorem wf_X6_11 : Cond.fieldLink "LoveLocks$Seeker" 11 "LoveLocks$Seeker" "yes" "[I" ∈ zw_tbl := zw (zt_2 _ (List.mem_of_getElem? (i := 10) rfl)) rfl
theorem wy_X6_yes : Cond.laysFinal "LoveLocks$Seeker" "LoveLocks$Seeker" "yes" "[I" ∈ zw_tbl := zw (zt_2 _ (List.mem_of_getElem? (i := 11) rfl)) rfl
theorem wcl_X11_33 : Cond.classLink "LoveLocks" 33 "LoveLocks$Looter" ∈ zw_tbl := zw (zt_2 _ (List.mem_of_getElem? (i := 14) rfl)) rfl
theorem wit_X1 : Cond.instantiable "LoveLocks$Looter" 3 ∈ zw_tbl := zw (zt_2 _ (List.mem_of_getElem? (i := 15) rfl)) rfl
theorem wn_X11_35 : Cond.methodLinkNest "LoveLocks" 35 yX1_init "LoveLocks" ∈ lw_tbl := zt_2 _ (List.mem_of_getElem? (i := 16) rfl)
theorem wi_X1_init : Cond.instanceMethod yX1_init ∈ zw_tbl := zw (zt_2 _ (List.mem_of_getElem? (i := 17) rfl)) rfl
theorem wc_X1_init : Cond.code yX1_init cX1_init 1 none ∈ zw_tbl := zw (zt_2 _ (List.mem_of_getElem? (i := 18) rfl)) rfl
theorem wl_X1_3 : Cond.methodLink "LoveLocks$Looter" 3 (⟨"java/lang/Object", "<init>", "()V"⟩ : MethodName) ∈ zw_tbl := zw (zt_2 _ (List.mem_of_getElem? (i := 19) rfl)) rfl
theorem wf_X1_9 : Cond.fieldLink "LoveLocks$Looter" 9 "LoveLocks$Looter" "loots" "I" ∈ zw_tbl := zw (zt_2 _ (List.mem_of_getElem? (i := 20) rfl)) rfl
theorem wf_X11_286 : Cond.fieldLink "LoveLocks" 286 "LoveLocks$Looter" "loots" "I" ∈ zw_tbl := zw (zt_2 _ (List.mem_of_getElem? (i := 21) rfl)) rfl
theorem wf_X1_15 : Cond.fieldLink "LoveLocks$Looter" 15 "LoveLocks$Looter" "inAll" "I" ∈ zw_tbl := zw (zt_2 _ (List.mem_of_getElem? (i := 22) rfl)) rfl
theorem wf_X11_289 : Cond.fieldLink "LoveLocks" 289 "LoveLocks$Looter" "inAll" "I" ∈ zw_tbl := zw (zt_2 _ (List.mem_of_getElem? (i := 23) rfl)) rfl
theorem wf_X1_18 : Cond.fieldLink "LoveLocks$Looter" 18 "LoveLocks$Looter" "inSome" "I" ∈ zw_tbl := zw (zt_2 _ (List.mem_of_getElem? (i := 24) rfl)) rfl
theorem wf_X11_292 : Cond.fieldLink "LoveLocks" 292 "LoveLocks$Looter" "inSome" "I" ∈ zw_tbl := zw (zt_2 _ (List.mem_of_getElem? (i := 25) rfl)) rfl
theorem wy_X1_loots : Cond.lays "LoveLocks$Looter" "LoveLocks$Looter" "loots" "I" ∈ zw_tbl := zw (zt_2 _ (List.mem_of_getElem? (i := 26) rfl)) rfl
theorem wy_X1_inAll : Cond.lays "LoveLocks$Looter" "LoveLocks$Looter" "inAll" "I" ∈ zw_tbl := zw (zt_2 _ (List.mem_of_getElem? (i := 28) rfl)) rfl
theorem wy_X1_inSome : Cond.lays "LoveLocks$Looter" "LoveLocks$Looter" "inSome" "I" ∈ zw_tbl := zw (zt_2 _ (List.mem_of_getElem? (i := 30) rfl)) rfl
theorem wcl_X11_40 : Cond.classLink "LoveLocks" 40 "LoveLocks$Tape" ∈ zw_tbl := zw (zt_2 _ (List.mem_of_getElem? (i := 33) rfl)) rfl
theorem wit_X10 : Cond.instantiable "LoveLocks$Tape" 4 ∈ zw_tbl := zw (zt_2 _ (List.mem_of_getElem? (i := 34) rfl)) rfl
theorem wn_X11_42 : Cond.methodLinkNest "LoveLocks" 42 yX10_init "LoveLocks" ∈ lw_tbl := zt_2 _ (List.mem_of_getElem? (i := 35) rfl)
theorem wi_X10_init : Cond.instanceMethod yX10_init ∈ zw_tbl := zw (zt_2 _ (List.mem_of_getElem? (i := 36) rfl)) rfl
theorem wc_X10_init : Cond.code yX10_init cX10_init 1 none ∈ zw_tbl := zw (zt_2 _ (List.mem_of_getElem? (i := 37) rfl)) rfl
theorem wl_X10_3 : Cond.methodLink "LoveLocks$Tape" 3 (⟨"java/lang/Object", "<init>", "()V"⟩ : MethodName) ∈ zw_tbl := zw (zt_2 _ (List.mem_of_getElem? (i := 38) rfl)) rfl
theorem wf_X10_21 : Cond.fieldLink "LoveLocks$Tape" 21 "LoveLocks$Tape" "length" "I" ∈ zw_tbl := zw (zt_2 _ (List.mem_of_getElem? (i := 39) rfl)) rfl
theorem wf_X11_180 : Cond.fieldLink "LoveLocks" 180 "LoveLocks$Tape" "length" "I" ∈ zw_tbl := zw (zt_2 _ (List.mem_of_getElem? (i := 40) rfl)) rfl
theorem wf_X10_33 : Cond.fieldLink "LoveLocks$Tape" 33 "LoveLocks$Tape" "first" "J" ∈ zw_tbl := zw (zt_2 _ (List.mem_of_getElem? (i := 41) rfl)) rfl
theorem wf_X11_183 : Cond.fieldLink "LoveLocks" 183 "LoveLocks$Tape" "first" "J" ∈ zw_tbl := zw (zt_2 _ (List.mem_of_getElem? (i := 42) rfl)) rfl
theorem wf_X10_37 : Cond.fieldLink "LoveLocks$Tape" 37 "LoveLocks$Tape" "second" "J" ∈ zw_tbl := zw (zt_2 _ (List.mem_of_getElem? (i := 43) rfl)) rfl
theorem wf_X11_194 : Cond.fieldLink "LoveLocks" 194 "LoveLocks$Tape" "second" "J" ∈ zw_tbl := zw (zt_2 _ (List.mem_of_getElem? (i := 44) rfl)) rfl
theorem wf_X10_9 : Cond.fieldLink "LoveLocks$Tape" 9 "LoveLocks$Tape" "bytes" "[B" ∈ zw_tbl := zw (zt_2 _ (List.mem_of_getElem? (i := 45) rfl)) rfl
theorem wy_X10_length : Cond.lays "LoveLocks$Tape" "LoveLocks$Tape" "length" "I" ∈ zw_tbl := zw (zt_2 _ (List.mem_of_getElem? (i := 46) rfl)) rfl
theorem wy_X10_first : Cond.lays "LoveLocks$Tape" "LoveLocks$Tape" "first" "J" ∈ zw_tbl := zw (zt_2 _ (List.mem_of_getElem? (i := 48) rfl)) rfl
theorem wy_X10_second : Cond.lays "LoveLocks$Tape" "LoveLocks$Tape" "second" "J" ∈ zw_tbl := zw (zt_2 _ (List.mem_of_getElem? (i := 50) rfl)) rfl
theorem wy_X10_bytes : Cond.laysFinal "LoveLocks$Tape" "LoveLocks$Tape" "bytes" "[B" ∈ zw_tbl := zw (zt_2 _ (List.mem_of_getElem? (i := 52) rfl)) rfl
theorem wa_byte : Cond.arrayClass .byte ∈ zw_tbl := zw (zt_2 _ (List.mem_of_getElem? (i := 55) rfl)) rfl
theorem wcl_X11_47 : Cond.classLink "LoveLocks" 47 "LoveLocks$Sheets" ∈ zw_tbl := zw (zt_2 _ (List.mem_of_getElem? (i := 56) rfl)) rfl
theorem wit_X7 : Cond.instantiable "LoveLocks$Sheets" 3 ∈ zw_tbl := zw (zt_2 _ (List.mem_of_getElem? (i := 57) rfl)) rfl
theorem wl_X11_49 : Cond.methodLink "LoveLocks" 49 yX7_init ∈ zw_tbl := zw (zt_2 _ (List.mem_of_getElem? (i := 58) rfl)) rfl
theorem wi_X7_init : Cond.instanceMethod yX7_init ∈ zw_tbl := zw (zt_2 _ (List.mem_of_getElem? (i := 59) rfl)) rfl
theorem wc_X7_init : Cond.code yX7_init cX7_init 1 none ∈ zw_tbl := zw (zt_2 _ (List.mem_of_getElem? (i := 60) rfl)) rfl
theorem wl_X7_3 : Cond.methodLink "LoveLocks$Sheets" 3 (⟨"java/lang/Object", "<init>", "()V"⟩ : MethodName) ∈ zw_tbl := zw (zt_2 _ (List.mem_of_getElem? (i := 61) rfl)) rfl
theorem wcl_X7_18 : Cond.classLink "LoveLocks$Sheets" 18 "[[I" ∈ zw_tbl := zw (zt_2 _ (List.mem_of_getElem? (i := 62) rfl)) rfl
theorem wl_X7_23 : Cond.methodLink "LoveLocks$Sheets" 23 yJ7_fill_53178 ∈ zw_tbl := zw (zt_2 _ (List.mem_of_getElem? (i := 63) rfl)) rfl
theorem wf_X7_9 : Cond.fieldLink "LoveLocks$Sheets" 9 "LoveLocks$Sheets" "lane" "[I" ∈ zw_tbl := zw (zt_2 _ (List.mem_of_getElem? (i := 64) rfl)) rfl
theorem wf_X7_15 : Cond.fieldLink "LoveLocks$Sheets" 15 "LoveLocks$Sheets" "size" "[I" ∈ zw_tbl := zw (zt_2 _ (List.mem_of_getElem? (i := 65) rfl)) rfl
theorem wf_X7_20 : Cond.fieldLink "LoveLocks$Sheets" 20 "LoveLocks$Sheets" "items" "[[I" ∈ zw_tbl := zw (zt_2 _ (List.mem_of_getElem? (i := 66) rfl)) rfl
theorem wy_X7_lane : Cond.laysFinal "LoveLocks$Sheets" "LoveLocks$Sheets" "lane" "[I" ∈ zw_tbl := zw (zt_2 _ (List.mem_of_getElem? (i := 67) rfl)) rfl
theorem wy_X7_size : Cond.laysFinal "LoveLocks$Sheets" "LoveLocks$Sheets" "size" "[I" ∈ zw_tbl := zw (zt_2 _ (List.mem_of_getElem? (i := 69) rfl)) rfl
theorem wy_X7_items : Cond.laysFinal "LoveLocks$Sheets" "LoveLocks$Sheets" "items" "[[I" ∈ zw_tbl := zw (zt_2 _ (List.mem_of_getElem? (i := 71) rfl)) rfl
theorem wf_X11_10 : Cond.fieldLink "LoveLocks" 10 "LoveLocks" "now" "LLoveLocks$State;" ∈ zw_tbl := zw (zt_2 _ (List.mem_of_getElem? (i := 74) rfl)) rfl
theorem wf_X11_16 : Cond.fieldLink "LoveLocks" 16 "LoveLocks" "kept" "LLoveLocks$State;" ∈ zw_tbl := zw (zt_2 _ (List.mem_of_getElem? (i := 75) rfl)) rfl
theorem wf_X11_299 : Cond.fieldLink "LoveLocks" 299 "LoveLocks" "hasImage" "Z" ∈ zw_tbl := zw (zt_2 _ (List.mem_of_getElem? (i := 76) rfl)) rfl
theorem wf_X11_22 : Cond.fieldLink "LoveLocks" 22 "LoveLocks" "reader" "LLoveLocks$Reader;" ∈ zw_tbl := zw (zt_2 _ (List.mem_of_getElem? (i := 77) rfl)) rfl
theorem wf_X11_29 : Cond.fieldLink "LoveLocks" 29 "LoveLocks" "seeker" "LLoveLocks$Seeker;" ∈ zw_tbl := zw (zt_2 _ (List.mem_of_getElem? (i := 78) rfl)) rfl
theorem wf_X11_36 : Cond.fieldLink "LoveLocks" 36 "LoveLocks" "looter" "LLoveLocks$Looter;" ∈ zw_tbl := zw (zt_2 _ (List.mem_of_getElem? (i := 79) rfl)) rfl
theorem wf_X11_43 : Cond.fieldLink "LoveLocks" 43 "LoveLocks" "tape" "LLoveLocks$Tape;" ∈ zw_tbl := zw (zt_2 _ (List.mem_of_getElem? (i := 80) rfl)) rfl
theorem wf_X11_50 : Cond.fieldLink "LoveLocks" 50 "LoveLocks" "sheets" "LLoveLocks$Sheets;" ∈ zw_tbl := zw (zt_2 _ (List.mem_of_getElem? (i := 81) rfl)) rfl
theorem wy_X11_now : Cond.laysFinal "LoveLocks" "LoveLocks" "now" "LLoveLocks$State;" ∈ zw_tbl := zw (zt_2 _ (List.mem_of_getElem? (i := 82) rfl)) rfl
theorem wy_X11_kept : Cond.laysFinal "LoveLocks" "LoveLocks" "kept" "LLoveLocks$State;" ∈ zw_tbl := zw (zt_2 _ (List.mem_of_getElem? (i := 84) rfl)) rfl
theorem wy_X11_hasImage : Cond.lays "LoveLocks" "LoveLocks" "hasImage" "Z" ∈ zw_tbl := zw (zt_2 _ (List.mem_of_getElem? (i := 86) rfl)) rfl
theorem wy_X11_reader : Cond.laysFinal "LoveLocks" "LoveLocks" "reader" "LLoveLocks$Reader;" ∈ zw_tbl := zw (zt_2 _ (List.mem_of_getElem? (i := 88) rfl)) rfl
theorem wy_X11_seeker : Cond.laysFinal "LoveLocks" "LoveLocks" "seeker" "LLoveLocks$Seeker;" ∈ zw_tbl := zw (zt_2 _ (List.mem_of_getElem? (i := 90) rfl)) rfl
theorem wy_X11_looter : Cond.laysFinal "LoveLocks" "LoveLocks" "looter" "LLoveLocks$Looter;" ∈ zw_tbl := zw (zt_2 _ (List.mem_of_getElem? (i := 92) rfl)) rfl
theorem wy_X11_tape : Cond.laysFinal "LoveLocks" "LoveLocks" "tape" "LLoveLocks$Tape;" ∈ zw_tbl := zw (zt_2 _ (List.mem_of_getElem? (i := 94) rfl)) rfl
theorem wy_X11_sheets : Cond.laysFinal "LoveLocks" "LoveLocks" "sheets" "LLoveLocks$Sheets;" ∈ zw_tbl := zw (zt_2 _ (List.mem_of_getElem? (i := 96) rfl)) rfl
theorem wl_L_25 : Cond.methodLink "LoveLocksLaw" 25 yX11_hangOn ∈ zw_tbl := zw (zt_2 _ (List.mem_of_getElem? (i := 99) rfl)) rfl
theorem wi_X11_hangOn : Cond.instanceMethod yX11_hangOn ∈ zw_tbl := zw (zt_2 _ (List.mem_of_getElem? (i := 100) rfl)) rfl
theorem ws_X11_hangOn : Cond.selects "LoveLocks" yX11_hangOn yX11_hangOn ∈ zw_tbl := zw (zt_2 _ (List.mem_of_getElem? (i := 101) rfl)) rfl
theorem wc_X11_hangOn : Cond.code yX11_hangOn cX11_hangOn 5 (some .int) ∈ zw_tbl := zw (zt_2 _ (List.mem_of_getElem? (i := 102) rfl)) rfl
theorem wl_X11_84 : Cond.methodLink "LoveLocks" 84 yX4_hasLock ∈ zw_tbl := zw (zt_2 _ (List.mem_of_getElem? (i := 103) rfl)) rfl
theorem wi_X4_hasLock : Cond.instanceMethod yX4_hasLock ∈ zw_tbl := zw (zt_2 _ (List.mem_of_getElem? (i := 104) rfl)) rfl
theorem ws_X4_hasLock : Cond.selects "LoveLocks$Rail" yX4_hasLock yX4_hasLock ∈ zw_tbl := zw (zt_2 _ (List.mem_of_getElem? (i := 105) rfl)) rfl
theorem wc_X4_hasLock : Cond.code yX4_hasLock cX4_hasLock 2 (some .boolean) ∈ zw_tbl := zw (zt_2 _ (List.mem_of_getElem? (i := 106) rfl)) rfl
theorem wl_X11_77 : Cond.methodLink "LoveLocks" 77 yX11_isLock ∈ zw_tbl := zw (zt_2 _ (List.mem_of_getElem? (i := 107) rfl)) rfl
theorem wst_X11_isLock : Cond.static yX11_isLock ∈ zw_tbl := zw (zt_2 _ (List.mem_of_getElem? (i := 108) rfl)) rfl
theorem wc_X11_isLock : Cond.code yX11_isLock cX11_isLock 3 (some .boolean) ∈ zw_tbl := zw (zt_2 _ (List.mem_of_getElem? (i := 109) rfl)) rfl
theorem wl_X11_55 : Cond.methodLink "LoveLocks" 55 yX11_within ∈ zw_tbl := zw (zt_2 _ (List.mem_of_getElem? (i := 110) rfl)) rfl
theorem wst_X11_within : Cond.static yX11_within ∈ zw_tbl := zw (zt_2 _ (List.mem_of_getElem? (i := 111) rfl)) rfl
theorem wc_X11_within : Cond.code yX11_within cX11_within 3 (some .boolean) ∈ zw_tbl := zw (zt_2 _ (List.mem_of_getElem? (i := 112) rfl)) rfl
theorem wl_X11_87 : Cond.methodLink "LoveLocks" 87 yX4_isGone ∈ zw_tbl := zw (zt_2 _ (List.mem_of_getElem? (i := 113) rfl)) rfl
theorem wi_X4_isGone : Cond.instanceMethod yX4_isGone ∈ zw_tbl := zw (zt_2 _ (List.mem_of_getElem? (i := 114) rfl)) rfl
theorem ws_X4_isGone : Cond.selects "LoveLocks$Rail" yX4_isGone yX4_isGone ∈ zw_tbl := zw (zt_2 _ (List.mem_of_getElem? (i := 115) rfl)) rfl
theorem wc_X4_isGone : Cond.code yX4_isGone cX4_isGone 2 (some .boolean) ∈ zw_tbl := zw (zt_2 _ (List.mem_of_getElem? (i := 116) rfl)) rfl
theorem wl_X11_90 : Cond.methodLink "LoveLocks" 90 yX4_addToLock ∈ zw_tbl := zw (zt_2 _ (List.mem_of_getElem? (i := 117) rfl)) rfl
theorem wi_X4_addToLock : Cond.instanceMethod yX4_addToLock ∈ zw_tbl := zw (zt_2 _ (List.mem_of_getElem? (i := 118) rfl)) rfl
theorem ws_X4_addToLock : Cond.selects "LoveLocks$Rail" yX4_addToLock yX4_addToLock ∈ zw_tbl := zw (zt_2 _ (List.mem_of_getElem? (i := 119) rfl)) rfl
theorem wc_X4_addToLock : Cond.code yX4_addToLock cX4_addToLock 6 (some .int) ∈ zw_tbl := zw (zt_2 _ (List.mem_of_getElem? (i := 120) rfl)) rfl
theorem wl_X4_55 : Cond.methodLink "LoveLocks$Rail" 55 yX4_addToBar ∈ zw_tbl := zw (zt_2 _ (List.mem_of_getElem? (i := 121) rfl)) rfl
theorem wi_X4_addToBar : Cond.instanceMethod yX4_addToBar ∈ zw_tbl := zw (zt_2 _ (List.mem_of_getElem? (i := 122) rfl)) rfl
theorem ws_X4_addToBar : Cond.selects "LoveLocks$Rail" yX4_addToBar yX4_addToBar ∈ zw_tbl := zw (zt_2 _ (List.mem_of_getElem? (i := 123) rfl)) rfl
theorem wc_X4_addToBar : Cond.code yX4_addToBar cX4_addToBar 6 (some .int) ∈ zw_tbl := zw (zt_2 _ (List.mem_of_getElem? (i := 124) rfl)) rfl
theorem wl_L_53 : Cond.methodLink "LoveLocksLaw" 53 yX11_told ∈ zw_tbl := zw (zt_2 _ (List.mem_of_getElem? (i := 125) rfl)) rfl
theorem wi_X11_told : Cond.instanceMethod yX11_told ∈ zw_tbl := zw (zt_2 _ (List.mem_of_getElem? (i := 126) rfl)) rfl
theorem ws_X11_told : Cond.selects "LoveLocks" yX11_told yX11_told ∈ zw_tbl := zw (zt_2 _ (List.mem_of_getElem? (i := 127) rfl)) rfl
theorem wc_X11_told : Cond.code yX11_told cX11_told 3 (some .int) ∈ zw_tbl := zw (zt_2 _ (List.mem_of_getElem? (i := 128) rfl)) rfl
theorem wl_X11_94 : Cond.methodLink "LoveLocks" 94 yX4_tell ∈ zw_tbl := zw (zt_2 _ (List.mem_of_getElem? (i := 129) rfl)) rfl
theorem wi_X4_tell : Cond.instanceMethod yX4_tell ∈ zw_tbl := zw (zt_2 _ (List.mem_of_getElem? (i := 130) rfl)) rfl
theorem ws_X4_tell : Cond.selects "LoveLocks$Rail" yX4_tell yX4_tell ∈ zw_tbl := zw (zt_2 _ (List.mem_of_getElem? (i := 131) rfl)) rfl
theorem wc_X4_tell : Cond.code yX4_tell cX4_tell 3 (some .int) ∈ zw_tbl := zw (zt_2 _ (List.mem_of_getElem? (i := 132) rfl)) rfl
theorem wl_X4_59 : Cond.methodLink "LoveLocks$Rail" 59 yX4_borneBy ∈ zw_tbl := zw (zt_2 _ (List.mem_of_getElem? (i := 133) rfl)) rfl
theorem wi_X4_borneBy : Cond.instanceMethod yX4_borneBy ∈ zw_tbl := zw (zt_2 _ (List.mem_of_getElem? (i := 134) rfl)) rfl
theorem ws_X4_borneBy : Cond.selects "LoveLocks$Rail" yX4_borneBy yX4_borneBy ∈ zw_tbl := zw (zt_2 _ (List.mem_of_getElem? (i := 135) rfl)) rfl
theorem wc_X4_borneBy : Cond.code yX4_borneBy cX4_borneBy 2 (some .int) ∈ zw_tbl := zw (zt_2 _ (List.mem_of_getElem? (i := 136) rfl)) rfl
theorem wl_X4_67 : Cond.methodLink "LoveLocks$Rail" 67 yX4_withAllOn ∈ zw_tbl := zw (zt_2 _ (List.mem_of_getElem? (i := 137) rfl)) rfl
theorem wi_X4_withAllOn : Cond.instanceMethod yX4_withAllOn ∈ zw_tbl := zw (zt_2 _ (List.mem_of_getElem? (i := 138) rfl)) rfl
theorem ws_X4_withAllOn : Cond.selects "LoveLocks$Rail" yX4_withAllOn yX4_withAllOn ∈ zw_tbl := zw (zt_2 _ (List.mem_of_getElem? (i := 139) rfl)) rfl
theorem wc_X4_withAllOn : Cond.code yX4_withAllOn cX4_withAllOn 4 (some .int) ∈ zw_tbl := zw (zt_2 _ (List.mem_of_getElem? (i := 140) rfl)) rfl
theorem wl_X4_63 : Cond.methodLink "LoveLocks$Rail" 63 yX4_isGone ∈ zw_tbl := zw (zt_2 _ (List.mem_of_getElem? (i := 141) rfl)) rfl
theorem wl_X4_70 : Cond.methodLink "LoveLocks$Rail" 70 yX4_weightOf ∈ zw_tbl := zw (zt_2 _ (List.mem_of_getElem? (i := 142) rfl)) rfl
theorem wi_X4_weightOf : Cond.instanceMethod yX4_weightOf ∈ zw_tbl := zw (zt_2 _ (List.mem_of_getElem? (i := 143) rfl)) rfl
theorem ws_X4_weightOf : Cond.selects "LoveLocks$Rail" yX4_weightOf yX4_weightOf ∈ zw_tbl := zw (zt_2 _ (List.mem_of_getElem? (i := 144) rfl)) rfl
theorem wc_X4_weightOf : Cond.code yX4_weightOf cX4_weightOf 4 (some .int) ∈ zw_tbl := zw (zt_2 _ (List.mem_of_getElem? (i := 145) rfl)) rfl
theorem wl_L_42 : Cond.methodLink "LoveLocksLaw" 42 yX11_load ∈ zw_tbl := zw (zt_2 _ (List.mem_of_getElem? (i := 146) rfl)) rfl
theorem wi_X11_load : Cond.instanceMethod yX11_load ∈ zw_tbl := zw (zt_2 _ (List.mem_of_getElem? (i := 147) rfl)) rfl
theorem ws_X11_load : Cond.selects "LoveLocks" yX11_load yX11_load ∈ zw_tbl := zw (zt_2 _ (List.mem_of_getElem? (i := 148) rfl)) rfl
theorem wc_X11_load : Cond.code yX11_load cX11_load 3 (some .int) ∈ zw_tbl := zw (zt_2 _ (List.mem_of_getElem? (i := 149) rfl)) rfl
theorem wl_X11_69 : Cond.methodLink "LoveLocks" 69 yX4_hasPanel ∈ zw_tbl := zw (zt_2 _ (List.mem_of_getElem? (i := 150) rfl)) rfl
theorem wi_X4_hasPanel : Cond.instanceMethod yX4_hasPanel ∈ zw_tbl := zw (zt_2 _ (List.mem_of_getElem? (i := 151) rfl)) rfl
theorem ws_X4_hasPanel : Cond.selects "LoveLocks$Rail" yX4_hasPanel yX4_hasPanel ∈ zw_tbl := zw (zt_2 _ (List.mem_of_getElem? (i := 152) rfl)) rfl
theorem wc_X4_hasPanel : Cond.code yX4_hasPanel cX4_hasPanel 2 (some .boolean) ∈ zw_tbl := zw (zt_2 _ (List.mem_of_getElem? (i := 153) rfl)) rfl
theorem wl_X11_98 : Cond.methodLink "LoveLocks" 98 yX4_loadOf ∈ zw_tbl := zw (zt_2 _ (List.mem_of_getElem? (i := 154) rfl)) rfl
theorem wi_X4_loadOf : Cond.instanceMethod yX4_loadOf ∈ zw_tbl := zw (zt_2 _ (List.mem_of_getElem? (i := 155) rfl)) rfl
theorem ws_X4_loadOf : Cond.selects "LoveLocks$Rail" yX4_loadOf yX4_loadOf ∈ zw_tbl := zw (zt_2 _ (List.mem_of_getElem? (i := 156) rfl)) rfl
theorem wc_X4_loadOf : Cond.code yX4_loadOf cX4_loadOf 3 (some .int) ∈ zw_tbl := zw (zt_2 _ (List.mem_of_getElem? (i := 157) rfl)) rfl
theorem wl_X4_77 : Cond.methodLink "LoveLocks$Rail" 77 yX4_barLoad ∈ zw_tbl := zw (zt_2 _ (List.mem_of_getElem? (i := 158) rfl)) rfl
theorem wi_X4_barLoad : Cond.instanceMethod yX4_barLoad ∈ zw_tbl := zw (zt_2 _ (List.mem_of_getElem? (i := 159) rfl)) rfl
theorem ws_X4_barLoad : Cond.selects "LoveLocks$Rail" yX4_barLoad yX4_barLoad ∈ zw_tbl := zw (zt_2 _ (List.mem_of_getElem? (i := 160) rfl)) rfl
theorem wc_X4_barLoad : Cond.code yX4_barLoad cX4_barLoad 3 (some .int) ∈ zw_tbl := zw (zt_2 _ (List.mem_of_getElem? (i := 161) rfl)) rfl
theorem wl_X4_73 : Cond.methodLink "LoveLocks$Rail" 73 yX4_hangingAt ∈ zw_tbl := zw (zt_2 _ (List.mem_of_getElem? (i := 162) rfl)) rfl
theorem wi_X4_hangingAt : Cond.instanceMethod yX4_hangingAt ∈ zw_tbl := zw (zt_2 _ (List.mem_of_getElem? (i := 163) rfl)) rfl
theorem ws_X4_hangingAt : Cond.selects "LoveLocks$Rail" yX4_hangingAt yX4_hangingAt ∈ zw_tbl := zw (zt_2 _ (List.mem_of_getElem? (i := 164) rfl)) rfl
theorem wc_X4_hangingAt : Cond.code yX4_hangingAt cX4_hangingAt 5 (some .int) ∈ zw_tbl := zw (zt_2 _ (List.mem_of_getElem? (i := 165) rfl)) rfl
theorem wl_X4_80 : Cond.methodLink "LoveLocks$Rail" 80 yX4_panelLoad ∈ zw_tbl := zw (zt_2 _ (List.mem_of_getElem? (i := 166) rfl)) rfl
theorem wi_X4_panelLoad : Cond.instanceMethod yX4_panelLoad ∈ zw_tbl := zw (zt_2 _ (List.mem_of_getElem? (i := 167) rfl)) rfl
theorem ws_X4_panelLoad : Cond.selects "LoveLocks$Rail" yX4_panelLoad yX4_panelLoad ∈ zw_tbl := zw (zt_2 _ (List.mem_of_getElem? (i := 168) rfl)) rfl
theorem wc_X4_panelLoad : Cond.code yX4_panelLoad cX4_panelLoad 2 (some .int) ∈ zw_tbl := zw (zt_2 _ (List.mem_of_getElem? (i := 169) rfl)) rfl
theorem wl_X4_83 : Cond.methodLink "LoveLocks$Rail" 83 yX4_sagOf ∈ zw_tbl := zw (zt_2 _ (List.mem_of_getElem? (i := 170) rfl)) rfl
theorem wi_X4_sagOf : Cond.instanceMethod yX4_sagOf ∈ zw_tbl := zw (zt_2 _ (List.mem_of_getElem? (i := 171) rfl)) rfl
theorem ws_X4_sagOf : Cond.selects "LoveLocks$Rail" yX4_sagOf yX4_sagOf ∈ zw_tbl := zw (zt_2 _ (List.mem_of_getElem? (i := 172) rfl)) rfl
theorem wc_X4_sagOf : Cond.code yX4_sagOf cX4_sagOf 2 (some .int) ∈ zw_tbl := zw (zt_2 _ (List.mem_of_getElem? (i := 173) rfl)) rfl
theorem wl_L_64 : Cond.methodLink "LoveLocksLaw" 64 yX11_over ∈ zw_tbl := zw (zt_2 _ (List.mem_of_getElem? (i := 174) rfl)) rfl
theorem wi_X11_over : Cond.instanceMethod yX11_over ∈ zw_tbl := zw (zt_2 _ (List.mem_of_getElem? (i := 175) rfl)) rfl
theorem ws_X11_over : Cond.selects "LoveLocks" yX11_over yX11_over ∈ zw_tbl := zw (zt_2 _ (List.mem_of_getElem? (i := 176) rfl)) rfl
theorem wc_X11_over : Cond.code yX11_over cX11_over 1 (some .int) ∈ zw_tbl := zw (zt_2 _ (List.mem_of_getElem? (i := 177) rfl)) rfl
theorem wl_X11_111 : Cond.methodLink "LoveLocks" 111 yX4_firstOver ∈ zw_tbl := zw (zt_2 _ (List.mem_of_getElem? (i := 178) rfl)) rfl
theorem wi_X4_firstOver : Cond.instanceMethod yX4_firstOver ∈ zw_tbl := zw (zt_2 _ (List.mem_of_getElem? (i := 179) rfl)) rfl
theorem ws_X4_firstOver : Cond.selects "LoveLocks$Rail" yX4_firstOver yX4_firstOver ∈ zw_tbl := zw (zt_2 _ (List.mem_of_getElem? (i := 180) rfl)) rfl
theorem wc_X4_firstOver : Cond.code yX4_firstOver cX4_firstOver 3 (some .int) ∈ zw_tbl := zw (zt_2 _ (List.mem_of_getElem? (i := 181) rfl)) rfl
theorem wl_X4_86 : Cond.methodLink "LoveLocks$Rail" 86 yX4_isOver ∈ zw_tbl := zw (zt_2 _ (List.mem_of_getElem? (i := 182) rfl)) rfl
theorem wi_X4_isOver : Cond.instanceMethod yX4_isOver ∈ zw_tbl := zw (zt_2 _ (List.mem_of_getElem? (i := 184) rfl)) rfl
theorem wc_X4_isOver : Cond.code yX4_isOver cX4_isOver 2 (some .boolean) ∈ zw_tbl := zw (zt_2 _ (List.mem_of_getElem? (i := 185) rfl)) rfl
theorem wl_L_56 : Cond.methodLink "LoveLocksLaw" 56 yX11_giveWay ∈ zw_tbl := zw (zt_2 _ (List.mem_of_getElem? (i := 186) rfl)) rfl
theorem wi_X11_giveWay : Cond.instanceMethod yX11_giveWay ∈ zw_tbl := zw (zt_2 _ (List.mem_of_getElem? (i := 187) rfl)) rfl
theorem ws_X11_giveWay : Cond.selects "LoveLocks" yX11_giveWay yX11_giveWay ∈ zw_tbl := zw (zt_2 _ (List.mem_of_getElem? (i := 188) rfl)) rfl
theorem wc_X11_giveWay : Cond.code yX11_giveWay cX11_giveWay 1 (some .int) ∈ zw_tbl := zw (zt_2 _ (List.mem_of_getElem? (i := 189) rfl)) rfl
theorem wl_X11_115 : Cond.methodLink "LoveLocks" 115 yX4_fallWhileOver ∈ zw_tbl := zw (zt_2 _ (List.mem_of_getElem? (i := 190) rfl)) rfl
theorem wi_X4_fallWhileOver : Cond.instanceMethod yX4_fallWhileOver ∈ zw_tbl := zw (zt_2 _ (List.mem_of_getElem? (i := 191) rfl)) rfl
theorem ws_X4_fallWhileOver : Cond.selects "LoveLocks$Rail" yX4_fallWhileOver yX4_fallWhileOver ∈ zw_tbl := zw (zt_2 _ (List.mem_of_getElem? (i := 192) rfl)) rfl
theorem wc_X4_fallWhileOver : Cond.code yX4_fallWhileOver cX4_fallWhileOver 4 (some .int) ∈ zw_tbl := zw (zt_2 _ (List.mem_of_getElem? (i := 193) rfl)) rfl
theorem wl_X4_94 : Cond.methodLink "LoveLocks$Rail" 94 yX4_firstOver ∈ zw_tbl := zw (zt_2 _ (List.mem_of_getElem? (i := 194) rfl)) rfl
theorem wl_X4_98 : Cond.methodLink "LoveLocks$Rail" 98 yX4_hangingFrom ∈ zw_tbl := zw (zt_2 _ (List.mem_of_getElem? (i := 195) rfl)) rfl
theorem wi_X4_hangingFrom : Cond.instanceMethod yX4_hangingFrom ∈ zw_tbl := zw (zt_2 _ (List.mem_of_getElem? (i := 197) rfl)) rfl
theorem wc_X4_hangingFrom : Cond.code yX4_hangingFrom cX4_hangingFrom 2 (some .int) ∈ zw_tbl := zw (zt_2 _ (List.mem_of_getElem? (i := 198) rfl)) rfl
theorem wl_X4_101 : Cond.methodLink "LoveLocks$Rail" 101 yX4_fall ∈ zw_tbl := zw (zt_2 _ (List.mem_of_getElem? (i := 199) rfl)) rfl
theorem wi_X4_fall : Cond.instanceMethod yX4_fall ∈ zw_tbl := zw (zt_2 _ (List.mem_of_getElem? (i := 200) rfl)) rfl
theorem ws_X4_fall : Cond.selects "LoveLocks$Rail" yX4_fall yX4_fall ∈ zw_tbl := zw (zt_2 _ (List.mem_of_getElem? (i := 201) rfl)) rfl
theorem wc_X4_fall : Cond.code yX4_fall cX4_fall 3 (some .int) ∈ zw_tbl := zw (zt_2 _ (List.mem_of_getElem? (i := 202) rfl)) rfl
theorem wl_X4_89 : Cond.methodLink "LoveLocks$Rail" 89 yJ6_bitCount_0f7a4 ∈ zw_tbl := zw (zt_2 _ (List.mem_of_getElem? (i := 203) rfl)) rfl
theorem wst_J6_bitCount_0f7a4 : Cond.static yJ6_bitCount_0f7a4 ∈ zw_tbl := zw (zt_2 _ (List.mem_of_getElem? (i := 204) rfl)) rfl
theorem wc_J6_bitCount_0f7a4 : Cond.code yJ6_bitCount_0f7a4 cJ6_bitCount_0f7a4 1 (some .int) ∈ zw_tbl := zw (zt_2 _ (List.mem_of_getElem? (i := 205) rfl)) rfl
theorem wk_J6_265 : Cond.constant "java/lang/Integer" 265 (1431655765) ∈ zw_tbl := zw (zt_2 _ (List.mem_of_getElem? (i := 206) rfl)) rfl
theorem wk_J6_266 : Cond.constant "java/lang/Integer" 266 (858993459) ∈ zw_tbl := zw (zt_2 _ (List.mem_of_getElem? (i := 207) rfl)) rfl
theorem wk_J6_267 : Cond.constant "java/lang/Integer" 267 (252645135) ∈ zw_tbl := zw (zt_2 _ (List.mem_of_getElem? (i := 208) rfl)) rfl
theorem wl_L_60 : Cond.methodLink "LoveLocksLaw" 60 yX11_count ∈ zw_tbl := zw (zt_2 _ (List.mem_of_getElem? (i := 209) rfl)) rfl
theorem wi_X11_count : Cond.instanceMethod yX11_count ∈ zw_tbl := zw (zt_2 _ (List.mem_of_getElem? (i := 210) rfl)) rfl
theorem ws_X11_count : Cond.selects "LoveLocks" yX11_count yX11_count ∈ zw_tbl := zw (zt_2 _ (List.mem_of_getElem? (i := 211) rfl)) rfl
theorem wc_X11_count : Cond.code yX11_count cX11_count 2 (some .int) ∈ zw_tbl := zw (zt_2 _ (List.mem_of_getElem? (i := 212) rfl)) rfl
theorem wl_X11_128 : Cond.methodLink "LoveLocks" 128 yJ6_bitCount_0f7a4 ∈ zw_tbl := zw (zt_2 _ (List.mem_of_getElem? (i := 213) rfl)) rfl
theorem wl_L_69 : Cond.methodLink "LoveLocksLaw" 69 yX11_type ∈ zw_tbl := zw (zt_2 _ (List.mem_of_getElem? (i := 214) rfl)) rfl
theorem wi_X11_type : Cond.instanceMethod yX11_type ∈ zw_tbl := zw (zt_2 _ (List.mem_of_getElem? (i := 215) rfl)) rfl
theorem ws_X11_type : Cond.selects "LoveLocks" yX11_type yX11_type ∈ zw_tbl := zw (zt_2 _ (List.mem_of_getElem? (i := 216) rfl)) rfl
theorem wc_X11_type : Cond.code yX11_type cX11_type 4 (some .int) ∈ zw_tbl := zw (zt_2 _ (List.mem_of_getElem? (i := 217) rfl)) rfl
theorem wl_X11_174 : Cond.methodLink "LoveLocks" 174 yX10_add ∈ zw_tbl := zw (zt_2 _ (List.mem_of_getElem? (i := 218) rfl)) rfl
theorem wi_X10_add : Cond.instanceMethod yX10_add ∈ zw_tbl := zw (zt_2 _ (List.mem_of_getElem? (i := 219) rfl)) rfl
theorem ws_X10_add : Cond.selects "LoveLocks$Tape" yX10_add yX10_add ∈ zw_tbl := zw (zt_2 _ (List.mem_of_getElem? (i := 220) rfl)) rfl
theorem wc_X10_add : Cond.code yX10_add cX10_add 5 (some .int) ∈ zw_tbl := zw (zt_2 _ (List.mem_of_getElem? (i := 221) rfl)) rfl
theorem wk_X10_15 : Cond.constantLong "LoveLocks$Tape" 15 (255) ∈ zw_tbl := zw (zt_2 _ (List.mem_of_getElem? (i := 222) rfl)) rfl
theorem wl_X10_17 : Cond.methodLink "LoveLocks$Tape" 17 yX10_isSign ∈ zw_tbl := zw (zt_2 _ (List.mem_of_getElem? (i := 223) rfl)) rfl
theorem wst_X10_isSign : Cond.static yX10_isSign ∈ zw_tbl := zw (zt_2 _ (List.mem_of_getElem? (i := 224) rfl)) rfl
theorem wc_X10_isSign : Cond.code yX10_isSign cX10_isSign 2 (some .boolean) ∈ zw_tbl := zw (zt_2 _ (List.mem_of_getElem? (i := 225) rfl)) rfl
theorem wk_X10_25 : Cond.constantLong "LoveLocks$Tape" 25 (32) ∈ zw_tbl := zw (zt_2 _ (List.mem_of_getElem? (i := 226) rfl)) rfl
theorem wk_X10_27 : Cond.constantLong "LoveLocks$Tape" 27 (126) ∈ zw_tbl := zw (zt_2 _ (List.mem_of_getElem? (i := 227) rfl)) rfl
theorem wl_L_73 : Cond.methodLink "LoveLocksLaw" 73 yX11_person ∈ zw_tbl := zw (zt_2 _ (List.mem_of_getElem? (i := 228) rfl)) rfl
theorem wi_X11_person : Cond.instanceMethod yX11_person ∈ zw_tbl := zw (zt_2 _ (List.mem_of_getElem? (i := 229) rfl)) rfl
theorem ws_X11_person : Cond.selects "LoveLocks" yX11_person yX11_person ∈ zw_tbl := zw (zt_2 _ (List.mem_of_getElem? (i := 230) rfl)) rfl
theorem wc_X11_person : Cond.code yX11_person cX11_person 2 (some .int) ∈ zw_tbl := zw (zt_2 _ (List.mem_of_getElem? (i := 231) rfl)) rfl
theorem wl_X11_177 : Cond.methodLink "LoveLocks" 177 yX10_readName ∈ zw_tbl := zw (zt_2 _ (List.mem_of_getElem? (i := 232) rfl)) rfl
theorem wi_X10_readName : Cond.instanceMethod yX10_readName ∈ zw_tbl := zw (zt_2 _ (List.mem_of_getElem? (i := 233) rfl)) rfl
theorem ws_X10_readName : Cond.selects "LoveLocks$Tape" yX10_readName yX10_readName ∈ zw_tbl := zw (zt_2 _ (List.mem_of_getElem? (i := 234) rfl)) rfl
theorem wc_X10_readName : Cond.code yX10_readName cX10_readName 1 (some .int) ∈ zw_tbl := zw (zt_2 _ (List.mem_of_getElem? (i := 235) rfl)) rfl
theorem wl_X10_29 : Cond.methodLink "LoveLocks$Tape" 29 yX10_read ∈ zw_tbl := zw (zt_2 _ (List.mem_of_getElem? (i := 236) rfl)) rfl
theorem wi_X10_read : Cond.instanceMethod yX10_read ∈ zw_tbl := zw (zt_2 _ (List.mem_of_getElem? (i := 238) rfl)) rfl
theorem wc_X10_read : Cond.code yX10_read cX10_read 7 (some .int) ∈ zw_tbl := zw (zt_2 _ (List.mem_of_getElem? (i := 239) rfl)) rfl
theorem wl_X10_40 : Cond.methodLink "LoveLocks$Tape" 40 yX10_isLetter ∈ zw_tbl := zw (zt_3 _ (List.mem_of_getElem? (i := 0) rfl)) rfl
theorem wst_X10_isLetter : Cond.static yX10_isLetter ∈ zw_tbl := zw (zt_3 _ (List.mem_of_getElem? (i := 1) rfl)) rfl
theorem wc_X10_isLetter : Cond.code yX10_isLetter cX10_isLetter 2 (some .boolean) ∈ zw_tbl := zw (zt_3 _ (List.mem_of_getElem? (i := 2) rfl)) rfl
theorem wl_X11_187 : Cond.methodLink "LoveLocks" 187 yX2_addPerson ∈ zw_tbl := zw (zt_3 _ (List.mem_of_getElem? (i := 3) rfl)) rfl
theorem wi_X2_addPerson : Cond.instanceMethod yX2_addPerson ∈ zw_tbl := zw (zt_3 _ (List.mem_of_getElem? (i := 4) rfl)) rfl
theorem ws_X2_addPerson : Cond.selects "LoveLocks$Names" yX2_addPerson yX2_addPerson ∈ zw_tbl := zw (zt_3 _ (List.mem_of_getElem? (i := 5) rfl)) rfl
theorem wc_X2_addPerson : Cond.code yX2_addPerson cX2_addPerson 3 (some .int) ∈ zw_tbl := zw (zt_3 _ (List.mem_of_getElem? (i := 6) rfl)) rfl
theorem wl_L_80 : Cond.methodLink "LoveLocksLaw" 80 yX11_letters ∈ zw_tbl := zw (zt_3 _ (List.mem_of_getElem? (i := 7) rfl)) rfl
theorem wi_X11_letters : Cond.instanceMethod yX11_letters ∈ zw_tbl := zw (zt_3 _ (List.mem_of_getElem? (i := 8) rfl)) rfl
theorem ws_X11_letters : Cond.selects "LoveLocks" yX11_letters yX11_letters ∈ zw_tbl := zw (zt_3 _ (List.mem_of_getElem? (i := 9) rfl)) rfl
theorem wc_X11_letters : Cond.code yX11_letters cX11_letters 3 (some .int) ∈ zw_tbl := zw (zt_3 _ (List.mem_of_getElem? (i := 10) rfl)) rfl
theorem wl_X11_191 : Cond.methodLink "LoveLocks" 191 yX10_readPair ∈ zw_tbl := zw (zt_3 _ (List.mem_of_getElem? (i := 11) rfl)) rfl
theorem wi_X10_readPair : Cond.instanceMethod yX10_readPair ∈ zw_tbl := zw (zt_3 _ (List.mem_of_getElem? (i := 12) rfl)) rfl
theorem ws_X10_readPair : Cond.selects "LoveLocks$Tape" yX10_readPair yX10_readPair ∈ zw_tbl := zw (zt_3 _ (List.mem_of_getElem? (i := 13) rfl)) rfl
theorem wc_X10_readPair : Cond.code yX10_readPair cX10_readPair 1 (some .int) ∈ zw_tbl := zw (zt_3 _ (List.mem_of_getElem? (i := 14) rfl)) rfl
theorem wl_X11_197 : Cond.methodLink "LoveLocks" 197 yX2_putLetters ∈ zw_tbl := zw (zt_3 _ (List.mem_of_getElem? (i := 15) rfl)) rfl
theorem wi_X2_putLetters : Cond.instanceMethod yX2_putLetters ∈ zw_tbl := zw (zt_3 _ (List.mem_of_getElem? (i := 16) rfl)) rfl
theorem ws_X2_putLetters : Cond.selects "LoveLocks$Names" yX2_putLetters yX2_putLetters ∈ zw_tbl := zw (zt_3 _ (List.mem_of_getElem? (i := 17) rfl)) rfl
theorem wc_X2_putLetters : Cond.code yX2_putLetters cX2_putLetters 6 (some .boolean) ∈ zw_tbl := zw (zt_3 _ (List.mem_of_getElem? (i := 18) rfl)) rfl
theorem wl_X2_34 : Cond.methodLink "LoveLocks$Names" 34 yJ6_bitCount_0f7a4 ∈ zw_tbl := zw (zt_3 _ (List.mem_of_getElem? (i := 19) rfl)) rfl
theorem wl_L_87 : Cond.methodLink "LoveLocksLaw" 87 yX11_readings ∈ zw_tbl := zw (zt_3 _ (List.mem_of_getElem? (i := 20) rfl)) rfl
theorem wi_X11_readings : Cond.instanceMethod yX11_readings ∈ zw_tbl := zw (zt_3 _ (List.mem_of_getElem? (i := 21) rfl)) rfl
theorem ws_X11_readings : Cond.selects "LoveLocks" yX11_readings yX11_readings ∈ zw_tbl := zw (zt_3 _ (List.mem_of_getElem? (i := 22) rfl)) rfl
theorem wc_X11_readings : Cond.code yX11_readings cX11_readings 2 (some .int) ∈ zw_tbl := zw (zt_3 _ (List.mem_of_getElem? (i := 23) rfl)) rfl
theorem wl_X11_201 : Cond.methodLink "LoveLocks" 201 yX2_hasLetters ∈ zw_tbl := zw (zt_3 _ (List.mem_of_getElem? (i := 24) rfl)) rfl
theorem wi_X2_hasLetters : Cond.instanceMethod yX2_hasLetters ∈ zw_tbl := zw (zt_3 _ (List.mem_of_getElem? (i := 25) rfl)) rfl
theorem ws_X2_hasLetters : Cond.selects "LoveLocks$Names" yX2_hasLetters yX2_hasLetters ∈ zw_tbl := zw (zt_3 _ (List.mem_of_getElem? (i := 26) rfl)) rfl
theorem wc_X2_hasLetters : Cond.code yX2_hasLetters cX2_hasLetters 2 (some .boolean) ∈ zw_tbl := zw (zt_3 _ (List.mem_of_getElem? (i := 27) rfl)) rfl
theorem wl_X11_204 : Cond.methodLink "LoveLocks" 204 yX2_readingsOf ∈ zw_tbl := zw (zt_3 _ (List.mem_of_getElem? (i := 28) rfl)) rfl
theorem wi_X2_readingsOf : Cond.instanceMethod yX2_readingsOf ∈ zw_tbl := zw (zt_3 _ (List.mem_of_getElem? (i := 29) rfl)) rfl
theorem ws_X2_readingsOf : Cond.selects "LoveLocks$Names" yX2_readingsOf yX2_readingsOf ∈ zw_tbl := zw (zt_3 _ (List.mem_of_getElem? (i := 30) rfl)) rfl
theorem wc_X2_readingsOf : Cond.code yX2_readingsOf cX2_readingsOf 7 (some .int) ∈ zw_tbl := zw (zt_3 _ (List.mem_of_getElem? (i := 31) rfl)) rfl
theorem wl_X2_52 : Cond.methodLink "LoveLocks$Names" 52 yX2_peopleOfFirst ∈ zw_tbl := zw (zt_3 _ (List.mem_of_getElem? (i := 32) rfl)) rfl
theorem wi_X2_peopleOfFirst : Cond.instanceMethod yX2_peopleOfFirst ∈ zw_tbl := zw (zt_3 _ (List.mem_of_getElem? (i := 33) rfl)) rfl
theorem ws_X2_peopleOfFirst : Cond.selects "LoveLocks$Names" yX2_peopleOfFirst yX2_peopleOfFirst ∈ zw_tbl := zw (zt_3 _ (List.mem_of_getElem? (i := 34) rfl)) rfl
theorem wc_X2_peopleOfFirst : Cond.code yX2_peopleOfFirst cX2_peopleOfFirst 2 (some .int) ∈ zw_tbl := zw (zt_3 _ (List.mem_of_getElem? (i := 35) rfl)) rfl
theorem wl_X2_48 : Cond.methodLink "LoveLocks$Names" 48 yX2_allWhoAgree ∈ zw_tbl := zw (zt_3 _ (List.mem_of_getElem? (i := 36) rfl)) rfl
theorem wi_X2_allWhoAgree : Cond.instanceMethod yX2_allWhoAgree ∈ zw_tbl := zw (zt_3 _ (List.mem_of_getElem? (i := 38) rfl)) rfl
theorem wc_X2_allWhoAgree : Cond.code yX2_allWhoAgree cX2_allWhoAgree 5 (some .int) ∈ zw_tbl := zw (zt_3 _ (List.mem_of_getElem? (i := 39) rfl)) rfl
theorem wl_X2_44 : Cond.methodLink "LoveLocks$Names" 44 yX2_agree ∈ zw_tbl := zw (zt_3 _ (List.mem_of_getElem? (i := 40) rfl)) rfl
theorem wst_X2_agree : Cond.static yX2_agree ∈ zw_tbl := zw (zt_3 _ (List.mem_of_getElem? (i := 41) rfl)) rfl
theorem wc_X2_agree : Cond.code yX2_agree cX2_agree 9 (some .boolean) ∈ zw_tbl := zw (zt_3 _ (List.mem_of_getElem? (i := 42) rfl)) rfl
theorem wk_X2_40 : Cond.constantLong "LoveLocks$Names" 40 (255) ∈ zw_tbl := zw (zt_3 _ (List.mem_of_getElem? (i := 43) rfl)) rfl
theorem wk_X2_42 : Cond.constantLong "LoveLocks$Names" 42 (63) ∈ zw_tbl := zw (zt_3 _ (List.mem_of_getElem? (i := 44) rfl)) rfl
theorem wl_X2_55 : Cond.methodLink "LoveLocks$Names" 55 yX2_peopleOfSecond ∈ zw_tbl := zw (zt_3 _ (List.mem_of_getElem? (i := 45) rfl)) rfl
theorem wi_X2_peopleOfSecond : Cond.instanceMethod yX2_peopleOfSecond ∈ zw_tbl := zw (zt_3 _ (List.mem_of_getElem? (i := 46) rfl)) rfl
theorem ws_X2_peopleOfSecond : Cond.selects "LoveLocks$Names" yX2_peopleOfSecond yX2_peopleOfSecond ∈ zw_tbl := zw (zt_3 _ (List.mem_of_getElem? (i := 47) rfl)) rfl
theorem wc_X2_peopleOfSecond : Cond.code yX2_peopleOfSecond cX2_peopleOfSecond 2 (some .int) ∈ zw_tbl := zw (zt_3 _ (List.mem_of_getElem? (i := 48) rfl)) rfl
theorem wl_X2_58 : Cond.methodLink "LoveLocks$Names" 58 yX2_canBe ∈ zw_tbl := zw (zt_3 _ (List.mem_of_getElem? (i := 49) rfl)) rfl
theorem wst_X2_canBe : Cond.static yX2_canBe ∈ zw_tbl := zw (zt_3 _ (List.mem_of_getElem? (i := 50) rfl)) rfl
theorem wc_X2_canBe : Cond.code yX2_canBe cX2_canBe 4 (some .boolean) ∈ zw_tbl := zw (zt_3 _ (List.mem_of_getElem? (i := 51) rfl)) rfl
theorem wl_L_83 : Cond.methodLink "LoveLocksLaw" 83 yX11_ways ∈ zw_tbl := zw (zt_3 _ (List.mem_of_getElem? (i := 52) rfl)) rfl
theorem wi_X11_ways : Cond.instanceMethod yX11_ways ∈ zw_tbl := zw (zt_3 _ (List.mem_of_getElem? (i := 53) rfl)) rfl
theorem ws_X11_ways : Cond.selects "LoveLocks" yX11_ways yX11_ways ∈ zw_tbl := zw (zt_3 _ (List.mem_of_getElem? (i := 54) rfl)) rfl
theorem wc_X11_ways : Cond.code yX11_ways cX11_ways 1 (some .long) ∈ zw_tbl := zw (zt_3 _ (List.mem_of_getElem? (i := 55) rfl)) rfl
theorem wl_X11_207 : Cond.methodLink "LoveLocks" 207 yX5_findWays ∈ zw_tbl := zw (zt_3 _ (List.mem_of_getElem? (i := 56) rfl)) rfl
theorem wi_X5_findWays : Cond.instanceMethod yX5_findWays ∈ zw_tbl := zw (zt_3 _ (List.mem_of_getElem? (i := 57) rfl)) rfl
theorem ws_X5_findWays : Cond.selects "LoveLocks$Reader" yX5_findWays yX5_findWays ∈ zw_tbl := zw (zt_3 _ (List.mem_of_getElem? (i := 58) rfl)) rfl
theorem wc_X5_findWays : Cond.code yX5_findWays cX5_findWays 5 none ∈ zw_tbl := zw (zt_3 _ (List.mem_of_getElem? (i := 59) rfl)) rfl
theorem wl_X5_38 : Cond.methodLink "LoveLocks$Reader" 38 yX2_peopleOfFirst ∈ zw_tbl := zw (zt_3 _ (List.mem_of_getElem? (i := 60) rfl)) rfl
theorem wl_X5_42 : Cond.methodLink "LoveLocks$Reader" 42 yX2_peopleOfSecond ∈ zw_tbl := zw (zt_3 _ (List.mem_of_getElem? (i := 61) rfl)) rfl
theorem wl_X5_49 : Cond.methodLink "LoveLocks$Reader" 49 yX5_locksOfYear ∈ zw_tbl := zw (zt_3 _ (List.mem_of_getElem? (i := 62) rfl)) rfl
theorem wst_X5_locksOfYear : Cond.static yX5_locksOfYear ∈ zw_tbl := zw (zt_3 _ (List.mem_of_getElem? (i := 63) rfl)) rfl
theorem wc_X5_locksOfYear : Cond.code yX5_locksOfYear cX5_locksOfYear 4 (some .int) ∈ zw_tbl := zw (zt_3 _ (List.mem_of_getElem? (i := 64) rfl)) rfl
theorem wl_X5_53 : Cond.methodLink "LoveLocks$Reader" 53 yX5_waysToRead ∈ zw_tbl := zw (zt_3 _ (List.mem_of_getElem? (i := 65) rfl)) rfl
theorem wst_X5_waysToRead : Cond.static yX5_waysToRead ∈ zw_tbl := zw (zt_3 _ (List.mem_of_getElem? (i := 66) rfl)) rfl
theorem wc_X5_waysToRead : Cond.code yX5_waysToRead cX5_waysToRead 11 (some .long) ∈ zw_tbl := zw (zt_3 _ (List.mem_of_getElem? (i := 67) rfl)) rfl
theorem wl_X5_65 : Cond.methodLink "LoveLocks$Reader" 65 yX5_keepPairs ∈ zw_tbl := zw (zt_3 _ (List.mem_of_getElem? (i := 68) rfl)) rfl
theorem wi_X5_keepPairs : Cond.instanceMethod yX5_keepPairs ∈ zw_tbl := zw (zt_3 _ (List.mem_of_getElem? (i := 70) rfl)) rfl
theorem wc_X5_keepPairs : Cond.code yX5_keepPairs cX5_keepPairs 3 none ∈ zw_tbl := zw (zt_3 _ (List.mem_of_getElem? (i := 71) rfl)) rfl
theorem wl_X5_69 : Cond.methodLink "LoveLocks$Reader" 69 yJ6_bitCount_0f7a4 ∈ zw_tbl := zw (zt_3 _ (List.mem_of_getElem? (i := 72) rfl)) rfl
theorem wl_X5_74 : Cond.methodLink "LoveLocks$Reader" 74 yJ6_numberOfTrailingZeros_0f7a4 ∈ zw_tbl := zw (zt_3 _ (List.mem_of_getElem? (i := 73) rfl)) rfl
theorem wst_J6_numberOfTrailingZeros_0f7a4 : Cond.static yJ6_numberOfTrailingZeros_0f7a4 ∈ zw_tbl := zw (zt_3 _ (List.mem_of_getElem? (i := 74) rfl)) rfl
theorem wc_J6_numberOfTrailingZeros_0f7a4 : Cond.code yJ6_numberOfTrailingZeros_0f7a4 cJ6_numberOfTrailingZeros_0f7a4 2 (some .int) ∈ zw_tbl := zw (zt_3 _ (List.mem_of_getElem? (i := 75) rfl)) rfl
theorem wk_J6_264 : Cond.constant "java/lang/Integer" 264 (65536) ∈ zw_tbl := zw (zt_3 _ (List.mem_of_getElem? (i := 76) rfl)) rfl
theorem wl_X5_77 : Cond.methodLink "LoveLocks$Reader" 77 yX2_canBe ∈ zw_tbl := zw (zt_3 _ (List.mem_of_getElem? (i := 77) rfl)) rfl
theorem wl_L_98 : Cond.methodLink "LoveLocksLaw" 98 yX11_where ∈ zw_tbl := zw (zt_3 _ (List.mem_of_getElem? (i := 78) rfl)) rfl
theorem wi_X11_where : Cond.instanceMethod yX11_where ∈ zw_tbl := zw (zt_3 _ (List.mem_of_getElem? (i := 79) rfl)) rfl
theorem ws_X11_where : Cond.selects "LoveLocks" yX11_where yX11_where ∈ zw_tbl := zw (zt_3 _ (List.mem_of_getElem? (i := 80) rfl)) rfl
theorem wc_X11_where : Cond.code yX11_where cX11_where 3 (some .int) ∈ zw_tbl := zw (zt_3 _ (List.mem_of_getElem? (i := 81) rfl)) rfl
theorem wl_X11_217 : Cond.methodLink "LoveLocks" 217 yX5_locksOf ∈ zw_tbl := zw (zt_3 _ (List.mem_of_getElem? (i := 82) rfl)) rfl
theorem wi_X5_locksOf : Cond.instanceMethod yX5_locksOf ∈ zw_tbl := zw (zt_3 _ (List.mem_of_getElem? (i := 83) rfl)) rfl
theorem ws_X5_locksOf : Cond.selects "LoveLocks$Reader" yX5_locksOf yX5_locksOf ∈ zw_tbl := zw (zt_3 _ (List.mem_of_getElem? (i := 84) rfl)) rfl
theorem wc_X5_locksOf : Cond.code yX5_locksOf cX5_locksOf 5 (some .int) ∈ zw_tbl := zw (zt_3 _ (List.mem_of_getElem? (i := 85) rfl)) rfl
theorem wl_X5_81 : Cond.methodLink "LoveLocks$Reader" 81 yX5_peopleOn ∈ zw_tbl := zw (zt_3 _ (List.mem_of_getElem? (i := 86) rfl)) rfl
theorem wi_X5_peopleOn : Cond.instanceMethod yX5_peopleOn ∈ zw_tbl := zw (zt_3 _ (List.mem_of_getElem? (i := 87) rfl)) rfl
theorem ws_X5_peopleOn : Cond.selects "LoveLocks$Reader" yX5_peopleOn yX5_peopleOn ∈ zw_tbl := zw (zt_3 _ (List.mem_of_getElem? (i := 88) rfl)) rfl
theorem wc_X5_peopleOn : Cond.code yX5_peopleOn cX5_peopleOn 3 (some .int) ∈ zw_tbl := zw (zt_3 _ (List.mem_of_getElem? (i := 89) rfl)) rfl
theorem wl_L_104 : Cond.methodLink "LoveLocksLaw" 104 yX11_nightly ∈ zw_tbl := zw (zt_3 _ (List.mem_of_getElem? (i := 90) rfl)) rfl
theorem wi_X11_nightly : Cond.instanceMethod yX11_nightly ∈ zw_tbl := zw (zt_3 _ (List.mem_of_getElem? (i := 91) rfl)) rfl
theorem ws_X11_nightly : Cond.selects "LoveLocks" yX11_nightly yX11_nightly ∈ zw_tbl := zw (zt_3 _ (List.mem_of_getElem? (i := 92) rfl)) rfl
theorem wc_X11_nightly : Cond.code yX11_nightly cX11_nightly 2 (some .int) ∈ zw_tbl := zw (zt_3 _ (List.mem_of_getElem? (i := 93) rfl)) rfl
theorem wl_X11_224 : Cond.methodLink "LoveLocks" 224 yX3_setNightly ∈ zw_tbl := zw (zt_3 _ (List.mem_of_getElem? (i := 94) rfl)) rfl
theorem wi_X3_setNightly : Cond.instanceMethod yX3_setNightly ∈ zw_tbl := zw (zt_3 _ (List.mem_of_getElem? (i := 95) rfl)) rfl
theorem ws_X3_setNightly : Cond.selects "LoveLocks$Nights" yX3_setNightly yX3_setNightly ∈ zw_tbl := zw (zt_3 _ (List.mem_of_getElem? (i := 96) rfl)) rfl
theorem wc_X3_setNightly : Cond.code yX3_setNightly cX3_setNightly 3 (some .int) ∈ zw_tbl := zw (zt_3 _ (List.mem_of_getElem? (i := 97) rfl)) rfl
theorem wl_L_101 : Cond.methodLink "LoveLocksLaw" 101 yX11_risk ∈ zw_tbl := zw (zt_3 _ (List.mem_of_getElem? (i := 98) rfl)) rfl
theorem wi_X11_risk : Cond.instanceMethod yX11_risk ∈ zw_tbl := zw (zt_3 _ (List.mem_of_getElem? (i := 99) rfl)) rfl
theorem ws_X11_risk : Cond.selects "LoveLocks" yX11_risk yX11_risk ∈ zw_tbl := zw (zt_3 _ (List.mem_of_getElem? (i := 100) rfl)) rfl
theorem wc_X11_risk : Cond.code yX11_risk cX11_risk 4 (some .int) ∈ zw_tbl := zw (zt_3 _ (List.mem_of_getElem? (i := 101) rfl)) rfl
theorem wl_X11_229 : Cond.methodLink "LoveLocks" 229 yX3_setTerm ∈ zw_tbl := zw (zt_3 _ (List.mem_of_getElem? (i := 102) rfl)) rfl
theorem wi_X3_setTerm : Cond.instanceMethod yX3_setTerm ∈ zw_tbl := zw (zt_3 _ (List.mem_of_getElem? (i := 103) rfl)) rfl
theorem ws_X3_setTerm : Cond.selects "LoveLocks$Nights" yX3_setTerm yX3_setTerm ∈ zw_tbl := zw (zt_3 _ (List.mem_of_getElem? (i := 104) rfl)) rfl
theorem wc_X3_setTerm : Cond.code yX3_setTerm cX3_setTerm 4 (some .int) ∈ zw_tbl := zw (zt_3 _ (List.mem_of_getElem? (i := 105) rfl)) rfl
theorem wl_X3_45 : Cond.methodLink "LoveLocks$Nights" 45 yX3_change ∈ zw_tbl := zw (zt_3 _ (List.mem_of_getElem? (i := 106) rfl)) rfl
theorem wst_X3_change : Cond.static yX3_change ∈ zw_tbl := zw (zt_3 _ (List.mem_of_getElem? (i := 107) rfl)) rfl
theorem wc_X3_change : Cond.code yX3_change cX3_change 5 (some .int) ∈ zw_tbl := zw (zt_3 _ (List.mem_of_getElem? (i := 108) rfl)) rfl
theorem wl_L_107 : Cond.methodLink "LoveLocksLaw" 107 yX11_order ∈ zw_tbl := zw (zt_3 _ (List.mem_of_getElem? (i := 109) rfl)) rfl
theorem wi_X11_order : Cond.instanceMethod yX11_order ∈ zw_tbl := zw (zt_3 _ (List.mem_of_getElem? (i := 110) rfl)) rfl
theorem ws_X11_order : Cond.selects "LoveLocks" yX11_order yX11_order ∈ zw_tbl := zw (zt_3 _ (List.mem_of_getElem? (i := 111) rfl)) rfl
theorem wc_X11_order : Cond.code yX11_order cX11_order 2 (some .int) ∈ zw_tbl := zw (zt_3 _ (List.mem_of_getElem? (i := 112) rfl)) rfl
theorem wl_X11_232 : Cond.methodLink "LoveLocks" 232 yX3_plan ∈ zw_tbl := zw (zt_3 _ (List.mem_of_getElem? (i := 113) rfl)) rfl
theorem wi_X3_plan : Cond.instanceMethod yX3_plan ∈ zw_tbl := zw (zt_3 _ (List.mem_of_getElem? (i := 114) rfl)) rfl
theorem ws_X3_plan : Cond.selects "LoveLocks$Nights" yX3_plan yX3_plan ∈ zw_tbl := zw (zt_3 _ (List.mem_of_getElem? (i := 115) rfl)) rfl
theorem wc_X3_plan : Cond.code yX3_plan cX3_plan 6 none ∈ zw_tbl := zw (zt_3 _ (List.mem_of_getElem? (i := 116) rfl)) rfl
theorem wk_X3_52 : Cond.constant "LoveLocks$Nights" 52 (1000000) ∈ zw_tbl := zw (zt_3 _ (List.mem_of_getElem? (i := 117) rfl)) rfl
theorem wl_X3_53 : Cond.methodLink "LoveLocks$Nights" 53 yJ7_fill_53178 ∈ zw_tbl := zw (zt_3 _ (List.mem_of_getElem? (i := 118) rfl)) rfl
theorem wl_X3_59 : Cond.methodLink "LoveLocks$Nights" 59 yX3_costOfWaiting ∈ zw_tbl := zw (zt_3 _ (List.mem_of_getElem? (i := 119) rfl)) rfl
theorem wi_X3_costOfWaiting : Cond.instanceMethod yX3_costOfWaiting ∈ zw_tbl := zw (zt_3 _ (List.mem_of_getElem? (i := 121) rfl)) rfl
theorem wc_X3_costOfWaiting : Cond.code yX3_costOfWaiting cX3_costOfWaiting 5 (some .int) ∈ zw_tbl := zw (zt_3 _ (List.mem_of_getElem? (i := 122) rfl)) rfl
theorem wl_X3_63 : Cond.methodLink "LoveLocks$Nights" 63 yX3_chooseBest ∈ zw_tbl := zw (zt_3 _ (List.mem_of_getElem? (i := 123) rfl)) rfl
theorem wi_X3_chooseBest : Cond.instanceMethod yX3_chooseBest ∈ zw_tbl := zw (zt_3 _ (List.mem_of_getElem? (i := 125) rfl)) rfl
theorem wc_X3_chooseBest : Cond.code yX3_chooseBest cX3_chooseBest 9 none ∈ zw_tbl := zw (zt_3 _ (List.mem_of_getElem? (i := 126) rfl)) rfl
theorem wl_X3_71 : Cond.methodLink "LoveLocks$Nights" 71 yJ6_bitCount_0f7a4 ∈ zw_tbl := zw (zt_3 _ (List.mem_of_getElem? (i := 127) rfl)) rfl
theorem wl_X3_67 : Cond.methodLink "LoveLocks$Nights" 67 yX3_followChoices ∈ zw_tbl := zw (zt_3 _ (List.mem_of_getElem? (i := 128) rfl)) rfl
theorem wi_X3_followChoices : Cond.instanceMethod yX3_followChoices ∈ zw_tbl := zw (zt_3 _ (List.mem_of_getElem? (i := 130) rfl)) rfl
theorem wc_X3_followChoices : Cond.code yX3_followChoices cX3_followChoices 6 none ∈ zw_tbl := zw (zt_3 _ (List.mem_of_getElem? (i := 131) rfl)) rfl
theorem wl_X11_236 : Cond.methodLink "LoveLocks" 236 yX3_costInAll ∈ zw_tbl := zw (zt_3 _ (List.mem_of_getElem? (i := 132) rfl)) rfl
theorem wi_X3_costInAll : Cond.instanceMethod yX3_costInAll ∈ zw_tbl := zw (zt_3 _ (List.mem_of_getElem? (i := 133) rfl)) rfl
theorem ws_X3_costInAll : Cond.selects "LoveLocks$Nights" yX3_costInAll yX3_costInAll ∈ zw_tbl := zw (zt_3 _ (List.mem_of_getElem? (i := 134) rfl)) rfl
theorem wc_X3_costInAll : Cond.code yX3_costInAll cX3_costInAll 1 (some .int) ∈ zw_tbl := zw (zt_3 _ (List.mem_of_getElem? (i := 135) rfl)) rfl
theorem wl_X11_239 : Cond.methodLink "LoveLocks" 239 yX3_nightOf ∈ zw_tbl := zw (zt_3 _ (List.mem_of_getElem? (i := 136) rfl)) rfl
theorem wi_X3_nightOf : Cond.instanceMethod yX3_nightOf ∈ zw_tbl := zw (zt_3 _ (List.mem_of_getElem? (i := 137) rfl)) rfl
theorem ws_X3_nightOf : Cond.selects "LoveLocks$Nights" yX3_nightOf yX3_nightOf ∈ zw_tbl := zw (zt_3 _ (List.mem_of_getElem? (i := 138) rfl)) rfl
theorem wc_X3_nightOf : Cond.code yX3_nightOf cX3_nightOf 2 (some .int) ∈ zw_tbl := zw (zt_3 _ (List.mem_of_getElem? (i := 139) rfl)) rfl
theorem wl_L_110 : Cond.methodLink "LoveLocksLaw" 110 yX11_needed ∈ zw_tbl := zw (zt_3 _ (List.mem_of_getElem? (i := 140) rfl)) rfl
theorem wi_X11_needed : Cond.instanceMethod yX11_needed ∈ zw_tbl := zw (zt_3 _ (List.mem_of_getElem? (i := 141) rfl)) rfl
theorem ws_X11_needed : Cond.selects "LoveLocks" yX11_needed yX11_needed ∈ zw_tbl := zw (zt_3 _ (List.mem_of_getElem? (i := 142) rfl)) rfl
theorem wc_X11_needed : Cond.code yX11_needed cX11_needed 2 (some .int) ∈ zw_tbl := zw (zt_3 _ (List.mem_of_getElem? (i := 143) rfl)) rfl
theorem wl_X11_263 : Cond.methodLink "LoveLocks" 263 yX11_isSought ∈ zw_tbl := zw (zt_3 _ (List.mem_of_getElem? (i := 144) rfl)) rfl
theorem wi_X11_isSought : Cond.instanceMethod yX11_isSought ∈ zw_tbl := zw (zt_3 _ (List.mem_of_getElem? (i := 146) rfl)) rfl
theorem wc_X11_isSought : Cond.code yX11_isSought cX11_isSought 3 (some .boolean) ∈ zw_tbl := zw (zt_3 _ (List.mem_of_getElem? (i := 147) rfl)) rfl
theorem wl_X11_266 : Cond.methodLink "LoveLocks" 266 yX6_learn ∈ zw_tbl := zw (zt_3 _ (List.mem_of_getElem? (i := 148) rfl)) rfl
theorem wi_X6_learn : Cond.instanceMethod yX6_learn ∈ zw_tbl := zw (zt_3 _ (List.mem_of_getElem? (i := 149) rfl)) rfl
theorem ws_X6_learn : Cond.selects "LoveLocks$Seeker" yX6_learn yX6_learn ∈ zw_tbl := zw (zt_3 _ (List.mem_of_getElem? (i := 150) rfl)) rfl
theorem wc_X6_learn : Cond.code yX6_learn cX6_learn 4 none ∈ zw_tbl := zw (zt_3 _ (List.mem_of_getElem? (i := 151) rfl)) rfl
theorem wl_X6_33 : Cond.methodLink "LoveLocks$Seeker" 33 yX6_answer ∈ zw_tbl := zw (zt_3 _ (List.mem_of_getElem? (i := 152) rfl)) rfl
theorem wst_X6_answer : Cond.static yX6_answer ∈ zw_tbl := zw (zt_3 _ (List.mem_of_getElem? (i := 153) rfl)) rfl
theorem wc_X6_answer : Cond.code yX6_answer cX6_answer 3 (some .boolean) ∈ zw_tbl := zw (zt_3 _ (List.mem_of_getElem? (i := 154) rfl)) rfl
theorem wl_X11_279 : Cond.methodLink "LoveLocks" 279 yX6_questionsFor ∈ zw_tbl := zw (zt_3 _ (List.mem_of_getElem? (i := 155) rfl)) rfl
theorem wi_X6_questionsFor : Cond.instanceMethod yX6_questionsFor ∈ zw_tbl := zw (zt_3 _ (List.mem_of_getElem? (i := 156) rfl)) rfl
theorem ws_X6_questionsFor : Cond.selects "LoveLocks$Seeker" yX6_questionsFor yX6_questionsFor ∈ zw_tbl := zw (zt_3 _ (List.mem_of_getElem? (i := 157) rfl)) rfl
theorem wc_X6_questionsFor : Cond.code yX6_questionsFor cX6_questionsFor 3 (some .int) ∈ zw_tbl := zw (zt_3 _ (List.mem_of_getElem? (i := 158) rfl)) rfl
theorem wl_X6_52 : Cond.methodLink "LoveLocks$Seeker" 52 yX6_areApart ∈ zw_tbl := zw (zt_3 _ (List.mem_of_getElem? (i := 159) rfl)) rfl
theorem wi_X6_areApart : Cond.instanceMethod yX6_areApart ∈ zw_tbl := zw (zt_3 _ (List.mem_of_getElem? (i := 161) rfl)) rfl
theorem wc_X6_areApart : Cond.code yX6_areApart cX6_areApart 5 (some .boolean) ∈ zw_tbl := zw (zt_3 _ (List.mem_of_getElem? (i := 162) rfl)) rfl
theorem wl_X6_37 : Cond.methodLink "LoveLocks$Seeker" 37 yJ6_bitCount_0f7a4 ∈ zw_tbl := zw (zt_3 _ (List.mem_of_getElem? (i := 163) rfl)) rfl
theorem wl_X6_56 : Cond.methodLink "LoveLocks$Seeker" 56 yX6_areEnough ∈ zw_tbl := zw (zt_3 _ (List.mem_of_getElem? (i := 164) rfl)) rfl
theorem wst_X6_areEnough : Cond.static yX6_areEnough ∈ zw_tbl := zw (zt_3 _ (List.mem_of_getElem? (i := 165) rfl)) rfl
theorem wc_X6_areEnough : Cond.code yX6_areEnough cX6_areEnough 7 (some .boolean) ∈ zw_tbl := zw (zt_3 _ (List.mem_of_getElem? (i := 166) rfl)) rfl
theorem wl_L_50 : Cond.methodLink "LoveLocksLaw" 50 yX11_stolen ∈ zw_tbl := zw (zt_3 _ (List.mem_of_getElem? (i := 167) rfl)) rfl
theorem wi_X11_stolen : Cond.instanceMethod yX11_stolen ∈ zw_tbl := zw (zt_3 _ (List.mem_of_getElem? (i := 168) rfl)) rfl
theorem ws_X11_stolen : Cond.selects "LoveLocks" yX11_stolen yX11_stolen ∈ zw_tbl := zw (zt_3 _ (List.mem_of_getElem? (i := 169) rfl)) rfl
theorem wc_X11_stolen : Cond.code yX11_stolen cX11_stolen 5 (some .int) ∈ zw_tbl := zw (zt_3 _ (List.mem_of_getElem? (i := 170) rfl)) rfl
theorem wl_X11_73 : Cond.methodLink "LoveLocks" 73 yX11_isBar ∈ zw_tbl := zw (zt_3 _ (List.mem_of_getElem? (i := 171) rfl)) rfl
theorem wi_X11_isBar : Cond.instanceMethod yX11_isBar ∈ zw_tbl := zw (zt_3 _ (List.mem_of_getElem? (i := 173) rfl)) rfl
theorem wc_X11_isBar : Cond.code yX11_isBar cX11_isBar 3 (some .boolean) ∈ zw_tbl := zw (zt_3 _ (List.mem_of_getElem? (i := 174) rfl)) rfl
theorem wk_X11_54 : Cond.constant "LoveLocks" 54 (99999) ∈ zw_tbl := zw (zt_3 _ (List.mem_of_getElem? (i := 175) rfl)) rfl
theorem wl_X11_101 : Cond.methodLink "LoveLocks" 101 yX4_hangingAt ∈ zw_tbl := zw (zt_3 _ (List.mem_of_getElem? (i := 176) rfl)) rfl
theorem wl_X11_282 : Cond.methodLink "LoveLocks" 282 yX1_findLoots ∈ zw_tbl := zw (zt_3 _ (List.mem_of_getElem? (i := 177) rfl)) rfl
theorem wi_X1_findLoots : Cond.instanceMethod yX1_findLoots ∈ zw_tbl := zw (zt_3 _ (List.mem_of_getElem? (i := 178) rfl)) rfl
theorem ws_X1_findLoots : Cond.selects "LoveLocks$Looter" yX1_findLoots yX1_findLoots ∈ zw_tbl := zw (zt_3 _ (List.mem_of_getElem? (i := 179) rfl)) rfl
theorem wc_X1_findLoots : Cond.code yX1_findLoots cX1_findLoots 4 none ∈ zw_tbl := zw (zt_3 _ (List.mem_of_getElem? (i := 180) rfl)) rfl
theorem wl_X1_21 : Cond.methodLink "LoveLocks$Looter" 21 yX4_weightOf ∈ zw_tbl := zw (zt_3 _ (List.mem_of_getElem? (i := 181) rfl)) rfl
theorem wl_X1_27 : Cond.methodLink "LoveLocks$Looter" 27 yX1_takeFrom ∈ zw_tbl := zw (zt_3 _ (List.mem_of_getElem? (i := 182) rfl)) rfl
theorem wst_X1_takeFrom : Cond.static yX1_takeFrom ∈ zw_tbl := zw (zt_3 _ (List.mem_of_getElem? (i := 183) rfl)) rfl
theorem wc_X1_takeFrom : Cond.code yX1_takeFrom cX1_takeFrom 8 none ∈ zw_tbl := zw (zt_3 _ (List.mem_of_getElem? (i := 184) rfl)) rfl
theorem wl_X1_34 : Cond.methodLink "LoveLocks$Looter" 34 yX1_keepLoot ∈ zw_tbl := zw (zt_3 _ (List.mem_of_getElem? (i := 185) rfl)) rfl
theorem wi_X1_keepLoot : Cond.instanceMethod yX1_keepLoot ∈ zw_tbl := zw (zt_3 _ (List.mem_of_getElem? (i := 187) rfl)) rfl
theorem wc_X1_keepLoot : Cond.code yX1_keepLoot cX1_keepLoot 2 none ∈ zw_tbl := zw (zt_3 _ (List.mem_of_getElem? (i := 188) rfl)) rfl
theorem wl_L_90 : Cond.methodLink "LoveLocksLaw" 90 yX11_image ∈ zw_tbl := zw (zt_3 _ (List.mem_of_getElem? (i := 189) rfl)) rfl
theorem wi_X11_image : Cond.instanceMethod yX11_image ∈ zw_tbl := zw (zt_3 _ (List.mem_of_getElem? (i := 190) rfl)) rfl
theorem ws_X11_image : Cond.selects "LoveLocks" yX11_image yX11_image ∈ zw_tbl := zw (zt_3 _ (List.mem_of_getElem? (i := 191) rfl)) rfl
theorem wc_X11_image : Cond.code yX11_image cX11_image 1 (some .int) ∈ zw_tbl := zw (zt_3 _ (List.mem_of_getElem? (i := 192) rfl)) rfl
theorem wl_X11_295 : Cond.methodLink "LoveLocks" 295 yX9_takeOver ∈ zw_tbl := zw (zt_3 _ (List.mem_of_getElem? (i := 193) rfl)) rfl
theorem wi_X9_takeOver : Cond.instanceMethod yX9_takeOver ∈ zw_tbl := zw (zt_3 _ (List.mem_of_getElem? (i := 194) rfl)) rfl
theorem ws_X9_takeOver : Cond.selects "LoveLocks$State" yX9_takeOver yX9_takeOver ∈ zw_tbl := zw (zt_3 _ (List.mem_of_getElem? (i := 195) rfl)) rfl
theorem wc_X9_takeOver : Cond.code yX9_takeOver cX9_takeOver 2 none ∈ zw_tbl := zw (zt_3 _ (List.mem_of_getElem? (i := 196) rfl)) rfl
theorem wl_X9_44 : Cond.methodLink "LoveLocks$State" 44 yX4_takeOver ∈ zw_tbl := zw (zt_3 _ (List.mem_of_getElem? (i := 197) rfl)) rfl
theorem wi_X4_takeOver : Cond.instanceMethod yX4_takeOver ∈ zw_tbl := zw (zt_3 _ (List.mem_of_getElem? (i := 198) rfl)) rfl
theorem ws_X4_takeOver : Cond.selects "LoveLocks$Rail" yX4_takeOver yX4_takeOver ∈ zw_tbl := zw (zt_3 _ (List.mem_of_getElem? (i := 199) rfl)) rfl
theorem wc_X4_takeOver : Cond.code yX4_takeOver cX4_takeOver 2 none ∈ zw_tbl := zw (zt_3 _ (List.mem_of_getElem? (i := 200) rfl)) rfl
theorem wl_X4_43 : Cond.methodLink "LoveLocks$Rail" 43 (⟨"java/lang/System", "arraycopy", "(Ljava/lang/Object;ILjava/lang/Object;II)V"⟩ : MethodName) ∈ zw_tbl := zw (zt_3 _ (List.mem_of_getElem? (i := 201) rfl)) rfl
theorem wst_arraycopy : Cond.static (⟨"java/lang/System", "arraycopy", "(Ljava/lang/Object;ILjava/lang/Object;II)V"⟩ : MethodName) ∈ zw_tbl := zw (zt_3 _ (List.mem_of_getElem? (i := 202) rfl)) rfl
theorem wnat_arraycopy : Cond.native (⟨"java/lang/System", "arraycopy", "(Ljava/lang/Object;ILjava/lang/Object;II)V"⟩ : MethodName) ∈ zw_tbl := zw (zt_3 _ (List.mem_of_getElem? (i := 203) rfl)) rfl
theorem wl_X9_48 : Cond.methodLink "LoveLocks$State" 48 yX8_takeOver ∈ zw_tbl := zw (zt_3 _ (List.mem_of_getElem? (i := 204) rfl)) rfl
theorem wi_X8_takeOver : Cond.instanceMethod yX8_takeOver ∈ zw_tbl := zw (zt_3 _ (List.mem_of_getElem? (i := 205) rfl)) rfl
theorem ws_X8_takeOver : Cond.selects "LoveLocks$Sights" yX8_takeOver yX8_takeOver ∈ zw_tbl := zw (zt_3 _ (List.mem_of_getElem? (i := 206) rfl)) rfl
theorem wc_X8_takeOver : Cond.code yX8_takeOver cX8_takeOver 2 none ∈ zw_tbl := zw (zt_3 _ (List.mem_of_getElem? (i := 207) rfl)) rfl
theorem wl_X8_25 : Cond.methodLink "LoveLocks$Sights" 25 (⟨"java/lang/System", "arraycopy", "(Ljava/lang/Object;ILjava/lang/Object;II)V"⟩ : MethodName) ∈ zw_tbl := zw (zt_3 _ (List.mem_of_getElem? (i := 208) rfl)) rfl
theorem wl_X9_51 : Cond.methodLink "LoveLocks$State" 51 yX2_takeOver ∈ zw_tbl := zw (zt_3 _ (List.mem_of_getElem? (i := 209) rfl)) rfl
theorem wi_X2_takeOver : Cond.instanceMethod yX2_takeOver ∈ zw_tbl := zw (zt_3 _ (List.mem_of_getElem? (i := 210) rfl)) rfl
theorem ws_X2_takeOver : Cond.selects "LoveLocks$Names" yX2_takeOver yX2_takeOver ∈ zw_tbl := zw (zt_3 _ (List.mem_of_getElem? (i := 211) rfl)) rfl
theorem wc_X2_takeOver : Cond.code yX2_takeOver cX2_takeOver 2 none ∈ zw_tbl := zw (zt_3 _ (List.mem_of_getElem? (i := 212) rfl)) rfl
theorem wl_X2_28 : Cond.methodLink "LoveLocks$Names" 28 (⟨"java/lang/System", "arraycopy", "(Ljava/lang/Object;ILjava/lang/Object;II)V"⟩ : MethodName) ∈ zw_tbl := zw (zt_3 _ (List.mem_of_getElem? (i := 213) rfl)) rfl
theorem wl_X9_54 : Cond.methodLink "LoveLocks$State" 54 yX3_takeOver ∈ zw_tbl := zw (zt_3 _ (List.mem_of_getElem? (i := 214) rfl)) rfl
theorem wi_X3_takeOver : Cond.instanceMethod yX3_takeOver ∈ zw_tbl := zw (zt_3 _ (List.mem_of_getElem? (i := 215) rfl)) rfl
theorem ws_X3_takeOver : Cond.selects "LoveLocks$Nights" yX3_takeOver yX3_takeOver ∈ zw_tbl := zw (zt_3 _ (List.mem_of_getElem? (i := 216) rfl)) rfl
theorem wc_X3_takeOver : Cond.code yX3_takeOver cX3_takeOver 2 none ∈ zw_tbl := zw (zt_3 _ (List.mem_of_getElem? (i := 217) rfl)) rfl
theorem wl_X3_39 : Cond.methodLink "LoveLocks$Nights" 39 (⟨"java/lang/System", "arraycopy", "(Ljava/lang/Object;ILjava/lang/Object;II)V"⟩ : MethodName) ∈ zw_tbl := zw (zt_3 _ (List.mem_of_getElem? (i := 218) rfl)) rfl
theorem wl_X9_57 : Cond.methodLink "LoveLocks$State" 57 yX0_takeOver ∈ zw_tbl := zw (zt_3 _ (List.mem_of_getElem? (i := 219) rfl)) rfl
theorem wi_X0_takeOver : Cond.instanceMethod yX0_takeOver ∈ zw_tbl := zw (zt_3 _ (List.mem_of_getElem? (i := 220) rfl)) rfl
theorem ws_X0_takeOver : Cond.selects "LoveLocks$Growth" yX0_takeOver yX0_takeOver ∈ zw_tbl := zw (zt_3 _ (List.mem_of_getElem? (i := 221) rfl)) rfl
theorem wc_X0_takeOver : Cond.code yX0_takeOver cX0_takeOver 2 none ∈ zw_tbl := zw (zt_3 _ (List.mem_of_getElem? (i := 222) rfl)) rfl
theorem wl_X0_25 : Cond.methodLink "LoveLocks$Growth" 25 (⟨"java/lang/System", "arraycopy", "(Ljava/lang/Object;ILjava/lang/Object;II)V"⟩ : MethodName) ∈ zw_tbl := zw (zt_3 _ (List.mem_of_getElem? (i := 223) rfl)) rfl
theorem wl_L_95 : Cond.methodLink "LoveLocksLaw" 95 yX11_restore ∈ zw_tbl := zw (zt_3 _ (List.mem_of_getElem? (i := 224) rfl)) rfl
theorem wi_X11_restore : Cond.instanceMethod yX11_restore ∈ zw_tbl := zw (zt_3 _ (List.mem_of_getElem? (i := 225) rfl)) rfl
theorem ws_X11_restore : Cond.selects "LoveLocks" yX11_restore yX11_restore ∈ zw_tbl := zw (zt_3 _ (List.mem_of_getElem? (i := 226) rfl)) rfl
theorem wc_X11_restore : Cond.code yX11_restore cX11_restore 1 (some .int) ∈ zw_tbl := zw (zt_3 _ (List.mem_of_getElem? (i := 227) rfl)) rfl
theorem wl_L_9 : Cond.methodLink "LoveLocksLaw" 9 yL_cell ∈ zw_tbl := zw (zt_3 _ (List.mem_of_getElem? (i := 228) rfl)) rfl
theorem wst_L_cell : Cond.static yL_cell ∈ zw_tbl := zw (zt_3 _ (List.mem_of_getElem? (i := 229) rfl)) rfl
theorem wc_L_cell : Cond.code yL_cell cL_cell 2 (some .int) ∈ zw_tbl := zw (zt_3 _ (List.mem_of_getElem? (i := 230) rfl)) rfl
theorem wk_L_7 : Cond.constant "LoveLocksLaw" 7 (15485957) ∈ zw_tbl := zw (zt_3 _ (List.mem_of_getElem? (i := 231) rfl)) rfl
theorem wk_L_8 : Cond.constant "LoveLocksLaw" 8 (2147483647) ∈ zw_tbl := zw (zt_3 _ (List.mem_of_getElem? (i := 232) rfl)) rfl
theorem wl_L_113 : Cond.methodLink "LoveLocksLaw" 113 yL_size ∈ zw_tbl := zw (zt_3 _ (List.mem_of_getElem? (i := 233) rfl)) rfl
theorem wst_L_size : Cond.static yL_size ∈ zw_tbl := zw (zt_3 _ (List.mem_of_getElem? (i := 234) rfl)) rfl
theorem wc_L_size : Cond.code yL_size cL_size 3 (some .int) ∈ zw_tbl := zw (zt_3 _ (List.mem_of_getElem? (i := 235) rfl)) rfl
theorem wl_L_30 : Cond.methodLink "LoveLocksLaw" 30 yL_lays ∈ zw_tbl := zw (zt_3 _ (List.mem_of_getElem? (i := 236) rfl)) rfl
theorem wst_L_lays : Cond.static yL_lays ∈ zw_tbl := zw (zt_3 _ (List.mem_of_getElem? (i := 237) rfl)) rfl
theorem wc_L_lays : Cond.code yL_lays cL_lays 15 (some .int) ∈ zw_tbl := zw (zt_3 _ (List.mem_of_getElem? (i := 238) rfl)) rfl
theorem wl_L_15 : Cond.methodLink "LoveLocksLaw" 15 yX11_panel ∈ zw_tbl := zw (zt_3 _ (List.mem_of_getElem? (i := 239) rfl)) rfl
theorem wi_X11_panel : Cond.instanceMethod yX11_panel ∈ zw_tbl := zw (zt_4 _ (List.mem_of_getElem? (i := 0) rfl)) rfl
theorem ws_X11_panel : Cond.selects "LoveLocks" yX11_panel yX11_panel ∈ zw_tbl := zw (zt_4 _ (List.mem_of_getElem? (i := 1) rfl)) rfl
theorem wc_X11_panel : Cond.code yX11_panel cX11_panel 4 (some .int) ∈ zw_tbl := zw (zt_4 _ (List.mem_of_getElem? (i := 2) rfl)) rfl
theorem wl_X11_63 : Cond.methodLink "LoveLocks" 63 yX4_addPanel ∈ zw_tbl := zw (zt_4 _ (List.mem_of_getElem? (i := 3) rfl)) rfl
theorem wi_X4_addPanel : Cond.instanceMethod yX4_addPanel ∈ zw_tbl := zw (zt_4 _ (List.mem_of_getElem? (i := 4) rfl)) rfl
theorem ws_X4_addPanel : Cond.selects "LoveLocks$Rail" yX4_addPanel yX4_addPanel ∈ zw_tbl := zw (zt_4 _ (List.mem_of_getElem? (i := 5) rfl)) rfl
theorem wc_X4_addPanel : Cond.code yX4_addPanel cX4_addPanel 4 (some .int) ∈ zw_tbl := zw (zt_4 _ (List.mem_of_getElem? (i := 6) rfl)) rfl
theorem wl_L_21 : Cond.methodLink "LoveLocksLaw" 21 yX11_hang ∈ zw_tbl := zw (zt_4 _ (List.mem_of_getElem? (i := 7) rfl)) rfl
theorem wi_X11_hang : Cond.instanceMethod yX11_hang ∈ zw_tbl := zw (zt_4 _ (List.mem_of_getElem? (i := 8) rfl)) rfl
theorem ws_X11_hang : Cond.selects "LoveLocks" yX11_hang yX11_hang ∈ zw_tbl := zw (zt_4 _ (List.mem_of_getElem? (i := 9) rfl)) rfl
theorem wc_X11_hang : Cond.code yX11_hang cX11_hang 6 (some .int) ∈ zw_tbl := zw (zt_4 _ (List.mem_of_getElem? (i := 10) rfl)) rfl
theorem wl_X11_80 : Cond.methodLink "LoveLocks" 80 yX4_addToBar ∈ zw_tbl := zw (zt_4 _ (List.mem_of_getElem? (i := 11) rfl)) rfl
theorem wl_L_38 : Cond.methodLink "LoveLocksLaw" 38 yL_under ∈ zw_tbl := zw (zt_4 _ (List.mem_of_getElem? (i := 12) rfl)) rfl
theorem wst_L_under : Cond.static yL_under ∈ zw_tbl := zw (zt_4 _ (List.mem_of_getElem? (i := 13) rfl)) rfl
theorem wc_L_under : Cond.code yL_under cL_under 6 (some .int) ∈ zw_tbl := zw (zt_4 _ (List.mem_of_getElem? (i := 14) rfl)) rfl
theorem wl_L_46 : Cond.methodLink "LoveLocksLaw" 46 yL_weigh ∈ zw_tbl := zw (zt_4 _ (List.mem_of_getElem? (i := 15) rfl)) rfl
theorem wst_L_weigh : Cond.static yL_weigh ∈ zw_tbl := zw (zt_4 _ (List.mem_of_getElem? (i := 16) rfl)) rfl
theorem wc_L_weigh : Cond.code yL_weigh cL_weigh 5 (some .int) ∈ zw_tbl := zw (zt_4 _ (List.mem_of_getElem? (i := 17) rfl)) rfl
theorem wl_L_34 : Cond.methodLink "LoveLocksLaw" 34 yL_hung ∈ zw_tbl := zw (zt_4 _ (List.mem_of_getElem? (i := 18) rfl)) rfl
theorem wst_L_hung : Cond.static yL_hung ∈ zw_tbl := zw (zt_4 _ (List.mem_of_getElem? (i := 19) rfl)) rfl
theorem wc_L_hung : Cond.code yL_hung cL_hung 7 (some .int) ∈ zw_tbl := zw (zt_4 _ (List.mem_of_getElem? (i := 20) rfl)) rfl
theorem wk_L_67 : Cond.constantLong "LoveLocksLaw" 67 (65) ∈ zw_tbl := zw (zt_4 _ (List.mem_of_getElem? (i := 21) rfl)) rfl
theorem wk_L_76 : Cond.constantLong "LoveLocksLaw" 76 (63) ∈ zw_tbl := zw (zt_4 _ (List.mem_of_getElem? (i := 22) rfl)) rfl
theorem wk_L_78 : Cond.constantLong "LoveLocksLaw" 78 (43) ∈ zw_tbl := zw (zt_4 _ (List.mem_of_getElem? (i := 23) rfl)) rfl
theorem wk_L_93 : Cond.constantLong "LoveLocksLaw" 93 (4139839) ∈ zw_tbl := zw (zt_4 _ (List.mem_of_getElem? (i := 24) rfl)) rfl
theorem ws_X4_isOver : Cond.selects "LoveLocks$Rail" yX4_isOver yX4_isOver ∈ zw_tbl := zw (zp_1 _ (List.mem_of_getElem? (i := 0) rfl)) rfl
theorem ws_X4_hangingFrom : Cond.selects "LoveLocks$Rail" yX4_hangingFrom yX4_hangingFrom ∈ zw_tbl := zw (zp_1 _ (List.mem_of_getElem? (i := 1) rfl)) rfl
theorem ws_X10_read : Cond.selects "LoveLocks$Tape" yX10_read yX10_read ∈ zw_tbl := zw (zp_1 _ (List.mem_of_getElem? (i := 2) rfl)) rfl
theorem ws_X2_allWhoAgree : Cond.selects "LoveLocks$Names" yX2_allWhoAgree yX2_allWhoAgree ∈ zw_tbl := zw (zp_1 _ (List.mem_of_getElem? (i := 3) rfl)) rfl
theorem ws_X5_keepPairs : Cond.selects "LoveLocks$Reader" yX5_keepPairs yX5_keepPairs ∈ zw_tbl := zw (zp_1 _ (List.mem_of_getElem? (i := 4) rfl)) rfl
theorem ws_X3_costOfWaiting : Cond.selects "LoveLocks$Nights" yX3_costOfWaiting yX3_costOfWaiting ∈ zw_tbl := zw (zp_1 _ (List.mem_of_getElem? (i := 5) rfl)) rfl
theorem ws_X3_chooseBest : Cond.selects "LoveLocks$Nights" yX3_chooseBest yX3_chooseBest ∈ zw_tbl := zw (zp_1 _ (List.mem_of_getElem? (i := 6) rfl)) rfl
theorem ws_X3_followChoices : Cond.selects "LoveLocks$Nights" yX3_followChoices yX3_followChoices ∈ zw_tbl := zw (zp_1 _ (List.mem_of_getElem? (i := 7) rfl)) rfl
theorem ws_X11_isSought : Cond.selects "LoveLocks" yX11_isSought yX11_isSought ∈ zw_tbl := zw (zp_1 _ (List.mem_of_getElem? (i := 8) rfl)) rfl
theorem ws_X6_areApart : Cond.selects "LoveLocks$Seeker" yX6_areApart yX6_areApart ∈ zw_tbl := zw (zp_1 _ (List.mem_of_getElem? (i := 9) rfl)) rfl
theorem ws_X11_isBar : Cond.selects "LoveLocks" yX11_isBar yX11_isBar ∈ zw_tbl := zw (zp_1 _ (List.mem_of_getElem? (i := 10) rfl)) rfl
theorem ws_X1_keepLoot : Cond.selects "LoveLocks$Looter" yX1_keepLoot yX1_keepLoot ∈ zw_tbl := zw (zp_1 _ (List.mem_of_getElem? (i := 11) rfl)) rfl
theorem inz0 : ∀ w ∈ u_ws RX0 TX0 4, w ∈ zw_tbl := List.forall_mem_cons.mpr ⟨wy_X0_least, List.forall_mem_cons.mpr ⟨wy_X0_most, List.forall_mem_cons.mpr ⟨wy_X0_lowest, List.forall_mem_cons.mpr ⟨wy_X0_highest, fun _ h => absurd h List.not_mem_nil⟩⟩⟩⟩
theorem inz1 : ∀ w ∈ u_ws RX1 TX1 3, w ∈ zw_tbl := List.forall_mem_cons.mpr ⟨wy_X1_loots, List.forall_mem_cons.mpr ⟨wy_X1_inAll, List.forall_mem_cons.mpr ⟨wy_X1_inSome, fun _ h => absurd h List.not_mem_nil⟩⟩⟩
theorem inz2 : ∀ w ∈ u_ws RX2 TX2 5, w ∈ zw_tbl := List.forall_mem_cons.mpr ⟨wy_X2_people, List.forall_mem_cons.mpr ⟨wy_X2_lettered, List.forall_mem_cons.mpr ⟨wy_X2_name, List.forall_mem_cons.mpr ⟨wy_X2_first, List.forall_mem_cons.mpr ⟨wy_X2_second, fun _ h => absurd h List.not_mem_nil⟩⟩⟩⟩⟩
theorem inz3 : ∀ w ∈ u_ws RX3 TX3 9, w ∈ zw_tbl := List.forall_mem_cons.mpr ⟨wy_X3_nightly, List.forall_mem_cons.mpr ⟨wy_X3_risk, List.forall_mem_cons.mpr ⟨wy_X3_grows, List.forall_mem_cons.mpr ⟨wy_X3_till, List.forall_mem_cons.mpr ⟨wy_X3_cost, List.forall_mem_cons.mpr ⟨wy_X3_choice, List.forall_mem_cons.mpr ⟨wy_X3_waiting, List.forall_mem_cons.mpr ⟨wy_X3_night, List.forall_mem_cons.mpr ⟨wy_X3_inAll, fun _ h => absurd h List.not_mem_nil⟩⟩⟩⟩⟩⟩⟩⟩⟩
theorem inz4 : ∀ w ∈ u_ws RX4 TX4 12, w ∈ zw_tbl := List.forall_mem_cons.mpr ⟨wy_X4_panels, List.forall_mem_cons.mpr ⟨wy_X4_barLimit, List.forall_mem_cons.mpr ⟨wy_X4_allLimit, List.forall_mem_cons.mpr ⟨wy_X4_sagLimit, List.forall_mem_cons.mpr ⟨wy_X4_locks, List.forall_mem_cons.mpr ⟨wy_X4_gone, List.forall_mem_cons.mpr ⟨wy_X4_weight, List.forall_mem_cons.mpr ⟨wy_X4_kind, List.forall_mem_cons.mpr ⟨wy_X4_year, List.forall_mem_cons.mpr ⟨wy_X4_panelOf, List.forall_mem_cons.mpr ⟨wy_X4_barOf, List.forall_mem_cons.mpr ⟨wy_X4_holder, fun _ h => absurd h List.not_mem_nil⟩⟩⟩⟩⟩⟩⟩⟩⟩⟩⟩⟩
theorem inz5 : ∀ w ∈ u_ws RX5 TX5 8, w ∈ zw_tbl := List.forall_mem_cons.mpr ⟨wy_X5_ways, List.forall_mem_cons.mpr ⟨wy_X5_people, List.forall_mem_cons.mpr ⟨wy_X5_lettered, List.forall_mem_cons.mpr ⟨wy_X5_one, List.forall_mem_cons.mpr ⟨wy_X5_other, List.forall_mem_cons.mpr ⟨wy_X5_pair, List.forall_mem_cons.mpr ⟨wy_X5_some, List.forall_mem_cons.mpr ⟨wy_X5_all, fun _ h => absurd h List.not_mem_nil⟩⟩⟩⟩⟩⟩⟩⟩
theorem inz6 : ∀ w ∈ u_ws RX6 TX6 1, w ∈ zw_tbl := List.forall_mem_cons.mpr ⟨wy_X6_yes, fun _ h => absurd h List.not_mem_nil⟩
theorem inz7 : ∀ w ∈ u_ws RX7 TX7 3, w ∈ zw_tbl := List.forall_mem_cons.mpr ⟨wy_X7_lane, List.forall_mem_cons.mpr ⟨wy_X7_size, List.forall_mem_cons.mpr ⟨wy_X7_items, fun _ h => absurd h List.not_mem_nil⟩⟩⟩
theorem inz8 : ∀ w ∈ u_ws RX8 TX8 4, w ∈ zw_tbl := List.forall_mem_cons.mpr ⟨wy_X8_sights, List.forall_mem_cons.mpr ⟨wy_X8_of, List.forall_mem_cons.mpr ⟨wy_X8_least, List.forall_mem_cons.mpr ⟨wy_X8_most, fun _ h => absurd h List.not_mem_nil⟩⟩⟩⟩
theorem inz9 : ∀ w ∈ u_ws RX9 TX9 5, w ∈ zw_tbl := List.forall_mem_cons.mpr ⟨wy_X9_rail, List.forall_mem_cons.mpr ⟨wy_X9_sights, List.forall_mem_cons.mpr ⟨wy_X9_names, List.forall_mem_cons.mpr ⟨wy_X9_nights, List.forall_mem_cons.mpr ⟨wy_X9_growth, fun _ h => absurd h List.not_mem_nil⟩⟩⟩⟩⟩
theorem inz10 : ∀ w ∈ u_ws RX10 TX10 4, w ∈ zw_tbl := List.forall_mem_cons.mpr ⟨wy_X10_length, List.forall_mem_cons.mpr ⟨wy_X10_first, List.forall_mem_cons.mpr ⟨wy_X10_second, List.forall_mem_cons.mpr ⟨wy_X10_bytes, fun _ h => absurd h List.not_mem_nil⟩⟩⟩⟩
theorem inz11 : ∀ w ∈ u_ws RX11 TX11 8, w ∈ zw_tbl := List.forall_mem_cons.mpr ⟨wy_X11_now, List.forall_mem_cons.mpr ⟨wy_X11_kept, List.forall_mem_cons.mpr ⟨wy_X11_hasImage, List.forall_mem_cons.mpr ⟨wy_X11_reader, List.forall_mem_cons.mpr ⟨wy_X11_seeker, List.forall_mem_cons.mpr ⟨wy_X11_looter, List.forall_mem_cons.mpr ⟨wy_X11_tape, List.forall_mem_cons.mpr ⟨wy_X11_sheets, fun _ h => absurd h List.not_mem_nil⟩⟩⟩⟩⟩⟩⟩⟩
theorem inz12 : ∀ w ∈ u_ws RX12 TX12 0, w ∈ zw_tbl := fun _ h => absurd h List.not_mem_nil
