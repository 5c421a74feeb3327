section LAWLOOP
variable {p : Program} {l : Launch} {e : Env} {s : State} {m : MethodId} {below : List Frame} {meth : Method} {c : Code} {Q : State → Prop} {A : Nat → Prop} {HB : Heap} {a_s nL : Nat} {xs : Nat → Int32} {dC : Nat → ClassId} {dI : Nat → Nat → Nat} {cI cJ cZ : ClassId} {adK adV ad : Nat → Nat} {a_x a_i a_f a_e a_r a_c a_p a_h a_t a_q a_i_bytes a_f_letters a_f_letterCount a_f_personYear a_f_parentUnion a_f_firstPartner a_f_secondPartner a_f_unionYear a_f_generation a_f_ancestorMask a_f_level a_f_referenced a_d a_d_letters a_d_letterCount a_d_personYear a_d_parentUnion a_d_firstPartner a_d_secondPartner a_d_unionYear a_d_generation a_d_ancestorMask a_d_level a_d_referenced a_e_kinships a_e_ways a_e_nextWays a_r_order a_r_rowStart a_r_placeOf a_r_firstBox a_r_secondBox a_r_keys a_c_firstColumn a_c_middleColumn a_p_line a_p_text a_h_cells a_q_leftValues a_q_rightValues a_q_properties a_o : Nat}
set_option maxHeartbeats 4000000 in
set_option maxRecDepth 100000 in
theorem law_case (X : LWX p l s m c dC dI cI cJ cZ adK adV ad A HB a_s nL xs) {i k cells slots : Nat} (hk : k < 64) (G : GDV nL (nI i)) (hcs : cells + 1 ≤ 601024 ∧ slots + 6 ≤ 7293034) (kk : HLOOP p l e s m below meth c Q A HB a_s dC dI cI cJ cZ ad a_x a_i a_f a_e a_r a_c a_p a_h a_t a_q a_i_bytes a_f_letters a_f_letterCount a_f_personYear a_f_parentUnion a_f_firstPartner a_f_secondPartner a_f_unionYear a_f_generation a_f_ancestorMask a_f_level a_f_referenced a_d a_d_letters a_d_letterCount a_d_personYear a_d_parentUnion a_d_firstPartner a_d_secondPartner a_d_unionYear a_d_generation a_d_ancestorMask a_d_level a_d_referenced a_e_kinships a_e_ways a_e_nextWays a_r_order a_r_rowStart a_r_placeOf a_r_firstBox a_r_secondBox a_r_keys a_c_firstColumn a_c_middleColumn a_p_line a_p_text a_h_cells a_q_leftValues a_q_rightValues a_q_properties a_o 2175 (nI i) (cells + 1) (slots + 6)) (i_filled : Int32) (i_length : Int32) (i_kind : Int32) (i_start : Int32) (i_stop : Int32) (i_value : Int32) (i_errorCode : Int32) (i_errorStart : Int32) (f_personCount : Int32) (f_unionCount : Int32) (f_rowCount : Int32) (d_personCount : Int32) (d_unionCount : Int32) (d_rowCount : Int32) (p_lineLength : Int32) (p_textLength : Int32) (h_next : Int32) (h_held : Int32) (h_snapshotKept : Bool) (i_bytes : Nat → Int32) (f_letters : Nat → Int32) (f_letterCount : Nat → Int32) (f_personYear : Nat → Int32) (f_parentUnion : Nat → Int32) (f_firstPartner : Nat → Int32) (f_secondPartner : Nat → Int32) (f_unionYear : Nat → Int32) (f_generation : Nat → Int32) (f_ancestorMask : Nat → Int32) (f_level : Nat → Int32) (f_referenced : Nat → Int32) (d_letters : Nat → Int32) (d_letterCount : Nat → Int32) (d_personYear : Nat → Int32) (d_parentUnion : Nat → Int32) (d_firstPartner : Nat → Int32) (d_secondPartner : Nat → Int32) (d_unionYear : Nat → Int32) (d_generation : Nat → Int32) (d_ancestorMask : Nat → Int32) (d_level : Nat → Int32) (d_referenced : Nat → Int32) (e_kinships : Nat → Int64) (e_ways : Nat → Int32) (e_nextWays : Nat → Int32) (r_order : Nat → Int32) (r_rowStart : Nat → Int32) (r_placeOf : Nat → Int32) (r_firstBox : Nat → Int32) (r_secondBox : Nat → Int32) (r_keys : Nat → Int32) (c_firstColumn : Nat → Int32) (c_middleColumn : Nat → Int32) (p_line : Nat → Int32) (p_text : Nat → Int32) (h_cells : Nat → Int32) (q_leftValues : Nat → Int32) (q_rightValues : Nat → Int32) (q_properties : Nat → Int32) (m_undoCount : Int32) (m_thrown : Int32) (m_hasSnapshot : Bool) (m_rows : Int32) (m_lineLength : Int32) (m_formattedLength : Int32) (m_bufferLength : Int32) (m_limit : Int32) (m_next : Int32) (m_beginsAt : Int32) (m_token : Int32) (m_error : Int32) (m_errorAt : Int32) (m_errorPosition : Int32) (m_nested : Int32) (m_codeCount : Int32) (m_now : Nat → Int64) (m_draft : Nat → Int64) (m_snapshot : Nat → Int64) (m_history : Nat → Int64) (m_generation : Nat → Int32) (m_level : Nat → Int32) (m_rowSize : Nat → Int32) (m_rowOf : Nat → Int32) (m_isThere : Nat → Bool) (m_boxAt : Nat → Int32) (m_column : Nat → Int32) (m_line : Nat → Int32) (m_kinships : Nat → Int64) (m_ways : Nat → Int32) (m_further : Nat → Int32) (m_formatted : Nat → Int32) (m_buffer : Nat → Int32) (m_codes : Nat → Int32) (m_stack : Nat → Int64) (o : Nat → Int64) (J : INV f_personCount f_unionCount f_rowCount f_letterCount f_letters f_personYear f_parentUnion f_firstPartner f_secondPartner f_unionYear f_generation f_ancestorMask f_level f_referenced r_order r_rowStart r_placeOf r_firstBox r_secondBox m_now h_cells h_next h_held m_history m_undoCount h_snapshotKept m_snapshot m_hasSnapshot i_filled m_bufferLength i_bytes m_buffer i_errorStart m_errorPosition p_line p_lineLength p_text p_textLength m_formatted m_formattedLength) (H : Heap) (locs : List Loc) (ls : Array Slot) (hP : va_P (dC, dI) vwCl (LW cI cJ cZ ad a_x a_i a_f a_e a_r a_c a_p a_h a_t a_q a_i_bytes a_f_letters a_f_letterCount a_f_personYear a_f_parentUnion a_f_firstPartner a_f_secondPartner a_f_unionYear a_f_generation a_f_ancestorMask a_f_level a_f_referenced a_d a_d_letters a_d_letterCount a_d_personYear a_d_parentUnion a_d_firstPartner a_d_secondPartner a_d_unionYear a_d_generation a_d_ancestorMask a_d_level a_d_referenced a_e_kinships a_e_ways a_e_nextWays a_r_order a_r_rowStart a_r_placeOf a_r_firstBox a_r_secondBox a_r_keys a_c_firstColumn a_c_middleColumn a_p_line a_p_text a_h_cells a_q_leftValues a_q_rightValues a_q_properties a_o i_filled i_length i_kind i_start i_stop i_value i_errorCode i_errorStart f_personCount f_unionCount f_rowCount d_personCount d_unionCount d_rowCount p_lineLength p_textLength h_next h_held h_snapshotKept i_bytes f_letters f_letterCount f_personYear f_parentUnion f_firstPartner f_secondPartner f_unionYear f_generation f_ancestorMask f_level f_referenced d_letters d_letterCount d_personYear d_parentUnion d_firstPartner d_secondPartner d_unionYear d_generation d_ancestorMask d_level d_referenced e_kinships e_ways e_nextWays r_order r_rowStart r_placeOf r_firstBox r_secondBox r_keys c_firstColumn c_middleColumn p_line p_text h_cells q_leftValues q_rightValues q_properties m_undoCount m_thrown m_hasSnapshot m_rows m_lineLength m_formattedLength m_bufferLength m_limit m_next m_beginsAt m_token m_error m_errorAt m_errorPosition m_nested m_codeCount m_now m_draft m_snapshot m_history m_generation m_level m_rowSize m_rowOf m_isThere m_boxAt m_column m_line m_kinships m_ways m_further m_formatted m_buffer m_codes m_stack o) H) (hD : va_D A (LW cI cJ cZ ad a_x a_i a_f a_e a_r a_c a_p a_h a_t a_q a_i_bytes a_f_letters a_f_letterCount a_f_personYear a_f_parentUnion a_f_firstPartner a_f_secondPartner a_f_unionYear a_f_generation a_f_ancestorMask a_f_level a_f_referenced a_d a_d_letters a_d_letterCount a_d_personYear a_d_parentUnion a_d_firstPartner a_d_secondPartner a_d_unionYear a_d_generation a_d_ancestorMask a_d_level a_d_referenced a_e_kinships a_e_ways a_e_nextWays a_r_order a_r_rowStart a_r_placeOf a_r_firstBox a_r_secondBox a_r_keys a_c_firstColumn a_c_middleColumn a_p_line a_p_text a_h_cells a_q_leftValues a_q_rightValues a_q_properties a_o i_filled i_length i_kind i_start i_stop i_value i_errorCode i_errorStart f_personCount f_unionCount f_rowCount d_personCount d_unionCount d_rowCount p_lineLength p_textLength h_next h_held h_snapshotKept i_bytes f_letters f_letterCount f_personYear f_parentUnion f_firstPartner f_secondPartner f_unionYear f_generation f_ancestorMask f_level f_referenced d_letters d_letterCount d_personYear d_parentUnion d_firstPartner d_secondPartner d_unionYear d_generation d_ancestorMask d_level d_referenced e_kinships e_ways e_nextWays r_order r_rowStart r_placeOf r_firstBox r_secondBox r_keys c_firstColumn c_middleColumn p_line p_text h_cells q_leftValues q_rightValues q_properties m_undoCount m_thrown m_hasSnapshot m_rows m_lineLength m_formattedLength m_bufferLength m_limit m_next m_beginsAt m_token m_error m_errorAt m_errorPosition m_nested m_codeCount m_now m_draft m_snapshot m_history m_generation m_level m_rowSize m_rowOf m_isThere m_boxAt m_column m_line m_kinships m_ways m_further m_formatted m_buffer m_codes m_stack o)) (hS : va_S A HB H locs) (hl : lv_has ls 9 [(0, .ref a_s), (1, .ref a_x), (2, .ref (ad 0)), (3, .ref a_o), (4, .int (nI i))]) : W p l e room_1 s m #[Value.ref a_s] below meth c H locs cells slots Q (F0 m 40 ls [.int (nI k)]) := by
  have hx := X.1.1
  have hb := X.1.2.1
  by_cases e0 : k = 0
  · subst e0
    refine lv_tableIn (tgt := 212) hx hb dL_law_40 (by decide) (by decide) rfl (by decide) ?_
    exact K_0 X J G hcs hP hD hS hl kk
  by_cases e1 : k = 1
  · subst e1
    refine lv_tableIn (tgt := 285) hx hb dL_law_40 (by decide) (by decide) rfl (by decide) ?_
    exact K_1 X J G hcs hP hD hS hl kk
  by_cases e2 : k = 2
  · subst e2
    refine lv_tableIn (tgt := 341) hx hb dL_law_40 (by decide) (by decide) rfl (by decide) ?_
    exact K_2 X J G hcs hP hD hS hl kk
  by_cases e3 : k = 3
  · subst e3
    refine lv_tableIn (tgt := 354) hx hb dL_law_40 (by decide) (by decide) rfl (by decide) ?_
    exact K_3 X J G hcs hP hD hS hl kk
  by_cases e4 : k = 4
  · subst e4
    refine lv_tableIn (tgt := 379) hx hb dL_law_40 (by decide) (by decide) rfl (by decide) ?_
    exact K_4 X J G hcs hP hD hS hl kk
  by_cases e5 : k = 5
  · subst e5
    refine lv_tableIn (tgt := 447) hx hb dL_law_40 (by decide) (by decide) rfl (by decide) ?_
    exact K_5 X J G hcs hP hD hS hl kk
  by_cases e6 : k = 6
  · subst e6
    refine lv_tableIn (tgt := 515) hx hb dL_law_40 (by decide) (by decide) rfl (by decide) ?_
    exact K_6 X J G hcs hP hD hS hl kk
  by_cases e7 : k = 7
  · subst e7
    refine lv_tableIn (tgt := 571) hx hb dL_law_40 (by decide) (by decide) rfl (by decide) ?_
    exact K_7 X J G hcs hP hD hS hl kk
  by_cases e8 : k = 8
  · subst e8
    refine lv_tableIn (tgt := 627) hx hb dL_law_40 (by decide) (by decide) rfl (by decide) ?_
    exact K_8 X J G hcs hP hD hS hl kk
  by_cases e9 : k = 9
  · subst e9
    refine lv_tableIn (tgt := 683) hx hb dL_law_40 (by decide) (by decide) rfl (by decide) ?_
    exact K_9 X J G hcs hP hD hS hl kk
  by_cases e10 : k = 10
  · subst e10
    refine lv_tableIn (tgt := 750) hx hb dL_law_40 (by decide) (by decide) rfl (by decide) ?_
    exact K_10 X J G hcs hP hD hS hl kk
  by_cases e11 : k = 11
  · subst e11
    refine lv_tableIn (tgt := 818) hx hb dL_law_40 (by decide) (by decide) rfl (by decide) ?_
    exact K_11 X J G hcs hP hD hS hl kk
  by_cases e12 : k = 12
  · subst e12
    refine lv_tableIn (tgt := 886) hx hb dL_law_40 (by decide) (by decide) rfl (by decide) ?_
    exact K_12 X J G hcs hP hD hS hl kk
  by_cases e13 : k = 13
  · subst e13
    refine lv_tableIn (tgt := 954) hx hb dL_law_40 (by decide) (by decide) rfl (by decide) ?_
    exact K_13 X J G hcs hP hD hS hl kk
  by_cases e14 : k = 14
  · subst e14
    refine lv_tableIn (tgt := 1022) hx hb dL_law_40 (by decide) (by decide) rfl (by decide) ?_
    exact K_14 X J G hcs hP hD hS hl kk
  by_cases e15 : k = 15
  · subst e15
    refine lv_tableIn (tgt := 1078) hx hb dL_law_40 (by decide) (by decide) rfl (by decide) ?_
    exact K_15 X J G hcs hP hD hS hl kk
  by_cases e16 : k = 16
  · subst e16
    refine lv_tableIn (tgt := 1158) hx hb dL_law_40 (by decide) (by decide) rfl (by decide) ?_
    exact K_16 X J G hcs hP hD hS hl kk
  by_cases e17 : k = 17
  · subst e17
    refine lv_tableIn (tgt := 1214) hx hb dL_law_40 (by decide) (by decide) rfl (by decide) ?_
    exact K_17 X J G hcs hP hD hS hl kk
  by_cases e18 : k = 18
  · subst e18
    refine lv_tableIn (tgt := 1227) hx hb dL_law_40 (by decide) (by decide) rfl (by decide) ?_
    exact K_18 X J G hcs hP hD hS hl kk
  by_cases e19 : k = 19
  · subst e19
    refine lv_tableIn (tgt := 1311) hx hb dL_law_40 (by decide) (by decide) rfl (by decide) ?_
    exact K_19 X J G hcs hP hD hS hl kk
  by_cases e20 : k = 20
  · subst e20
    refine lv_tableIn (tgt := 1391) hx hb dL_law_40 (by decide) (by decide) rfl (by decide) ?_
    exact K_20 X J G hcs hP hD hS hl kk
  by_cases e21 : k = 21
  · subst e21
    refine lv_tableIn (tgt := 1404) hx hb dL_law_40 (by decide) (by decide) rfl (by decide) ?_
    exact K_21 X J G hcs hP hD hS hl kk
  by_cases e22 : k = 22
  · subst e22
    refine lv_tableIn (tgt := 1484) hx hb dL_law_40 (by decide) (by decide) rfl (by decide) ?_
    exact K_22 X J G hcs hP hD hS hl kk
  by_cases e23 : k = 23
  · subst e23
    refine lv_tableIn (tgt := 1509) hx hb dL_law_40 (by decide) (by decide) rfl (by decide) ?_
    exact K_23 X J G hcs hP hD hS hl kk
  by_cases e24 : k = 24
  · subst e24
    refine lv_tableIn (tgt := 1565) hx hb dL_law_40 (by decide) (by decide) rfl (by decide) ?_
    exact K_24 X J G hcs hP hD hS hl kk
  by_cases e25 : k = 25
  · subst e25
    refine lv_tableIn (tgt := 1621) hx hb dL_law_40 (by decide) (by decide) rfl (by decide) ?_
    exact K_25 X J G hcs hP hD hS hl kk
  by_cases e26 : k = 26
  · subst e26
    refine lv_tableIn (tgt := 1664) hx hb dL_law_40 (by decide) (by decide) rfl (by decide) ?_
    exact K_26 X J G hcs hP hD hS hl kk
  by_cases e27 : k = 27
  · subst e27
    refine lv_tableIn (tgt := 1705) hx hb dL_law_40 (by decide) (by decide) rfl (by decide) ?_
    exact K_27 X J G hcs hP hD hS hl kk
  by_cases e28 : k = 28
  · subst e28
    refine lv_tableIn (tgt := 1785) hx hb dL_law_40 (by decide) (by decide) rfl (by decide) ?_
    exact K_28 X J G hcs hP hD hS hl kk
  by_cases e29 : k = 29
  · subst e29
    refine lv_tableIn (tgt := 1853) hx hb dL_law_40 (by decide) (by decide) rfl (by decide) ?_
    exact K_29 X J G hcs hP hD hS hl kk
  by_cases e30 : k = 30
  · subst e30
    refine lv_tableIn (tgt := 1909) hx hb dL_law_40 (by decide) (by decide) rfl (by decide) ?_
    exact K_30 X J G hcs hP hD hS hl kk
  by_cases e31 : k = 31
  · subst e31
    refine lv_tableIn (tgt := 1989) hx hb dL_law_40 (by decide) (by decide) rfl (by decide) ?_
    exact K_31 X J G hcs hP hD hS hl kk
  by_cases e32 : k = 32
  · subst e32
    refine lv_tableIn (tgt := 2045) hx hb dL_law_40 (by decide) (by decide) rfl (by decide) ?_
    exact K_32 X J G hcs hP hD hS hl kk
  by_cases e33 : k = 33
  · subst e33
    refine lv_tableIn (tgt := 2058) hx hb dL_law_40 (by decide) (by decide) rfl (by decide) ?_
    exact K_33 X J G hcs hP hD hS hl kk
  by_cases e34 : k = 34
  · subst e34
    refine lv_tableIn (tgt := 2069) hx hb dL_law_40 (by decide) (by decide) rfl (by decide) ?_
    exact K_34 X J G hcs hP hD hS hl kk
  by_cases e35 : k = 35
  · subst e35
    refine lv_tableIn (tgt := 2082) hx hb dL_law_40 (by decide) (by decide) rfl (by decide) ?_
    exact K_35 X J G hcs hP hD hS hl kk
  by_cases e36 : k = 36
  · subst e36
    refine lv_tableIn (tgt := 2095) hx hb dL_law_40 (by decide) (by decide) rfl (by decide) ?_
    exact K_36 X J G hcs hP hD hS hl kk
  by_cases e37 : k = 37
  · subst e37
    refine lv_tableIn (tgt := 2106) hx hb dL_law_40 (by decide) (by decide) rfl (by decide) ?_
    exact K_37 X J G hcs hP hD hS hl kk
  by_cases e38 : k = 38
  · subst e38
    refine lv_tableIn (tgt := 2119) hx hb dL_law_40 (by decide) (by decide) rfl (by decide) ?_
    exact K_38 X J G hcs hP hD hS hl kk
  refine lv_tableOut (tgt := 2175) hx hb dL_law_40 (Or.inr (by rw [nI_toInt (by omega)]; omega)) (by decide) ?_
  exact W.widen (k := cells + 1) (n := slots + 6) (by omega) (by omega) (kk i_filled i_length i_kind i_start i_stop i_value i_errorCode i_errorStart f_personCount f_unionCount f_rowCount d_personCount d_unionCount d_rowCount p_lineLength p_textLength h_next h_held h_snapshotKept i_bytes f_letters f_letterCount f_personYear f_parentUnion f_firstPartner f_secondPartner f_unionYear f_generation f_ancestorMask f_level f_referenced d_letters d_letterCount d_personYear d_parentUnion d_firstPartner d_secondPartner d_unionYear d_generation d_ancestorMask d_level d_referenced e_kinships e_ways e_nextWays r_order r_rowStart r_placeOf r_firstBox r_secondBox r_keys c_firstColumn c_middleColumn p_line p_text h_cells q_leftValues q_rightValues q_properties m_undoCount m_thrown m_hasSnapshot m_rows m_lineLength m_formattedLength m_bufferLength m_limit m_next m_beginsAt m_token m_error m_errorAt m_errorPosition m_nested m_codeCount m_now m_draft m_snapshot m_history m_generation m_level m_rowSize m_rowOf m_isThere m_boxAt m_column m_line m_kinships m_ways m_further m_formatted m_buffer m_codes m_stack o J H locs ls hP hD hS hl)
set_option maxHeartbeats 4000000 in
set_option maxRecDepth 100000 in
theorem law_loop (X : LWX p l s m c dC dI cI cJ cZ adK adV ad A HB a_s nL xs) (hn : nL ≤ 3072)
    (hend : ∀ (H : Heap) (locs : List Loc) (ls : Array Slot) (cells slots : Nat), va_S A HB H locs → cells ≤ 601024 → slots ≤ 7293034 → W p l e room_1 s m #[Value.ref a_s] below meth c H locs cells slots Q (F0 m 2182 ls [.int 1])) :
    ∀ d i cells slots, i ≤ nL → nL - i ≤ d → cells + d ≤ 601024 → slots + 6 * d ≤ 7293034 → HLOOP p l e s m below meth c Q A HB a_s dC dI cI cJ cZ ad a_x a_i a_f a_e a_r a_c a_p a_h a_t a_q a_i_bytes a_f_letters a_f_letterCount a_f_personYear a_f_parentUnion a_f_firstPartner a_f_secondPartner a_f_unionYear a_f_generation a_f_ancestorMask a_f_level a_f_referenced a_d a_d_letters a_d_letterCount a_d_personYear a_d_parentUnion a_d_firstPartner a_d_secondPartner a_d_unionYear a_d_generation a_d_ancestorMask a_d_level a_d_referenced a_e_kinships a_e_ways a_e_nextWays a_r_order a_r_rowStart a_r_placeOf a_r_firstBox a_r_secondBox a_r_keys a_c_firstColumn a_c_middleColumn a_p_line a_p_text a_h_cells a_q_leftValues a_q_rightValues a_q_properties a_o 23 (nI i) cells slots := by
  intro d
  induction d using Nat.strongRecOn with
  | ind d ih =>
    intro i cells slots hi hd hc hs i_filled i_length i_kind i_start i_stop i_value i_errorCode i_errorStart f_personCount f_unionCount f_rowCount d_personCount d_unionCount d_rowCount p_lineLength p_textLength h_next h_held h_snapshotKept i_bytes f_letters f_letterCount f_personYear f_parentUnion f_firstPartner f_secondPartner f_unionYear f_generation f_ancestorMask f_level f_referenced d_letters d_letterCount d_personYear d_parentUnion d_firstPartner d_secondPartner d_unionYear d_generation d_ancestorMask d_level d_referenced e_kinships e_ways e_nextWays r_order r_rowStart r_placeOf r_firstBox r_secondBox r_keys c_firstColumn c_middleColumn p_line p_text h_cells q_leftValues q_rightValues q_properties m_undoCount m_thrown m_hasSnapshot m_rows m_lineLength m_formattedLength m_bufferLength m_limit m_next m_beginsAt m_token m_error m_errorAt m_errorPosition m_nested m_codeCount m_now m_draft m_snapshot m_history m_generation m_level m_rowSize m_rowOf m_isThere m_boxAt m_column m_line m_kinships m_ways m_further m_formatted m_buffer m_codes m_stack o J H locs ls hP hD hS hl
    obtain ⟨S, hst, hE, hG, hNc, hNm, hX, hbl, hbA, hHB, hHX, hAA, hA⟩ := id X
    have hx := S.1
    have hb := S.2.1
    refine lv_iload hx hb dL_law_23 (lv_at hl 4 rfl) ?_
    refine lv_aload_n hx hb dL_law_25 rfl (lv_at hl 0 rfl) ?_
    refine va_slen hx hb hX hbl hbA (gS0 hHB hHX hAA hS) dL_law_26 ?_
    refine lv_bipush (v := 6) hx hb dL_law_27 (by decide) ?_
    refine lv_isub hx hb dL_law_29 ?_
    refine lv_icmp_gt (tgt := 2181) hx hb dL_law_30 (by decide) (fun h => ?_) (fun h => ?_)
    · refine lv_iconst (v := 1) hx hb dL_law_2181 (by decide) ?_
      exact hend H locs ls cells slots hS (by omega) (by omega)
    · have h6 : i + 6 ≤ nL := Decidable.not_not.mp (fun q => h ((len6 hn hi).mpr q))
      refine lv_aload_n hx hb dL_law_33 rfl (lv_at hl 0 rfl) ?_
      refine lv_iload hx hb dL_law_34 (lv_at hl 4 rfl) ?_
      refine va_sld hx hb hX hbl hbA (gS0 hHB hHX hAA hS) (fun q => by
        rcases q with q | q
        · exact nI_pos (by omega) q
        · rw [nI_clamp (by omega)] at q; omega) dL_law_36 ?_
      refine lv_bipush (v := 63) hx hb dL_law_37 (by decide) ?_
      refine lv_iand hx hb dL_law_39 ?_
      obtain ⟨k, hk, hk2⟩ := and63 (xs (nI i).toNatClampNeg)
      rw [hk2]
      refine law_case X hk ⟨i, by omega, by omega, rfl⟩ ⟨by omega, by omega⟩ ?_ i_filled i_length i_kind i_start i_stop i_value i_errorCode i_errorStart f_personCount f_unionCount f_rowCount d_personCount d_unionCount d_rowCount p_lineLength p_textLength h_next h_held h_snapshotKept i_bytes f_letters f_letterCount f_personYear f_parentUnion f_firstPartner f_secondPartner f_unionYear f_generation f_ancestorMask f_level f_referenced d_letters d_letterCount d_personYear d_parentUnion d_firstPartner d_secondPartner d_unionYear d_generation d_ancestorMask d_level d_referenced e_kinships e_ways e_nextWays r_order r_rowStart r_placeOf r_firstBox r_secondBox r_keys c_firstColumn c_middleColumn p_line p_text h_cells q_leftValues q_rightValues q_properties m_undoCount m_thrown m_hasSnapshot m_rows m_lineLength m_formattedLength m_bufferLength m_limit m_next m_beginsAt m_token m_error m_errorAt m_errorPosition m_nested m_codeCount m_now m_draft m_snapshot m_history m_generation m_level m_rowSize m_rowOf m_isThere m_boxAt m_column m_line m_kinships m_ways m_further m_formatted m_buffer m_codes m_stack o J H locs ls hP hD hS hl
      intro i_filled i_length i_kind i_start i_stop i_value i_errorCode i_errorStart f_personCount f_unionCount f_rowCount d_personCount d_unionCount d_rowCount p_lineLength p_textLength h_next h_held h_snapshotKept i_bytes f_letters f_letterCount f_personYear f_parentUnion f_firstPartner f_secondPartner f_unionYear f_generation f_ancestorMask f_level f_referenced d_letters d_letterCount d_personYear d_parentUnion d_firstPartner d_secondPartner d_unionYear d_generation d_ancestorMask d_level d_referenced e_kinships e_ways e_nextWays r_order r_rowStart r_placeOf r_firstBox r_secondBox r_keys c_firstColumn c_middleColumn p_line p_text h_cells q_leftValues q_rightValues q_properties m_undoCount m_thrown m_hasSnapshot m_rows m_lineLength m_formattedLength m_bufferLength m_limit m_next m_beginsAt m_token m_error m_errorAt m_errorPosition m_nested m_codeCount m_now m_draft m_snapshot m_history m_generation m_level m_rowSize m_rowOf m_isThere m_boxAt m_column m_line m_kinships m_ways m_further m_formatted m_buffer m_codes m_stack o J H locs ls hP hD hS hl
      refine lv_iinc (k := 4) (v := nI (i + 6)) (lv' := [(4, .int (nI (i + 6))), (0, .ref a_s), (1, .ref a_x), (2, .ref (ad 0)), (3, .ref a_o)]) hx hb dL_law_2175 hl rfl (by rw [show Int32.ofInt 6 = nI 6 from rfl, nI_add]) (by decide) rfl (fun ls hl => ?_)
      refine lv_goto (tgt := 23) hx hb dL_law_2178 (by decide) ?_
      exact ih (d - 1) (by omega) (i + 6) (cells + 1) (slots + 6) (by omega) (by omega) (by omega) (by omega) i_filled i_length i_kind i_start i_stop i_value i_errorCode i_errorStart f_personCount f_unionCount f_rowCount d_personCount d_unionCount d_rowCount p_lineLength p_textLength h_next h_held h_snapshotKept i_bytes f_letters f_letterCount f_personYear f_parentUnion f_firstPartner f_secondPartner f_unionYear f_generation f_ancestorMask f_level f_referenced d_letters d_letterCount d_personYear d_parentUnion d_firstPartner d_secondPartner d_unionYear d_generation d_ancestorMask d_level d_referenced e_kinships e_ways e_nextWays r_order r_rowStart r_placeOf r_firstBox r_secondBox r_keys c_firstColumn c_middleColumn p_line p_text h_cells q_leftValues q_rightValues q_properties m_undoCount m_thrown m_hasSnapshot m_rows m_lineLength m_formattedLength m_bufferLength m_limit m_next m_beginsAt m_token m_error m_errorAt m_errorPosition m_nested m_codeCount m_now m_draft m_snapshot m_history m_generation m_level m_rowSize m_rowOf m_isThere m_boxAt m_column m_line m_kinships m_ways m_further m_formatted m_buffer m_codes m_stack o J H locs ls hP hD hS (lv_sub hl [1, 2, 3, 4, 0] rfl)
end LAWLOOP
