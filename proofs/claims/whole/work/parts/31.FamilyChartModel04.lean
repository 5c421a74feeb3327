section G_31_FamilyChartModel04
variable {l : Launch} {dC : Nat → ClassId} {dI : Nat → Nat → Nat} {cI cJ cZ : ClassId} {adK adV : Nat → Nat}
set_option maxHeartbeats 4000000 in
set_option maxRecDepth 100000 in
theorem c_X10_readClause (ad : Nat → Nat) (a_m_fam : Nat) (m_undoCount : Int32) (m_thrown : Int32) (m_hasSnapshot : Bool) (m_rows : Int32) (m_lineLength : Int32) (m_formattedLength : Int32) (m_bufferLength : Int32) (m_limit : Int32) (m_next : Int32) (m_beginsAt : Int32) (m_token : Int32) (m_error : Int32) (m_errorAt : Int32) (m_errorPosition : Int32) (m_nested : Int32) (m_codeCount : Int32) (m_buffer : Nat → Int32) (m_fam : Nat → Int64) (m_beginsAt_9 : Int32) (m_error_9 : Int32) (m_errorAt_9 : Int32) (m_fam_9 : Nat → Int64) (m_next_9 : Int32) (m_token_9 : Int32) (hf : p10_readClause m_limit m_next m_beginsAt m_token m_error m_errorAt m_buffer m_fam = some (m_beginsAt_9, m_error_9, m_errorAt_9, m_fam_9, m_next_9, m_token_9)) : gMH l dC dI cI cJ cZ adK adV yX10_readClause cX10_readClause 1 none (6) (138) [.ref (ad 0)] [(ad 0, .inr (10, oM ad m_undoCount m_thrown m_hasSnapshot a_m_fam m_rows m_lineLength m_formattedLength m_bufferLength m_limit m_next m_beginsAt m_token m_error m_errorAt m_errorPosition m_nested m_codeCount)), ((ad 24), .inl (cI, 800, .inl m_buffer)), (a_m_fam, .inl (cJ, 130, .inr (.inl m_fam)))] [(ad 0, .inr (10, oM ad m_undoCount m_thrown m_hasSnapshot a_m_fam m_rows m_lineLength m_formattedLength m_bufferLength m_limit m_next_9 m_beginsAt_9 m_token_9 m_error_9 m_errorAt_9 m_errorPosition m_nested m_codeCount)), ((ad 24), .inl (cI, 800, .inl m_buffer)), (a_m_fam, .inl (cJ, 130, .inr (.inl m_fam_9)))] none := by
  refine g_startH (own := RX10) (by decide +kernel) rfl (Nat.le_of_ble_eq_true rfl) ?_
  intro p e s m below meth c A ls S hr hlocks hE hG hP hD hS hA hl hin
  have hx := S.1
  have hb := S.2.1
  have hml := S.2.2.1
  have hown := S.2.2.2.1
  have htg : ∀ z ∈ gw, z.before ([.ref (ad 0)] : List Value).toArray s = true := fun w h => S.2.2.2.2 w (List.mem_cons_of_mem _ h)
  have hl : lv_has ls 1 [(0, .ref (ad 0))] := hl
  have hS0 := hS
  obtain ⟨H, hH⟩ : ∃ H, H = s.heap := ⟨_, rfl⟩
  obtain ⟨locs, hlc⟩ : ∃ locs : List Loc, locs = [] := ⟨_, rfl⟩
  have hS : va_S A s.heap H locs := by rw [hH, hlc]; exact hS0
  have hP : va_P (dC, dI) vwCl [(ad 0, .inr (10, oM ad m_undoCount m_thrown m_hasSnapshot a_m_fam m_rows m_lineLength m_formattedLength m_bufferLength m_limit m_next m_beginsAt m_token m_error m_errorAt m_errorPosition m_nested m_codeCount)), ((ad 24), .inl (cI, 800, .inl m_buffer)), (a_m_fam, .inl (cJ, 130, .inr (.inl m_fam)))] H := by rw [hH]; exact hP
  suffices hgo : W p l e ({ frames := 6, cells := 0, slots := 0, locals := 138 }) s m ([.ref (ad 0)] : List Value).toArray below meth c H locs 0 0 (MQ below (gQ dC dI none A [(ad 0, .inr (10, oM ad m_undoCount m_thrown m_hasSnapshot a_m_fam m_rows m_lineLength m_formattedLength m_bufferLength m_limit m_next_9 m_beginsAt_9 m_token_9 m_error_9 m_errorAt_9 m_errorPosition m_nested m_codeCount)), ((ad 24), .inl (cI, 800, .inl m_buffer)), (a_m_fam, .inl (cJ, 130, .inr (.inl m_fam_9)))]) ([.ref (ad 0)] : List Value).toArray s 0 0 A) (F0 m 0 ls []) by rw [hH, hlc] at hgo; exact hgo
  rw [p10_readClause] at hf
  have J39 : ∀ (m_next_39 : Int32) (m_beginsAt_39 : Int32) (m_token_39 : Int32) (m_error_39 : Int32) (m_errorAt_39 : Int32) (m_fam_39 : Nat → Int64) (H : Heap) (locs : List Loc) (ls : Array Slot), p10_readClause_J39 m_buffer m_limit m_next_39 m_beginsAt_39 m_token_39 m_error_39 m_errorAt_39 m_fam_39 = some (m_beginsAt_9, m_error_9, m_errorAt_9, m_fam_9, m_next_9, m_token_9) → va_P (dC, dI) vwCl [(ad 0, .inr (10, oM ad m_undoCount m_thrown m_hasSnapshot a_m_fam m_rows m_lineLength m_formattedLength m_bufferLength m_limit m_next_39 m_beginsAt_39 m_token_39 m_error_39 m_errorAt_39 m_errorPosition m_nested m_codeCount)), ((ad 24), .inl (cI, 800, .inl m_buffer)), (a_m_fam, .inl (cJ, 130, .inr (.inl m_fam_39)))] H → va_D A [(ad 0, .inr (10, oM ad m_undoCount m_thrown m_hasSnapshot a_m_fam m_rows m_lineLength m_formattedLength m_bufferLength m_limit m_next_39 m_beginsAt_39 m_token_39 m_error_39 m_errorAt_39 m_errorPosition m_nested m_codeCount)), ((ad 24), .inl (cI, 800, .inl m_buffer)), (a_m_fam, .inl (cJ, 130, .inr (.inl m_fam_39)))] → va_S A s.heap H locs → lv_has ls 1 [(0, .ref (ad 0))] → W p l e ({ frames := 6, cells := 0, slots := 0, locals := 138 }) s m ([.ref (ad 0)] : List Value).toArray below meth c H locs 0 0 (MQ below (gQ dC dI none A [(ad 0, .inr (10, oM ad m_undoCount m_thrown m_hasSnapshot a_m_fam m_rows m_lineLength m_formattedLength m_bufferLength m_limit m_next_9 m_beginsAt_9 m_token_9 m_error_9 m_errorAt_9 m_errorPosition m_nested m_codeCount)), ((ad 24), .inl (cI, 800, .inl m_buffer)), (a_m_fam, .inl (cJ, 130, .inr (.inl m_fam_9)))]) ([.ref (ad 0)] : List Value).toArray s 0 0 A) (F0 m 39 ls []) := by
    intro m_next_39 m_beginsAt_39 m_token_39 m_error_39 m_errorAt_39 m_fam_39 H locs ls hf hP hD hS hl
    rw [p10_readClause_J39] at hf
    refine lv_aload_n hx hb dX10_readClause_39 rfl (lv_at hl 0 rfl) ?_
    refine lv_bipush (v := 59) hx hb dX10_readClause_40 (by decide) ?_
    obtain ⟨⟨m_beginsAt_42, m_error_42, m_errorAt_42, m_next_42, m_token_42⟩, h9, hf⟩ := ob_s hf
    have hf := uc5_e hf
    refine gcV (index := 458) S hE (c_X10_expect ad a_m_fam m_undoCount m_thrown m_hasSnapshot m_rows m_lineLength m_formattedLength m_bufferLength m_limit m_next_39 m_beginsAt_39 m_token_39 m_error_39 m_errorAt_39 m_errorPosition m_nested m_codeCount m_buffer (59 : Int32) m_beginsAt_42 m_error_42 m_errorAt_42 m_next_42 m_token_42 h9) mX10_expect tw2012 ⟨Nat.le_of_ble_eq_true rfl, Nat.le_of_ble_eq_true rfl⟩ hP hD hS hA ⟨Nat.zero_le _, Nat.zero_le _⟩ 0 10 rfl rfl rfl (wr := [(a_m_fam, .inl (cJ, 130, .inr (.inl m_fam_39)))]) [0, 1] [2] rfl rfl rfl rfl (by decide) (As := [.int (59 : Int32)]) (rest := []) rfl hl.1 rfl (Nat.le_of_ble_eq_true rfl) dX10_readClause_42 (fun H locs hP hD hS => ?_)
    refine W.eq (g2 := F0 m 45 ls []) rfl ?_
    have hP : va_P (dC, dI) vwCl [(a_m_fam, .inl (cJ, 130, .inr (.inl m_fam_39))), (ad 0, .inr (10, oM ad m_undoCount m_thrown m_hasSnapshot a_m_fam m_rows m_lineLength m_formattedLength m_bufferLength m_limit m_next_42 m_beginsAt_42 m_token_42 m_error_42 m_errorAt_42 m_errorPosition m_nested m_codeCount)), ((ad 24), .inl (cI, 800, .inl m_buffer))] H := hP
    have hD : va_D A [(a_m_fam, .inl (cJ, 130, .inr (.inl m_fam_39))), (ad 0, .inr (10, oM ad m_undoCount m_thrown m_hasSnapshot a_m_fam m_rows m_lineLength m_formattedLength m_bufferLength m_limit m_next_42 m_beginsAt_42 m_token_42 m_error_42 m_errorAt_42 m_errorPosition m_nested m_codeCount)), ((ad 24), .inl (cI, 800, .inl m_buffer))] := hD
    cases hf
    exact g_vret S hr hlocks (hP.sub [1, 2, 0] rfl) (hD.sub [1, 2, 0] (by decide) rfl) hS dX10_readClause_45
  refine lv_aload_n hx hb dX10_readClause_0 rfl (lv_at hl 0 rfl) ?_
  refine va_ldcS (own := RX10) hx hb hown (hG.2.2.1 28 ("FamilyChartModel", 72, "person", 0) rfl) dX10_readClause_1 ?_
  obtain ⟨r3, h9, hf⟩ := ob_s hf
  refine gcVH (index := 411) S hE hG (c_X10_isWord ad a_m_fam m_undoCount m_thrown m_hasSnapshot m_rows m_lineLength m_formattedLength m_bufferLength m_limit m_next m_beginsAt m_token m_error m_errorAt m_errorPosition m_nested m_codeCount m_buffer 0 (by decide) r3 h9) mX10_isWord tw1958 ⟨Nat.le_of_ble_eq_true rfl, Nat.le_of_ble_eq_true rfl⟩ hP hD hS hA ⟨Nat.zero_le _, Nat.zero_le _⟩ 0 10 rfl rfl rfl (wr := [(a_m_fam, .inl (cJ, 130, .inr (.inl m_fam)))]) [0, 1] [2] rfl rfl rfl rfl (by decide) (As := [.ref (adK 0)]) (rest := []) rfl hl.1 rfl (Nat.le_of_ble_eq_true rfl) dX10_readClause_3 (fun H locs hP hD hS => ?_)
  refine W.eq (g2 := F0 m 6 ls [.int (bI r3)]) rfl ?_
  have hP : va_P (dC, dI) vwCl [(a_m_fam, .inl (cJ, 130, .inr (.inl m_fam))), (ad 0, .inr (10, oM ad m_undoCount m_thrown m_hasSnapshot a_m_fam m_rows m_lineLength m_formattedLength m_bufferLength m_limit m_next m_beginsAt m_token m_error m_errorAt m_errorPosition m_nested m_codeCount)), ((ad 24), .inl (cI, 800, .inl m_buffer))] H := hP
  have hD : va_D A [(a_m_fam, .inl (cJ, 130, .inr (.inl m_fam))), (ad 0, .inr (10, oM ad m_undoCount m_thrown m_hasSnapshot a_m_fam m_rows m_lineLength m_formattedLength m_bufferLength m_limit m_next m_beginsAt m_token m_error m_errorAt m_errorPosition m_nested m_codeCount)), ((ad 24), .inl (cI, 800, .inl m_buffer))] := hD
  refine lv_if_eq (tgt := 16) hx hb dX10_readClause_6 (by decide) (fun h9 => ?_) (fun h9 => ?_)
  · have hf := ctf (bI_0 h9) hf
    refine lv_aload_n hx hb dX10_readClause_16 rfl (lv_at hl 0 rfl) ?_
    refine va_ldcSw (own := RX10) hx hb hown (hG.2.2.1 35 ("FamilyChartModel", 453, "union", 1) rfl) dX10_readClause_17 ?_
    obtain ⟨r20, h9, hf⟩ := ob_s hf
    refine gcVH (index := 411) S hE hG (c_X10_isWord ad a_m_fam m_undoCount m_thrown m_hasSnapshot m_rows m_lineLength m_formattedLength m_bufferLength m_limit m_next m_beginsAt m_token m_error m_errorAt m_errorPosition m_nested m_codeCount m_buffer 1 (by decide) r20 h9) mX10_isWord tw1958 ⟨Nat.le_of_ble_eq_true rfl, Nat.le_of_ble_eq_true rfl⟩ hP hD hS hA ⟨Nat.zero_le _, Nat.zero_le _⟩ 1 10 rfl rfl rfl (wr := [(a_m_fam, .inl (cJ, 130, .inr (.inl m_fam)))]) [1, 2] [0] rfl rfl rfl rfl (by decide) (As := [.ref (adK 1)]) (rest := []) rfl hl.1 rfl (Nat.le_of_ble_eq_true rfl) dX10_readClause_20 (fun H locs hP hD hS => ?_)
    refine W.eq (g2 := F0 m 23 ls [.int (bI r20)]) rfl ?_
    have hP : va_P (dC, dI) vwCl [(a_m_fam, .inl (cJ, 130, .inr (.inl m_fam))), (ad 0, .inr (10, oM ad m_undoCount m_thrown m_hasSnapshot a_m_fam m_rows m_lineLength m_formattedLength m_bufferLength m_limit m_next m_beginsAt m_token m_error m_errorAt m_errorPosition m_nested m_codeCount)), ((ad 24), .inl (cI, 800, .inl m_buffer))] H := hP
    have hD : va_D A [(a_m_fam, .inl (cJ, 130, .inr (.inl m_fam))), (ad 0, .inr (10, oM ad m_undoCount m_thrown m_hasSnapshot a_m_fam m_rows m_lineLength m_formattedLength m_bufferLength m_limit m_next m_beginsAt m_token m_error m_errorAt m_errorPosition m_nested m_codeCount)), ((ad 24), .inl (cI, 800, .inl m_buffer))] := hD
    refine lv_if_eq (tgt := 33) hx hb dX10_readClause_23 (by decide) (fun h9 => ?_) (fun h9 => ?_)
    · have hf := ctf (bI_0 h9) hf
      refine lv_aload_n hx hb dX10_readClause_33 rfl (lv_at hl 0 rfl) ?_
      refine lv_iconst (v := 0) hx hb dX10_readClause_34 (by decide) ?_
      refine lv_iconst (v := 1) hx hb dX10_readClause_35 (by decide) ?_
      obtain ⟨m_error_36, m_errorAt_36, h9⟩ : ∃ m_error_36 m_errorAt_36, p10_check m_beginsAt m_error m_errorAt false (1 : Int32) = (m_error_36, m_errorAt_36) := ⟨_, _, rfl⟩
      have hf := uc2_e (lb_e h9.symm hf)
      refine gcV (index := 415) S hE (c_X10_check ad a_m_fam m_undoCount m_thrown m_hasSnapshot m_rows m_lineLength m_formattedLength m_bufferLength m_limit m_next m_beginsAt m_token m_error m_errorAt m_errorPosition m_nested m_codeCount false (1 : Int32) m_error_36 m_errorAt_36 h9) mX10_check tw1968 ⟨Nat.le_of_ble_eq_true rfl, Nat.le_of_ble_eq_true rfl⟩ hP hD hS hA ⟨Nat.zero_le _, Nat.zero_le _⟩ 1 10 rfl rfl rfl (wr := [(a_m_fam, .inl (cJ, 130, .inr (.inl m_fam))), ((ad 24), .inl (cI, 800, .inl m_buffer))]) [1] [0, 2] rfl rfl rfl rfl (by decide) (As := [.int (bI false), .int (1 : Int32)]) (rest := []) rfl hl.1 rfl (Nat.le_of_ble_eq_true rfl) dX10_readClause_36 (fun H locs hP hD hS => ?_)
      refine W.eq (g2 := F0 m 39 ls []) rfl ?_
      have hP : va_P (dC, dI) vwCl [(a_m_fam, .inl (cJ, 130, .inr (.inl m_fam))), ((ad 24), .inl (cI, 800, .inl m_buffer)), (ad 0, .inr (10, oM ad m_undoCount m_thrown m_hasSnapshot a_m_fam m_rows m_lineLength m_formattedLength m_bufferLength m_limit m_next m_beginsAt m_token m_error_36 m_errorAt_36 m_errorPosition m_nested m_codeCount))] H := hP
      have hD : va_D A [(a_m_fam, .inl (cJ, 130, .inr (.inl m_fam))), ((ad 24), .inl (cI, 800, .inl m_buffer)), (ad 0, .inr (10, oM ad m_undoCount m_thrown m_hasSnapshot a_m_fam m_rows m_lineLength m_formattedLength m_bufferLength m_limit m_next m_beginsAt m_token m_error_36 m_errorAt_36 m_errorPosition m_nested m_codeCount))] := hD
      exact J39 m_next m_beginsAt m_token m_error_36 m_errorAt_36 m_fam H locs ls hf (hP.sub [2, 1, 0] rfl) (hD.sub [2, 1, 0] (by decide) rfl) hS (lv_sub hl [0] rfl)
    · have hf := ctt (bI_1 h9) hf
      refine lv_aload_n hx hb dX10_readClause_26 rfl (lv_at hl 0 rfl) ?_
      obtain ⟨⟨m_beginsAt_27, m_error_27, m_errorAt_27, m_fam_27, m_next_27, m_token_27⟩, h9, hf⟩ := ob_s hf
      have hf := uc6_e hf
      refine gcV (index := 455) S hE (c_X10_readUnion ad a_m_fam m_undoCount m_thrown m_hasSnapshot m_rows m_lineLength m_formattedLength m_bufferLength m_limit m_next m_beginsAt m_token m_error m_errorAt m_errorPosition m_nested m_codeCount m_buffer m_fam m_beginsAt_27 m_error_27 m_errorAt_27 m_fam_27 m_next_27 m_token_27 h9) mX10_readUnion tw2000 ⟨Nat.le_of_ble_eq_true rfl, Nat.le_of_ble_eq_true rfl⟩ hP hD hS hA ⟨Nat.zero_le _, Nat.zero_le _⟩ 1 10 rfl rfl rfl (wr := []) [1, 2, 0] [] rfl rfl rfl rfl (by decide) (As := []) (rest := []) rfl hl.1 rfl (Nat.le_of_ble_eq_true rfl) dX10_readClause_27 (fun H locs hP hD hS => ?_)
      refine W.eq (g2 := F0 m 30 ls []) rfl ?_
      have hP : va_P (dC, dI) vwCl [(ad 0, .inr (10, oM ad m_undoCount m_thrown m_hasSnapshot a_m_fam m_rows m_lineLength m_formattedLength m_bufferLength m_limit m_next_27 m_beginsAt_27 m_token_27 m_error_27 m_errorAt_27 m_errorPosition m_nested m_codeCount)), ((ad 24), .inl (cI, 800, .inl m_buffer)), (a_m_fam, .inl (cJ, 130, .inr (.inl m_fam_27)))] H := hP
      have hD : va_D A [(ad 0, .inr (10, oM ad m_undoCount m_thrown m_hasSnapshot a_m_fam m_rows m_lineLength m_formattedLength m_bufferLength m_limit m_next_27 m_beginsAt_27 m_token_27 m_error_27 m_errorAt_27 m_errorPosition m_nested m_codeCount)), ((ad 24), .inl (cI, 800, .inl m_buffer)), (a_m_fam, .inl (cJ, 130, .inr (.inl m_fam_27)))] := hD
      refine lv_goto (tgt := 39) hx hb dX10_readClause_30 (by decide) ?_
      exact J39 m_next_27 m_beginsAt_27 m_token_27 m_error_27 m_errorAt_27 m_fam_27 H locs ls hf hP hD hS (lv_sub hl [0] rfl)
  · have hf := ctt (bI_1 h9) hf
    refine lv_aload_n hx hb dX10_readClause_9 rfl (lv_at hl 0 rfl) ?_
    obtain ⟨⟨m_beginsAt_10, m_error_10, m_errorAt_10, m_fam_10, m_next_10, m_token_10⟩, h9, hf⟩ := ob_s hf
    have hf := uc6_e hf
    refine gcV (index := 450) S hE (c_X10_readPerson ad a_m_fam m_undoCount m_thrown m_hasSnapshot m_rows m_lineLength m_formattedLength m_bufferLength m_limit m_next m_beginsAt m_token m_error m_errorAt m_errorPosition m_nested m_codeCount m_buffer m_fam m_beginsAt_10 m_error_10 m_errorAt_10 m_fam_10 m_next_10 m_token_10 h9) mX10_readPerson tw1964 ⟨Nat.le_of_ble_eq_true rfl, Nat.le_of_ble_eq_true rfl⟩ hP hD hS hA ⟨Nat.zero_le _, Nat.zero_le _⟩ 1 10 rfl rfl rfl (wr := []) [1, 2, 0] [] rfl rfl rfl rfl (by decide) (As := []) (rest := []) rfl hl.1 rfl (Nat.le_of_ble_eq_true rfl) dX10_readClause_10 (fun H locs hP hD hS => ?_)
    refine W.eq (g2 := F0 m 13 ls []) rfl ?_
    have hP : va_P (dC, dI) vwCl [(ad 0, .inr (10, oM ad m_undoCount m_thrown m_hasSnapshot a_m_fam m_rows m_lineLength m_formattedLength m_bufferLength m_limit m_next_10 m_beginsAt_10 m_token_10 m_error_10 m_errorAt_10 m_errorPosition m_nested m_codeCount)), ((ad 24), .inl (cI, 800, .inl m_buffer)), (a_m_fam, .inl (cJ, 130, .inr (.inl m_fam_10)))] H := hP
    have hD : va_D A [(ad 0, .inr (10, oM ad m_undoCount m_thrown m_hasSnapshot a_m_fam m_rows m_lineLength m_formattedLength m_bufferLength m_limit m_next_10 m_beginsAt_10 m_token_10 m_error_10 m_errorAt_10 m_errorPosition m_nested m_codeCount)), ((ad 24), .inl (cI, 800, .inl m_buffer)), (a_m_fam, .inl (cJ, 130, .inr (.inl m_fam_10)))] := hD
    refine lv_goto (tgt := 39) hx hb dX10_readClause_13 (by decide) ?_
    exact J39 m_next_10 m_beginsAt_10 m_token_10 m_error_10 m_errorAt_10 m_fam_10 H locs ls hf hP hD hS (lv_sub hl [0] rfl)
set_option maxHeartbeats 4000000 in
set_option maxRecDepth 100000 in
theorem c_X10_emit (ad : Nat → Nat) (a_m_fam : Nat) (m_undoCount : Int32) (m_thrown : Int32) (m_hasSnapshot : Bool) (m_rows : Int32) (m_lineLength : Int32) (m_formattedLength : Int32) (m_bufferLength : Int32) (m_limit : Int32) (m_next : Int32) (m_beginsAt : Int32) (m_token : Int32) (m_error : Int32) (m_errorAt : Int32) (m_errorPosition : Int32) (m_nested : Int32) (m_codeCount : Int32) (m_codes : Nat → Int32) (v1 : Int32) (m_codeCount_9 : Int32) (m_codes_9 : Nat → Int32) (hf : p10_emit m_error m_codeCount m_codes v1 = some (m_codeCount_9, m_codes_9)) : gM l dC dI cI cJ cZ yX10_emit cX10_emit 2 none (0) (0) [.ref (ad 0), .int v1] [(ad 0, .inr (10, oM ad m_undoCount m_thrown m_hasSnapshot a_m_fam m_rows m_lineLength m_formattedLength m_bufferLength m_limit m_next m_beginsAt m_token m_error m_errorAt m_errorPosition m_nested m_codeCount)), ((ad 35), .inl (cI, 200, .inl m_codes))] [(ad 0, .inr (10, oM ad m_undoCount m_thrown m_hasSnapshot a_m_fam m_rows m_lineLength m_formattedLength m_bufferLength m_limit m_next m_beginsAt m_token m_error m_errorAt m_errorPosition m_nested m_codeCount_9)), ((ad 35), .inl (cI, 200, .inl m_codes_9))] none := by
  refine g_start (own := RX10) (by decide +kernel) rfl (Nat.le_of_ble_eq_true rfl) ?_
  intro p e s m below meth c A ls S hr hlocks hE hP hD hS hA hl hin
  have hx := S.1
  have hb := S.2.1
  have hml := S.2.2.1
  have hown := S.2.2.2.1
  have htg : ∀ z ∈ gw, z.before ([.ref (ad 0), .int v1] : List Value).toArray s = true := fun w h => S.2.2.2.2 w (List.mem_cons_of_mem _ h)
  have hl : lv_has ls 2 [(0, .ref (ad 0)), (1, .int v1)] := hl
  have hS0 := hS
  obtain ⟨H, hH⟩ : ∃ H, H = s.heap := ⟨_, rfl⟩
  obtain ⟨locs, hlc⟩ : ∃ locs : List Loc, locs = [] := ⟨_, rfl⟩
  have hS : va_S A s.heap H locs := by rw [hH, hlc]; exact hS0
  have hP : va_P (dC, dI) vwCl [(ad 0, .inr (10, oM ad m_undoCount m_thrown m_hasSnapshot a_m_fam m_rows m_lineLength m_formattedLength m_bufferLength m_limit m_next m_beginsAt m_token m_error m_errorAt m_errorPosition m_nested m_codeCount)), ((ad 35), .inl (cI, 200, .inl m_codes))] H := by rw [hH]; exact hP
  suffices hgo : W p l e ({ frames := 0, cells := 0, slots := 0, locals := 0 }) s m ([.ref (ad 0), .int v1] : List Value).toArray below meth c H locs 0 0 (MQ below (gQ dC dI none A [(ad 0, .inr (10, oM ad m_undoCount m_thrown m_hasSnapshot a_m_fam m_rows m_lineLength m_formattedLength m_bufferLength m_limit m_next m_beginsAt m_token m_error m_errorAt m_errorPosition m_nested m_codeCount_9)), ((ad 35), .inl (cI, 200, .inl m_codes_9))]) ([.ref (ad 0), .int v1] : List Value).toArray s 0 0 A) (F0 m 0 ls []) by rw [hH, hlc] at hgo; exact hgo
  rw [p10_emit] at hf
  refine lv_aload_n hx hb dX10_emit_0 rfl (lv_at hl 0 rfl) ?_
  refine va_get (D := (dC, dI)) (ci := 10) (v := .int m_error) (C := RX10) (T := TX10) (N := 37) hx hb htg inX10 hown hE.1 hP 0 rfl rfl 29 (by decide) (htg _ tw1411) (fun _ h9 => h9) rfl dX10_emit_1 ?_
  refine lv_if_ne (tgt := 27) hx hb dX10_emit_4 (by decide) (fun h9 => ?_) (fun h9 => ?_)
  · have hf := itf h9 hf
    cases hf
    exact g_vret S hr hlocks hP hD hS dX10_emit_27
  · have hf := itt h9 hf
    refine lv_aload_n hx hb dX10_emit_7 rfl (lv_at hl 0 rfl) ?_
    refine va_get (D := (dC, dI)) (ci := 10) (v := .ref (ad 35)) (C := RX10) (T := TX10) (N := 37) hx hb htg inX10 hown hE.1 hP 0 rfl rfl 34 (by decide) (htg _ tw1416) (fun _ h9 => h9) rfl dX10_emit_8 ?_
    refine lv_aload_n hx hb dX10_emit_11 rfl (lv_at hl 0 rfl) ?_
    refine va_get (D := (dC, dI)) (ci := 10) (v := .int m_codeCount) (C := RX10) (T := TX10) (N := 37) hx hb htg inX10 hown hE.1 hP 0 rfl rfl 36 (by decide) (htg _ tw1418) (fun _ h9 => h9) rfl dX10_emit_12 ?_
    refine lv_iload_n hx hb dX10_emit_15 rfl (lv_at hl 1 rfl) ?_
    obtain ⟨h9, hf⟩ := gd_s hf
    refine va_iast hx hb hE.1 hP hD hS 1 0 rfl rfl h9 dX10_emit_16 (fun H locs hP hD hS => ?_)
    obtain ⟨g16, h9⟩ : ∃ z, z = (upd m_codes m_codeCount.toNatClampNeg v1) := ⟨_, rfl⟩
    have hf := lb_e h9 hf
    have hP : va_P (dC, dI) vwCl [(ad 0, .inr (10, oM ad m_undoCount m_thrown m_hasSnapshot a_m_fam m_rows m_lineLength m_formattedLength m_bufferLength m_limit m_next m_beginsAt m_token m_error m_errorAt m_errorPosition m_nested m_codeCount)), ((ad 35), .inl (cI, 200, .inl g16))] H := by rw [h9]; exact hP
    have hD : va_D A [(ad 0, .inr (10, oM ad m_undoCount m_thrown m_hasSnapshot a_m_fam m_rows m_lineLength m_formattedLength m_bufferLength m_limit m_next m_beginsAt m_token m_error m_errorAt m_errorPosition m_nested m_codeCount)), ((ad 35), .inl (cI, 200, .inl g16))] := by rw [h9]; exact hD
    refine lv_aload_n hx hb dX10_emit_17 rfl (lv_at hl 0 rfl) ?_
    refine lv_dup hx hb dX10_emit_18 rfl ?_
    refine va_get (D := (dC, dI)) (ci := 10) (v := .int m_codeCount) (C := RX10) (T := TX10) (N := 37) hx hb htg inX10 hown hE.1 hP 0 rfl rfl 36 (by decide) (htg _ tw1418) (fun _ h9 => h9) rfl dX10_emit_19 ?_
    refine lv_iconst (v := 1) hx hb dX10_emit_22 (by decide) ?_
    refine lv_iadd hx hb dX10_emit_23 ?_
    refine lv_topi (fun t24 h9 => ?_)
    have hf := lb_e h9 hf
    refine va_put (D := (dC, dI)) (ci := 10) (v := .int t24) (ty := .int) (C := RX10) (T := TX10) (N := 37) hx hb htg inX10 tyX10 tyX10_ok nmX10 hown hE.1 hP hD hS 0 rfl rfl 36 (by decide) (htg _ tw1418) (fun _ h9 => h9) rfl (by decide +kernel) rfl rfl (Nat.le_of_ble_eq_true rfl) dX10_emit_24 (fun H locs hP hD hS => ?_)
    have hP : va_P (dC, dI) vwCl [(ad 0, .inr (10, oM ad m_undoCount m_thrown m_hasSnapshot a_m_fam m_rows m_lineLength m_formattedLength m_bufferLength m_limit m_next m_beginsAt m_token m_error m_errorAt m_errorPosition m_nested t24)), ((ad 35), .inl (cI, 200, .inl g16))] H := hP
    have hD : va_D A [(ad 0, .inr (10, oM ad m_undoCount m_thrown m_hasSnapshot a_m_fam m_rows m_lineLength m_formattedLength m_bufferLength m_limit m_next m_beginsAt m_token m_error m_errorAt m_errorPosition m_nested t24)), ((ad 35), .inl (cI, 200, .inl g16))] := hD
    cases hf
    exact g_vret S hr hlocks hP hD hS dX10_emit_27
set_option maxHeartbeats 4000000 in
set_option maxRecDepth 100000 in
theorem c_X10_enter (ad : Nat → Nat) (a_m_fam : Nat) (m_undoCount : Int32) (m_thrown : Int32) (m_hasSnapshot : Bool) (m_rows : Int32) (m_lineLength : Int32) (m_formattedLength : Int32) (m_bufferLength : Int32) (m_limit : Int32) (m_next : Int32) (m_beginsAt : Int32) (m_token : Int32) (m_error : Int32) (m_errorAt : Int32) (m_errorPosition : Int32) (m_nested : Int32) (m_codeCount : Int32) (m_buffer : Nat → Int32) (m_beginsAt_9 : Int32) (m_error_9 : Int32) (m_errorAt_9 : Int32) (m_nested_9 : Int32) (m_next_9 : Int32) (m_token_9 : Int32) (hf : p10_enter m_limit m_next m_beginsAt m_token m_error m_errorAt m_nested m_buffer = some (m_beginsAt_9, m_error_9, m_errorAt_9, m_nested_9, m_next_9, m_token_9)) : gM l dC dI cI cJ cZ yX10_enter cX10_enter 1 none (4) (82) [.ref (ad 0)] [(ad 0, .inr (10, oM ad m_undoCount m_thrown m_hasSnapshot a_m_fam m_rows m_lineLength m_formattedLength m_bufferLength m_limit m_next m_beginsAt m_token m_error m_errorAt m_errorPosition m_nested m_codeCount)), ((ad 24), .inl (cI, 800, .inl m_buffer))] [(ad 0, .inr (10, oM ad m_undoCount m_thrown m_hasSnapshot a_m_fam m_rows m_lineLength m_formattedLength m_bufferLength m_limit m_next_9 m_beginsAt_9 m_token_9 m_error_9 m_errorAt_9 m_errorPosition m_nested_9 m_codeCount)), ((ad 24), .inl (cI, 800, .inl m_buffer))] none := by
  refine g_start (own := RX10) (by decide +kernel) rfl (Nat.le_of_ble_eq_true rfl) ?_
  intro p e s m below meth c A ls S hr hlocks hE hP hD hS hA hl hin
  have hx := S.1
  have hb := S.2.1
  have hml := S.2.2.1
  have hown := S.2.2.2.1
  have htg : ∀ z ∈ gw, z.before ([.ref (ad 0)] : List Value).toArray s = true := fun w h => S.2.2.2.2 w (List.mem_cons_of_mem _ h)
  have hl : lv_has ls 1 [(0, .ref (ad 0))] := hl
  have hS0 := hS
  obtain ⟨H, hH⟩ : ∃ H, H = s.heap := ⟨_, rfl⟩
  obtain ⟨locs, hlc⟩ : ∃ locs : List Loc, locs = [] := ⟨_, rfl⟩
  have hS : va_S A s.heap H locs := by rw [hH, hlc]; exact hS0
  have hP : va_P (dC, dI) vwCl [(ad 0, .inr (10, oM ad m_undoCount m_thrown m_hasSnapshot a_m_fam m_rows m_lineLength m_formattedLength m_bufferLength m_limit m_next m_beginsAt m_token m_error m_errorAt m_errorPosition m_nested m_codeCount)), ((ad 24), .inl (cI, 800, .inl m_buffer))] H := by rw [hH]; exact hP
  suffices hgo : W p l e ({ frames := 4, cells := 0, slots := 0, locals := 82 }) s m ([.ref (ad 0)] : List Value).toArray below meth c H locs 0 0 (MQ below (gQ dC dI none A [(ad 0, .inr (10, oM ad m_undoCount m_thrown m_hasSnapshot a_m_fam m_rows m_lineLength m_formattedLength m_bufferLength m_limit m_next_9 m_beginsAt_9 m_token_9 m_error_9 m_errorAt_9 m_errorPosition m_nested_9 m_codeCount)), ((ad 24), .inl (cI, 800, .inl m_buffer))]) ([.ref (ad 0)] : List Value).toArray s 0 0 A) (F0 m 0 ls []) by rw [hH, hlc] at hgo; exact hgo
  rw [p10_enter] at hf
  have J19 : ∀ (m_error_19 : Int32) (m_errorAt_19 : Int32) (H : Heap) (locs : List Loc) (ls : Array Slot), p10_enter_J19 m_beginsAt m_buffer m_limit m_nested m_next m_token m_error_19 m_errorAt_19 = some (m_beginsAt_9, m_error_9, m_errorAt_9, m_nested_9, m_next_9, m_token_9) → va_P (dC, dI) vwCl [(ad 0, .inr (10, oM ad m_undoCount m_thrown m_hasSnapshot a_m_fam m_rows m_lineLength m_formattedLength m_bufferLength m_limit m_next m_beginsAt m_token m_error_19 m_errorAt_19 m_errorPosition m_nested m_codeCount)), ((ad 24), .inl (cI, 800, .inl m_buffer))] H → va_D A [(ad 0, .inr (10, oM ad m_undoCount m_thrown m_hasSnapshot a_m_fam m_rows m_lineLength m_formattedLength m_bufferLength m_limit m_next m_beginsAt m_token m_error_19 m_errorAt_19 m_errorPosition m_nested m_codeCount)), ((ad 24), .inl (cI, 800, .inl m_buffer))] → va_S A s.heap H locs → lv_has ls 1 [(0, .ref (ad 0))] → W p l e ({ frames := 4, cells := 0, slots := 0, locals := 82 }) s m ([.ref (ad 0)] : List Value).toArray below meth c H locs 0 0 (MQ below (gQ dC dI none A [(ad 0, .inr (10, oM ad m_undoCount m_thrown m_hasSnapshot a_m_fam m_rows m_lineLength m_formattedLength m_bufferLength m_limit m_next_9 m_beginsAt_9 m_token_9 m_error_9 m_errorAt_9 m_errorPosition m_nested_9 m_codeCount)), ((ad 24), .inl (cI, 800, .inl m_buffer))]) ([.ref (ad 0)] : List Value).toArray s 0 0 A) (F0 m 19 ls []) := by
    intro m_error_19 m_errorAt_19 H locs ls hf hP hD hS hl
    rw [p10_enter_J19] at hf
    refine lv_aload_n hx hb dX10_enter_19 rfl (lv_at hl 0 rfl) ?_
    refine lv_dup hx hb dX10_enter_20 rfl ?_
    refine va_get (D := (dC, dI)) (ci := 10) (v := .int m_nested) (C := RX10) (T := TX10) (N := 37) hx hb htg inX10 hown hE.1 hP 0 rfl rfl 32 (by decide) (htg _ tw1414) (fun _ h9 => h9) rfl dX10_enter_21 ?_
    refine lv_iconst (v := 1) hx hb dX10_enter_24 (by decide) ?_
    refine lv_iadd hx hb dX10_enter_25 ?_
    refine lv_topi (fun t26 h9 => ?_)
    have hf := lb_e h9 hf
    refine va_put (D := (dC, dI)) (ci := 10) (v := .int t26) (ty := .int) (C := RX10) (T := TX10) (N := 37) hx hb htg inX10 tyX10 tyX10_ok nmX10 hown hE.1 hP hD hS 0 rfl rfl 32 (by decide) (htg _ tw1414) (fun _ h9 => h9) rfl (by decide +kernel) rfl rfl (Nat.le_of_ble_eq_true rfl) dX10_enter_26 (fun H locs hP hD hS => ?_)
    have hP : va_P (dC, dI) vwCl [(ad 0, .inr (10, oM ad m_undoCount m_thrown m_hasSnapshot a_m_fam m_rows m_lineLength m_formattedLength m_bufferLength m_limit m_next m_beginsAt m_token m_error_19 m_errorAt_19 m_errorPosition t26 m_codeCount)), ((ad 24), .inl (cI, 800, .inl m_buffer))] H := hP
    have hD : va_D A [(ad 0, .inr (10, oM ad m_undoCount m_thrown m_hasSnapshot a_m_fam m_rows m_lineLength m_formattedLength m_bufferLength m_limit m_next m_beginsAt m_token m_error_19 m_errorAt_19 m_errorPosition t26 m_codeCount)), ((ad 24), .inl (cI, 800, .inl m_buffer))] := hD
    refine lv_aload_n hx hb dX10_enter_29 rfl (lv_at hl 0 rfl) ?_
    obtain ⟨⟨m_beginsAt_30, m_next_30, m_token_30⟩, h9, hf⟩ := ob_s hf
    have hf := uc3_e hf
    refine gcV (index := 419) S hE (c_X10_advance ad a_m_fam m_undoCount m_thrown m_hasSnapshot m_rows m_lineLength m_formattedLength m_bufferLength m_limit m_next m_beginsAt m_token m_error_19 m_errorAt_19 m_errorPosition t26 m_codeCount m_buffer m_beginsAt_30 m_next_30 m_token_30 h9) mX10_advance tw1976 ⟨Nat.le_of_ble_eq_true rfl, Nat.le_of_ble_eq_true rfl⟩ hP hD hS hA ⟨Nat.zero_le _, Nat.zero_le _⟩ 0 10 rfl rfl rfl (wr := []) [0, 1] [] rfl rfl rfl rfl (by decide) (As := []) (rest := []) rfl hl.1 rfl (Nat.le_of_ble_eq_true rfl) dX10_enter_30 (fun H locs hP hD hS => ?_)
    refine W.eq (g2 := F0 m 33 ls []) rfl ?_
    have hP : va_P (dC, dI) vwCl [(ad 0, .inr (10, oM ad m_undoCount m_thrown m_hasSnapshot a_m_fam m_rows m_lineLength m_formattedLength m_bufferLength m_limit m_next_30 m_beginsAt_30 m_token_30 m_error_19 m_errorAt_19 m_errorPosition t26 m_codeCount)), ((ad 24), .inl (cI, 800, .inl m_buffer))] H := hP
    have hD : va_D A [(ad 0, .inr (10, oM ad m_undoCount m_thrown m_hasSnapshot a_m_fam m_rows m_lineLength m_formattedLength m_bufferLength m_limit m_next_30 m_beginsAt_30 m_token_30 m_error_19 m_errorAt_19 m_errorPosition t26 m_codeCount)), ((ad 24), .inl (cI, 800, .inl m_buffer))] := hD
    cases hf
    exact g_vret S hr hlocks hP hD hS dX10_enter_33
  refine lv_aload_n hx hb dX10_enter_0 rfl (lv_at hl 0 rfl) ?_
  refine lv_aload_n hx hb dX10_enter_1 rfl (lv_at hl 0 rfl) ?_
  refine va_get (D := (dC, dI)) (ci := 10) (v := .int m_nested) (C := RX10) (T := TX10) (N := 37) hx hb htg inX10 hown hE.1 hP 0 rfl rfl 32 (by decide) (htg _ tw1414) (fun _ h9 => h9) rfl dX10_enter_2 ?_
  refine lv_bipush (v := 6) hx hb dX10_enter_5 (by decide) ?_
  refine lv_icmp_ge (tgt := 14) hx hb dX10_enter_7 (by decide) (fun h9 => ?_) (fun h9 => ?_)
  · have hf := itt h9 hf
    refine lv_iconst (v := 0) hx hb dX10_enter_14 (by decide) ?_
    refine lv_iconst (v := 3) hx hb dX10_enter_15 (by decide) ?_
    obtain ⟨m_error_16, m_errorAt_16, h9⟩ : ∃ m_error_16 m_errorAt_16, p10_check m_beginsAt m_error m_errorAt false (3 : Int32) = (m_error_16, m_errorAt_16) := ⟨_, _, rfl⟩
    have hf := uc2_e (lb_e h9.symm hf)
    refine gcV (index := 415) S hE (c_X10_check ad a_m_fam m_undoCount m_thrown m_hasSnapshot m_rows m_lineLength m_formattedLength m_bufferLength m_limit m_next m_beginsAt m_token m_error m_errorAt m_errorPosition m_nested m_codeCount false (3 : Int32) m_error_16 m_errorAt_16 h9) mX10_check tw1968 ⟨Nat.le_of_ble_eq_true rfl, Nat.le_of_ble_eq_true rfl⟩ hP hD hS hA ⟨Nat.zero_le _, Nat.zero_le _⟩ 0 10 rfl rfl rfl (wr := [((ad 24), .inl (cI, 800, .inl m_buffer))]) [0] [1] rfl rfl rfl rfl (by decide) (As := [.int (bI false), .int (3 : Int32)]) (rest := []) rfl hl.1 rfl (Nat.le_of_ble_eq_true rfl) dX10_enter_16 (fun H locs hP hD hS => ?_)
    refine W.eq (g2 := F0 m 19 ls []) rfl ?_
    have hP : va_P (dC, dI) vwCl [((ad 24), .inl (cI, 800, .inl m_buffer)), (ad 0, .inr (10, oM ad m_undoCount m_thrown m_hasSnapshot a_m_fam m_rows m_lineLength m_formattedLength m_bufferLength m_limit m_next m_beginsAt m_token m_error_16 m_errorAt_16 m_errorPosition m_nested m_codeCount))] H := hP
    have hD : va_D A [((ad 24), .inl (cI, 800, .inl m_buffer)), (ad 0, .inr (10, oM ad m_undoCount m_thrown m_hasSnapshot a_m_fam m_rows m_lineLength m_formattedLength m_bufferLength m_limit m_next m_beginsAt m_token m_error_16 m_errorAt_16 m_errorPosition m_nested m_codeCount))] := hD
    exact J19 m_error_16 m_errorAt_16 H locs ls hf (hP.sub [1, 0] rfl) (hD.sub [1, 0] (by decide) rfl) hS (lv_sub hl [0] rfl)
  · have hf := itf h9 hf
    refine lv_iconst (v := 1) hx hb dX10_enter_10 (by decide) ?_
    refine lv_goto (tgt := 15) hx hb dX10_enter_11 (by decide) ?_
    refine lv_iconst (v := 3) hx hb dX10_enter_15 (by decide) ?_
    obtain ⟨m_error_16, m_errorAt_16, h9⟩ : ∃ m_error_16 m_errorAt_16, p10_check m_beginsAt m_error m_errorAt true (3 : Int32) = (m_error_16, m_errorAt_16) := ⟨_, _, rfl⟩
    have hf := uc2_e (lb_e h9.symm hf)
    refine gcV (index := 415) S hE (c_X10_check ad a_m_fam m_undoCount m_thrown m_hasSnapshot m_rows m_lineLength m_formattedLength m_bufferLength m_limit m_next m_beginsAt m_token m_error m_errorAt m_errorPosition m_nested m_codeCount true (3 : Int32) m_error_16 m_errorAt_16 h9) mX10_check tw1968 ⟨Nat.le_of_ble_eq_true rfl, Nat.le_of_ble_eq_true rfl⟩ hP hD hS hA ⟨Nat.zero_le _, Nat.zero_le _⟩ 0 10 rfl rfl rfl (wr := [((ad 24), .inl (cI, 800, .inl m_buffer))]) [0] [1] rfl rfl rfl rfl (by decide) (As := [.int (bI true), .int (3 : Int32)]) (rest := []) rfl hl.1 rfl (Nat.le_of_ble_eq_true rfl) dX10_enter_16 (fun H locs hP hD hS => ?_)
    refine W.eq (g2 := F0 m 19 ls []) rfl ?_
    have hP : va_P (dC, dI) vwCl [((ad 24), .inl (cI, 800, .inl m_buffer)), (ad 0, .inr (10, oM ad m_undoCount m_thrown m_hasSnapshot a_m_fam m_rows m_lineLength m_formattedLength m_bufferLength m_limit m_next m_beginsAt m_token m_error_16 m_errorAt_16 m_errorPosition m_nested m_codeCount))] H := hP
    have hD : va_D A [((ad 24), .inl (cI, 800, .inl m_buffer)), (ad 0, .inr (10, oM ad m_undoCount m_thrown m_hasSnapshot a_m_fam m_rows m_lineLength m_formattedLength m_bufferLength m_limit m_next m_beginsAt m_token m_error_16 m_errorAt_16 m_errorPosition m_nested m_codeCount))] := hD
    exact J19 m_error_16 m_errorAt_16 H locs ls hf (hP.sub [1, 0] rfl) (hD.sub [1, 0] (by decide) rfl) hS (lv_sub hl [0] rfl)
set_option maxHeartbeats 4000000 in
set_option maxRecDepth 100000 in
theorem c_X10_compileValue (ad : Nat → Nat) (hNm : gNm adV ad) (a_m_fam : Nat) (m_undoCount : Int32) (m_thrown : Int32) (m_hasSnapshot : Bool) (m_rows : Int32) (m_lineLength : Int32) (m_formattedLength : Int32) (m_bufferLength : Int32) (m_limit : Int32) (m_next : Int32) (m_beginsAt : Int32) (m_token : Int32) (m_error : Int32) (m_errorAt : Int32) (m_errorPosition : Int32) (m_nested : Int32) (m_codeCount : Int32) (m_buffer : Nat → Int32) (m_codes : Nat → Int32) (m_beginsAt_9 : Int32) (m_codeCount_9 : Int32) (m_codes_9 : Nat → Int32) (m_error_9 : Int32) (m_errorAt_9 : Int32) (m_next_9 : Int32) (m_token_9 : Int32) (hf : p10_compileValue m_limit m_next m_beginsAt m_token m_error m_errorAt m_codeCount m_buffer m_codes = some (m_beginsAt_9, m_codeCount_9, m_codes_9, m_error_9, m_errorAt_9, m_next_9, m_token_9)) : gMH l dC dI cI cJ cZ adK adV yX10_compileValue cX10_compileValue 2 none (5) (108) [.ref (ad 0)] [(ad 0, .inr (10, oM ad m_undoCount m_thrown m_hasSnapshot a_m_fam m_rows m_lineLength m_formattedLength m_bufferLength m_limit m_next m_beginsAt m_token m_error m_errorAt m_errorPosition m_nested m_codeCount)), ((ad 24), .inl (cI, 800, .inl m_buffer)), ((ad 35), .inl (cI, 200, .inl m_codes))] [(ad 0, .inr (10, oM ad m_undoCount m_thrown m_hasSnapshot a_m_fam m_rows m_lineLength m_formattedLength m_bufferLength m_limit m_next_9 m_beginsAt_9 m_token_9 m_error_9 m_errorAt_9 m_errorPosition m_nested m_codeCount_9)), ((ad 24), .inl (cI, 800, .inl m_buffer)), ((ad 35), .inl (cI, 200, .inl m_codes_9))] none := by
  refine g_startH (own := RX10) (by decide +kernel) rfl (Nat.le_of_ble_eq_true rfl) ?_
  intro p e s m below meth c A ls S hr hlocks hE hG hP hD hS hA hl hin
  have hTN := gNm_T hNm hG
  have hx := S.1
  have hb := S.2.1
  have hml := S.2.2.1
  have hown := S.2.2.2.1
  have htg : ∀ z ∈ gw, z.before ([.ref (ad 0)] : List Value).toArray s = true := fun w h => S.2.2.2.2 w (List.mem_cons_of_mem _ h)
  have hl : lv_has ls 2 [(0, .ref (ad 0))] := hl
  have hS0 := hS
  obtain ⟨H, hH⟩ : ∃ H, H = s.heap := ⟨_, rfl⟩
  obtain ⟨locs, hlc⟩ : ∃ locs : List Loc, locs = [] := ⟨_, rfl⟩
  have hS : va_S A s.heap H locs := by rw [hH, hlc]; exact hS0
  have hP : va_P (dC, dI) vwCl [(ad 0, .inr (10, oM ad m_undoCount m_thrown m_hasSnapshot a_m_fam m_rows m_lineLength m_formattedLength m_bufferLength m_limit m_next m_beginsAt m_token m_error m_errorAt m_errorPosition m_nested m_codeCount)), ((ad 24), .inl (cI, 800, .inl m_buffer)), ((ad 35), .inl (cI, 200, .inl m_codes))] H := by rw [hH]; exact hP
  suffices hgo : W p l e ({ frames := 5, cells := 0, slots := 0, locals := 108 }) s m ([.ref (ad 0)] : List Value).toArray below meth c H locs 0 0 (MQ below (gQ dC dI none A [(ad 0, .inr (10, oM ad m_undoCount m_thrown m_hasSnapshot a_m_fam m_rows m_lineLength m_formattedLength m_bufferLength m_limit m_next_9 m_beginsAt_9 m_token_9 m_error_9 m_errorAt_9 m_errorPosition m_nested m_codeCount_9)), ((ad 24), .inl (cI, 800, .inl m_buffer)), ((ad 35), .inl (cI, 200, .inl m_codes_9))]) ([.ref (ad 0)] : List Value).toArray s 0 0 A) (F0 m 0 ls []) by rw [hH, hlc] at hgo; exact hgo
  rw [p10_compileValue] at hf
  have J77 : ∀ (v1_77 : Int32) (m_error_77 : Int32) (m_errorAt_77 : Int32) (H : Heap) (locs : List Loc) (ls : Array Slot), p10_compileValue_J77 m_beginsAt m_buffer m_codeCount m_codes m_limit m_next m_token v1_77 m_error_77 m_errorAt_77 = some (m_beginsAt_9, m_codeCount_9, m_codes_9, m_error_9, m_errorAt_9, m_next_9, m_token_9) → va_P (dC, dI) vwCl [(ad 0, .inr (10, oM ad m_undoCount m_thrown m_hasSnapshot a_m_fam m_rows m_lineLength m_formattedLength m_bufferLength m_limit m_next m_beginsAt m_token m_error_77 m_errorAt_77 m_errorPosition m_nested m_codeCount)), ((ad 24), .inl (cI, 800, .inl m_buffer)), ((ad 35), .inl (cI, 200, .inl m_codes))] H → va_D A [(ad 0, .inr (10, oM ad m_undoCount m_thrown m_hasSnapshot a_m_fam m_rows m_lineLength m_formattedLength m_bufferLength m_limit m_next m_beginsAt m_token m_error_77 m_errorAt_77 m_errorPosition m_nested m_codeCount)), ((ad 24), .inl (cI, 800, .inl m_buffer)), ((ad 35), .inl (cI, 200, .inl m_codes))] → va_S A s.heap H locs → lv_has ls 2 [(0, .ref (ad 0)), (1, .int v1_77)] → W p l e ({ frames := 5, cells := 0, slots := 0, locals := 108 }) s m ([.ref (ad 0)] : List Value).toArray below meth c H locs 0 0 (MQ below (gQ dC dI none A [(ad 0, .inr (10, oM ad m_undoCount m_thrown m_hasSnapshot a_m_fam m_rows m_lineLength m_formattedLength m_bufferLength m_limit m_next_9 m_beginsAt_9 m_token_9 m_error_9 m_errorAt_9 m_errorPosition m_nested m_codeCount_9)), ((ad 24), .inl (cI, 800, .inl m_buffer)), ((ad 35), .inl (cI, 200, .inl m_codes_9))]) ([.ref (ad 0)] : List Value).toArray s 0 0 A) (F0 m 77 ls []) := by
    intro v1_77 m_error_77 m_errorAt_77 H locs ls hf hP hD hS hl
    rw [p10_compileValue_J77] at hf
    refine lv_aload_n hx hb dX10_compileValue_77 rfl (lv_at hl 0 rfl) ?_
    refine lv_iconst (v := -1) hx hb dX10_compileValue_78 (by decide) ?_
    refine lv_iload_n hx hb dX10_compileValue_79 rfl (lv_at hl 1 rfl) ?_
    refine lv_isub hx hb dX10_compileValue_80 ?_
    obtain ⟨⟨m_codeCount_81, m_codes_81⟩, h9, hf⟩ := ob_s hf
    have hf := uc2_e hf
    refine gcV (index := 474) S hE (c_X10_emit ad a_m_fam m_undoCount m_thrown m_hasSnapshot m_rows m_lineLength m_formattedLength m_bufferLength m_limit m_next m_beginsAt m_token m_error_77 m_errorAt_77 m_errorPosition m_nested m_codeCount m_codes ((-1 : Int32) - v1_77) m_codeCount_81 m_codes_81 h9) mX10_emit tw2047 ⟨Nat.le_of_ble_eq_true rfl, Nat.le_of_ble_eq_true rfl⟩ hP hD hS hA ⟨Nat.zero_le _, Nat.zero_le _⟩ 0 10 rfl rfl rfl (wr := [((ad 24), .inl (cI, 800, .inl m_buffer))]) [0, 2] [1] rfl rfl rfl rfl (by decide) (As := [.int ((-1 : Int32) - v1_77)]) (rest := []) rfl hl.1 rfl (Nat.le_of_ble_eq_true rfl) dX10_compileValue_81 (fun H locs hP hD hS => ?_)
    refine W.eq (g2 := F0 m 84 ls []) rfl ?_
    have hP : va_P (dC, dI) vwCl [((ad 24), .inl (cI, 800, .inl m_buffer)), (ad 0, .inr (10, oM ad m_undoCount m_thrown m_hasSnapshot a_m_fam m_rows m_lineLength m_formattedLength m_bufferLength m_limit m_next m_beginsAt m_token m_error_77 m_errorAt_77 m_errorPosition m_nested m_codeCount_81)), ((ad 35), .inl (cI, 200, .inl m_codes_81))] H := hP
    have hD : va_D A [((ad 24), .inl (cI, 800, .inl m_buffer)), (ad 0, .inr (10, oM ad m_undoCount m_thrown m_hasSnapshot a_m_fam m_rows m_lineLength m_formattedLength m_bufferLength m_limit m_next m_beginsAt m_token m_error_77 m_errorAt_77 m_errorPosition m_nested m_codeCount_81)), ((ad 35), .inl (cI, 200, .inl m_codes_81))] := hD
    refine lv_aload_n hx hb dX10_compileValue_84 rfl (lv_at hl 0 rfl) ?_
    obtain ⟨⟨m_beginsAt_85, m_next_85, m_token_85⟩, h9, hf⟩ := ob_s hf
    have hf := uc3_e hf
    refine gcV (index := 419) S hE (c_X10_advance ad a_m_fam m_undoCount m_thrown m_hasSnapshot m_rows m_lineLength m_formattedLength m_bufferLength m_limit m_next m_beginsAt m_token m_error_77 m_errorAt_77 m_errorPosition m_nested m_codeCount_81 m_buffer m_beginsAt_85 m_next_85 m_token_85 h9) mX10_advance tw1976 ⟨Nat.le_of_ble_eq_true rfl, Nat.le_of_ble_eq_true rfl⟩ hP hD hS hA ⟨Nat.zero_le _, Nat.zero_le _⟩ 1 10 rfl rfl rfl (wr := [((ad 35), .inl (cI, 200, .inl m_codes_81))]) [1, 0] [2] rfl rfl rfl rfl (by decide) (As := []) (rest := []) rfl hl.1 rfl (Nat.le_of_ble_eq_true rfl) dX10_compileValue_85 (fun H locs hP hD hS => ?_)
    refine W.eq (g2 := F0 m 88 ls []) rfl ?_
    have hP : va_P (dC, dI) vwCl [((ad 35), .inl (cI, 200, .inl m_codes_81)), (ad 0, .inr (10, oM ad m_undoCount m_thrown m_hasSnapshot a_m_fam m_rows m_lineLength m_formattedLength m_bufferLength m_limit m_next_85 m_beginsAt_85 m_token_85 m_error_77 m_errorAt_77 m_errorPosition m_nested m_codeCount_81)), ((ad 24), .inl (cI, 800, .inl m_buffer))] H := hP
    have hD : va_D A [((ad 35), .inl (cI, 200, .inl m_codes_81)), (ad 0, .inr (10, oM ad m_undoCount m_thrown m_hasSnapshot a_m_fam m_rows m_lineLength m_formattedLength m_bufferLength m_limit m_next_85 m_beginsAt_85 m_token_85 m_error_77 m_errorAt_77 m_errorPosition m_nested m_codeCount_81)), ((ad 24), .inl (cI, 800, .inl m_buffer))] := hD
    cases hf
    exact g_vret S hr hlocks (hP.sub [1, 2, 0] rfl) (hD.sub [1, 2, 0] (by decide) rfl) hS dX10_compileValue_88
  have J58 : ∀ (v1_58 : Int32) (H : Heap) (locs : List Loc) (ls : Array Slot), p10_compileValue_J58 m_beginsAt m_buffer m_codeCount m_codes m_error m_errorAt m_limit m_next m_token v1_58 = some (m_beginsAt_9, m_codeCount_9, m_codes_9, m_error_9, m_errorAt_9, m_next_9, m_token_9) → va_P (dC, dI) vwCl [(ad 0, .inr (10, oM ad m_undoCount m_thrown m_hasSnapshot a_m_fam m_rows m_lineLength m_formattedLength m_bufferLength m_limit m_next m_beginsAt m_token m_error m_errorAt m_errorPosition m_nested m_codeCount)), ((ad 24), .inl (cI, 800, .inl m_buffer)), ((ad 35), .inl (cI, 200, .inl m_codes))] H → va_D A [(ad 0, .inr (10, oM ad m_undoCount m_thrown m_hasSnapshot a_m_fam m_rows m_lineLength m_formattedLength m_bufferLength m_limit m_next m_beginsAt m_token m_error m_errorAt m_errorPosition m_nested m_codeCount)), ((ad 24), .inl (cI, 800, .inl m_buffer)), ((ad 35), .inl (cI, 200, .inl m_codes))] → va_S A s.heap H locs → lv_has ls 2 [(0, .ref (ad 0)), (1, .int v1_58)] → W p l e ({ frames := 5, cells := 0, slots := 0, locals := 108 }) s m ([.ref (ad 0)] : List Value).toArray below meth c H locs 0 0 (MQ below (gQ dC dI none A [(ad 0, .inr (10, oM ad m_undoCount m_thrown m_hasSnapshot a_m_fam m_rows m_lineLength m_formattedLength m_bufferLength m_limit m_next_9 m_beginsAt_9 m_token_9 m_error_9 m_errorAt_9 m_errorPosition m_nested m_codeCount_9)), ((ad 24), .inl (cI, 800, .inl m_buffer)), ((ad 35), .inl (cI, 200, .inl m_codes_9))]) ([.ref (ad 0)] : List Value).toArray s 0 0 A) (F0 m 58 ls []) := by
    intro v1_58 H locs ls hf hP hD hS hl
    rw [p10_compileValue_J58] at hf
    refine lv_aload_n hx hb dX10_compileValue_58 rfl (lv_at hl 0 rfl) ?_
    refine lv_iload_n hx hb dX10_compileValue_59 rfl (lv_at hl 1 rfl) ?_
    refine lv_aload_n hx hb dX10_compileValue_60 rfl (lv_at hl 0 rfl) ?_
    refine va_get (D := (dC, dI)) (ci := 10) (v := .ref (ad 34)) (C := RX10) (T := TX10) (N := 37) hx hb htg inX10 hown hE.1 hP 0 rfl rfl 33 (by decide) (htg _ tw1415) (fun _ h9 => h9) rfl dX10_compileValue_61 ?_
    refine va_tlen (v := (7 : Int32)) hx hb hTN hS rfl dX10_compileValue_64 ?_
    refine lv_icmp_ge (tgt := 72) hx hb dX10_compileValue_65 (by decide) (fun h9 => ?_) (fun h9 => ?_)
    · have hf := itt h9 hf
      refine lv_iconst (v := 0) hx hb dX10_compileValue_72 (by decide) ?_
      refine lv_iconst (v := 1) hx hb dX10_compileValue_73 (by decide) ?_
      obtain ⟨m_error_74, m_errorAt_74, h9⟩ : ∃ m_error_74 m_errorAt_74, p10_check m_beginsAt m_error m_errorAt false (1 : Int32) = (m_error_74, m_errorAt_74) := ⟨_, _, rfl⟩
      have hf := uc2_e (lb_e h9.symm hf)
      refine gcV (index := 415) S hE (c_X10_check ad a_m_fam m_undoCount m_thrown m_hasSnapshot m_rows m_lineLength m_formattedLength m_bufferLength m_limit m_next m_beginsAt m_token m_error m_errorAt m_errorPosition m_nested m_codeCount false (1 : Int32) m_error_74 m_errorAt_74 h9) mX10_check tw1968 ⟨Nat.le_of_ble_eq_true rfl, Nat.le_of_ble_eq_true rfl⟩ hP hD hS hA ⟨Nat.zero_le _, Nat.zero_le _⟩ 0 10 rfl rfl rfl (wr := [((ad 24), .inl (cI, 800, .inl m_buffer)), ((ad 35), .inl (cI, 200, .inl m_codes))]) [0] [1, 2] rfl rfl rfl rfl (by decide) (As := [.int (bI false), .int (1 : Int32)]) (rest := []) rfl hl.1 rfl (Nat.le_of_ble_eq_true rfl) dX10_compileValue_74 (fun H locs hP hD hS => ?_)
      refine W.eq (g2 := F0 m 77 ls []) rfl ?_
      have hP : va_P (dC, dI) vwCl [((ad 24), .inl (cI, 800, .inl m_buffer)), ((ad 35), .inl (cI, 200, .inl m_codes)), (ad 0, .inr (10, oM ad m_undoCount m_thrown m_hasSnapshot a_m_fam m_rows m_lineLength m_formattedLength m_bufferLength m_limit m_next m_beginsAt m_token m_error_74 m_errorAt_74 m_errorPosition m_nested m_codeCount))] H := hP
      have hD : va_D A [((ad 24), .inl (cI, 800, .inl m_buffer)), ((ad 35), .inl (cI, 200, .inl m_codes)), (ad 0, .inr (10, oM ad m_undoCount m_thrown m_hasSnapshot a_m_fam m_rows m_lineLength m_formattedLength m_bufferLength m_limit m_next m_beginsAt m_token m_error_74 m_errorAt_74 m_errorPosition m_nested m_codeCount))] := hD
      exact J77 v1_58 m_error_74 m_errorAt_74 H locs ls hf (hP.sub [2, 0, 1] rfl) (hD.sub [2, 0, 1] (by decide) rfl) hS (lv_sub hl [0, 1] rfl)
    · have hf := itf h9 hf
      refine lv_iconst (v := 1) hx hb dX10_compileValue_68 (by decide) ?_
      refine lv_goto (tgt := 73) hx hb dX10_compileValue_69 (by decide) ?_
      refine lv_iconst (v := 1) hx hb dX10_compileValue_73 (by decide) ?_
      obtain ⟨m_error_74, m_errorAt_74, h9⟩ : ∃ m_error_74 m_errorAt_74, p10_check m_beginsAt m_error m_errorAt true (1 : Int32) = (m_error_74, m_errorAt_74) := ⟨_, _, rfl⟩
      have hf := uc2_e (lb_e h9.symm hf)
      refine gcV (index := 415) S hE (c_X10_check ad a_m_fam m_undoCount m_thrown m_hasSnapshot m_rows m_lineLength m_formattedLength m_bufferLength m_limit m_next m_beginsAt m_token m_error m_errorAt m_errorPosition m_nested m_codeCount true (1 : Int32) m_error_74 m_errorAt_74 h9) mX10_check tw1968 ⟨Nat.le_of_ble_eq_true rfl, Nat.le_of_ble_eq_true rfl⟩ hP hD hS hA ⟨Nat.zero_le _, Nat.zero_le _⟩ 0 10 rfl rfl rfl (wr := [((ad 24), .inl (cI, 800, .inl m_buffer)), ((ad 35), .inl (cI, 200, .inl m_codes))]) [0] [1, 2] rfl rfl rfl rfl (by decide) (As := [.int (bI true), .int (1 : Int32)]) (rest := []) rfl hl.1 rfl (Nat.le_of_ble_eq_true rfl) dX10_compileValue_74 (fun H locs hP hD hS => ?_)
      refine W.eq (g2 := F0 m 77 ls []) rfl ?_
      have hP : va_P (dC, dI) vwCl [((ad 24), .inl (cI, 800, .inl m_buffer)), ((ad 35), .inl (cI, 200, .inl m_codes)), (ad 0, .inr (10, oM ad m_undoCount m_thrown m_hasSnapshot a_m_fam m_rows m_lineLength m_formattedLength m_bufferLength m_limit m_next m_beginsAt m_token m_error_74 m_errorAt_74 m_errorPosition m_nested m_codeCount))] H := hP
      have hD : va_D A [((ad 24), .inl (cI, 800, .inl m_buffer)), ((ad 35), .inl (cI, 200, .inl m_codes)), (ad 0, .inr (10, oM ad m_undoCount m_thrown m_hasSnapshot a_m_fam m_rows m_lineLength m_formattedLength m_bufferLength m_limit m_next m_beginsAt m_token m_error_74 m_errorAt_74 m_errorPosition m_nested m_codeCount))] := hD
      exact J77 v1_58 m_error_74 m_errorAt_74 H locs ls hf (hP.sub [2, 0, 1] rfl) (hD.sub [2, 0, 1] (by decide) rfl) hS (lv_sub hl [0, 1] rfl)
  have J15 : ∀  (H : Heap) (locs : List Loc) (ls : Array Slot), p10_compileValue_J15 m_beginsAt m_buffer m_codeCount m_codes m_error m_errorAt m_limit m_next m_token = some (m_beginsAt_9, m_codeCount_9, m_codes_9, m_error_9, m_errorAt_9, m_next_9, m_token_9) → va_P (dC, dI) vwCl [(ad 0, .inr (10, oM ad m_undoCount m_thrown m_hasSnapshot a_m_fam m_rows m_lineLength m_formattedLength m_bufferLength m_limit m_next m_beginsAt m_token m_error m_errorAt m_errorPosition m_nested m_codeCount)), ((ad 24), .inl (cI, 800, .inl m_buffer)), ((ad 35), .inl (cI, 200, .inl m_codes))] H → va_D A [(ad 0, .inr (10, oM ad m_undoCount m_thrown m_hasSnapshot a_m_fam m_rows m_lineLength m_formattedLength m_bufferLength m_limit m_next m_beginsAt m_token m_error m_errorAt m_errorPosition m_nested m_codeCount)), ((ad 24), .inl (cI, 800, .inl m_buffer)), ((ad 35), .inl (cI, 200, .inl m_codes))] → va_S A s.heap H locs → lv_has ls 2 [(0, .ref (ad 0))] → W p l e ({ frames := 5, cells := 0, slots := 0, locals := 108 }) s m ([.ref (ad 0)] : List Value).toArray below meth c H locs 0 0 (MQ below (gQ dC dI none A [(ad 0, .inr (10, oM ad m_undoCount m_thrown m_hasSnapshot a_m_fam m_rows m_lineLength m_formattedLength m_bufferLength m_limit m_next_9 m_beginsAt_9 m_token_9 m_error_9 m_errorAt_9 m_errorPosition m_nested m_codeCount_9)), ((ad 24), .inl (cI, 800, .inl m_buffer)), ((ad 35), .inl (cI, 200, .inl m_codes_9))]) ([.ref (ad 0)] : List Value).toArray s 0 0 A) (F0 m 15 ls []) := by
    intro  H locs ls hf hP hD hS hl
    rw [p10_compileValue_J15] at hf
    refine lv_aload_n hx hb dX10_compileValue_15 rfl (lv_at hl 0 rfl) ?_
    refine lv_aload_n hx hb dX10_compileValue_16 rfl (lv_at hl 0 rfl) ?_
    refine lv_iconst (v := 0) hx hb dX10_compileValue_17 (by decide) ?_
    refine lv_ldcw (own := RX10) (v := 99999) hx hb hown (htg _ tw2055) dX10_compileValue_18 ?_
    obtain ⟨⟨r21, m_beginsAt_21, m_error_21, m_errorAt_21, m_next_21, m_token_21⟩, h9, hf⟩ := ob_s hf
    have hf := uc6_e hf
    refine gcV (index := 441) S hE (c_X10_readNumber ad a_m_fam m_undoCount m_thrown m_hasSnapshot m_rows m_lineLength m_formattedLength m_bufferLength m_limit m_next m_beginsAt m_token m_error m_errorAt m_errorPosition m_nested m_codeCount m_buffer (0 : Int32) (99999 : Int32) r21 m_beginsAt_21 m_error_21 m_errorAt_21 m_next_21 m_token_21 h9) mX10_readNumber tw1989 ⟨Nat.le_of_ble_eq_true rfl, Nat.le_of_ble_eq_true rfl⟩ hP hD hS hA ⟨Nat.zero_le _, Nat.zero_le _⟩ 0 10 rfl rfl rfl (wr := [((ad 35), .inl (cI, 200, .inl m_codes))]) [0, 1] [2] rfl rfl rfl rfl (by decide) (As := [.int (0 : Int32), .int (99999 : Int32)]) (rest := [.ref (ad 0)]) rfl hl.1 rfl (Nat.le_of_ble_eq_true rfl) dX10_compileValue_21 (fun H locs hP hD hS => ?_)
    refine W.eq (g2 := F0 m 24 ls [.int r21, .ref (ad 0)]) rfl ?_
    have hP : va_P (dC, dI) vwCl [((ad 35), .inl (cI, 200, .inl m_codes)), (ad 0, .inr (10, oM ad m_undoCount m_thrown m_hasSnapshot a_m_fam m_rows m_lineLength m_formattedLength m_bufferLength m_limit m_next_21 m_beginsAt_21 m_token_21 m_error_21 m_errorAt_21 m_errorPosition m_nested m_codeCount)), ((ad 24), .inl (cI, 800, .inl m_buffer))] H := hP
    have hD : va_D A [((ad 35), .inl (cI, 200, .inl m_codes)), (ad 0, .inr (10, oM ad m_undoCount m_thrown m_hasSnapshot a_m_fam m_rows m_lineLength m_formattedLength m_bufferLength m_limit m_next_21 m_beginsAt_21 m_token_21 m_error_21 m_errorAt_21 m_errorPosition m_nested m_codeCount)), ((ad 24), .inl (cI, 800, .inl m_buffer))] := hD
    obtain ⟨⟨m_codeCount_24, m_codes_24⟩, h9, hf⟩ := ob_s hf
    have hf := uc2_e hf
    refine gcV (index := 474) S hE (c_X10_emit ad a_m_fam m_undoCount m_thrown m_hasSnapshot m_rows m_lineLength m_formattedLength m_bufferLength m_limit m_next_21 m_beginsAt_21 m_token_21 m_error_21 m_errorAt_21 m_errorPosition m_nested m_codeCount m_codes r21 m_codeCount_24 m_codes_24 h9) mX10_emit tw2047 ⟨Nat.le_of_ble_eq_true rfl, Nat.le_of_ble_eq_true rfl⟩ hP hD hS hA ⟨Nat.zero_le _, Nat.zero_le _⟩ 1 10 rfl rfl rfl (wr := [((ad 24), .inl (cI, 800, .inl m_buffer))]) [1, 0] [2] rfl rfl rfl rfl (by decide) (As := [.int r21]) (rest := []) rfl hl.1 rfl (Nat.le_of_ble_eq_true rfl) dX10_compileValue_24 (fun H locs hP hD hS => ?_)
    refine W.eq (g2 := F0 m 27 ls []) rfl ?_
    have hP : va_P (dC, dI) vwCl [((ad 24), .inl (cI, 800, .inl m_buffer)), (ad 0, .inr (10, oM ad m_undoCount m_thrown m_hasSnapshot a_m_fam m_rows m_lineLength m_formattedLength m_bufferLength m_limit m_next_21 m_beginsAt_21 m_token_21 m_error_21 m_errorAt_21 m_errorPosition m_nested m_codeCount_24)), ((ad 35), .inl (cI, 200, .inl m_codes_24))] H := hP
    have hD : va_D A [((ad 24), .inl (cI, 800, .inl m_buffer)), (ad 0, .inr (10, oM ad m_undoCount m_thrown m_hasSnapshot a_m_fam m_rows m_lineLength m_formattedLength m_bufferLength m_limit m_next_21 m_beginsAt_21 m_token_21 m_error_21 m_errorAt_21 m_errorPosition m_nested m_codeCount_24)), ((ad 35), .inl (cI, 200, .inl m_codes_24))] := hD
    cases hf
    exact g_vret S hr hlocks (hP.sub [1, 0, 2] rfl) (hD.sub [1, 0, 2] (by decide) rfl) hS dX10_compileValue_27
  refine lv_aload_n hx hb dX10_compileValue_0 rfl (lv_at hl 0 rfl) ?_
  refine va_get (D := (dC, dI)) (ci := 10) (v := .int m_error) (C := RX10) (T := TX10) (N := 37) hx hb htg inX10 hown hE.1 hP 0 rfl rfl 29 (by decide) (htg _ tw1411) (fun _ h9 => h9) rfl dX10_compileValue_1 ?_
  refine lv_if_ne (tgt := 15) hx hb dX10_compileValue_4 (by decide) (fun h9 => ?_) (fun h9 => ?_)
  · have hf := itf h9 hf
    exact J15 H locs ls hf hP hD hS (lv_sub hl [0] rfl)
  · have hf := itt h9 hf
    refine lv_aload_n hx hb dX10_compileValue_7 rfl (lv_at hl 0 rfl) ?_
    refine va_get (D := (dC, dI)) (ci := 10) (v := .int m_token) (C := RX10) (T := TX10) (N := 37) hx hb htg inX10 hown hE.1 hP 0 rfl rfl 28 (by decide) (htg _ tw1410) (fun _ h9 => h9) rfl dX10_compileValue_8 ?_
    refine lv_iconst (v := 2) hx hb dX10_compileValue_11 (by decide) ?_
    refine lv_icmp_ne (tgt := 28) hx hb dX10_compileValue_12 (by decide) (fun h9 => ?_) (fun h9 => ?_)
    · have hf := itf h9 hf
      refine lv_iconst (v := 0) hx hb dX10_compileValue_28 (by decide) ?_
      refine lv_istore_n (lv' := [(1, .int (0 : Int32)), (0, .ref (ad 0))]) hx hb dX10_compileValue_29 rfl hl (by decide) rfl (fun ls hl => ?_)
      have K30 : ∀ (n30 : Nat) (v1_30 : Int32) (ex30 : Int32) (H : Heap) (locs : List Loc) (ls : Array Slot), p10_compileValue_L30 m_beginsAt m_buffer m_error m_next m_token n30 v1_30 = some ex30 → (fun v1_x30 => p10_compileValue_J58 m_beginsAt m_buffer m_codeCount m_codes m_error m_errorAt m_limit m_next m_token v1_x30) ex30 = some (m_beginsAt_9, m_codeCount_9, m_codes_9, m_error_9, m_errorAt_9, m_next_9, m_token_9) → va_P (dC, dI) vwCl [(ad 0, .inr (10, oM ad m_undoCount m_thrown m_hasSnapshot a_m_fam m_rows m_lineLength m_formattedLength m_bufferLength m_limit m_next m_beginsAt m_token m_error m_errorAt m_errorPosition m_nested m_codeCount)), ((ad 24), .inl (cI, 800, .inl m_buffer)), ((ad 35), .inl (cI, 200, .inl m_codes))] H → va_D A [(ad 0, .inr (10, oM ad m_undoCount m_thrown m_hasSnapshot a_m_fam m_rows m_lineLength m_formattedLength m_bufferLength m_limit m_next m_beginsAt m_token m_error m_errorAt m_errorPosition m_nested m_codeCount)), ((ad 24), .inl (cI, 800, .inl m_buffer)), ((ad 35), .inl (cI, 200, .inl m_codes))] → va_S A s.heap H locs → lv_has ls 2 [(0, .ref (ad 0)), (1, .int v1_30)] → W p l e ({ frames := 5, cells := 0, slots := 0, locals := 108 }) s m ([.ref (ad 0)] : List Value).toArray below meth c H locs 0 0 (MQ below (gQ dC dI none A [(ad 0, .inr (10, oM ad m_undoCount m_thrown m_hasSnapshot a_m_fam m_rows m_lineLength m_formattedLength m_bufferLength m_limit m_next_9 m_beginsAt_9 m_token_9 m_error_9 m_errorAt_9 m_errorPosition m_nested m_codeCount_9)), ((ad 24), .inl (cI, 800, .inl m_buffer)), ((ad 35), .inl (cI, 200, .inl m_codes_9))]) ([.ref (ad 0)] : List Value).toArray s 0 0 A) (F0 m 30 ls []) := by
        intro n30
        induction n30 with
        | zero => intro v1_30 ex30 H locs ls hf; rw [p10_compileValue_L30] at hf; cases hf
        | succ n30 ih30 =>
          intro v1_30 ex30 H locs ls hf hk30 hP hD hS hl
          rw [p10_compileValue_L30, p10_compileValue_L30_B] at hf
          refine lv_iload_n hx hb dX10_compileValue_30 rfl (lv_at hl 1 rfl) ?_
          refine lv_aload_n hx hb dX10_compileValue_31 rfl (lv_at hl 0 rfl) ?_
          refine va_get (D := (dC, dI)) (ci := 10) (v := .ref (ad 34)) (C := RX10) (T := TX10) (N := 37) hx hb htg inX10 hown hE.1 hP 0 rfl rfl 33 (by decide) (htg _ tw1415) (fun _ h9 => h9) rfl dX10_compileValue_32 ?_
          refine va_tlen (v := (7 : Int32)) hx hb hTN hS rfl dX10_compileValue_35 ?_
          refine lv_icmp_ge (tgt := 58) hx hb dX10_compileValue_36 (by decide) (fun h9 => ?_) (fun h9 => ?_)
          · have hf := itt h9 hf
            cases hf
            have hf := hk30
            exact J58 v1_30 H locs ls hf hP hD hS (lv_sub hl [0, 1] rfl)
          · have hf := itf h9 hf
            refine lv_aload_n hx hb dX10_compileValue_39 rfl (lv_at hl 0 rfl) ?_
            refine lv_aload_n hx hb dX10_compileValue_40 rfl (lv_at hl 0 rfl) ?_
            refine va_get (D := (dC, dI)) (ci := 10) (v := .ref (ad 34)) (C := RX10) (T := TX10) (N := 37) hx hb htg inX10 hown hE.1 hP 0 rfl rfl 33 (by decide) (htg _ tw1415) (fun _ h9 => h9) rfl dX10_compileValue_41 ?_
            refine lv_iload_n hx hb dX10_compileValue_44 rfl (lv_at hl 1 rfl) ?_
            obtain ⟨h9, hf⟩ := gd_s hf
            refine vb_tq (v := .ref (adK (nmW v1_30.toNatClampNeg))) hx hb hTN hS h9 rfl dX10_compileValue_45 ?_
            obtain ⟨r46, h9, hf⟩ := ob_s hf
            refine gcVH (index := 411) S hE hG (c_X10_isWord ad a_m_fam m_undoCount m_thrown m_hasSnapshot m_rows m_lineLength m_formattedLength m_bufferLength m_limit m_next m_beginsAt m_token m_error m_errorAt m_errorPosition m_nested m_codeCount m_buffer (nmW v1_30.toNatClampNeg) (nmW_lt _) r46 h9) mX10_isWord tw1958 ⟨Nat.le_of_ble_eq_true rfl, Nat.le_of_ble_eq_true rfl⟩ hP hD hS hA ⟨Nat.zero_le _, Nat.zero_le _⟩ 0 10 rfl rfl rfl (wr := [((ad 35), .inl (cI, 200, .inl m_codes))]) [0, 1] [2] rfl rfl rfl rfl (by decide) (As := [.ref (adK (nmW v1_30.toNatClampNeg))]) (rest := []) rfl hl.1 rfl (Nat.le_of_ble_eq_true rfl) dX10_compileValue_46 (fun H locs hP hD hS => ?_)
            refine W.eq (g2 := F0 m 49 ls [.int (bI r46)]) rfl ?_
            have hP : va_P (dC, dI) vwCl [((ad 35), .inl (cI, 200, .inl m_codes)), (ad 0, .inr (10, oM ad m_undoCount m_thrown m_hasSnapshot a_m_fam m_rows m_lineLength m_formattedLength m_bufferLength m_limit m_next m_beginsAt m_token m_error m_errorAt m_errorPosition m_nested m_codeCount)), ((ad 24), .inl (cI, 800, .inl m_buffer))] H := hP
            have hD : va_D A [((ad 35), .inl (cI, 200, .inl m_codes)), (ad 0, .inr (10, oM ad m_undoCount m_thrown m_hasSnapshot a_m_fam m_rows m_lineLength m_formattedLength m_bufferLength m_limit m_next m_beginsAt m_token m_error m_errorAt m_errorPosition m_nested m_codeCount)), ((ad 24), .inl (cI, 800, .inl m_buffer))] := hD
            refine lv_if_ne (tgt := 58) hx hb dX10_compileValue_49 (by decide) (fun h9 => ?_) (fun h9 => ?_)
            · have hf := ctt (bI_1 h9) hf
              cases hf
              have hf := hk30
              exact J58 v1_30 H locs ls hf (hP.sub [1, 2, 0] rfl) (hD.sub [1, 2, 0] (by decide) rfl) hS (lv_sub hl [0, 1] rfl)
            · have hf := ctf (bI_0 h9) hf
              obtain ⟨t52, h9⟩ : ∃ z : Int32, z = (v1_30 + (1 : Int32)) := ⟨_, rfl⟩
              have hf := lb_e h9 hf
              refine lv_iinc (v := t52) (lv' := [(1, .int t52), (0, .ref (ad 0))]) hx hb dX10_compileValue_52 hl (k := 1) rfl (by rw [h9]; rfl) (by decide) rfl (fun ls hl => ?_)
              refine lv_goto (tgt := 30) hx hb dX10_compileValue_55 (by decide) ?_
              exact ih30 t52 ex30 H locs ls hf hk30 (hP.sub [1, 2, 0] rfl) (hD.sub [1, 2, 0] (by decide) rfl) hS (lv_sub hl [1, 0] rfl)
      obtain ⟨ex, h9, hf⟩ := ob_s hf
      exact K30 FU (0 : Int32) ex H locs ls h9 hf hP hD hS (lv_sub hl [1, 0] rfl)
    · have hf := itt h9 hf
      exact J15 H locs ls hf hP hD hS (lv_sub hl [0] rfl)
set_option maxHeartbeats 4000000 in
set_option maxRecDepth 100000 in
theorem c_X10_operate (v0 : Int32) (v1 : Int64) (v3 : Int64) (r9 : Int64) (hf : p10_operate v0 v1 v3 = r9) : gM l dC dI cI cJ cZ yX10_operate cX10_operate 5 (some .long) (0) (0) [.int v0, .long v1, .long v3] [] [] (some (.long r9)) := by
  refine g_start (own := RX10) (by decide +kernel) rfl (Nat.le_of_ble_eq_true rfl) ?_
  intro p e s m below meth c A ls S hr hlocks hE hP hD hS hA hl hin
  have hx := S.1
  have hb := S.2.1
  have hml := S.2.2.1
  have hown := S.2.2.2.1
  have htg : ∀ z ∈ gw, z.before ([.int v0, .long v1, .long v3] : List Value).toArray s = true := fun w h => S.2.2.2.2 w (List.mem_cons_of_mem _ h)
  have hl : lv_has ls 5 [(0, .int v0), (1, .long v1), (3, .long v3)] := hl
  have hS0 := hS
  obtain ⟨H, hH⟩ : ∃ H, H = s.heap := ⟨_, rfl⟩
  obtain ⟨locs, hlc⟩ : ∃ locs : List Loc, locs = [] := ⟨_, rfl⟩
  have hS : va_S A s.heap H locs := by rw [hH, hlc]; exact hS0
  have hP : va_P (dC, dI) vwCl [] H := by rw [hH]; exact hP
  suffices hgo : W p l e ({ frames := 0, cells := 0, slots := 0, locals := 0 }) s m ([.int v0, .long v1, .long v3] : List Value).toArray below meth c H locs 0 0 (MQ below (gQ dC dI (some (.long r9)) A []) ([.int v0, .long v1, .long v3] : List Value).toArray s 0 0 A) (F0 m 0 ls []) by rw [hH, hlc] at hgo; exact hgo
  rw [p10_operate] at hf
  refine lv_iload_n hx hb dX10_operate_0 rfl (lv_at hl 0 rfl) ?_
  by_cases h9 : v0 = (-24 : Int32)
  · have hf := itt h9 hf
    have q9 : (v0).toInt = -24 := by rw [h9]; decide
    refine lv_tableIn (tgt := 72) hx hb dX10_operate_1 (by omega) (by omega) (by first | (rw [q9]; rfl) | rw [q9]) (by decide) ?_
    refine lv_lload_n hx hb dX10_operate_72 rfl (lv_at hl 1 rfl) ?_
    refine lv_lload_n hx hb dX10_operate_73 rfl (lv_at hl 2 rfl) ?_
    refine lv_land hx hb dX10_operate_74 ?_
    cases hf
    exact g_lret S hr hlocks hP hD hS dX10_operate_75
  · have hf := itf h9 hf
    have q76 : (v0).toInt ≠ -24 := fun q => h9 (Int32.toInt_inj.mp (by rw [q]; decide))
    by_cases h9 : v0 = (-23 : Int32)
    · have hf := itt h9 hf
      have q9 : (v0).toInt = -23 := by rw [h9]; decide
      refine lv_tableIn (tgt := 76) hx hb dX10_operate_1 (by omega) (by omega) (by first | (rw [q9]; rfl) | rw [q9]) (by decide) ?_
      refine lv_lload_n hx hb dX10_operate_76 rfl (lv_at hl 1 rfl) ?_
      refine lv_lload_n hx hb dX10_operate_77 rfl (lv_at hl 2 rfl) ?_
      refine lv_lor hx hb dX10_operate_78 ?_
      cases hf
      exact g_lret S hr hlocks hP hD hS dX10_operate_79
    · have hf := itf h9 hf
      have q77 : (v0).toInt ≠ -23 := fun q => h9 (Int32.toInt_inj.mp (by rw [q]; decide))
      by_cases h9 : v0 = (-22 : Int32)
      · have hf := itt h9 hf
        have q9 : (v0).toInt = -22 := by rw [h9]; decide
        refine lv_tableIn (tgt := 60) hx hb dX10_operate_1 (by omega) (by omega) (by first | (rw [q9]; rfl) | rw [q9]) (by decide) ?_
        refine lv_lload_n hx hb dX10_operate_60 rfl (lv_at hl 1 rfl) ?_
        refine lv_lload_n hx hb dX10_operate_61 rfl (lv_at hl 2 rfl) ?_
        refine W.lcmp hx hb dX10_operate_62 ?_
        refine lv_if_le (tgt := 70) hx hb dX10_operate_63 (by decide) (fun h9 => ?_) (fun h9 => ?_)
        · have h9 := (lg_cmp_le _ _).mp h9
          have hf := itt h9 hf
          refine lv_lconst (v := 0) hx hb dX10_operate_70 (by decide) ?_
          cases hf
          exact g_lret S hr hlocks hP hD hS dX10_operate_71
        · have h9 := fun q => h9 ((lg_cmp_le _ _).mpr q)
          have hf := itf h9 hf
          refine lv_lconst (v := 1) hx hb dX10_operate_66 (by decide) ?_
          refine lv_goto (tgt := 71) hx hb dX10_operate_67 (by decide) ?_
          cases hf
          exact g_lret S hr hlocks hP hD hS dX10_operate_71
      · have hf := itf h9 hf
        have q78 : (v0).toInt ≠ -22 := fun q => h9 (Int32.toInt_inj.mp (by rw [q]; decide))
        by_cases h9 : v0 = (-21 : Int32)
        · have hf := itt h9 hf
          have q9 : (v0).toInt = -21 := by rw [h9]; decide
          refine lv_tableIn (tgt := 48) hx hb dX10_operate_1 (by omega) (by omega) (by first | (rw [q9]; rfl) | rw [q9]) (by decide) ?_
          refine lv_lload_n hx hb dX10_operate_48 rfl (lv_at hl 1 rfl) ?_
          refine lv_lload_n hx hb dX10_operate_49 rfl (lv_at hl 2 rfl) ?_
          refine W.lcmp hx hb dX10_operate_50 ?_
          refine lv_if_ne (tgt := 58) hx hb dX10_operate_51 (by decide) (fun h9 => ?_) (fun h9 => ?_)
          · have h9 := fun q => h9 ((lg_cmp_eq _ _).mpr q)
            have hf := itf h9 hf
            refine lv_lconst (v := 0) hx hb dX10_operate_58 (by decide) ?_
            cases hf
            exact g_lret S hr hlocks hP hD hS dX10_operate_59
          · have h9 := (lg_cmp_eq _ _).mp h9
            have hf := itt h9 hf
            refine lv_lconst (v := 1) hx hb dX10_operate_54 (by decide) ?_
            refine lv_goto (tgt := 59) hx hb dX10_operate_55 (by decide) ?_
            cases hf
            exact g_lret S hr hlocks hP hD hS dX10_operate_59
        · have hf := itf h9 hf
          have q79 : (v0).toInt ≠ -21 := fun q => h9 (Int32.toInt_inj.mp (by rw [q]; decide))
          by_cases h9 : v0 = (-20 : Int32)
          · have hf := itt h9 hf
            have q9 : (v0).toInt = -20 := by rw [h9]; decide
            refine lv_tableIn (tgt := 36) hx hb dX10_operate_1 (by omega) (by omega) (by first | (rw [q9]; rfl) | rw [q9]) (by decide) ?_
            refine lv_lload_n hx hb dX10_operate_36 rfl (lv_at hl 1 rfl) ?_
            refine lv_lload_n hx hb dX10_operate_37 rfl (lv_at hl 2 rfl) ?_
            refine W.lcmp hx hb dX10_operate_38 ?_
            refine lv_if_ge (tgt := 46) hx hb dX10_operate_39 (by decide) (fun h9 => ?_) (fun h9 => ?_)
            · have h9 := (lg_cmp_ge _ _).mp h9
              have hf := itt h9 hf
              refine lv_lconst (v := 0) hx hb dX10_operate_46 (by decide) ?_
              cases hf
              exact g_lret S hr hlocks hP hD hS dX10_operate_47
            · have h9 := fun q => h9 ((lg_cmp_ge _ _).mpr q)
              have hf := itf h9 hf
              refine lv_lconst (v := 1) hx hb dX10_operate_42 (by decide) ?_
              refine lv_goto (tgt := 47) hx hb dX10_operate_43 (by decide) ?_
              cases hf
              exact g_lret S hr hlocks hP hD hS dX10_operate_47
          · have hf := itf h9 hf
            have q80 : (v0).toInt ≠ -20 := fun q => h9 (Int32.toInt_inj.mp (by rw [q]; decide))
            refine lv_tableOut (tgt := 76) hx hb dX10_operate_1 (by omega) (by decide) ?_
            refine lv_lload_n hx hb dX10_operate_76 rfl (lv_at hl 1 rfl) ?_
            refine lv_lload_n hx hb dX10_operate_77 rfl (lv_at hl 2 rfl) ?_
            refine lv_lor hx hb dX10_operate_78 ?_
            cases hf
            exact g_lret S hr hlocks hP hD hS dX10_operate_79
set_option maxHeartbeats 4000000 in
set_option maxRecDepth 100000 in
theorem c_X10_property (ad : Nat → Nat) (a_m_fam : Nat) (m_undoCount : Int32) (m_thrown : Int32) (m_hasSnapshot : Bool) (m_rows : Int32) (m_lineLength : Int32) (m_formattedLength : Int32) (m_bufferLength : Int32) (m_limit : Int32) (m_next : Int32) (m_beginsAt : Int32) (m_token : Int32) (m_error : Int32) (m_errorAt : Int32) (m_errorPosition : Int32) (m_nested : Int32) (m_codeCount : Int32) (m_fam : Nat → Int64) (m_generation : Nat → Int32) (v1 : Int32) (v2 : Int32) (r9 : Int64) (hf : p10_property m_fam m_generation v1 v2 = some r9) : gM l dC dI cI cJ cZ yX10_property cX10_property 3 (some .long) (4) (93) [.ref (ad 0), .int v1, .int v2] [(ad 0, .inr (10, oM ad m_undoCount m_thrown m_hasSnapshot a_m_fam m_rows m_lineLength m_formattedLength m_bufferLength m_limit m_next m_beginsAt m_token m_error m_errorAt m_errorPosition m_nested m_codeCount)), (a_m_fam, .inl (cJ, 130, .inr (.inl m_fam))), ((ad 9), .inl (cI, 16, .inl m_generation))] [(ad 0, .inr (10, oM ad m_undoCount m_thrown m_hasSnapshot a_m_fam m_rows m_lineLength m_formattedLength m_bufferLength m_limit m_next m_beginsAt m_token m_error m_errorAt m_errorPosition m_nested m_codeCount)), (a_m_fam, .inl (cJ, 130, .inr (.inl m_fam))), ((ad 9), .inl (cI, 16, .inl m_generation))] (some (.long r9)) := by
  refine g_start (own := RX10) (by decide +kernel) rfl (Nat.le_of_ble_eq_true rfl) ?_
  intro p e s m below meth c A ls S hr hlocks hE hP hD hS hA hl hin
  have hx := S.1
  have hb := S.2.1
  have hml := S.2.2.1
  have hown := S.2.2.2.1
  have htg : ∀ z ∈ gw, z.before ([.ref (ad 0), .int v1, .int v2] : List Value).toArray s = true := fun w h => S.2.2.2.2 w (List.mem_cons_of_mem _ h)
  have hl : lv_has ls 3 [(0, .ref (ad 0)), (1, .int v1), (2, .int v2)] := hl
  have hS0 := hS
  obtain ⟨H, hH⟩ : ∃ H, H = s.heap := ⟨_, rfl⟩
  obtain ⟨locs, hlc⟩ : ∃ locs : List Loc, locs = [] := ⟨_, rfl⟩
  have hS : va_S A s.heap H locs := by rw [hH, hlc]; exact hS0
  have hP : va_P (dC, dI) vwCl [(ad 0, .inr (10, oM ad m_undoCount m_thrown m_hasSnapshot a_m_fam m_rows m_lineLength m_formattedLength m_bufferLength m_limit m_next m_beginsAt m_token m_error m_errorAt m_errorPosition m_nested m_codeCount)), (a_m_fam, .inl (cJ, 130, .inr (.inl m_fam))), ((ad 9), .inl (cI, 16, .inl m_generation))] H := by rw [hH]; exact hP
  suffices hgo : W p l e ({ frames := 4, cells := 0, slots := 0, locals := 93 }) s m ([.ref (ad 0), .int v1, .int v2] : List Value).toArray below meth c H locs 0 0 (MQ below (gQ dC dI (some (.long r9)) A [(ad 0, .inr (10, oM ad m_undoCount m_thrown m_hasSnapshot a_m_fam m_rows m_lineLength m_formattedLength m_bufferLength m_limit m_next m_beginsAt m_token m_error m_errorAt m_errorPosition m_nested m_codeCount)), (a_m_fam, .inl (cJ, 130, .inr (.inl m_fam))), ((ad 9), .inl (cI, 16, .inl m_generation))]) ([.ref (ad 0), .int v1, .int v2] : List Value).toArray s 0 0 A) (F0 m 0 ls []) by rw [hH, hlc] at hgo; exact hgo
  rw [p10_property] at hf
  refine lv_iload_n hx hb dX10_property_0 rfl (lv_at hl 2 rfl) ?_
  by_cases h9 : v2 = (0 : Int32)
  · have hf := itt h9 hf
    have q9 : (v2).toInt = 0 := by rw [h9]; decide
    refine lv_tableIn (tgt := 40) hx hb dX10_property_1 (by omega) (by omega) (by first | (rw [q9]; rfl) | rw [q9]) (by decide) ?_
    refine lv_iload_n hx hb dX10_property_40 rfl (lv_at hl 1 rfl) ?_
    refine lv_i2l hx hb dX10_property_41 rfl ?_
    cases hf
    exact g_lret S hr hlocks hP hD hS dX10_property_42
  · have hf := itf h9 hf
    have q100 : (v2).toInt ≠ 0 := fun q => h9 (Int32.toInt_inj.mp (by rw [q]; decide))
    by_cases h9 : v2 = (1 : Int32)
    · have hf := itt h9 hf
      have q9 : (v2).toInt = 1 := by rw [h9]; decide
      refine lv_tableIn (tgt := 43) hx hb dX10_property_1 (by omega) (by omega) (by first | (rw [q9]; rfl) | rw [q9]) (by decide) ?_
      refine lv_aload_n hx hb dX10_property_43 rfl (lv_at hl 0 rfl) ?_
      refine lv_iload_n hx hb dX10_property_44 rfl (lv_at hl 1 rfl) ?_
      refine lv_iconst (v := 0) hx hb dX10_property_45 (by decide) ?_
      obtain ⟨r46, h9, hf⟩ := ob_s hf
      refine gcV (index := 98) S hE (c_X10_ofPerson ad a_m_fam m_undoCount m_thrown m_hasSnapshot m_rows m_lineLength m_formattedLength m_bufferLength m_limit m_next m_beginsAt m_token m_error m_errorAt m_errorPosition m_nested m_codeCount m_fam v1 (0 : Int32) r46 h9) mX10_ofPerson tw1519 ⟨Nat.le_of_ble_eq_true rfl, Nat.le_of_ble_eq_true rfl⟩ hP hD hS hA ⟨Nat.zero_le _, Nat.zero_le _⟩ 0 10 rfl rfl rfl (wr := [((ad 9), .inl (cI, 16, .inl m_generation))]) [0, 1] [2] rfl rfl rfl rfl (by decide) (As := [.int v1, .int (0 : Int32)]) (rest := []) rfl hl.1 rfl (Nat.le_of_ble_eq_true rfl) dX10_property_46 (fun H locs hP hD hS => ?_)
      refine W.eq (g2 := F0 m 49 ls [.long r46]) rfl ?_
      have hP : va_P (dC, dI) vwCl [((ad 9), .inl (cI, 16, .inl m_generation)), (ad 0, .inr (10, oM ad m_undoCount m_thrown m_hasSnapshot a_m_fam m_rows m_lineLength m_formattedLength m_bufferLength m_limit m_next m_beginsAt m_token m_error m_errorAt m_errorPosition m_nested m_codeCount)), (a_m_fam, .inl (cJ, 130, .inr (.inl m_fam)))] H := hP
      have hD : va_D A [((ad 9), .inl (cI, 16, .inl m_generation)), (ad 0, .inr (10, oM ad m_undoCount m_thrown m_hasSnapshot a_m_fam m_rows m_lineLength m_formattedLength m_bufferLength m_limit m_next m_beginsAt m_token m_error m_errorAt m_errorPosition m_nested m_codeCount)), (a_m_fam, .inl (cJ, 130, .inr (.inl m_fam)))] := hD
      cases hf
      exact g_lret S hr hlocks (hP.sub [1, 2, 0] rfl) (hD.sub [1, 2, 0] (by decide) rfl) hS dX10_property_49
    · have hf := itf h9 hf
      have q101 : (v2).toInt ≠ 1 := fun q => h9 (Int32.toInt_inj.mp (by rw [q]; decide))
      by_cases h9 : v2 = (2 : Int32)
      · have hf := itt h9 hf
        have q9 : (v2).toInt = 2 := by rw [h9]; decide
        refine lv_tableIn (tgt := 50) hx hb dX10_property_1 (by omega) (by omega) (by first | (rw [q9]; rfl) | rw [q9]) (by decide) ?_
        refine lv_aload_n hx hb dX10_property_50 rfl (lv_at hl 0 rfl) ?_
        refine va_get (D := (dC, dI)) (ci := 10) (v := .ref (ad 9)) (C := RX10) (T := TX10) (N := 37) hx hb htg inX10 hown hE.1 hP 0 rfl rfl 8 (by decide) (htg _ tw1390) (fun _ h9 => h9) rfl dX10_property_51 ?_
        refine lv_iload_n hx hb dX10_property_54 rfl (lv_at hl 1 rfl) ?_
        obtain ⟨h9, hf⟩ := gd_s hf
        refine va_iald hx hb hE.1 hP 2 0 rfl rfl h9 dX10_property_55 ?_
        refine lv_i2l hx hb dX10_property_56 rfl ?_
        cases hf
        exact g_lret S hr hlocks hP hD hS dX10_property_57
      · have hf := itf h9 hf
        have q102 : (v2).toInt ≠ 2 := fun q => h9 (Int32.toInt_inj.mp (by rw [q]; decide))
        by_cases h9 : v2 = (3 : Int32)
        · have hf := itt h9 hf
          have q9 : (v2).toInt = 3 := by rw [h9]; decide
          refine lv_tableIn (tgt := 58) hx hb dX10_property_1 (by omega) (by omega) (by first | (rw [q9]; rfl) | rw [q9]) (by decide) ?_
          refine lv_aload_n hx hb dX10_property_58 rfl (lv_at hl 0 rfl) ?_
          refine lv_iload_n hx hb dX10_property_59 rfl (lv_at hl 1 rfl) ?_
          obtain ⟨r60, h9, hf⟩ := ob_s hf
          refine gcV (index := 243) S hE (c_X10_unionsOf ad a_m_fam m_undoCount m_thrown m_hasSnapshot m_rows m_lineLength m_formattedLength m_bufferLength m_limit m_next m_beginsAt m_token m_error m_errorAt m_errorPosition m_nested m_codeCount m_fam v1 r60 h9) mX10_unionsOf tw1588 ⟨Nat.le_of_ble_eq_true rfl, Nat.le_of_ble_eq_true rfl⟩ hP hD hS hA ⟨Nat.zero_le _, Nat.zero_le _⟩ 0 10 rfl rfl rfl (wr := [((ad 9), .inl (cI, 16, .inl m_generation))]) [0, 1] [2] rfl rfl rfl rfl (by decide) (As := [.int v1]) (rest := []) rfl hl.1 rfl (Nat.le_of_ble_eq_true rfl) dX10_property_60 (fun H locs hP hD hS => ?_)
          refine W.eq (g2 := F0 m 63 ls [.int r60]) rfl ?_
          have hP : va_P (dC, dI) vwCl [((ad 9), .inl (cI, 16, .inl m_generation)), (ad 0, .inr (10, oM ad m_undoCount m_thrown m_hasSnapshot a_m_fam m_rows m_lineLength m_formattedLength m_bufferLength m_limit m_next m_beginsAt m_token m_error m_errorAt m_errorPosition m_nested m_codeCount)), (a_m_fam, .inl (cJ, 130, .inr (.inl m_fam)))] H := hP
          have hD : va_D A [((ad 9), .inl (cI, 16, .inl m_generation)), (ad 0, .inr (10, oM ad m_undoCount m_thrown m_hasSnapshot a_m_fam m_rows m_lineLength m_formattedLength m_bufferLength m_limit m_next m_beginsAt m_token m_error m_errorAt m_errorPosition m_nested m_codeCount)), (a_m_fam, .inl (cJ, 130, .inr (.inl m_fam)))] := hD
          refine lv_i2l hx hb dX10_property_63 rfl ?_
          cases hf
          exact g_lret S hr hlocks (hP.sub [1, 2, 0] rfl) (hD.sub [1, 2, 0] (by decide) rfl) hS dX10_property_64
        · have hf := itf h9 hf
          have q103 : (v2).toInt ≠ 3 := fun q => h9 (Int32.toInt_inj.mp (by rw [q]; decide))
          by_cases h9 : v2 = (4 : Int32)
          · have hf := itt h9 hf
            have q9 : (v2).toInt = 4 := by rw [h9]; decide
            refine lv_tableIn (tgt := 65) hx hb dX10_property_1 (by omega) (by omega) (by first | (rw [q9]; rfl) | rw [q9]) (by decide) ?_
            refine lv_aload_n hx hb dX10_property_65 rfl (lv_at hl 0 rfl) ?_
            refine lv_iload_n hx hb dX10_property_66 rfl (lv_at hl 1 rfl) ?_
            obtain ⟨r67, h9, hf⟩ := ob_s hf
            refine gcV (index := 224) S hE (c_X10_childrenOf ad a_m_fam m_undoCount m_thrown m_hasSnapshot m_rows m_lineLength m_formattedLength m_bufferLength m_limit m_next m_beginsAt m_token m_error m_errorAt m_errorPosition m_nested m_codeCount m_fam v1 r67 h9) mX10_childrenOf tw1560 ⟨Nat.le_of_ble_eq_true rfl, Nat.le_of_ble_eq_true rfl⟩ hP hD hS hA ⟨Nat.zero_le _, Nat.zero_le _⟩ 0 10 rfl rfl rfl (wr := [((ad 9), .inl (cI, 16, .inl m_generation))]) [0, 1] [2] rfl rfl rfl rfl (by decide) (As := [.int v1]) (rest := []) rfl hl.1 rfl (Nat.le_of_ble_eq_true rfl) dX10_property_67 (fun H locs hP hD hS => ?_)
            refine W.eq (g2 := F0 m 70 ls [.int r67]) rfl ?_
            have hP : va_P (dC, dI) vwCl [((ad 9), .inl (cI, 16, .inl m_generation)), (ad 0, .inr (10, oM ad m_undoCount m_thrown m_hasSnapshot a_m_fam m_rows m_lineLength m_formattedLength m_bufferLength m_limit m_next m_beginsAt m_token m_error m_errorAt m_errorPosition m_nested m_codeCount)), (a_m_fam, .inl (cJ, 130, .inr (.inl m_fam)))] H := hP
            have hD : va_D A [((ad 9), .inl (cI, 16, .inl m_generation)), (ad 0, .inr (10, oM ad m_undoCount m_thrown m_hasSnapshot a_m_fam m_rows m_lineLength m_formattedLength m_bufferLength m_limit m_next m_beginsAt m_token m_error m_errorAt m_errorPosition m_nested m_codeCount)), (a_m_fam, .inl (cJ, 130, .inr (.inl m_fam)))] := hD
            obtain ⟨r70, h9, hf⟩ := ob_s hf
            refine gcS (index := 251) S hE (c_X10_members r67 r70 h9) mX10_members tw1633 ⟨Nat.le_of_ble_eq_true rfl, Nat.le_of_ble_eq_true rfl⟩ hP hD hS hA ⟨Nat.zero_le _, Nat.zero_le _⟩ (wr := [((ad 9), .inl (cI, 16, .inl m_generation)), (ad 0, .inr (10, oM ad m_undoCount m_thrown m_hasSnapshot a_m_fam m_rows m_lineLength m_formattedLength m_bufferLength m_limit m_next m_beginsAt m_token m_error m_errorAt m_errorPosition m_nested m_codeCount)), (a_m_fam, .inl (cJ, 130, .inr (.inl m_fam)))]) [] [0, 1, 2] rfl rfl rfl rfl (by decide) (As := [.int r67]) (rest := []) rfl hl.1 rfl (Nat.le_of_ble_eq_true rfl) dX10_property_70 (fun H locs hP hD hS => ?_)
            refine W.eq (g2 := F0 m 73 ls [.int r70]) rfl ?_
            have hP : va_P (dC, dI) vwCl [((ad 9), .inl (cI, 16, .inl m_generation)), (ad 0, .inr (10, oM ad m_undoCount m_thrown m_hasSnapshot a_m_fam m_rows m_lineLength m_formattedLength m_bufferLength m_limit m_next m_beginsAt m_token m_error m_errorAt m_errorPosition m_nested m_codeCount)), (a_m_fam, .inl (cJ, 130, .inr (.inl m_fam)))] H := hP
            have hD : va_D A [((ad 9), .inl (cI, 16, .inl m_generation)), (ad 0, .inr (10, oM ad m_undoCount m_thrown m_hasSnapshot a_m_fam m_rows m_lineLength m_formattedLength m_bufferLength m_limit m_next m_beginsAt m_token m_error m_errorAt m_errorPosition m_nested m_codeCount)), (a_m_fam, .inl (cJ, 130, .inr (.inl m_fam)))] := hD
            refine lv_i2l hx hb dX10_property_73 rfl ?_
            cases hf
            exact g_lret S hr hlocks (hP.sub [1, 2, 0] rfl) (hD.sub [1, 2, 0] (by decide) rfl) hS dX10_property_74
          · have hf := itf h9 hf
            have q104 : (v2).toInt ≠ 4 := fun q => h9 (Int32.toInt_inj.mp (by rw [q]; decide))
            by_cases h9 : v2 = (5 : Int32)
            · have hf := itt h9 hf
              have q9 : (v2).toInt = 5 := by rw [h9]; decide
              refine lv_tableIn (tgt := 75) hx hb dX10_property_1 (by omega) (by omega) (by first | (rw [q9]; rfl) | rw [q9]) (by decide) ?_
              refine lv_aload_n hx hb dX10_property_75 rfl (lv_at hl 0 rfl) ?_
              refine lv_iload_n hx hb dX10_property_76 rfl (lv_at hl 1 rfl) ?_
              obtain ⟨r77, h9, hf⟩ := ob_s hf
              refine gcV (index := 254) S hE (c_X10_ancestorMask ad a_m_fam m_undoCount m_thrown m_hasSnapshot m_rows m_lineLength m_formattedLength m_bufferLength m_limit m_next m_beginsAt m_token m_error m_errorAt m_errorPosition m_nested m_codeCount m_fam v1 r77 h9) mX10_ancestorMask tw1648 ⟨Nat.le_of_ble_eq_true rfl, Nat.le_of_ble_eq_true rfl⟩ hP hD hS hA ⟨Nat.zero_le _, Nat.zero_le _⟩ 0 10 rfl rfl rfl (wr := [((ad 9), .inl (cI, 16, .inl m_generation))]) [0, 1] [2] rfl rfl rfl rfl (by decide) (As := [.int v1]) (rest := []) rfl hl.1 rfl (Nat.le_of_ble_eq_true rfl) dX10_property_77 (fun H locs hP hD hS => ?_)
              refine W.eq (g2 := F0 m 80 ls [.int r77]) rfl ?_
              have hP : va_P (dC, dI) vwCl [((ad 9), .inl (cI, 16, .inl m_generation)), (ad 0, .inr (10, oM ad m_undoCount m_thrown m_hasSnapshot a_m_fam m_rows m_lineLength m_formattedLength m_bufferLength m_limit m_next m_beginsAt m_token m_error m_errorAt m_errorPosition m_nested m_codeCount)), (a_m_fam, .inl (cJ, 130, .inr (.inl m_fam)))] H := hP
              have hD : va_D A [((ad 9), .inl (cI, 16, .inl m_generation)), (ad 0, .inr (10, oM ad m_undoCount m_thrown m_hasSnapshot a_m_fam m_rows m_lineLength m_formattedLength m_bufferLength m_limit m_next m_beginsAt m_token m_error m_errorAt m_errorPosition m_nested m_codeCount)), (a_m_fam, .inl (cJ, 130, .inr (.inl m_fam)))] := hD
              obtain ⟨r80, h9, hf⟩ := ob_s hf
              refine gcS (index := 251) S hE (c_X10_members r77 r80 h9) mX10_members tw1633 ⟨Nat.le_of_ble_eq_true rfl, Nat.le_of_ble_eq_true rfl⟩ hP hD hS hA ⟨Nat.zero_le _, Nat.zero_le _⟩ (wr := [((ad 9), .inl (cI, 16, .inl m_generation)), (ad 0, .inr (10, oM ad m_undoCount m_thrown m_hasSnapshot a_m_fam m_rows m_lineLength m_formattedLength m_bufferLength m_limit m_next m_beginsAt m_token m_error m_errorAt m_errorPosition m_nested m_codeCount)), (a_m_fam, .inl (cJ, 130, .inr (.inl m_fam)))]) [] [0, 1, 2] rfl rfl rfl rfl (by decide) (As := [.int r77]) (rest := []) rfl hl.1 rfl (Nat.le_of_ble_eq_true rfl) dX10_property_80 (fun H locs hP hD hS => ?_)
              refine W.eq (g2 := F0 m 83 ls [.int r80]) rfl ?_
              have hP : va_P (dC, dI) vwCl [((ad 9), .inl (cI, 16, .inl m_generation)), (ad 0, .inr (10, oM ad m_undoCount m_thrown m_hasSnapshot a_m_fam m_rows m_lineLength m_formattedLength m_bufferLength m_limit m_next m_beginsAt m_token m_error m_errorAt m_errorPosition m_nested m_codeCount)), (a_m_fam, .inl (cJ, 130, .inr (.inl m_fam)))] H := hP
              have hD : va_D A [((ad 9), .inl (cI, 16, .inl m_generation)), (ad 0, .inr (10, oM ad m_undoCount m_thrown m_hasSnapshot a_m_fam m_rows m_lineLength m_formattedLength m_bufferLength m_limit m_next m_beginsAt m_token m_error m_errorAt m_errorPosition m_nested m_codeCount)), (a_m_fam, .inl (cJ, 130, .inr (.inl m_fam)))] := hD
              refine lv_i2l hx hb dX10_property_83 rfl ?_
              cases hf
              exact g_lret S hr hlocks (hP.sub [1, 2, 0] rfl) (hD.sub [1, 2, 0] (by decide) rfl) hS dX10_property_84
            · have hf := itf h9 hf
              have q105 : (v2).toInt ≠ 5 := fun q => h9 (Int32.toInt_inj.mp (by rw [q]; decide))
              refine lv_tableOut (tgt := 85) hx hb dX10_property_1 (by omega) (by decide) ?_
              refine lv_aload_n hx hb dX10_property_85 rfl (lv_at hl 0 rfl) ?_
              refine lv_iload_n hx hb dX10_property_86 rfl (lv_at hl 1 rfl) ?_
              obtain ⟨r87, h9, hf⟩ := ob_s hf
              refine gcV (index := 257) S hE (c_X10_descendantMask ad a_m_fam m_undoCount m_thrown m_hasSnapshot m_rows m_lineLength m_formattedLength m_bufferLength m_limit m_next m_beginsAt m_token m_error m_errorAt m_errorPosition m_nested m_codeCount m_fam v1 r87 h9) mX10_descendantMask tw1656 ⟨Nat.le_of_ble_eq_true rfl, Nat.le_of_ble_eq_true rfl⟩ hP hD hS hA ⟨Nat.zero_le _, Nat.zero_le _⟩ 0 10 rfl rfl rfl (wr := [((ad 9), .inl (cI, 16, .inl m_generation))]) [0, 1] [2] rfl rfl rfl rfl (by decide) (As := [.int v1]) (rest := []) rfl hl.1 rfl (Nat.le_of_ble_eq_true rfl) dX10_property_87 (fun H locs hP hD hS => ?_)
              refine W.eq (g2 := F0 m 90 ls [.int r87]) rfl ?_
              have hP : va_P (dC, dI) vwCl [((ad 9), .inl (cI, 16, .inl m_generation)), (ad 0, .inr (10, oM ad m_undoCount m_thrown m_hasSnapshot a_m_fam m_rows m_lineLength m_formattedLength m_bufferLength m_limit m_next m_beginsAt m_token m_error m_errorAt m_errorPosition m_nested m_codeCount)), (a_m_fam, .inl (cJ, 130, .inr (.inl m_fam)))] H := hP
              have hD : va_D A [((ad 9), .inl (cI, 16, .inl m_generation)), (ad 0, .inr (10, oM ad m_undoCount m_thrown m_hasSnapshot a_m_fam m_rows m_lineLength m_formattedLength m_bufferLength m_limit m_next m_beginsAt m_token m_error m_errorAt m_errorPosition m_nested m_codeCount)), (a_m_fam, .inl (cJ, 130, .inr (.inl m_fam)))] := hD
              obtain ⟨r90, h9, hf⟩ := ob_s hf
              refine gcS (index := 251) S hE (c_X10_members r87 r90 h9) mX10_members tw1633 ⟨Nat.le_of_ble_eq_true rfl, Nat.le_of_ble_eq_true rfl⟩ hP hD hS hA ⟨Nat.zero_le _, Nat.zero_le _⟩ (wr := [((ad 9), .inl (cI, 16, .inl m_generation)), (ad 0, .inr (10, oM ad m_undoCount m_thrown m_hasSnapshot a_m_fam m_rows m_lineLength m_formattedLength m_bufferLength m_limit m_next m_beginsAt m_token m_error m_errorAt m_errorPosition m_nested m_codeCount)), (a_m_fam, .inl (cJ, 130, .inr (.inl m_fam)))]) [] [0, 1, 2] rfl rfl rfl rfl (by decide) (As := [.int r87]) (rest := []) rfl hl.1 rfl (Nat.le_of_ble_eq_true rfl) dX10_property_90 (fun H locs hP hD hS => ?_)
              refine W.eq (g2 := F0 m 93 ls [.int r90]) rfl ?_
              have hP : va_P (dC, dI) vwCl [((ad 9), .inl (cI, 16, .inl m_generation)), (ad 0, .inr (10, oM ad m_undoCount m_thrown m_hasSnapshot a_m_fam m_rows m_lineLength m_formattedLength m_bufferLength m_limit m_next m_beginsAt m_token m_error m_errorAt m_errorPosition m_nested m_codeCount)), (a_m_fam, .inl (cJ, 130, .inr (.inl m_fam)))] H := hP
              have hD : va_D A [((ad 9), .inl (cI, 16, .inl m_generation)), (ad 0, .inr (10, oM ad m_undoCount m_thrown m_hasSnapshot a_m_fam m_rows m_lineLength m_formattedLength m_bufferLength m_limit m_next m_beginsAt m_token m_error m_errorAt m_errorPosition m_nested m_codeCount)), (a_m_fam, .inl (cJ, 130, .inr (.inl m_fam)))] := hD
              refine lv_i2l hx hb dX10_property_93 rfl ?_
              cases hf
              exact g_lret S hr hlocks (hP.sub [1, 2, 0] rfl) (hD.sub [1, 2, 0] (by decide) rfl) hS dX10_property_94
set_option maxHeartbeats 4000000 in
set_option maxRecDepth 100000 in
theorem c_X10_holdsFor (ad : Nat → Nat) (a_m_fam : Nat) (m_undoCount : Int32) (m_thrown : Int32) (m_hasSnapshot : Bool) (m_rows : Int32) (m_lineLength : Int32) (m_formattedLength : Int32) (m_bufferLength : Int32) (m_limit : Int32) (m_next : Int32) (m_beginsAt : Int32) (m_token : Int32) (m_error : Int32) (m_errorAt : Int32) (m_errorPosition : Int32) (m_nested : Int32) (m_codeCount : Int32) (m_codes : Nat → Int32) (m_fam : Nat → Int64) (m_generation : Nat → Int32) (m_stack : Nat → Int64) (v1 : Int32) (r9 : Bool) (m_stack_9 : Nat → Int64) (hf : p10_holdsFor m_codeCount m_codes m_fam m_generation m_stack v1 = some (r9, m_stack_9)) : gM l dC dI cI cJ cZ yX10_holdsFor cX10_holdsFor 5 (some .boolean) (5) (115) [.ref (ad 0), .int v1] [(ad 0, .inr (10, oM ad m_undoCount m_thrown m_hasSnapshot a_m_fam m_rows m_lineLength m_formattedLength m_bufferLength m_limit m_next m_beginsAt m_token m_error m_errorAt m_errorPosition m_nested m_codeCount)), ((ad 35), .inl (cI, 200, .inl m_codes)), (a_m_fam, .inl (cJ, 130, .inr (.inl m_fam))), ((ad 9), .inl (cI, 16, .inl m_generation)), ((ad 36), .inl (cJ, 200, .inr (.inl m_stack)))] [(ad 0, .inr (10, oM ad m_undoCount m_thrown m_hasSnapshot a_m_fam m_rows m_lineLength m_formattedLength m_bufferLength m_limit m_next m_beginsAt m_token m_error m_errorAt m_errorPosition m_nested m_codeCount)), ((ad 35), .inl (cI, 200, .inl m_codes)), (a_m_fam, .inl (cJ, 130, .inr (.inl m_fam))), ((ad 9), .inl (cI, 16, .inl m_generation)), ((ad 36), .inl (cJ, 200, .inr (.inl m_stack_9)))] (some (.int (bI r9))) := by
  refine g_start (own := RX10) (by decide +kernel) rfl (Nat.le_of_ble_eq_true rfl) ?_
  intro p e s m below meth c A ls S hr hlocks hE hP hD hS hA hl hin
  have hx := S.1
  have hb := S.2.1
  have hml := S.2.2.1
  have hown := S.2.2.2.1
  have htg : ∀ z ∈ gw, z.before ([.ref (ad 0), .int v1] : List Value).toArray s = true := fun w h => S.2.2.2.2 w (List.mem_cons_of_mem _ h)
  have hl : lv_has ls 5 [(0, .ref (ad 0)), (1, .int v1)] := hl
  have hS0 := hS
  obtain ⟨H, hH⟩ : ∃ H, H = s.heap := ⟨_, rfl⟩
  obtain ⟨locs, hlc⟩ : ∃ locs : List Loc, locs = [] := ⟨_, rfl⟩
  have hS : va_S A s.heap H locs := by rw [hH, hlc]; exact hS0
  have hP : va_P (dC, dI) vwCl [(ad 0, .inr (10, oM ad m_undoCount m_thrown m_hasSnapshot a_m_fam m_rows m_lineLength m_formattedLength m_bufferLength m_limit m_next m_beginsAt m_token m_error m_errorAt m_errorPosition m_nested m_codeCount)), ((ad 35), .inl (cI, 200, .inl m_codes)), (a_m_fam, .inl (cJ, 130, .inr (.inl m_fam))), ((ad 9), .inl (cI, 16, .inl m_generation)), ((ad 36), .inl (cJ, 200, .inr (.inl m_stack)))] H := by rw [hH]; exact hP
  suffices hgo : W p l e ({ frames := 5, cells := 0, slots := 0, locals := 115 }) s m ([.ref (ad 0), .int v1] : List Value).toArray below meth c H locs 0 0 (MQ below (gQ dC dI (some (.int (bI r9))) A [(ad 0, .inr (10, oM ad m_undoCount m_thrown m_hasSnapshot a_m_fam m_rows m_lineLength m_formattedLength m_bufferLength m_limit m_next m_beginsAt m_token m_error m_errorAt m_errorPosition m_nested m_codeCount)), ((ad 35), .inl (cI, 200, .inl m_codes)), (a_m_fam, .inl (cJ, 130, .inr (.inl m_fam))), ((ad 9), .inl (cI, 16, .inl m_generation)), ((ad 36), .inl (cJ, 200, .inr (.inl m_stack_9)))]) ([.ref (ad 0), .int v1] : List Value).toArray s 0 0 A) (F0 m 0 ls []) by rw [hH, hlc] at hgo; exact hgo
  rw [p10_holdsFor] at hf
  have J123 : ∀ (m_stack_123 : Nat → Int64) (H : Heap) (locs : List Loc) (ls : Array Slot), p10_holdsFor_J123 m_stack_123 = some (r9, m_stack_9) → va_P (dC, dI) vwCl [(ad 0, .inr (10, oM ad m_undoCount m_thrown m_hasSnapshot a_m_fam m_rows m_lineLength m_formattedLength m_bufferLength m_limit m_next m_beginsAt m_token m_error m_errorAt m_errorPosition m_nested m_codeCount)), ((ad 35), .inl (cI, 200, .inl m_codes)), (a_m_fam, .inl (cJ, 130, .inr (.inl m_fam))), ((ad 9), .inl (cI, 16, .inl m_generation)), ((ad 36), .inl (cJ, 200, .inr (.inl m_stack_123)))] H → va_D A [(ad 0, .inr (10, oM ad m_undoCount m_thrown m_hasSnapshot a_m_fam m_rows m_lineLength m_formattedLength m_bufferLength m_limit m_next m_beginsAt m_token m_error m_errorAt m_errorPosition m_nested m_codeCount)), ((ad 35), .inl (cI, 200, .inl m_codes)), (a_m_fam, .inl (cJ, 130, .inr (.inl m_fam))), ((ad 9), .inl (cI, 16, .inl m_generation)), ((ad 36), .inl (cJ, 200, .inr (.inl m_stack_123)))] → va_S A s.heap H locs → lv_has ls 5 [(0, .ref (ad 0))] → W p l e ({ frames := 5, cells := 0, slots := 0, locals := 115 }) s m ([.ref (ad 0), .int v1] : List Value).toArray below meth c H locs 0 0 (MQ below (gQ dC dI (some (.int (bI r9))) A [(ad 0, .inr (10, oM ad m_undoCount m_thrown m_hasSnapshot a_m_fam m_rows m_lineLength m_formattedLength m_bufferLength m_limit m_next m_beginsAt m_token m_error m_errorAt m_errorPosition m_nested m_codeCount)), ((ad 35), .inl (cI, 200, .inl m_codes)), (a_m_fam, .inl (cJ, 130, .inr (.inl m_fam))), ((ad 9), .inl (cI, 16, .inl m_generation)), ((ad 36), .inl (cJ, 200, .inr (.inl m_stack_9)))]) ([.ref (ad 0), .int v1] : List Value).toArray s 0 0 A) (F0 m 123 ls []) := by
    intro m_stack_123 H locs ls hf hP hD hS hl
    rw [p10_holdsFor_J123] at hf
    refine lv_aload_n hx hb dX10_holdsFor_123 rfl (lv_at hl 0 rfl) ?_
    refine va_get (D := (dC, dI)) (ci := 10) (v := .ref (ad 36)) (C := RX10) (T := TX10) (N := 37) hx hb htg inX10 hown hE.1 hP 0 rfl rfl 35 (by decide) (htg _ tw1417) (fun _ h9 => h9) rfl dX10_holdsFor_124 ?_
    refine lv_iconst (v := 0) hx hb dX10_holdsFor_127 (by decide) ?_
    obtain ⟨h9, hf⟩ := gd_s hf
    refine va_lald hx hb hE.1 hP 4 1 rfl rfl h9 dX10_holdsFor_128 ?_
    refine lv_lconst (v := 1) hx hb dX10_holdsFor_129 (by decide) ?_
    refine W.lcmp hx hb dX10_holdsFor_130 ?_
    refine lv_if_ne (tgt := 138) hx hb dX10_holdsFor_131 (by decide) (fun h9 => ?_) (fun h9 => ?_)
    · have h9 := fun q => h9 ((lg_cmp_eq _ _).mpr q)
      have hf := itf h9 hf
      refine lv_iconst (v := 0) hx hb dX10_holdsFor_138 (by decide) ?_
      cases hf
      exact g_zret S hr (nar_bI false) hlocks hP hD hS dX10_holdsFor_139
    · have h9 := (lg_cmp_eq _ _).mp h9
      have hf := itt h9 hf
      refine lv_iconst (v := 1) hx hb dX10_holdsFor_134 (by decide) ?_
      refine lv_goto (tgt := 139) hx hb dX10_holdsFor_135 (by decide) ?_
      cases hf
      exact g_zret S hr (nar_bI true) hlocks hP hD hS dX10_holdsFor_139
  refine lv_iconst (v := 0) hx hb dX10_holdsFor_0 (by decide) ?_
  refine lv_istore_n (lv' := [(2, .int (0 : Int32)), (0, .ref (ad 0)), (1, .int v1)]) hx hb dX10_holdsFor_1 rfl hl (by decide) rfl (fun ls hl => ?_)
  refine lv_iconst (v := 0) hx hb dX10_holdsFor_2 (by decide) ?_
  refine lv_istore_n (lv' := [(3, .int (0 : Int32)), (2, .int (0 : Int32)), (0, .ref (ad 0)), (1, .int v1)]) hx hb dX10_holdsFor_3 rfl hl (by decide) rfl (fun ls hl => ?_)
  have K4 : ∀ (n4 : Nat) (v2_4 : Int32) (v3_4 : Int32) (m_stack_4 : Nat → Int64) (ex4 : (Nat → Int64)) (H : Heap) (locs : List Loc) (ls : Array Slot), p10_holdsFor_L4 m_codeCount m_codes m_fam m_generation v1 n4 v2_4 v3_4 m_stack_4 = some ex4 → (fun m_stack_x4 => p10_holdsFor_J123 m_stack_x4) ex4 = some (r9, m_stack_9) → va_P (dC, dI) vwCl [(ad 0, .inr (10, oM ad m_undoCount m_thrown m_hasSnapshot a_m_fam m_rows m_lineLength m_formattedLength m_bufferLength m_limit m_next m_beginsAt m_token m_error m_errorAt m_errorPosition m_nested m_codeCount)), ((ad 35), .inl (cI, 200, .inl m_codes)), (a_m_fam, .inl (cJ, 130, .inr (.inl m_fam))), ((ad 9), .inl (cI, 16, .inl m_generation)), ((ad 36), .inl (cJ, 200, .inr (.inl m_stack_4)))] H → va_D A [(ad 0, .inr (10, oM ad m_undoCount m_thrown m_hasSnapshot a_m_fam m_rows m_lineLength m_formattedLength m_bufferLength m_limit m_next m_beginsAt m_token m_error m_errorAt m_errorPosition m_nested m_codeCount)), ((ad 35), .inl (cI, 200, .inl m_codes)), (a_m_fam, .inl (cJ, 130, .inr (.inl m_fam))), ((ad 9), .inl (cI, 16, .inl m_generation)), ((ad 36), .inl (cJ, 200, .inr (.inl m_stack_4)))] → va_S A s.heap H locs → lv_has ls 5 [(0, .ref (ad 0)), (1, .int v1), (2, .int v2_4), (3, .int v3_4)] → W p l e ({ frames := 5, cells := 0, slots := 0, locals := 115 }) s m ([.ref (ad 0), .int v1] : List Value).toArray below meth c H locs 0 0 (MQ below (gQ dC dI (some (.int (bI r9))) A [(ad 0, .inr (10, oM ad m_undoCount m_thrown m_hasSnapshot a_m_fam m_rows m_lineLength m_formattedLength m_bufferLength m_limit m_next m_beginsAt m_token m_error m_errorAt m_errorPosition m_nested m_codeCount)), ((ad 35), .inl (cI, 200, .inl m_codes)), (a_m_fam, .inl (cJ, 130, .inr (.inl m_fam))), ((ad 9), .inl (cI, 16, .inl m_generation)), ((ad 36), .inl (cJ, 200, .inr (.inl m_stack_9)))]) ([.ref (ad 0), .int v1] : List Value).toArray s 0 0 A) (F0 m 4 ls []) := by
    intro n4
    induction n4 with
    | zero => intro v2_4 v3_4 m_stack_4 ex4 H locs ls hf; rw [p10_holdsFor_L4] at hf; cases hf
    | succ n4 ih4 =>
      intro v2_4 v3_4 m_stack_4 ex4 H locs ls hf hk4 hP hD hS hl
      rw [p10_holdsFor_L4, p10_holdsFor_L4_B] at hf
      refine lv_iload_n hx hb dX10_holdsFor_4 rfl (lv_at hl 3 rfl) ?_
      refine lv_aload_n hx hb dX10_holdsFor_5 rfl (lv_at hl 0 rfl) ?_
      refine va_get (D := (dC, dI)) (ci := 10) (v := .int m_codeCount) (C := RX10) (T := TX10) (N := 37) hx hb htg inX10 hown hE.1 hP 0 rfl rfl 36 (by decide) (htg _ tw1418) (fun _ h9 => h9) rfl dX10_holdsFor_6 ?_
      refine lv_icmp_ge (tgt := 123) hx hb dX10_holdsFor_9 (by decide) (fun h9 => ?_) (fun h9 => ?_)
      · have hf := itt h9 hf
        cases hf
        have hf := hk4
        exact J123 m_stack_4 H locs ls hf hP hD hS (lv_sub hl [0] rfl)
      · have hf := itf h9 hf
        refine lv_aload_n hx hb dX10_holdsFor_12 rfl (lv_at hl 0 rfl) ?_
        refine va_get (D := (dC, dI)) (ci := 10) (v := .ref (ad 35)) (C := RX10) (T := TX10) (N := 37) hx hb htg inX10 hown hE.1 hP 0 rfl rfl 34 (by decide) (htg _ tw1416) (fun _ h9 => h9) rfl dX10_holdsFor_13 ?_
        refine lv_iload_n hx hb dX10_holdsFor_16 rfl (lv_at hl 3 rfl) ?_
        obtain ⟨h9, hf⟩ := gd_s hf
        refine va_iald hx hb hE.1 hP 1 0 rfl rfl h9 dX10_holdsFor_17 ?_
        refine lv_topi (fun t18 h9 => ?_)
        have hf := lb_e h9 hf
        refine lv_istore (lv' := [(4, .int t18), (0, .ref (ad 0)), (1, .int v1), (2, .int v2_4), (3, .int v3_4)]) hx hb dX10_holdsFor_18 hl (by decide) rfl (fun ls hl => ?_)
        refine lv_iload hx hb dX10_holdsFor_20 (lv_at hl 0 rfl) ?_
        refine lv_bipush (v := -23) hx hb dX10_holdsFor_22 (by decide) ?_
        refine lv_icmp_ne (tgt := 48) hx hb dX10_holdsFor_24 (by decide) (fun h9 => ?_) (fun h9 => ?_)
        · have hf := itf h9 hf
          refine lv_iload hx hb dX10_holdsFor_48 (lv_at hl 0 rfl) ?_
          refine lv_bipush (v := -20) hx hb dX10_holdsFor_50 (by decide) ?_
          refine lv_icmp_le (tgt := 87) hx hb dX10_holdsFor_52 (by decide) (fun h9 => ?_) (fun h9 => ?_)
          · have hf := itt h9 hf
            obtain ⟨t87, h9⟩ : ∃ z : Int32, z = (v2_4 + (-1 : Int32)) := ⟨_, rfl⟩
            have hf := lb_e h9 hf
            refine lv_iinc (v := t87) (lv' := [(2, .int t87), (4, .int t18), (0, .ref (ad 0)), (1, .int v1), (3, .int v3_4)]) hx hb dX10_holdsFor_87 hl (k := 3) rfl (by rw [h9]; rfl) (by decide) rfl (fun ls hl => ?_)
            refine lv_aload_n hx hb dX10_holdsFor_90 rfl (lv_at hl 2 rfl) ?_
            refine va_get (D := (dC, dI)) (ci := 10) (v := .ref (ad 36)) (C := RX10) (T := TX10) (N := 37) hx hb htg inX10 hown hE.1 hP 0 rfl rfl 35 (by decide) (htg _ tw1417) (fun _ h9 => h9) rfl dX10_holdsFor_91 ?_
            refine lv_iload_n hx hb dX10_holdsFor_94 rfl (lv_at hl 0 rfl) ?_
            refine lv_iconst (v := 1) hx hb dX10_holdsFor_95 (by decide) ?_
            refine lv_isub hx hb dX10_holdsFor_96 ?_
            refine lv_iload hx hb dX10_holdsFor_97 (lv_at hl 1 rfl) ?_
            refine lv_aload_n hx hb dX10_holdsFor_99 rfl (lv_at hl 2 rfl) ?_
            refine va_get (D := (dC, dI)) (ci := 10) (v := .ref (ad 36)) (C := RX10) (T := TX10) (N := 37) hx hb htg inX10 hown hE.1 hP 0 rfl rfl 35 (by decide) (htg _ tw1417) (fun _ h9 => h9) rfl dX10_holdsFor_100 ?_
            refine lv_iload_n hx hb dX10_holdsFor_103 rfl (lv_at hl 0 rfl) ?_
            refine lv_iconst (v := 1) hx hb dX10_holdsFor_104 (by decide) ?_
            refine lv_isub hx hb dX10_holdsFor_105 ?_
            obtain ⟨h9, hf⟩ := gd_s hf
            refine va_lald hx hb hE.1 hP 4 1 rfl rfl h9 dX10_holdsFor_106 ?_
            refine lv_aload_n hx hb dX10_holdsFor_107 rfl (lv_at hl 2 rfl) ?_
            refine va_get (D := (dC, dI)) (ci := 10) (v := .ref (ad 36)) (C := RX10) (T := TX10) (N := 37) hx hb htg inX10 hown hE.1 hP 0 rfl rfl 35 (by decide) (htg _ tw1417) (fun _ h9 => h9) rfl dX10_holdsFor_108 ?_
            refine lv_iload_n hx hb dX10_holdsFor_111 rfl (lv_at hl 0 rfl) ?_
            obtain ⟨h9, hf⟩ := gd_s hf
            refine va_lald hx hb hE.1 hP 4 1 rfl rfl h9 dX10_holdsFor_112 ?_
            refine gcS (index := 504) S hE (c_X10_operate t18 (m_stack_4 (t87 - (1 : Int32)).toNatClampNeg) (m_stack_4 t87.toNatClampNeg) (p10_operate t18 (m_stack_4 (t87 - (1 : Int32)).toNatClampNeg) (m_stack_4 t87.toNatClampNeg)) rfl) mX10_operate tw2071 ⟨Nat.le_of_ble_eq_true rfl, Nat.le_of_ble_eq_true rfl⟩ hP hD hS hA ⟨Nat.zero_le _, Nat.zero_le _⟩ (wr := [(ad 0, .inr (10, oM ad m_undoCount m_thrown m_hasSnapshot a_m_fam m_rows m_lineLength m_formattedLength m_bufferLength m_limit m_next m_beginsAt m_token m_error m_errorAt m_errorPosition m_nested m_codeCount)), ((ad 35), .inl (cI, 200, .inl m_codes)), (a_m_fam, .inl (cJ, 130, .inr (.inl m_fam))), ((ad 9), .inl (cI, 16, .inl m_generation)), ((ad 36), .inl (cJ, 200, .inr (.inl m_stack_4)))]) [] [0, 1, 2, 3, 4] rfl rfl rfl rfl (by decide) (As := [.int t18, .long (m_stack_4 (t87 - (1 : Int32)).toNatClampNeg), .long (m_stack_4 t87.toNatClampNeg)]) (rest := [.int (t87 - (1 : Int32)), .ref (ad 36)]) rfl hl.1 rfl (Nat.le_of_ble_eq_true rfl) dX10_holdsFor_113 (fun H locs hP hD hS => ?_)
            refine W.eq (g2 := F0 m 116 ls [.long (p10_operate t18 (m_stack_4 (t87 - (1 : Int32)).toNatClampNeg) (m_stack_4 t87.toNatClampNeg)), .int (t87 - (1 : Int32)), .ref (ad 36)]) rfl ?_
            have hP : va_P (dC, dI) vwCl [(ad 0, .inr (10, oM ad m_undoCount m_thrown m_hasSnapshot a_m_fam m_rows m_lineLength m_formattedLength m_bufferLength m_limit m_next m_beginsAt m_token m_error m_errorAt m_errorPosition m_nested m_codeCount)), ((ad 35), .inl (cI, 200, .inl m_codes)), (a_m_fam, .inl (cJ, 130, .inr (.inl m_fam))), ((ad 9), .inl (cI, 16, .inl m_generation)), ((ad 36), .inl (cJ, 200, .inr (.inl m_stack_4)))] H := hP
            have hD : va_D A [(ad 0, .inr (10, oM ad m_undoCount m_thrown m_hasSnapshot a_m_fam m_rows m_lineLength m_formattedLength m_bufferLength m_limit m_next m_beginsAt m_token m_error m_errorAt m_errorPosition m_nested m_codeCount)), ((ad 35), .inl (cI, 200, .inl m_codes)), (a_m_fam, .inl (cJ, 130, .inr (.inl m_fam))), ((ad 9), .inl (cI, 16, .inl m_generation)), ((ad 36), .inl (cJ, 200, .inr (.inl m_stack_4)))] := hD
            obtain ⟨h9, hf⟩ := gd_s hf
            refine va_last hx hb hE.1 hP hD hS 4 1 rfl rfl h9 dX10_holdsFor_116 (fun H locs hP hD hS => ?_)
            obtain ⟨g116, h9⟩ : ∃ z, z = (vp_updL m_stack_4 (t87 - (1 : Int32)).toNatClampNeg (p10_operate t18 (m_stack_4 (t87 - (1 : Int32)).toNatClampNeg) (m_stack_4 t87.toNatClampNeg))) := ⟨_, rfl⟩
            have hf := lb_e h9 hf
            have hP : va_P (dC, dI) vwCl [(ad 0, .inr (10, oM ad m_undoCount m_thrown m_hasSnapshot a_m_fam m_rows m_lineLength m_formattedLength m_bufferLength m_limit m_next m_beginsAt m_token m_error m_errorAt m_errorPosition m_nested m_codeCount)), ((ad 35), .inl (cI, 200, .inl m_codes)), (a_m_fam, .inl (cJ, 130, .inr (.inl m_fam))), ((ad 9), .inl (cI, 16, .inl m_generation)), ((ad 36), .inl (cJ, 200, .inr (.inl g116)))] H := by rw [h9]; exact hP
            have hD : va_D A [(ad 0, .inr (10, oM ad m_undoCount m_thrown m_hasSnapshot a_m_fam m_rows m_lineLength m_formattedLength m_bufferLength m_limit m_next m_beginsAt m_token m_error m_errorAt m_errorPosition m_nested m_codeCount)), ((ad 35), .inl (cI, 200, .inl m_codes)), (a_m_fam, .inl (cJ, 130, .inr (.inl m_fam))), ((ad 9), .inl (cI, 16, .inl m_generation)), ((ad 36), .inl (cJ, 200, .inr (.inl g116)))] := by rw [h9]; exact hD
            obtain ⟨t117, h9⟩ : ∃ z : Int32, z = (v3_4 + (1 : Int32)) := ⟨_, rfl⟩
            have hf := lb_e h9 hf
            refine lv_iinc (v := t117) (lv' := [(3, .int t117), (2, .int t87), (4, .int t18), (0, .ref (ad 0)), (1, .int v1)]) hx hb dX10_holdsFor_117 hl (k := 4) rfl (by rw [h9]; rfl) (by decide) rfl (fun ls hl => ?_)
            refine lv_goto (tgt := 4) hx hb dX10_holdsFor_120 (by decide) ?_
            exact ih4 t87 t117 g116 ex4 H locs ls hf hk4 hP hD hS (lv_sub hl [3, 4, 1, 0] rfl)
          · have hf := itf h9 hf
            refine lv_aload_n hx hb dX10_holdsFor_55 rfl (lv_at hl 1 rfl) ?_
            refine va_get (D := (dC, dI)) (ci := 10) (v := .ref (ad 36)) (C := RX10) (T := TX10) (N := 37) hx hb htg inX10 hown hE.1 hP 0 rfl rfl 35 (by decide) (htg _ tw1417) (fun _ h9 => h9) rfl dX10_holdsFor_56 ?_
            refine lv_iload_n hx hb dX10_holdsFor_59 rfl (lv_at hl 3 rfl) ?_
            refine lv_iload hx hb dX10_holdsFor_60 (lv_at hl 0 rfl) ?_
            refine lv_if_lt (tgt := 71) hx hb dX10_holdsFor_62 (by decide) (fun h9 => ?_) (fun h9 => ?_)
            · have hf := itt h9 hf
              refine lv_aload_n hx hb dX10_holdsFor_71 rfl (lv_at hl 1 rfl) ?_
              refine lv_iload_n hx hb dX10_holdsFor_72 rfl (lv_at hl 2 rfl) ?_
              refine lv_iconst (v := -1) hx hb dX10_holdsFor_73 (by decide) ?_
              refine lv_iload hx hb dX10_holdsFor_74 (lv_at hl 0 rfl) ?_
              refine lv_isub hx hb dX10_holdsFor_76 ?_
              obtain ⟨r77, h9, hf⟩ := ob_s hf
              refine gcV (index := 501) S hE (c_X10_property ad a_m_fam m_undoCount m_thrown m_hasSnapshot m_rows m_lineLength m_formattedLength m_bufferLength m_limit m_next m_beginsAt m_token m_error m_errorAt m_errorPosition m_nested m_codeCount m_fam m_generation v1 ((-1 : Int32) - t18) r77 h9) mX10_property tw2067 ⟨Nat.le_of_ble_eq_true rfl, Nat.le_of_ble_eq_true rfl⟩ hP hD hS hA ⟨Nat.zero_le _, Nat.zero_le _⟩ 0 10 rfl rfl rfl (wr := [((ad 35), .inl (cI, 200, .inl m_codes)), ((ad 36), .inl (cJ, 200, .inr (.inl m_stack_4)))]) [0, 2, 3] [1, 4] rfl rfl rfl rfl (by decide) (As := [.int v1, .int ((-1 : Int32) - t18)]) (rest := [.int v2_4, .ref (ad 36)]) rfl hl.1 rfl (Nat.le_of_ble_eq_true rfl) dX10_holdsFor_77 (fun H locs hP hD hS => ?_)
              refine W.eq (g2 := F0 m 80 ls [.long r77, .int v2_4, .ref (ad 36)]) rfl ?_
              have hP : va_P (dC, dI) vwCl [((ad 35), .inl (cI, 200, .inl m_codes)), ((ad 36), .inl (cJ, 200, .inr (.inl m_stack_4))), (ad 0, .inr (10, oM ad m_undoCount m_thrown m_hasSnapshot a_m_fam m_rows m_lineLength m_formattedLength m_bufferLength m_limit m_next m_beginsAt m_token m_error m_errorAt m_errorPosition m_nested m_codeCount)), (a_m_fam, .inl (cJ, 130, .inr (.inl m_fam))), ((ad 9), .inl (cI, 16, .inl m_generation))] H := hP
              have hD : va_D A [((ad 35), .inl (cI, 200, .inl m_codes)), ((ad 36), .inl (cJ, 200, .inr (.inl m_stack_4))), (ad 0, .inr (10, oM ad m_undoCount m_thrown m_hasSnapshot a_m_fam m_rows m_lineLength m_formattedLength m_bufferLength m_limit m_next m_beginsAt m_token m_error m_errorAt m_errorPosition m_nested m_codeCount)), (a_m_fam, .inl (cJ, 130, .inr (.inl m_fam))), ((ad 9), .inl (cI, 16, .inl m_generation))] := hD
              obtain ⟨h9, hf⟩ := gd_s hf
              refine va_last hx hb hE.1 hP hD hS 1 1 rfl rfl h9 dX10_holdsFor_80 (fun H locs hP hD hS => ?_)
              obtain ⟨g80, h9⟩ : ∃ z, z = (vp_updL m_stack_4 v2_4.toNatClampNeg r77) := ⟨_, rfl⟩
              have hf := lb_e h9 hf
              have hP : va_P (dC, dI) vwCl [((ad 35), .inl (cI, 200, .inl m_codes)), ((ad 36), .inl (cJ, 200, .inr (.inl g80))), (ad 0, .inr (10, oM ad m_undoCount m_thrown m_hasSnapshot a_m_fam m_rows m_lineLength m_formattedLength m_bufferLength m_limit m_next m_beginsAt m_token m_error m_errorAt m_errorPosition m_nested m_codeCount)), (a_m_fam, .inl (cJ, 130, .inr (.inl m_fam))), ((ad 9), .inl (cI, 16, .inl m_generation))] H := by rw [h9]; exact hP
              have hD : va_D A [((ad 35), .inl (cI, 200, .inl m_codes)), ((ad 36), .inl (cJ, 200, .inr (.inl g80))), (ad 0, .inr (10, oM ad m_undoCount m_thrown m_hasSnapshot a_m_fam m_rows m_lineLength m_formattedLength m_bufferLength m_limit m_next m_beginsAt m_token m_error m_errorAt m_errorPosition m_nested m_codeCount)), (a_m_fam, .inl (cJ, 130, .inr (.inl m_fam))), ((ad 9), .inl (cI, 16, .inl m_generation))] := by rw [h9]; exact hD
              obtain ⟨t81, h9⟩ : ∃ z : Int32, z = (v2_4 + (1 : Int32)) := ⟨_, rfl⟩
              have hf := lb_e h9 hf
              refine lv_iinc (v := t81) (lv' := [(2, .int t81), (4, .int t18), (0, .ref (ad 0)), (1, .int v1), (3, .int v3_4)]) hx hb dX10_holdsFor_81 hl (k := 3) rfl (by rw [h9]; rfl) (by decide) rfl (fun ls hl => ?_)
              refine lv_goto (tgt := 117) hx hb dX10_holdsFor_84 (by decide) ?_
              obtain ⟨t117, h9⟩ : ∃ z : Int32, z = (v3_4 + (1 : Int32)) := ⟨_, rfl⟩
              have hf := lb_e h9 hf
              refine lv_iinc (v := t117) (lv' := [(3, .int t117), (2, .int t81), (4, .int t18), (0, .ref (ad 0)), (1, .int v1)]) hx hb dX10_holdsFor_117 hl (k := 4) rfl (by rw [h9]; rfl) (by decide) rfl (fun ls hl => ?_)
              refine lv_goto (tgt := 4) hx hb dX10_holdsFor_120 (by decide) ?_
              exact ih4 t81 t117 g80 ex4 H locs ls hf hk4 (hP.sub [2, 0, 3, 4, 1] rfl) (hD.sub [2, 0, 3, 4, 1] (by decide) rfl) hS (lv_sub hl [3, 4, 1, 0] rfl)
            · have hf := itf h9 hf
              refine lv_iload hx hb dX10_holdsFor_65 (lv_at hl 0 rfl) ?_
              refine lv_i2l hx hb dX10_holdsFor_67 rfl ?_
              refine lv_goto (tgt := 80) hx hb dX10_holdsFor_68 (by decide) ?_
              obtain ⟨h9, hf⟩ := gd_s hf
              refine va_last hx hb hE.1 hP hD hS 4 1 rfl rfl h9 dX10_holdsFor_80 (fun H locs hP hD hS => ?_)
              obtain ⟨g80, h9⟩ : ∃ z, z = (vp_updL m_stack_4 v2_4.toNatClampNeg t18.toInt64) := ⟨_, rfl⟩
              have hf := lb_e h9 hf
              have hP : va_P (dC, dI) vwCl [(ad 0, .inr (10, oM ad m_undoCount m_thrown m_hasSnapshot a_m_fam m_rows m_lineLength m_formattedLength m_bufferLength m_limit m_next m_beginsAt m_token m_error m_errorAt m_errorPosition m_nested m_codeCount)), ((ad 35), .inl (cI, 200, .inl m_codes)), (a_m_fam, .inl (cJ, 130, .inr (.inl m_fam))), ((ad 9), .inl (cI, 16, .inl m_generation)), ((ad 36), .inl (cJ, 200, .inr (.inl g80)))] H := by rw [h9]; exact hP
              have hD : va_D A [(ad 0, .inr (10, oM ad m_undoCount m_thrown m_hasSnapshot a_m_fam m_rows m_lineLength m_formattedLength m_bufferLength m_limit m_next m_beginsAt m_token m_error m_errorAt m_errorPosition m_nested m_codeCount)), ((ad 35), .inl (cI, 200, .inl m_codes)), (a_m_fam, .inl (cJ, 130, .inr (.inl m_fam))), ((ad 9), .inl (cI, 16, .inl m_generation)), ((ad 36), .inl (cJ, 200, .inr (.inl g80)))] := by rw [h9]; exact hD
              obtain ⟨t81, h9⟩ : ∃ z : Int32, z = (v2_4 + (1 : Int32)) := ⟨_, rfl⟩
              have hf := lb_e h9 hf
              refine lv_iinc (v := t81) (lv' := [(2, .int t81), (4, .int t18), (0, .ref (ad 0)), (1, .int v1), (3, .int v3_4)]) hx hb dX10_holdsFor_81 hl (k := 3) rfl (by rw [h9]; rfl) (by decide) rfl (fun ls hl => ?_)
              refine lv_goto (tgt := 117) hx hb dX10_holdsFor_84 (by decide) ?_
              obtain ⟨t117, h9⟩ : ∃ z : Int32, z = (v3_4 + (1 : Int32)) := ⟨_, rfl⟩
              have hf := lb_e h9 hf
              refine lv_iinc (v := t117) (lv' := [(3, .int t117), (2, .int t81), (4, .int t18), (0, .ref (ad 0)), (1, .int v1)]) hx hb dX10_holdsFor_117 hl (k := 4) rfl (by rw [h9]; rfl) (by decide) rfl (fun ls hl => ?_)
              refine lv_goto (tgt := 4) hx hb dX10_holdsFor_120 (by decide) ?_
              exact ih4 t81 t117 g80 ex4 H locs ls hf hk4 hP hD hS (lv_sub hl [3, 4, 1, 0] rfl)
        · have hf := itt h9 hf
          refine lv_aload_n hx hb dX10_holdsFor_27 rfl (lv_at hl 1 rfl) ?_
          refine va_get (D := (dC, dI)) (ci := 10) (v := .ref (ad 36)) (C := RX10) (T := TX10) (N := 37) hx hb htg inX10 hown hE.1 hP 0 rfl rfl 35 (by decide) (htg _ tw1417) (fun _ h9 => h9) rfl dX10_holdsFor_28 ?_
          refine lv_iload_n hx hb dX10_holdsFor_31 rfl (lv_at hl 3 rfl) ?_
          refine lv_iconst (v := 1) hx hb dX10_holdsFor_32 (by decide) ?_
          refine lv_isub hx hb dX10_holdsFor_33 ?_
          refine lv_lconst (v := 1) hx hb dX10_holdsFor_34 (by decide) ?_
          refine lv_aload_n hx hb dX10_holdsFor_35 rfl (lv_at hl 1 rfl) ?_
          refine va_get (D := (dC, dI)) (ci := 10) (v := .ref (ad 36)) (C := RX10) (T := TX10) (N := 37) hx hb htg inX10 hown hE.1 hP 0 rfl rfl 35 (by decide) (htg _ tw1417) (fun _ h9 => h9) rfl dX10_holdsFor_36 ?_
          refine lv_iload_n hx hb dX10_holdsFor_39 rfl (lv_at hl 3 rfl) ?_
          refine lv_iconst (v := 1) hx hb dX10_holdsFor_40 (by decide) ?_
          refine lv_isub hx hb dX10_holdsFor_41 ?_
          obtain ⟨h9, hf⟩ := gd_s hf
          refine va_lald hx hb hE.1 hP 4 1 rfl rfl h9 dX10_holdsFor_42 ?_
          refine lv_lsub hx hb dX10_holdsFor_43 ?_
          obtain ⟨h9, hf⟩ := gd_s hf
          refine va_last hx hb hE.1 hP hD hS 4 1 rfl rfl h9 dX10_holdsFor_44 (fun H locs hP hD hS => ?_)
          obtain ⟨g44, h9⟩ : ∃ z, z = (vp_updL m_stack_4 (v2_4 - (1 : Int32)).toNatClampNeg ((1 : Int64) - (m_stack_4 (v2_4 - (1 : Int32)).toNatClampNeg))) := ⟨_, rfl⟩
          have hf := lb_e h9 hf
          have hP : va_P (dC, dI) vwCl [(ad 0, .inr (10, oM ad m_undoCount m_thrown m_hasSnapshot a_m_fam m_rows m_lineLength m_formattedLength m_bufferLength m_limit m_next m_beginsAt m_token m_error m_errorAt m_errorPosition m_nested m_codeCount)), ((ad 35), .inl (cI, 200, .inl m_codes)), (a_m_fam, .inl (cJ, 130, .inr (.inl m_fam))), ((ad 9), .inl (cI, 16, .inl m_generation)), ((ad 36), .inl (cJ, 200, .inr (.inl g44)))] H := by rw [h9]; exact hP
          have hD : va_D A [(ad 0, .inr (10, oM ad m_undoCount m_thrown m_hasSnapshot a_m_fam m_rows m_lineLength m_formattedLength m_bufferLength m_limit m_next m_beginsAt m_token m_error m_errorAt m_errorPosition m_nested m_codeCount)), ((ad 35), .inl (cI, 200, .inl m_codes)), (a_m_fam, .inl (cJ, 130, .inr (.inl m_fam))), ((ad 9), .inl (cI, 16, .inl m_generation)), ((ad 36), .inl (cJ, 200, .inr (.inl g44)))] := by rw [h9]; exact hD
          refine lv_goto (tgt := 117) hx hb dX10_holdsFor_45 (by decide) ?_
          obtain ⟨t117, h9⟩ : ∃ z : Int32, z = (v3_4 + (1 : Int32)) := ⟨_, rfl⟩
          have hf := lb_e h9 hf
          refine lv_iinc (v := t117) (lv' := [(3, .int t117), (4, .int t18), (0, .ref (ad 0)), (1, .int v1), (2, .int v2_4)]) hx hb dX10_holdsFor_117 hl (k := 4) rfl (by rw [h9]; rfl) (by decide) rfl (fun ls hl => ?_)
          refine lv_goto (tgt := 4) hx hb dX10_holdsFor_120 (by decide) ?_
          exact ih4 v2_4 t117 g44 ex4 H locs ls hf hk4 hP hD hS (lv_sub hl [2, 3, 4, 0] rfl)
  obtain ⟨ex, h9, hf⟩ := ob_s hf
  exact K4 FU (0 : Int32) (0 : Int32) m_stack ex H locs ls h9 hf hP hD hS (lv_sub hl [2, 3, 1, 0] rfl)
set_option maxHeartbeats 4000000 in
set_option maxRecDepth 100000 in
theorem c_X10_kinshipOf_o (kF : (Nat → Int64) → (Nat → Int32) → (Nat → Int64) → Int32 → Int32 → Option (Int64 × (Nat → Int64))) (fF lF : Nat) (hbF : 60 ≤ fF) (hbL : 3000 ≤ lF) (hF : ∀ (ad : Nat → Nat) (a_m_fam : Nat) (m_undoCount : Int32) (m_thrown : Int32) (m_hasSnapshot : Bool) (m_rows : Int32) (m_lineLength : Int32) (m_formattedLength : Int32) (m_bufferLength : Int32) (m_limit : Int32) (m_next : Int32) (m_beginsAt : Int32) (m_token : Int32) (m_error : Int32) (m_errorAt : Int32) (m_errorPosition : Int32) (m_nested : Int32) (m_codeCount : Int32) (m_fam : Nat → Int64) (m_generation : Nat → Int32) (m_kinships : Nat → Int64) (v1 : Int32) (v2 : Int32) (r9 : Int64) (m_kinships_9 : Nat → Int64) (_ : kF m_fam m_generation m_kinships v1 v2 = some (r9, m_kinships_9)), gM l dC dI cI cJ cZ yX10_kinshipOf cX10_kinshipOf 11 (some .long) fF lF [.ref (ad 0), .int v1, .int v2] [(ad 0, .inr (10, oM ad m_undoCount m_thrown m_hasSnapshot a_m_fam m_rows m_lineLength m_formattedLength m_bufferLength m_limit m_next m_beginsAt m_token m_error m_errorAt m_errorPosition m_nested m_codeCount)), (a_m_fam, .inl (cJ, 130, .inr (.inl m_fam))), ((ad 9), .inl (cI, 16, .inl m_generation)), ((ad 19), .inl (cJ, 256, .inr (.inl m_kinships)))] [(ad 0, .inr (10, oM ad m_undoCount m_thrown m_hasSnapshot a_m_fam m_rows m_lineLength m_formattedLength m_bufferLength m_limit m_next m_beginsAt m_token m_error m_errorAt m_errorPosition m_nested m_codeCount)), (a_m_fam, .inl (cJ, 130, .inr (.inl m_fam))), ((ad 9), .inl (cI, 16, .inl m_generation)), ((ad 19), .inl (cJ, 256, .inr (.inl m_kinships_9)))] (some (.long r9))) (ad : Nat → Nat) (a_m_fam : Nat) (m_undoCount : Int32) (m_thrown : Int32) (m_hasSnapshot : Bool) (m_rows : Int32) (m_lineLength : Int32) (m_formattedLength : Int32) (m_bufferLength : Int32) (m_limit : Int32) (m_next : Int32) (m_beginsAt : Int32) (m_token : Int32) (m_error : Int32) (m_errorAt : Int32) (m_errorPosition : Int32) (m_nested : Int32) (m_codeCount : Int32) (m_fam : Nat → Int64) (m_generation : Nat → Int32) (m_kinships : Nat → Int64) (v1 : Int32) (v2 : Int32) (r9 : Int64) (m_kinships_9 : Nat → Int64) (hf : p10_kinshipOf_O kF m_fam m_generation m_kinships v1 v2 = some (r9, m_kinships_9)) : gM l dC dI cI cJ cZ yX10_kinshipOf cX10_kinshipOf 11 (some .long) (fF + 1) (lF + 30) [.ref (ad 0), .int v1, .int v2] [(ad 0, .inr (10, oM ad m_undoCount m_thrown m_hasSnapshot a_m_fam m_rows m_lineLength m_formattedLength m_bufferLength m_limit m_next m_beginsAt m_token m_error m_errorAt m_errorPosition m_nested m_codeCount)), (a_m_fam, .inl (cJ, 130, .inr (.inl m_fam))), ((ad 9), .inl (cI, 16, .inl m_generation)), ((ad 19), .inl (cJ, 256, .inr (.inl m_kinships)))] [(ad 0, .inr (10, oM ad m_undoCount m_thrown m_hasSnapshot a_m_fam m_rows m_lineLength m_formattedLength m_bufferLength m_limit m_next m_beginsAt m_token m_error m_errorAt m_errorPosition m_nested m_codeCount)), (a_m_fam, .inl (cJ, 130, .inr (.inl m_fam))), ((ad 9), .inl (cI, 16, .inl m_generation)), ((ad 19), .inl (cJ, 256, .inr (.inl m_kinships_9)))] (some (.long r9)) := by
  refine g_start (own := RX10) (by decide +kernel) rfl (Nat.le_of_ble_eq_true rfl) ?_
  intro p e s m below meth c A ls S hr hlocks hE hP hD hS hA hl hin
  have hx := S.1
  have hb := S.2.1
  have hml := S.2.2.1
  have hown := S.2.2.2.1
  have htg : ∀ z ∈ gw, z.before ([.ref (ad 0), .int v1, .int v2] : List Value).toArray s = true := fun w h => S.2.2.2.2 w (List.mem_cons_of_mem _ h)
  have hl : lv_has ls 11 [(0, .ref (ad 0)), (1, .int v1), (2, .int v2)] := hl
  have hS0 := hS
  obtain ⟨H, hH⟩ : ∃ H, H = s.heap := ⟨_, rfl⟩
  obtain ⟨locs, hlc⟩ : ∃ locs : List Loc, locs = [] := ⟨_, rfl⟩
  have hS : va_S A s.heap H locs := by rw [hH, hlc]; exact hS0
  have hP : va_P (dC, dI) vwCl [(ad 0, .inr (10, oM ad m_undoCount m_thrown m_hasSnapshot a_m_fam m_rows m_lineLength m_formattedLength m_bufferLength m_limit m_next m_beginsAt m_token m_error m_errorAt m_errorPosition m_nested m_codeCount)), (a_m_fam, .inl (cJ, 130, .inr (.inl m_fam))), ((ad 9), .inl (cI, 16, .inl m_generation)), ((ad 19), .inl (cJ, 256, .inr (.inl m_kinships)))] H := by rw [hH]; exact hP
  suffices hgo : W p l e ({ frames := fF + 1, cells := 0, slots := 0, locals := lF + 30 }) s m ([.ref (ad 0), .int v1, .int v2] : List Value).toArray below meth c H locs 0 0 (MQ below (gQ dC dI (some (.long r9)) A [(ad 0, .inr (10, oM ad m_undoCount m_thrown m_hasSnapshot a_m_fam m_rows m_lineLength m_formattedLength m_bufferLength m_limit m_next m_beginsAt m_token m_error m_errorAt m_errorPosition m_nested m_codeCount)), (a_m_fam, .inl (cJ, 130, .inr (.inl m_fam))), ((ad 9), .inl (cI, 16, .inl m_generation)), ((ad 19), .inl (cJ, 256, .inr (.inl m_kinships_9)))]) ([.ref (ad 0), .int v1, .int v2] : List Value).toArray s 0 0 A) (F0 m 0 ls []) by rw [hH, hlc] at hgo; exact hgo
  rw [p10_kinshipOf_O] at hf
  have J156 : ∀ (v3_156 : Int32) (m_kinships_156 : Nat → Int64) (H : Heap) (locs : List Loc) (ls : Array Slot), p10_kinshipOf_J156 v3_156 m_kinships_156 = some (r9, m_kinships_9) → va_P (dC, dI) vwCl [(ad 0, .inr (10, oM ad m_undoCount m_thrown m_hasSnapshot a_m_fam m_rows m_lineLength m_formattedLength m_bufferLength m_limit m_next m_beginsAt m_token m_error m_errorAt m_errorPosition m_nested m_codeCount)), (a_m_fam, .inl (cJ, 130, .inr (.inl m_fam))), ((ad 9), .inl (cI, 16, .inl m_generation)), ((ad 19), .inl (cJ, 256, .inr (.inl m_kinships_156)))] H → va_D A [(ad 0, .inr (10, oM ad m_undoCount m_thrown m_hasSnapshot a_m_fam m_rows m_lineLength m_formattedLength m_bufferLength m_limit m_next m_beginsAt m_token m_error m_errorAt m_errorPosition m_nested m_codeCount)), (a_m_fam, .inl (cJ, 130, .inr (.inl m_fam))), ((ad 9), .inl (cI, 16, .inl m_generation)), ((ad 19), .inl (cJ, 256, .inr (.inl m_kinships_156)))] → va_S A s.heap H locs → lv_has ls 11 [(0, .ref (ad 0)), (3, .int v3_156)] → W p l e ({ frames := fF + 1, cells := 0, slots := 0, locals := lF + 30 }) s m ([.ref (ad 0), .int v1, .int v2] : List Value).toArray below meth c H locs 0 0 (MQ below (gQ dC dI (some (.long r9)) A [(ad 0, .inr (10, oM ad m_undoCount m_thrown m_hasSnapshot a_m_fam m_rows m_lineLength m_formattedLength m_bufferLength m_limit m_next m_beginsAt m_token m_error m_errorAt m_errorPosition m_nested m_codeCount)), (a_m_fam, .inl (cJ, 130, .inr (.inl m_fam))), ((ad 9), .inl (cI, 16, .inl m_generation)), ((ad 19), .inl (cJ, 256, .inr (.inl m_kinships_9)))]) ([.ref (ad 0), .int v1, .int v2] : List Value).toArray s 0 0 A) (F0 m 156 ls []) := by
    intro v3_156 m_kinships_156 H locs ls hf hP hD hS hl
    rw [p10_kinshipOf_J156] at hf
    refine lv_aload_n hx hb dX10_kinshipOf_156 rfl (lv_at hl 0 rfl) ?_
    refine va_get (D := (dC, dI)) (ci := 10) (v := .ref (ad 19)) (C := RX10) (T := TX10) (N := 37) hx hb htg inX10 hown hE.1 hP 0 rfl rfl 18 (by decide) (htg _ tw1400) (fun _ h9 => h9) rfl dX10_kinshipOf_157 ?_
    refine lv_iload_n hx hb dX10_kinshipOf_160 rfl (lv_at hl 1 rfl) ?_
    obtain ⟨h9, hf⟩ := gd_s hf
    refine va_lald hx hb hE.1 hP 3 1 rfl rfl h9 dX10_kinshipOf_161 ?_
    cases hf
    exact g_lret S hr hlocks hP hD hS dX10_kinshipOf_162
  have J134 : ∀ (v3_134 : Int32) (v7_134 : Int64) (m_kinships_134 : Nat → Int64) (H : Heap) (locs : List Loc) (ls : Array Slot), p10_kinshipOf_J134 v1 v2 v3_134 v7_134 m_kinships_134 = some (r9, m_kinships_9) → va_P (dC, dI) vwCl [(ad 0, .inr (10, oM ad m_undoCount m_thrown m_hasSnapshot a_m_fam m_rows m_lineLength m_formattedLength m_bufferLength m_limit m_next m_beginsAt m_token m_error m_errorAt m_errorPosition m_nested m_codeCount)), (a_m_fam, .inl (cJ, 130, .inr (.inl m_fam))), ((ad 9), .inl (cI, 16, .inl m_generation)), ((ad 19), .inl (cJ, 256, .inr (.inl m_kinships_134)))] H → va_D A [(ad 0, .inr (10, oM ad m_undoCount m_thrown m_hasSnapshot a_m_fam m_rows m_lineLength m_formattedLength m_bufferLength m_limit m_next m_beginsAt m_token m_error m_errorAt m_errorPosition m_nested m_codeCount)), (a_m_fam, .inl (cJ, 130, .inr (.inl m_fam))), ((ad 9), .inl (cI, 16, .inl m_generation)), ((ad 19), .inl (cJ, 256, .inr (.inl m_kinships_134)))] → va_S A s.heap H locs → lv_has ls 11 [(0, .ref (ad 0)), (1, .int v1), (2, .int v2), (3, .int v3_134), (7, .long v7_134)] → W p l e ({ frames := fF + 1, cells := 0, slots := 0, locals := lF + 30 }) s m ([.ref (ad 0), .int v1, .int v2] : List Value).toArray below meth c H locs 0 0 (MQ below (gQ dC dI (some (.long r9)) A [(ad 0, .inr (10, oM ad m_undoCount m_thrown m_hasSnapshot a_m_fam m_rows m_lineLength m_formattedLength m_bufferLength m_limit m_next m_beginsAt m_token m_error m_errorAt m_errorPosition m_nested m_codeCount)), (a_m_fam, .inl (cJ, 130, .inr (.inl m_fam))), ((ad 9), .inl (cI, 16, .inl m_generation)), ((ad 19), .inl (cJ, 256, .inr (.inl m_kinships_9)))]) ([.ref (ad 0), .int v1, .int v2] : List Value).toArray s 0 0 A) (F0 m 134 ls []) := by
    intro v3_134 v7_134 m_kinships_134 H locs ls hf hP hD hS hl
    rw [p10_kinshipOf_J134] at hf
    refine lv_aload_n hx hb dX10_kinshipOf_134 rfl (lv_at hl 0 rfl) ?_
    refine va_get (D := (dC, dI)) (ci := 10) (v := .ref (ad 19)) (C := RX10) (T := TX10) (N := 37) hx hb htg inX10 hown hE.1 hP 0 rfl rfl 18 (by decide) (htg _ tw1400) (fun _ h9 => h9) rfl dX10_kinshipOf_135 ?_
    refine lv_iload_n hx hb dX10_kinshipOf_138 rfl (lv_at hl 3 rfl) ?_
    refine lv_iload_n hx hb dX10_kinshipOf_139 rfl (lv_at hl 1 rfl) ?_
    refine lv_iload_n hx hb dX10_kinshipOf_140 rfl (lv_at hl 2 rfl) ?_
    refine lv_icmp_ne (tgt := 153) hx hb dX10_kinshipOf_141 (by decide) (fun h9 => ?_) (fun h9 => ?_)
    · have hf := itf h9 hf
      refine lv_lload hx hb dX10_kinshipOf_153 (lv_at hl 4 rfl) ?_
      obtain ⟨h9, hf⟩ := gd_s hf
      refine va_last hx hb hE.1 hP hD hS 3 1 rfl rfl h9 dX10_kinshipOf_155 (fun H locs hP hD hS => ?_)
      obtain ⟨g155, h9⟩ : ∃ z, z = (vp_updL m_kinships_134 v3_134.toNatClampNeg v7_134) := ⟨_, rfl⟩
      have hf := lb_e h9 hf
      have hP : va_P (dC, dI) vwCl [(ad 0, .inr (10, oM ad m_undoCount m_thrown m_hasSnapshot a_m_fam m_rows m_lineLength m_formattedLength m_bufferLength m_limit m_next m_beginsAt m_token m_error m_errorAt m_errorPosition m_nested m_codeCount)), (a_m_fam, .inl (cJ, 130, .inr (.inl m_fam))), ((ad 9), .inl (cI, 16, .inl m_generation)), ((ad 19), .inl (cJ, 256, .inr (.inl g155)))] H := by rw [h9]; exact hP
      have hD : va_D A [(ad 0, .inr (10, oM ad m_undoCount m_thrown m_hasSnapshot a_m_fam m_rows m_lineLength m_formattedLength m_bufferLength m_limit m_next m_beginsAt m_token m_error m_errorAt m_errorPosition m_nested m_codeCount)), (a_m_fam, .inl (cJ, 130, .inr (.inl m_fam))), ((ad 9), .inl (cI, 16, .inl m_generation)), ((ad 19), .inl (cJ, 256, .inr (.inl g155)))] := by rw [h9]; exact hD
      exact J156 v3_134 g155 H locs ls hf hP hD hS (lv_sub hl [0, 3] rfl)
    · have hf := itt h9 hf
      refine lv_ldc2 (own := RX10) (v := 549755813888) hx hb hown (htg _ tw1682) dX10_kinshipOf_144 ?_
      refine lv_lload hx hb dX10_kinshipOf_147 (lv_at hl 4 rfl) ?_
      refine lv_ladd hx hb dX10_kinshipOf_149 ?_
      refine lv_goto (tgt := 155) hx hb dX10_kinshipOf_150 (by decide) ?_
      obtain ⟨h9, hf⟩ := gd_s hf
      refine va_last hx hb hE.1 hP hD hS 3 1 rfl rfl h9 dX10_kinshipOf_155 (fun H locs hP hD hS => ?_)
      obtain ⟨g155, h9⟩ : ∃ z, z = (vp_updL m_kinships_134 v3_134.toNatClampNeg ((549755813888 : Int64) + v7_134)) := ⟨_, rfl⟩
      have hf := lb_e h9 hf
      have hP : va_P (dC, dI) vwCl [(ad 0, .inr (10, oM ad m_undoCount m_thrown m_hasSnapshot a_m_fam m_rows m_lineLength m_formattedLength m_bufferLength m_limit m_next m_beginsAt m_token m_error m_errorAt m_errorPosition m_nested m_codeCount)), (a_m_fam, .inl (cJ, 130, .inr (.inl m_fam))), ((ad 9), .inl (cI, 16, .inl m_generation)), ((ad 19), .inl (cJ, 256, .inr (.inl g155)))] H := by rw [h9]; exact hP
      have hD : va_D A [(ad 0, .inr (10, oM ad m_undoCount m_thrown m_hasSnapshot a_m_fam m_rows m_lineLength m_formattedLength m_bufferLength m_limit m_next m_beginsAt m_token m_error m_errorAt m_errorPosition m_nested m_codeCount)), (a_m_fam, .inl (cJ, 130, .inr (.inl m_fam))), ((ad 9), .inl (cI, 16, .inl m_generation)), ((ad 19), .inl (cJ, 256, .inr (.inl g155)))] := by rw [h9]; exact hD
      exact J156 v3_134 g155 H locs ls hf hP hD hS (lv_sub hl [0, 3] rfl)
  have J56 : ∀ (v3_56 : Int32) (v4_56 : Int32) (v5_56 : Int32) (H : Heap) (locs : List Loc) (ls : Array Slot), p10_kinshipOf_J56 kF m_fam m_generation m_kinships v1 v2 v3_56 v4_56 v5_56 = some (r9, m_kinships_9) → va_P (dC, dI) vwCl [(ad 0, .inr (10, oM ad m_undoCount m_thrown m_hasSnapshot a_m_fam m_rows m_lineLength m_formattedLength m_bufferLength m_limit m_next m_beginsAt m_token m_error m_errorAt m_errorPosition m_nested m_codeCount)), (a_m_fam, .inl (cJ, 130, .inr (.inl m_fam))), ((ad 9), .inl (cI, 16, .inl m_generation)), ((ad 19), .inl (cJ, 256, .inr (.inl m_kinships)))] H → va_D A [(ad 0, .inr (10, oM ad m_undoCount m_thrown m_hasSnapshot a_m_fam m_rows m_lineLength m_formattedLength m_bufferLength m_limit m_next m_beginsAt m_token m_error m_errorAt m_errorPosition m_nested m_codeCount)), (a_m_fam, .inl (cJ, 130, .inr (.inl m_fam))), ((ad 9), .inl (cI, 16, .inl m_generation)), ((ad 19), .inl (cJ, 256, .inr (.inl m_kinships)))] → va_S A s.heap H locs → lv_has ls 11 [(0, .ref (ad 0)), (1, .int v1), (2, .int v2), (3, .int v3_56), (4, .int v4_56), (5, .int v5_56)] → W p l e ({ frames := fF + 1, cells := 0, slots := 0, locals := lF + 30 }) s m ([.ref (ad 0), .int v1, .int v2] : List Value).toArray below meth c H locs 0 0 (MQ below (gQ dC dI (some (.long r9)) A [(ad 0, .inr (10, oM ad m_undoCount m_thrown m_hasSnapshot a_m_fam m_rows m_lineLength m_formattedLength m_bufferLength m_limit m_next m_beginsAt m_token m_error m_errorAt m_errorPosition m_nested m_codeCount)), (a_m_fam, .inl (cJ, 130, .inr (.inl m_fam))), ((ad 9), .inl (cI, 16, .inl m_generation)), ((ad 19), .inl (cJ, 256, .inr (.inl m_kinships_9)))]) ([.ref (ad 0), .int v1, .int v2] : List Value).toArray s 0 0 A) (F0 m 56 ls []) := by
    intro v3_56 v4_56 v5_56 H locs ls hf hP hD hS hl
    rw [p10_kinshipOf_J56] at hf
    refine lv_aload_n hx hb dX10_kinshipOf_56 rfl (lv_at hl 0 rfl) ?_
    refine lv_iload hx hb dX10_kinshipOf_57 (lv_at hl 4 rfl) ?_
    obtain ⟨r59, h9, hf⟩ := ob_s hf
    refine gcV (index := 117) S hE (c_X10_parentsOf ad a_m_fam m_undoCount m_thrown m_hasSnapshot m_rows m_lineLength m_formattedLength m_bufferLength m_limit m_next m_beginsAt m_token m_error m_errorAt m_errorPosition m_nested m_codeCount m_fam v4_56 r59 h9) mX10_parentsOf tw1515 ⟨(show 1 + 1 ≤ fF + 1 by omega), (show 8 + (2 + 11) + (22) ≤ lF + 30 by omega)⟩ hP hD hS hA ⟨Nat.zero_le _, Nat.zero_le _⟩ 0 10 rfl rfl rfl (wr := [((ad 9), .inl (cI, 16, .inl m_generation)), ((ad 19), .inl (cJ, 256, .inr (.inl m_kinships)))]) [0, 1] [2, 3] rfl rfl rfl rfl (by decide) (As := [.int v4_56]) (rest := []) rfl hl.1 rfl (Nat.le_of_ble_eq_true rfl) dX10_kinshipOf_59 (fun H locs hP hD hS => ?_)
    refine W.eq (g2 := F0 m 62 ls [.int r59]) rfl ?_
    have hP : va_P (dC, dI) vwCl [((ad 9), .inl (cI, 16, .inl m_generation)), ((ad 19), .inl (cJ, 256, .inr (.inl m_kinships))), (ad 0, .inr (10, oM ad m_undoCount m_thrown m_hasSnapshot a_m_fam m_rows m_lineLength m_formattedLength m_bufferLength m_limit m_next m_beginsAt m_token m_error m_errorAt m_errorPosition m_nested m_codeCount)), (a_m_fam, .inl (cJ, 130, .inr (.inl m_fam)))] H := hP
    have hD : va_D A [((ad 9), .inl (cI, 16, .inl m_generation)), ((ad 19), .inl (cJ, 256, .inr (.inl m_kinships))), (ad 0, .inr (10, oM ad m_undoCount m_thrown m_hasSnapshot a_m_fam m_rows m_lineLength m_formattedLength m_bufferLength m_limit m_next m_beginsAt m_token m_error m_errorAt m_errorPosition m_nested m_codeCount)), (a_m_fam, .inl (cJ, 130, .inr (.inl m_fam)))] := hD
    refine lv_istore (lv' := [(6, .int r59), (0, .ref (ad 0)), (1, .int v1), (2, .int v2), (3, .int v3_56), (4, .int v4_56), (5, .int v5_56)]) hx hb dX10_kinshipOf_62 hl (by decide) rfl (fun ls hl => ?_)
    refine lv_lconst (v := 0) hx hb dX10_kinshipOf_64 (by decide) ?_
    refine lv_lstore (lv' := [(7, .long (0 : Int64)), (6, .int r59), (0, .ref (ad 0)), (1, .int v1), (2, .int v2), (3, .int v3_56), (4, .int v4_56), (5, .int v5_56)]) hx hb dX10_kinshipOf_65 hl (by decide) rfl (fun ls hl => ?_)
    refine lv_iload hx hb dX10_kinshipOf_67 (lv_at hl 1 rfl) ?_
    refine lv_iconst (v := -1) hx hb dX10_kinshipOf_69 (by decide) ?_
    refine lv_icmp_eq (tgt := 134) hx hb dX10_kinshipOf_70 (by decide) (fun h9 => ?_) (fun h9 => ?_)
    · have hf := itt h9 hf
      exact J134 v3_56 (0 : Int64) m_kinships H locs ls hf (hP.sub [2, 3, 0, 1] rfl) (hD.sub [2, 3, 0, 1] (by decide) rfl) hS (lv_sub hl [2, 3, 4, 5, 0] rfl)
    · have hf := itf h9 hf
      refine lv_aload_n hx hb dX10_kinshipOf_73 rfl (lv_at hl 2 rfl) ?_
      refine lv_iload hx hb dX10_kinshipOf_74 (lv_at hl 1 rfl) ?_
      refine lv_iconst (v := 0) hx hb dX10_kinshipOf_76 (by decide) ?_
      obtain ⟨r77, h9, hf⟩ := ob_s hf
      refine gcV (index := 102) S hE (c_X10_partner ad a_m_fam m_undoCount m_thrown m_hasSnapshot m_rows m_lineLength m_formattedLength m_bufferLength m_limit m_next m_beginsAt m_token m_error m_errorAt m_errorPosition m_nested m_codeCount m_fam r59 (0 : Int32) r77 h9) mX10_partner tw1527 ⟨(show 0 + 1 ≤ fF + 1 by omega), (show 8 + (3 + 11) + (0) ≤ lF + 30 by omega)⟩ hP hD hS hA ⟨Nat.zero_le _, Nat.zero_le _⟩ 2 10 rfl rfl rfl (wr := [((ad 9), .inl (cI, 16, .inl m_generation)), ((ad 19), .inl (cJ, 256, .inr (.inl m_kinships)))]) [2, 3] [0, 1] rfl rfl rfl rfl (by decide) (As := [.int r59, .int (0 : Int32)]) (rest := []) rfl hl.1 rfl (Nat.le_of_ble_eq_true rfl) dX10_kinshipOf_77 (fun H locs hP hD hS => ?_)
      refine W.eq (g2 := F0 m 80 ls [.int r77]) rfl ?_
      have hP : va_P (dC, dI) vwCl [((ad 9), .inl (cI, 16, .inl m_generation)), ((ad 19), .inl (cJ, 256, .inr (.inl m_kinships))), (ad 0, .inr (10, oM ad m_undoCount m_thrown m_hasSnapshot a_m_fam m_rows m_lineLength m_formattedLength m_bufferLength m_limit m_next m_beginsAt m_token m_error m_errorAt m_errorPosition m_nested m_codeCount)), (a_m_fam, .inl (cJ, 130, .inr (.inl m_fam)))] H := hP
      have hD : va_D A [((ad 9), .inl (cI, 16, .inl m_generation)), ((ad 19), .inl (cJ, 256, .inr (.inl m_kinships))), (ad 0, .inr (10, oM ad m_undoCount m_thrown m_hasSnapshot a_m_fam m_rows m_lineLength m_formattedLength m_bufferLength m_limit m_next m_beginsAt m_token m_error m_errorAt m_errorPosition m_nested m_codeCount)), (a_m_fam, .inl (cJ, 130, .inr (.inl m_fam)))] := hD
      refine lv_istore (lv' := [(9, .int r77), (7, .long (0 : Int64)), (6, .int r59), (0, .ref (ad 0)), (1, .int v1), (2, .int v2), (3, .int v3_56), (4, .int v4_56), (5, .int v5_56)]) hx hb dX10_kinshipOf_80 hl (by decide) rfl (fun ls hl => ?_)
      refine lv_aload_n hx hb dX10_kinshipOf_82 rfl (lv_at hl 3 rfl) ?_
      refine lv_iload hx hb dX10_kinshipOf_83 (lv_at hl 2 rfl) ?_
      refine lv_iconst (v := 1) hx hb dX10_kinshipOf_85 (by decide) ?_
      obtain ⟨r86, h9, hf⟩ := ob_s hf
      refine gcV (index := 102) S hE (c_X10_partner ad a_m_fam m_undoCount m_thrown m_hasSnapshot m_rows m_lineLength m_formattedLength m_bufferLength m_limit m_next m_beginsAt m_token m_error m_errorAt m_errorPosition m_nested m_codeCount m_fam r59 (1 : Int32) r86 h9) mX10_partner tw1527 ⟨(show 0 + 1 ≤ fF + 1 by omega), (show 8 + (3 + 11) + (0) ≤ lF + 30 by omega)⟩ hP hD hS hA ⟨Nat.zero_le _, Nat.zero_le _⟩ 2 10 rfl rfl rfl (wr := [((ad 9), .inl (cI, 16, .inl m_generation)), ((ad 19), .inl (cJ, 256, .inr (.inl m_kinships)))]) [2, 3] [0, 1] rfl rfl rfl rfl (by decide) (As := [.int r59, .int (1 : Int32)]) (rest := []) rfl hl.1 rfl (Nat.le_of_ble_eq_true rfl) dX10_kinshipOf_86 (fun H locs hP hD hS => ?_)
      refine W.eq (g2 := F0 m 89 ls [.int r86]) rfl ?_
      have hP : va_P (dC, dI) vwCl [((ad 9), .inl (cI, 16, .inl m_generation)), ((ad 19), .inl (cJ, 256, .inr (.inl m_kinships))), (ad 0, .inr (10, oM ad m_undoCount m_thrown m_hasSnapshot a_m_fam m_rows m_lineLength m_formattedLength m_bufferLength m_limit m_next m_beginsAt m_token m_error m_errorAt m_errorPosition m_nested m_codeCount)), (a_m_fam, .inl (cJ, 130, .inr (.inl m_fam)))] H := hP
      have hD : va_D A [((ad 9), .inl (cI, 16, .inl m_generation)), ((ad 19), .inl (cJ, 256, .inr (.inl m_kinships))), (ad 0, .inr (10, oM ad m_undoCount m_thrown m_hasSnapshot a_m_fam m_rows m_lineLength m_formattedLength m_bufferLength m_limit m_next m_beginsAt m_token m_error m_errorAt m_errorPosition m_nested m_codeCount)), (a_m_fam, .inl (cJ, 130, .inr (.inl m_fam)))] := hD
      refine lv_istore (lv' := [(10, .int r86), (9, .int r77), (7, .long (0 : Int64)), (6, .int r59), (0, .ref (ad 0)), (1, .int v1), (2, .int v2), (3, .int v3_56), (4, .int v4_56), (5, .int v5_56)]) hx hb dX10_kinshipOf_89 hl (by decide) rfl (fun ls hl => ?_)
      refine lv_iload_n hx hb dX10_kinshipOf_91 rfl (lv_at hl 5 rfl) ?_
      refine lv_iload_n hx hb dX10_kinshipOf_92 rfl (lv_at hl 6 rfl) ?_
      refine lv_icmp_ne (tgt := 111) hx hb dX10_kinshipOf_93 (by decide) (fun h9 => ?_) (fun h9 => ?_)
      · have hf := itf h9 hf
        refine lv_aload_n hx hb dX10_kinshipOf_111 rfl (lv_at hl 4 rfl) ?_
        refine lv_iload hx hb dX10_kinshipOf_112 (lv_at hl 9 rfl) ?_
        refine lv_iload hx hb dX10_kinshipOf_114 (lv_at hl 1 rfl) ?_
        obtain ⟨⟨r116, m_kinships_116⟩, h9, hf⟩ := ob_s hf
        have hf := uc2_e hf
        refine gcV (index := 265) S hE (hF ad a_m_fam m_undoCount m_thrown m_hasSnapshot m_rows m_lineLength m_formattedLength m_bufferLength m_limit m_next m_beginsAt m_token m_error m_errorAt m_errorPosition m_nested m_codeCount m_fam m_generation m_kinships v5_56 r77 r116 m_kinships_116 h9) mX10_kinshipOf tw1673 ⟨(show fF + 1 ≤ fF + 1 by omega), (show 8 + (11 + 11) + (lF) ≤ lF + 30 by omega)⟩ hP hD hS hA ⟨Nat.zero_le _, Nat.zero_le _⟩ 2 10 rfl rfl rfl (wr := []) [2, 3, 0, 1] [] rfl rfl rfl rfl (by decide) (As := [.int v5_56, .int r77]) (rest := []) rfl hl.1 rfl (Nat.le_of_ble_eq_true rfl) dX10_kinshipOf_116 (fun H locs hP hD hS => ?_)
        refine W.eq (g2 := F0 m 119 ls [.long r116]) rfl ?_
        have hP : va_P (dC, dI) vwCl [(ad 0, .inr (10, oM ad m_undoCount m_thrown m_hasSnapshot a_m_fam m_rows m_lineLength m_formattedLength m_bufferLength m_limit m_next m_beginsAt m_token m_error m_errorAt m_errorPosition m_nested m_codeCount)), (a_m_fam, .inl (cJ, 130, .inr (.inl m_fam))), ((ad 9), .inl (cI, 16, .inl m_generation)), ((ad 19), .inl (cJ, 256, .inr (.inl m_kinships_116)))] H := hP
        have hD : va_D A [(ad 0, .inr (10, oM ad m_undoCount m_thrown m_hasSnapshot a_m_fam m_rows m_lineLength m_formattedLength m_bufferLength m_limit m_next m_beginsAt m_token m_error m_errorAt m_errorPosition m_nested m_codeCount)), (a_m_fam, .inl (cJ, 130, .inr (.inl m_fam))), ((ad 9), .inl (cI, 16, .inl m_generation)), ((ad 19), .inl (cJ, 256, .inr (.inl m_kinships_116)))] := hD
        refine lv_aload_n hx hb dX10_kinshipOf_119 rfl (lv_at hl 4 rfl) ?_
        refine lv_iload hx hb dX10_kinshipOf_120 (lv_at hl 9 rfl) ?_
        refine lv_iload hx hb dX10_kinshipOf_122 (lv_at hl 0 rfl) ?_
        obtain ⟨⟨r124, m_kinships_124⟩, h9, hf⟩ := ob_s hf
        have hf := uc2_e hf
        refine gcV (index := 265) S hE (hF ad a_m_fam m_undoCount m_thrown m_hasSnapshot m_rows m_lineLength m_formattedLength m_bufferLength m_limit m_next m_beginsAt m_token m_error m_errorAt m_errorPosition m_nested m_codeCount m_fam m_generation m_kinships_116 v5_56 r86 r124 m_kinships_124 h9) mX10_kinshipOf tw1673 ⟨(show fF + 1 ≤ fF + 1 by omega), (show 8 + (11 + 11) + (lF) ≤ lF + 30 by omega)⟩ hP hD hS hA ⟨Nat.zero_le _, Nat.zero_le _⟩ 0 10 rfl rfl rfl (wr := []) [0, 1, 2, 3] [] rfl rfl rfl rfl (by decide) (As := [.int v5_56, .int r86]) (rest := [.long r116]) rfl hl.1 rfl (Nat.le_of_ble_eq_true rfl) dX10_kinshipOf_124 (fun H locs hP hD hS => ?_)
        refine W.eq (g2 := F0 m 127 ls [.long r124, .long r116]) rfl ?_
        have hP : va_P (dC, dI) vwCl [(ad 0, .inr (10, oM ad m_undoCount m_thrown m_hasSnapshot a_m_fam m_rows m_lineLength m_formattedLength m_bufferLength m_limit m_next m_beginsAt m_token m_error m_errorAt m_errorPosition m_nested m_codeCount)), (a_m_fam, .inl (cJ, 130, .inr (.inl m_fam))), ((ad 9), .inl (cI, 16, .inl m_generation)), ((ad 19), .inl (cJ, 256, .inr (.inl m_kinships_124)))] H := hP
        have hD : va_D A [(ad 0, .inr (10, oM ad m_undoCount m_thrown m_hasSnapshot a_m_fam m_rows m_lineLength m_formattedLength m_bufferLength m_limit m_next m_beginsAt m_token m_error m_errorAt m_errorPosition m_nested m_codeCount)), (a_m_fam, .inl (cJ, 130, .inr (.inl m_fam))), ((ad 9), .inl (cI, 16, .inl m_generation)), ((ad 19), .inl (cJ, 256, .inr (.inl m_kinships_124)))] := hD
        refine lv_ladd hx hb dX10_kinshipOf_127 ?_
        refine lv_ldc2 (own := RX10) (v := 2) hx hb hown (htg _ tw1681) dX10_kinshipOf_128 ?_
        refine lv_ldiv hx hb dX10_kinshipOf_131 (by decide) ?_
        refine lv_topl (fun t132 h9 => ?_)
        have hf := lb_e h9 hf
        refine lv_lstore (lv' := [(7, .long t132), (10, .int r86), (9, .int r77), (6, .int r59), (0, .ref (ad 0)), (1, .int v1), (2, .int v2), (3, .int v3_56), (4, .int v4_56), (5, .int v5_56)]) hx hb dX10_kinshipOf_132 hl (by decide) rfl (fun ls hl => ?_)
        exact J134 v3_56 t132 m_kinships_124 H locs ls hf hP hD hS (lv_sub hl [4, 5, 6, 7, 0] rfl)
      · have hf := itt h9 hf
        refine lv_aload_n hx hb dX10_kinshipOf_96 rfl (lv_at hl 4 rfl) ?_
        refine lv_iload hx hb dX10_kinshipOf_97 (lv_at hl 1 rfl) ?_
        refine lv_iload hx hb dX10_kinshipOf_99 (lv_at hl 0 rfl) ?_
        obtain ⟨⟨r101, m_kinships_101⟩, h9, hf⟩ := ob_s hf
        have hf := uc2_e hf
        refine gcV (index := 265) S hE (hF ad a_m_fam m_undoCount m_thrown m_hasSnapshot m_rows m_lineLength m_formattedLength m_bufferLength m_limit m_next m_beginsAt m_token m_error m_errorAt m_errorPosition m_nested m_codeCount m_fam m_generation m_kinships r77 r86 r101 m_kinships_101 h9) mX10_kinshipOf tw1673 ⟨(show fF + 1 ≤ fF + 1 by omega), (show 8 + (11 + 11) + (lF) ≤ lF + 30 by omega)⟩ hP hD hS hA ⟨Nat.zero_le _, Nat.zero_le _⟩ 2 10 rfl rfl rfl (wr := []) [2, 3, 0, 1] [] rfl rfl rfl rfl (by decide) (As := [.int r77, .int r86]) (rest := []) rfl hl.1 rfl (Nat.le_of_ble_eq_true rfl) dX10_kinshipOf_101 (fun H locs hP hD hS => ?_)
        refine W.eq (g2 := F0 m 104 ls [.long r101]) rfl ?_
        have hP : va_P (dC, dI) vwCl [(ad 0, .inr (10, oM ad m_undoCount m_thrown m_hasSnapshot a_m_fam m_rows m_lineLength m_formattedLength m_bufferLength m_limit m_next m_beginsAt m_token m_error m_errorAt m_errorPosition m_nested m_codeCount)), (a_m_fam, .inl (cJ, 130, .inr (.inl m_fam))), ((ad 9), .inl (cI, 16, .inl m_generation)), ((ad 19), .inl (cJ, 256, .inr (.inl m_kinships_101)))] H := hP
        have hD : va_D A [(ad 0, .inr (10, oM ad m_undoCount m_thrown m_hasSnapshot a_m_fam m_rows m_lineLength m_formattedLength m_bufferLength m_limit m_next m_beginsAt m_token m_error m_errorAt m_errorPosition m_nested m_codeCount)), (a_m_fam, .inl (cJ, 130, .inr (.inl m_fam))), ((ad 9), .inl (cI, 16, .inl m_generation)), ((ad 19), .inl (cJ, 256, .inr (.inl m_kinships_101)))] := hD
        refine lv_ldc2 (own := RX10) (v := 2) hx hb hown (htg _ tw1681) dX10_kinshipOf_104 ?_
        refine lv_ldiv hx hb dX10_kinshipOf_107 (by decide) ?_
        refine lv_goto (tgt := 132) hx hb dX10_kinshipOf_108 (by decide) ?_
        refine lv_topl (fun t132 h9 => ?_)
        have hf := lb_e h9 hf
        refine lv_lstore (lv' := [(7, .long t132), (10, .int r86), (9, .int r77), (6, .int r59), (0, .ref (ad 0)), (1, .int v1), (2, .int v2), (3, .int v3_56), (4, .int v4_56), (5, .int v5_56)]) hx hb dX10_kinshipOf_132 hl (by decide) rfl (fun ls hl => ?_)
        exact J134 v3_56 t132 m_kinships_101 H locs ls hf hP hD hS (lv_sub hl [4, 5, 6, 7, 0] rfl)
  have J43 : ∀ (v3_43 : Int32) (v4_43 : Int32) (H : Heap) (locs : List Loc) (ls : Array Slot), p10_kinshipOf_J43 kF m_fam m_generation m_kinships v1 v2 v3_43 v4_43 = some (r9, m_kinships_9) → va_P (dC, dI) vwCl [(ad 0, .inr (10, oM ad m_undoCount m_thrown m_hasSnapshot a_m_fam m_rows m_lineLength m_formattedLength m_bufferLength m_limit m_next m_beginsAt m_token m_error m_errorAt m_errorPosition m_nested m_codeCount)), (a_m_fam, .inl (cJ, 130, .inr (.inl m_fam))), ((ad 9), .inl (cI, 16, .inl m_generation)), ((ad 19), .inl (cJ, 256, .inr (.inl m_kinships)))] H → va_D A [(ad 0, .inr (10, oM ad m_undoCount m_thrown m_hasSnapshot a_m_fam m_rows m_lineLength m_formattedLength m_bufferLength m_limit m_next m_beginsAt m_token m_error m_errorAt m_errorPosition m_nested m_codeCount)), (a_m_fam, .inl (cJ, 130, .inr (.inl m_fam))), ((ad 9), .inl (cI, 16, .inl m_generation)), ((ad 19), .inl (cJ, 256, .inr (.inl m_kinships)))] → va_S A s.heap H locs → lv_has ls 11 [(0, .ref (ad 0)), (1, .int v1), (2, .int v2), (3, .int v3_43), (4, .int v4_43)] → W p l e ({ frames := fF + 1, cells := 0, slots := 0, locals := lF + 30 }) s m ([.ref (ad 0), .int v1, .int v2] : List Value).toArray below meth c H locs 0 0 (MQ below (gQ dC dI (some (.long r9)) A [(ad 0, .inr (10, oM ad m_undoCount m_thrown m_hasSnapshot a_m_fam m_rows m_lineLength m_formattedLength m_bufferLength m_limit m_next m_beginsAt m_token m_error m_errorAt m_errorPosition m_nested m_codeCount)), (a_m_fam, .inl (cJ, 130, .inr (.inl m_fam))), ((ad 9), .inl (cI, 16, .inl m_generation)), ((ad 19), .inl (cJ, 256, .inr (.inl m_kinships_9)))]) ([.ref (ad 0), .int v1, .int v2] : List Value).toArray s 0 0 A) (F0 m 43 ls []) := by
    intro v3_43 v4_43 H locs ls hf hP hD hS hl
    rw [p10_kinshipOf_J43] at hf
    refine lv_iload hx hb dX10_kinshipOf_43 (lv_at hl 4 rfl) ?_
    refine lv_iload_n hx hb dX10_kinshipOf_45 rfl (lv_at hl 1 rfl) ?_
    refine lv_icmp_ne (tgt := 53) hx hb dX10_kinshipOf_46 (by decide) (fun h9 => ?_) (fun h9 => ?_)
    · have hf := itf h9 hf
      refine lv_iload_n hx hb dX10_kinshipOf_53 rfl (lv_at hl 1 rfl) ?_
      refine lv_istore (lv' := [(5, .int v1), (0, .ref (ad 0)), (1, .int v1), (2, .int v2), (3, .int v3_43), (4, .int v4_43)]) hx hb dX10_kinshipOf_54 hl (by decide) rfl (fun ls hl => ?_)
      exact J56 v3_43 v4_43 v1 H locs ls hf hP hD hS (lv_sub hl [1, 2, 3, 4, 5, 0] rfl)
    · have hf := itt h9 hf
      refine lv_iload_n hx hb dX10_kinshipOf_49 rfl (lv_at hl 2 rfl) ?_
      refine lv_goto (tgt := 54) hx hb dX10_kinshipOf_50 (by decide) ?_
      refine lv_istore (lv' := [(5, .int v2), (0, .ref (ad 0)), (1, .int v1), (2, .int v2), (3, .int v3_43), (4, .int v4_43)]) hx hb dX10_kinshipOf_54 hl (by decide) rfl (fun ls hl => ?_)
      exact J56 v3_43 v4_43 v2 H locs ls hf hP hD hS (lv_sub hl [1, 2, 3, 4, 5, 0] rfl)
  refine lv_bipush (v := 16) hx hb dX10_kinshipOf_0 (by decide) ?_
  refine lv_iload_n hx hb dX10_kinshipOf_2 rfl (lv_at hl 1 rfl) ?_
  refine lv_imul hx hb dX10_kinshipOf_3 ?_
  refine lv_iload_n hx hb dX10_kinshipOf_4 rfl (lv_at hl 2 rfl) ?_
  refine lv_iadd hx hb dX10_kinshipOf_5 ?_
  refine lv_topi (fun t6 h9 => ?_)
  have hf := lb_e h9 hf
  refine lv_istore_n (lv' := [(3, .int t6), (0, .ref (ad 0)), (1, .int v1), (2, .int v2)]) hx hb dX10_kinshipOf_6 rfl hl (by decide) rfl (fun ls hl => ?_)
  refine lv_aload_n hx hb dX10_kinshipOf_7 rfl (lv_at hl 1 rfl) ?_
  refine va_get (D := (dC, dI)) (ci := 10) (v := .ref (ad 19)) (C := RX10) (T := TX10) (N := 37) hx hb htg inX10 hown hE.1 hP 0 rfl rfl 18 (by decide) (htg _ tw1400) (fun _ h9 => h9) rfl dX10_kinshipOf_8 ?_
  refine lv_iload_n hx hb dX10_kinshipOf_11 rfl (lv_at hl 0 rfl) ?_
  obtain ⟨h9, hf⟩ := gd_s hf
  refine va_lald hx hb hE.1 hP 3 1 rfl rfl h9 dX10_kinshipOf_12 ?_
  refine lv_ldc2 (own := RX10) (v := -1) hx hb hown (htg _ tw1672) dX10_kinshipOf_13 ?_
  refine W.lcmp hx hb dX10_kinshipOf_16 ?_
  refine lv_if_eq (tgt := 27) hx hb dX10_kinshipOf_17 (by decide) (fun h9 => ?_) (fun h9 => ?_)
  · have h9 := (lg_cmp_eq _ _).mp h9
    have hf := itt h9 hf
    refine lv_aload_n hx hb dX10_kinshipOf_27 rfl (lv_at hl 1 rfl) ?_
    refine lv_iload_n hx hb dX10_kinshipOf_28 rfl (lv_at hl 2 rfl) ?_
    refine lv_iload_n hx hb dX10_kinshipOf_29 rfl (lv_at hl 3 rfl) ?_
    obtain ⟨r30, h9, hf⟩ := ob_s hf
    refine gcV (index := 262) S hE (c_X10_isLater ad a_m_fam m_undoCount m_thrown m_hasSnapshot m_rows m_lineLength m_formattedLength m_bufferLength m_limit m_next m_beginsAt m_token m_error m_errorAt m_errorPosition m_nested m_codeCount m_generation v1 v2 r30 h9) mX10_isLater tw1677 ⟨(show 0 + 1 ≤ fF + 1 by omega), (show 8 + (3 + 11) + (0) ≤ lF + 30 by omega)⟩ hP hD hS hA ⟨Nat.zero_le _, Nat.zero_le _⟩ 0 10 rfl rfl rfl (wr := [(a_m_fam, .inl (cJ, 130, .inr (.inl m_fam))), ((ad 19), .inl (cJ, 256, .inr (.inl m_kinships)))]) [0, 2] [1, 3] rfl rfl rfl rfl (by decide) (As := [.int v1, .int v2]) (rest := []) rfl hl.1 rfl (Nat.le_of_ble_eq_true rfl) dX10_kinshipOf_30 (fun H locs hP hD hS => ?_)
    refine W.eq (g2 := F0 m 33 ls [.int (bI r30)]) rfl ?_
    have hP : va_P (dC, dI) vwCl [(a_m_fam, .inl (cJ, 130, .inr (.inl m_fam))), ((ad 19), .inl (cJ, 256, .inr (.inl m_kinships))), (ad 0, .inr (10, oM ad m_undoCount m_thrown m_hasSnapshot a_m_fam m_rows m_lineLength m_formattedLength m_bufferLength m_limit m_next m_beginsAt m_token m_error m_errorAt m_errorPosition m_nested m_codeCount)), ((ad 9), .inl (cI, 16, .inl m_generation))] H := hP
    have hD : va_D A [(a_m_fam, .inl (cJ, 130, .inr (.inl m_fam))), ((ad 19), .inl (cJ, 256, .inr (.inl m_kinships))), (ad 0, .inr (10, oM ad m_undoCount m_thrown m_hasSnapshot a_m_fam m_rows m_lineLength m_formattedLength m_bufferLength m_limit m_next m_beginsAt m_token m_error m_errorAt m_errorPosition m_nested m_codeCount)), ((ad 9), .inl (cI, 16, .inl m_generation))] := hD
    refine lv_if_eq (tgt := 40) hx hb dX10_kinshipOf_33 (by decide) (fun h9 => ?_) (fun h9 => ?_)
    · have hf := ctf (bI_0 h9) hf
      refine lv_iload_n hx hb dX10_kinshipOf_40 rfl (lv_at hl 3 rfl) ?_
      refine lv_istore (lv' := [(4, .int v2), (3, .int t6), (0, .ref (ad 0)), (1, .int v1), (2, .int v2)]) hx hb dX10_kinshipOf_41 hl (by decide) rfl (fun ls hl => ?_)
      exact J43 t6 v2 H locs ls hf (hP.sub [2, 0, 3, 1] rfl) (hD.sub [2, 0, 3, 1] (by decide) rfl) hS (lv_sub hl [2, 3, 4, 1, 0] rfl)
    · have hf := ctt (bI_1 h9) hf
      refine lv_iload_n hx hb dX10_kinshipOf_36 rfl (lv_at hl 2 rfl) ?_
      refine lv_goto (tgt := 41) hx hb dX10_kinshipOf_37 (by decide) ?_
      refine lv_istore (lv' := [(4, .int v1), (3, .int t6), (0, .ref (ad 0)), (1, .int v1), (2, .int v2)]) hx hb dX10_kinshipOf_41 hl (by decide) rfl (fun ls hl => ?_)
      exact J43 t6 v1 H locs ls hf (hP.sub [2, 0, 3, 1] rfl) (hD.sub [2, 0, 3, 1] (by decide) rfl) hS (lv_sub hl [2, 3, 4, 1, 0] rfl)
  · have h9 := fun q => h9 ((lg_cmp_eq _ _).mpr q)
    have hf := itf h9 hf
    refine lv_aload_n hx hb dX10_kinshipOf_20 rfl (lv_at hl 1 rfl) ?_
    refine va_get (D := (dC, dI)) (ci := 10) (v := .ref (ad 19)) (C := RX10) (T := TX10) (N := 37) hx hb htg inX10 hown hE.1 hP 0 rfl rfl 18 (by decide) (htg _ tw1400) (fun _ h9 => h9) rfl dX10_kinshipOf_21 ?_
    refine lv_iload_n hx hb dX10_kinshipOf_24 rfl (lv_at hl 0 rfl) ?_
    obtain ⟨h9, hf⟩ := gd_s hf
    refine va_lald hx hb hE.1 hP 3 1 rfl rfl h9 dX10_kinshipOf_25 ?_
    cases hf
    exact g_lret S hr hlocks hP hD hS dX10_kinshipOf_26
theorem c_X10_kinshipOf_d : ∀ (d : Nat) (ad : Nat → Nat) (a_m_fam : Nat) (m_undoCount : Int32) (m_thrown : Int32) (m_hasSnapshot : Bool) (m_rows : Int32) (m_lineLength : Int32) (m_formattedLength : Int32) (m_bufferLength : Int32) (m_limit : Int32) (m_next : Int32) (m_beginsAt : Int32) (m_token : Int32) (m_error : Int32) (m_errorAt : Int32) (m_errorPosition : Int32) (m_nested : Int32) (m_codeCount : Int32) (m_fam : Nat → Int64) (m_generation : Nat → Int32) (m_kinships : Nat → Int64) (v1 : Int32) (v2 : Int32) (r9 : Int64) (m_kinships_9 : Nat → Int64) (hf : p10_kinshipOf d m_fam m_generation m_kinships v1 v2 = some (r9, m_kinships_9)), gM l dC dI cI cJ cZ yX10_kinshipOf cX10_kinshipOf 11 (some .long) (60 + 1 * d) (3000 + 30 * d) [.ref (ad 0), .int v1, .int v2] [(ad 0, .inr (10, oM ad m_undoCount m_thrown m_hasSnapshot a_m_fam m_rows m_lineLength m_formattedLength m_bufferLength m_limit m_next m_beginsAt m_token m_error m_errorAt m_errorPosition m_nested m_codeCount)), (a_m_fam, .inl (cJ, 130, .inr (.inl m_fam))), ((ad 9), .inl (cI, 16, .inl m_generation)), ((ad 19), .inl (cJ, 256, .inr (.inl m_kinships)))] [(ad 0, .inr (10, oM ad m_undoCount m_thrown m_hasSnapshot a_m_fam m_rows m_lineLength m_formattedLength m_bufferLength m_limit m_next m_beginsAt m_token m_error m_errorAt m_errorPosition m_nested m_codeCount)), (a_m_fam, .inl (cJ, 130, .inr (.inl m_fam))), ((ad 9), .inl (cI, 16, .inl m_generation)), ((ad 19), .inl (cJ, 256, .inr (.inl m_kinships_9)))] (some (.long r9)) := by
  intro d
  induction d with
  | zero => intro ad a_m_fam m_undoCount m_thrown m_hasSnapshot m_rows m_lineLength m_formattedLength m_bufferLength m_limit m_next m_beginsAt m_token m_error m_errorAt m_errorPosition m_nested m_codeCount m_fam m_generation m_kinships v1 v2 r9 m_kinships_9 hf; rw [p10_kinshipOf] at hf; cases hf
  | succ d ih =>
    intro ad a_m_fam m_undoCount m_thrown m_hasSnapshot m_rows m_lineLength m_formattedLength m_bufferLength m_limit m_next m_beginsAt m_token m_error m_errorAt m_errorPosition m_nested m_codeCount m_fam m_generation m_kinships v1 v2 r9 m_kinships_9 hf
    rw [p10_kinshipOf] at hf
    rw [show 60 + 1 * (d + 1) = (60 + 1 * d) + 1 by omega, show 3000 + 30 * (d + 1) = (3000 + 30 * d) + 30 by omega]
    exact c_X10_kinshipOf_o (p10_kinshipOf d) (60 + 1 * d) (3000 + 30 * d) (by omega) (by omega) ih ad a_m_fam m_undoCount m_thrown m_hasSnapshot m_rows m_lineLength m_formattedLength m_bufferLength m_limit m_next m_beginsAt m_token m_error m_errorAt m_errorPosition m_nested m_codeCount m_fam m_generation m_kinships v1 v2 r9 m_kinships_9 hf
theorem c_X10_kinshipOf (ad : Nat → Nat) (a_m_fam : Nat) (m_undoCount : Int32) (m_thrown : Int32) (m_hasSnapshot : Bool) (m_rows : Int32) (m_lineLength : Int32) (m_formattedLength : Int32) (m_bufferLength : Int32) (m_limit : Int32) (m_next : Int32) (m_beginsAt : Int32) (m_token : Int32) (m_error : Int32) (m_errorAt : Int32) (m_errorPosition : Int32) (m_nested : Int32) (m_codeCount : Int32) (m_fam : Nat → Int64) (m_generation : Nat → Int32) (m_kinships : Nat → Int64) (v1 : Int32) (v2 : Int32) (r9 : Int64) (m_kinships_9 : Nat → Int64) (hf : p10_kinshipOf 64 m_fam m_generation m_kinships v1 v2 = some (r9, m_kinships_9)) : gM l dC dI cI cJ cZ yX10_kinshipOf cX10_kinshipOf 11 (some .long) 124 4920 [.ref (ad 0), .int v1, .int v2] [(ad 0, .inr (10, oM ad m_undoCount m_thrown m_hasSnapshot a_m_fam m_rows m_lineLength m_formattedLength m_bufferLength m_limit m_next m_beginsAt m_token m_error m_errorAt m_errorPosition m_nested m_codeCount)), (a_m_fam, .inl (cJ, 130, .inr (.inl m_fam))), ((ad 9), .inl (cI, 16, .inl m_generation)), ((ad 19), .inl (cJ, 256, .inr (.inl m_kinships)))] [(ad 0, .inr (10, oM ad m_undoCount m_thrown m_hasSnapshot a_m_fam m_rows m_lineLength m_formattedLength m_bufferLength m_limit m_next m_beginsAt m_token m_error m_errorAt m_errorPosition m_nested m_codeCount)), (a_m_fam, .inl (cJ, 130, .inr (.inl m_fam))), ((ad 9), .inl (cI, 16, .inl m_generation)), ((ad 19), .inl (cJ, 256, .inr (.inl m_kinships_9)))] (some (.long r9)) := c_X10_kinshipOf_d 64 ad a_m_fam m_undoCount m_thrown m_hasSnapshot m_rows m_lineLength m_formattedLength m_bufferLength m_limit m_next m_beginsAt m_token m_error m_errorAt m_errorPosition m_nested m_codeCount m_fam m_generation m_kinships v1 v2 r9 m_kinships_9 hf
set_option maxHeartbeats 4000000 in
set_option maxRecDepth 100000 in
theorem c_X10_compileConjunction_o (kF : Int32 → Int32 → Int32 → Int32 → Int32 → Int32 → Int32 → Int32 → (Nat → Int32) → (Nat → Int32) → Option (Int32 × Int32 × (Nat → Int32) × Int32 × Int32 × Int32 × Int32 × Int32)) (fF lF : Nat) (hbF : 60 ≤ fF) (hbL : 3000 ≤ lF) (hF : ∀ (ad : Nat → Nat) (hNm : gNm adV ad) (a_m_fam : Nat) (m_undoCount : Int32) (m_thrown : Int32) (m_hasSnapshot : Bool) (m_rows : Int32) (m_lineLength : Int32) (m_formattedLength : Int32) (m_bufferLength : Int32) (m_limit : Int32) (m_next : Int32) (m_beginsAt : Int32) (m_token : Int32) (m_error : Int32) (m_errorAt : Int32) (m_errorPosition : Int32) (m_nested : Int32) (m_codeCount : Int32) (m_buffer : Nat → Int32) (m_codes : Nat → Int32) (m_beginsAt_9 : Int32) (m_codeCount_9 : Int32) (m_codes_9 : Nat → Int32) (m_error_9 : Int32) (m_errorAt_9 : Int32) (m_nested_9 : Int32) (m_next_9 : Int32) (m_token_9 : Int32) (_ : kF m_limit m_next m_beginsAt m_token m_error m_errorAt m_nested m_codeCount m_buffer m_codes = some (m_beginsAt_9, m_codeCount_9, m_codes_9, m_error_9, m_errorAt_9, m_nested_9, m_next_9, m_token_9)), gMH l dC dI cI cJ cZ adK adV yX10_compileFactor cX10_compileFactor 2 none fF lF [.ref (ad 0)] [(ad 0, .inr (10, oM ad m_undoCount m_thrown m_hasSnapshot a_m_fam m_rows m_lineLength m_formattedLength m_bufferLength m_limit m_next m_beginsAt m_token m_error m_errorAt m_errorPosition m_nested m_codeCount)), ((ad 24), .inl (cI, 800, .inl m_buffer)), ((ad 35), .inl (cI, 200, .inl m_codes))] [(ad 0, .inr (10, oM ad m_undoCount m_thrown m_hasSnapshot a_m_fam m_rows m_lineLength m_formattedLength m_bufferLength m_limit m_next_9 m_beginsAt_9 m_token_9 m_error_9 m_errorAt_9 m_errorPosition m_nested_9 m_codeCount_9)), ((ad 24), .inl (cI, 800, .inl m_buffer)), ((ad 35), .inl (cI, 200, .inl m_codes_9))] none) (ad : Nat → Nat) (hNm : gNm adV ad) (a_m_fam : Nat) (m_undoCount : Int32) (m_thrown : Int32) (m_hasSnapshot : Bool) (m_rows : Int32) (m_lineLength : Int32) (m_formattedLength : Int32) (m_bufferLength : Int32) (m_limit : Int32) (m_next : Int32) (m_beginsAt : Int32) (m_token : Int32) (m_error : Int32) (m_errorAt : Int32) (m_errorPosition : Int32) (m_nested : Int32) (m_codeCount : Int32) (m_buffer : Nat → Int32) (m_codes : Nat → Int32) (m_beginsAt_9 : Int32) (m_codeCount_9 : Int32) (m_codes_9 : Nat → Int32) (m_error_9 : Int32) (m_errorAt_9 : Int32) (m_nested_9 : Int32) (m_next_9 : Int32) (m_token_9 : Int32) (hf : p10_compileConjunction kF m_limit m_next m_beginsAt m_token m_error m_errorAt m_nested m_codeCount m_buffer m_codes = some (m_beginsAt_9, m_codeCount_9, m_codes_9, m_error_9, m_errorAt_9, m_nested_9, m_next_9, m_token_9)) : gMH l dC dI cI cJ cZ adK adV yX10_compileConjunction cX10_compileConjunction 1 none (fF + 1) (lF + 21) [.ref (ad 0)] [(ad 0, .inr (10, oM ad m_undoCount m_thrown m_hasSnapshot a_m_fam m_rows m_lineLength m_formattedLength m_bufferLength m_limit m_next m_beginsAt m_token m_error m_errorAt m_errorPosition m_nested m_codeCount)), ((ad 24), .inl (cI, 800, .inl m_buffer)), ((ad 35), .inl (cI, 200, .inl m_codes))] [(ad 0, .inr (10, oM ad m_undoCount m_thrown m_hasSnapshot a_m_fam m_rows m_lineLength m_formattedLength m_bufferLength m_limit m_next_9 m_beginsAt_9 m_token_9 m_error_9 m_errorAt_9 m_errorPosition m_nested_9 m_codeCount_9)), ((ad 24), .inl (cI, 800, .inl m_buffer)), ((ad 35), .inl (cI, 200, .inl m_codes_9))] none := by
  refine g_startH (own := RX10) (by decide +kernel) rfl (Nat.le_of_ble_eq_true rfl) ?_
  intro p e s m below meth c A ls S hr hlocks hE hG hP hD hS hA hl hin
  have hx := S.1
  have hb := S.2.1
  have hml := S.2.2.1
  have hown := S.2.2.2.1
  have htg : ∀ z ∈ gw, z.before ([.ref (ad 0)] : List Value).toArray s = true := fun w h => S.2.2.2.2 w (List.mem_cons_of_mem _ h)
  have hl : lv_has ls 1 [(0, .ref (ad 0))] := hl
  have hS0 := hS
  obtain ⟨H, hH⟩ : ∃ H, H = s.heap := ⟨_, rfl⟩
  obtain ⟨locs, hlc⟩ : ∃ locs : List Loc, locs = [] := ⟨_, rfl⟩
  have hS : va_S A s.heap H locs := by rw [hH, hlc]; exact hS0
  have hP : va_P (dC, dI) vwCl [(ad 0, .inr (10, oM ad m_undoCount m_thrown m_hasSnapshot a_m_fam m_rows m_lineLength m_formattedLength m_bufferLength m_limit m_next m_beginsAt m_token m_error m_errorAt m_errorPosition m_nested m_codeCount)), ((ad 24), .inl (cI, 800, .inl m_buffer)), ((ad 35), .inl (cI, 200, .inl m_codes))] H := by rw [hH]; exact hP
  suffices hgo : W p l e ({ frames := fF + 1, cells := 0, slots := 0, locals := lF + 21 }) s m ([.ref (ad 0)] : List Value).toArray below meth c H locs 0 0 (MQ below (gQ dC dI none A [(ad 0, .inr (10, oM ad m_undoCount m_thrown m_hasSnapshot a_m_fam m_rows m_lineLength m_formattedLength m_bufferLength m_limit m_next_9 m_beginsAt_9 m_token_9 m_error_9 m_errorAt_9 m_errorPosition m_nested_9 m_codeCount_9)), ((ad 24), .inl (cI, 800, .inl m_buffer)), ((ad 35), .inl (cI, 200, .inl m_codes_9))]) ([.ref (ad 0)] : List Value).toArray s 0 0 A) (F0 m 0 ls []) by rw [hH, hlc] at hgo; exact hgo
  rw [p10_compileConjunction] at hf
  have J27 : ∀ (m_next_27 : Int32) (m_beginsAt_27 : Int32) (m_token_27 : Int32) (m_error_27 : Int32) (m_errorAt_27 : Int32) (m_nested_27 : Int32) (m_codeCount_27 : Int32) (m_codes_27 : Nat → Int32) (H : Heap) (locs : List Loc) (ls : Array Slot), p10_compileConjunction_J27 m_next_27 m_beginsAt_27 m_token_27 m_error_27 m_errorAt_27 m_nested_27 m_codeCount_27 m_codes_27 = some (m_beginsAt_9, m_codeCount_9, m_codes_9, m_error_9, m_errorAt_9, m_nested_9, m_next_9, m_token_9) → va_P (dC, dI) vwCl [(ad 0, .inr (10, oM ad m_undoCount m_thrown m_hasSnapshot a_m_fam m_rows m_lineLength m_formattedLength m_bufferLength m_limit m_next_27 m_beginsAt_27 m_token_27 m_error_27 m_errorAt_27 m_errorPosition m_nested_27 m_codeCount_27)), ((ad 24), .inl (cI, 800, .inl m_buffer)), ((ad 35), .inl (cI, 200, .inl m_codes_27))] H → va_D A [(ad 0, .inr (10, oM ad m_undoCount m_thrown m_hasSnapshot a_m_fam m_rows m_lineLength m_formattedLength m_bufferLength m_limit m_next_27 m_beginsAt_27 m_token_27 m_error_27 m_errorAt_27 m_errorPosition m_nested_27 m_codeCount_27)), ((ad 24), .inl (cI, 800, .inl m_buffer)), ((ad 35), .inl (cI, 200, .inl m_codes_27))] → va_S A s.heap H locs → lv_has ls 1 [] → W p l e ({ frames := fF + 1, cells := 0, slots := 0, locals := lF + 21 }) s m ([.ref (ad 0)] : List Value).toArray below meth c H locs 0 0 (MQ below (gQ dC dI none A [(ad 0, .inr (10, oM ad m_undoCount m_thrown m_hasSnapshot a_m_fam m_rows m_lineLength m_formattedLength m_bufferLength m_limit m_next_9 m_beginsAt_9 m_token_9 m_error_9 m_errorAt_9 m_errorPosition m_nested_9 m_codeCount_9)), ((ad 24), .inl (cI, 800, .inl m_buffer)), ((ad 35), .inl (cI, 200, .inl m_codes_9))]) ([.ref (ad 0)] : List Value).toArray s 0 0 A) (F0 m 27 ls []) := by
    intro m_next_27 m_beginsAt_27 m_token_27 m_error_27 m_errorAt_27 m_nested_27 m_codeCount_27 m_codes_27 H locs ls hf hP hD hS hl
    rw [p10_compileConjunction_J27] at hf
    cases hf
    exact g_vret S hr hlocks hP hD hS dX10_compileConjunction_27
  refine lv_aload_n hx hb dX10_compileConjunction_0 rfl (lv_at hl 0 rfl) ?_
  obtain ⟨⟨m_beginsAt_1, m_codeCount_1, m_codes_1, m_error_1, m_errorAt_1, m_nested_1, m_next_1, m_token_1⟩, h9, hf⟩ := ob_s hf
  have hf := uc8_e hf
  refine gcVH (index := 482) S hE hG (hF ad hNm a_m_fam m_undoCount m_thrown m_hasSnapshot m_rows m_lineLength m_formattedLength m_bufferLength m_limit m_next m_beginsAt m_token m_error m_errorAt m_errorPosition m_nested m_codeCount m_buffer m_codes m_beginsAt_1 m_codeCount_1 m_codes_1 m_error_1 m_errorAt_1 m_nested_1 m_next_1 m_token_1 h9) mX10_compileFactor tw2038 ⟨(show fF + 1 ≤ fF + 1 by omega), (show 8 + (2 + 11) + (lF) ≤ lF + 21 by omega)⟩ hP hD hS hA ⟨Nat.zero_le _, Nat.zero_le _⟩ 0 10 rfl rfl rfl (wr := []) [0, 1, 2] [] rfl rfl rfl rfl (by decide) (As := []) (rest := []) rfl hl.1 rfl (Nat.le_of_ble_eq_true rfl) dX10_compileConjunction_1 (fun H locs hP hD hS => ?_)
  refine W.eq (g2 := F0 m 4 ls []) rfl ?_
  have hP : va_P (dC, dI) vwCl [(ad 0, .inr (10, oM ad m_undoCount m_thrown m_hasSnapshot a_m_fam m_rows m_lineLength m_formattedLength m_bufferLength m_limit m_next_1 m_beginsAt_1 m_token_1 m_error_1 m_errorAt_1 m_errorPosition m_nested_1 m_codeCount_1)), ((ad 24), .inl (cI, 800, .inl m_buffer)), ((ad 35), .inl (cI, 200, .inl m_codes_1))] H := hP
  have hD : va_D A [(ad 0, .inr (10, oM ad m_undoCount m_thrown m_hasSnapshot a_m_fam m_rows m_lineLength m_formattedLength m_bufferLength m_limit m_next_1 m_beginsAt_1 m_token_1 m_error_1 m_errorAt_1 m_errorPosition m_nested_1 m_codeCount_1)), ((ad 24), .inl (cI, 800, .inl m_buffer)), ((ad 35), .inl (cI, 200, .inl m_codes_1))] := hD
  have K4 : ∀ (n4 : Nat) (m_beginsAt_4 : Int32) (m_codeCount_4 : Int32) (m_codes_4 : Nat → Int32) (m_error_4 : Int32) (m_errorAt_4 : Int32) (m_nested_4 : Int32) (m_next_4 : Int32) (m_token_4 : Int32) (ex4 : Int32 × Int32 × (Nat → Int32) × Int32 × Int32 × Int32 × Int32 × Int32) (H : Heap) (locs : List Loc) (ls : Array Slot), p10_compileConjunction_L4 kF m_buffer m_limit n4 m_beginsAt_4 m_codeCount_4 m_codes_4 m_error_4 m_errorAt_4 m_nested_4 m_next_4 m_token_4 = some ex4 → (uc8 fun m_beginsAt_x4 m_codeCount_x4 m_codes_x4 m_error_x4 m_errorAt_x4 m_nested_x4 m_next_x4 m_token_x4 => p10_compileConjunction_J27 m_next_x4 m_beginsAt_x4 m_token_x4 m_error_x4 m_errorAt_x4 m_nested_x4 m_codeCount_x4 m_codes_x4) ex4 = some (m_beginsAt_9, m_codeCount_9, m_codes_9, m_error_9, m_errorAt_9, m_nested_9, m_next_9, m_token_9) → va_P (dC, dI) vwCl [(ad 0, .inr (10, oM ad m_undoCount m_thrown m_hasSnapshot a_m_fam m_rows m_lineLength m_formattedLength m_bufferLength m_limit m_next_4 m_beginsAt_4 m_token_4 m_error_4 m_errorAt_4 m_errorPosition m_nested_4 m_codeCount_4)), ((ad 24), .inl (cI, 800, .inl m_buffer)), ((ad 35), .inl (cI, 200, .inl m_codes_4))] H → va_D A [(ad 0, .inr (10, oM ad m_undoCount m_thrown m_hasSnapshot a_m_fam m_rows m_lineLength m_formattedLength m_bufferLength m_limit m_next_4 m_beginsAt_4 m_token_4 m_error_4 m_errorAt_4 m_errorPosition m_nested_4 m_codeCount_4)), ((ad 24), .inl (cI, 800, .inl m_buffer)), ((ad 35), .inl (cI, 200, .inl m_codes_4))] → va_S A s.heap H locs → lv_has ls 1 [(0, .ref (ad 0))] → W p l e ({ frames := fF + 1, cells := 0, slots := 0, locals := lF + 21 }) s m ([.ref (ad 0)] : List Value).toArray below meth c H locs 0 0 (MQ below (gQ dC dI none A [(ad 0, .inr (10, oM ad m_undoCount m_thrown m_hasSnapshot a_m_fam m_rows m_lineLength m_formattedLength m_bufferLength m_limit m_next_9 m_beginsAt_9 m_token_9 m_error_9 m_errorAt_9 m_errorPosition m_nested_9 m_codeCount_9)), ((ad 24), .inl (cI, 800, .inl m_buffer)), ((ad 35), .inl (cI, 200, .inl m_codes_9))]) ([.ref (ad 0)] : List Value).toArray s 0 0 A) (F0 m 4 ls []) := by
    intro n4
    induction n4 with
    | zero => intro m_beginsAt_4 m_codeCount_4 m_codes_4 m_error_4 m_errorAt_4 m_nested_4 m_next_4 m_token_4 ex4 H locs ls hf; rw [p10_compileConjunction_L4] at hf; cases hf
    | succ n4 ih4 =>
      intro m_beginsAt_4 m_codeCount_4 m_codes_4 m_error_4 m_errorAt_4 m_nested_4 m_next_4 m_token_4 ex4 H locs ls hf hk4 hP hD hS hl
      rw [p10_compileConjunction_L4, p10_compileConjunction_L4_B] at hf
      refine lv_aload_n hx hb dX10_compileConjunction_4 rfl (lv_at hl 0 rfl) ?_
      refine va_ldcSw (own := RX10) hx hb hown (hG.2.2.1 39 ("FamilyChartModel", 491, "and", 11) rfl) dX10_compileConjunction_5 ?_
      obtain ⟨⟨r8, m_beginsAt_8, m_next_8, m_token_8⟩, h9, hf⟩ := ob_s hf
      have hf := uc4_e hf
      refine gcVH (index := 493) S hE hG (c_X10_accept ad a_m_fam m_undoCount m_thrown m_hasSnapshot m_rows m_lineLength m_formattedLength m_bufferLength m_limit m_next_4 m_beginsAt_4 m_token_4 m_error_4 m_errorAt_4 m_errorPosition m_nested_4 m_codeCount_4 m_buffer 11 (by decide) r8 m_beginsAt_8 m_next_8 m_token_8 h9) mX10_accept tw2057 ⟨(show 5 + 1 ≤ fF + 1 by omega), (show 8 + (3 + 11) + (108) ≤ lF + 21 by omega)⟩ hP hD hS hA ⟨Nat.zero_le _, Nat.zero_le _⟩ 0 10 rfl rfl rfl (wr := [((ad 35), .inl (cI, 200, .inl m_codes_4))]) [0, 1] [2] rfl rfl rfl rfl (by decide) (As := [.ref (adK 11)]) (rest := []) rfl hl.1 rfl (Nat.le_of_ble_eq_true rfl) dX10_compileConjunction_8 (fun H locs hP hD hS => ?_)
      refine W.eq (g2 := F0 m 11 ls [.int (bI r8)]) rfl ?_
      have hP : va_P (dC, dI) vwCl [((ad 35), .inl (cI, 200, .inl m_codes_4)), (ad 0, .inr (10, oM ad m_undoCount m_thrown m_hasSnapshot a_m_fam m_rows m_lineLength m_formattedLength m_bufferLength m_limit m_next_8 m_beginsAt_8 m_token_8 m_error_4 m_errorAt_4 m_errorPosition m_nested_4 m_codeCount_4)), ((ad 24), .inl (cI, 800, .inl m_buffer))] H := hP
      have hD : va_D A [((ad 35), .inl (cI, 200, .inl m_codes_4)), (ad 0, .inr (10, oM ad m_undoCount m_thrown m_hasSnapshot a_m_fam m_rows m_lineLength m_formattedLength m_bufferLength m_limit m_next_8 m_beginsAt_8 m_token_8 m_error_4 m_errorAt_4 m_errorPosition m_nested_4 m_codeCount_4)), ((ad 24), .inl (cI, 800, .inl m_buffer))] := hD
      refine lv_if_eq (tgt := 27) hx hb dX10_compileConjunction_11 (by decide) (fun h9 => ?_) (fun h9 => ?_)
      · have hf := ctf (bI_0 h9) hf
        cases hf
        have hf := hk4
        have hf := uc8_e hf
        exact J27 m_next_8 m_beginsAt_8 m_token_8 m_error_4 m_errorAt_4 m_nested_4 m_codeCount_4 m_codes_4 H locs ls hf (hP.sub [1, 2, 0] rfl) (hD.sub [1, 2, 0] (by decide) rfl) hS (lv_sub hl [] rfl)
      · have hf := ctt (bI_1 h9) hf
        refine lv_aload_n hx hb dX10_compileConjunction_14 rfl (lv_at hl 0 rfl) ?_
        obtain ⟨⟨m_beginsAt_15, m_codeCount_15, m_codes_15, m_error_15, m_errorAt_15, m_nested_15, m_next_15, m_token_15⟩, h9, hf⟩ := ob_s hf
        have hf := uc8_e hf
        refine gcVH (index := 482) S hE hG (hF ad hNm a_m_fam m_undoCount m_thrown m_hasSnapshot m_rows m_lineLength m_formattedLength m_bufferLength m_limit m_next_8 m_beginsAt_8 m_token_8 m_error_4 m_errorAt_4 m_errorPosition m_nested_4 m_codeCount_4 m_buffer m_codes_4 m_beginsAt_15 m_codeCount_15 m_codes_15 m_error_15 m_errorAt_15 m_nested_15 m_next_15 m_token_15 h9) mX10_compileFactor tw2038 ⟨(show fF + 1 ≤ fF + 1 by omega), (show 8 + (2 + 11) + (lF) ≤ lF + 21 by omega)⟩ hP hD hS hA ⟨Nat.zero_le _, Nat.zero_le _⟩ 1 10 rfl rfl rfl (wr := []) [1, 2, 0] [] rfl rfl rfl rfl (by decide) (As := []) (rest := []) rfl hl.1 rfl (Nat.le_of_ble_eq_true rfl) dX10_compileConjunction_15 (fun H locs hP hD hS => ?_)
        refine W.eq (g2 := F0 m 18 ls []) rfl ?_
        have hP : va_P (dC, dI) vwCl [(ad 0, .inr (10, oM ad m_undoCount m_thrown m_hasSnapshot a_m_fam m_rows m_lineLength m_formattedLength m_bufferLength m_limit m_next_15 m_beginsAt_15 m_token_15 m_error_15 m_errorAt_15 m_errorPosition m_nested_15 m_codeCount_15)), ((ad 24), .inl (cI, 800, .inl m_buffer)), ((ad 35), .inl (cI, 200, .inl m_codes_15))] H := hP
        have hD : va_D A [(ad 0, .inr (10, oM ad m_undoCount m_thrown m_hasSnapshot a_m_fam m_rows m_lineLength m_formattedLength m_bufferLength m_limit m_next_15 m_beginsAt_15 m_token_15 m_error_15 m_errorAt_15 m_errorPosition m_nested_15 m_codeCount_15)), ((ad 24), .inl (cI, 800, .inl m_buffer)), ((ad 35), .inl (cI, 200, .inl m_codes_15))] := hD
        refine lv_aload_n hx hb dX10_compileConjunction_18 rfl (lv_at hl 0 rfl) ?_
        refine lv_bipush (v := -24) hx hb dX10_compileConjunction_19 (by decide) ?_
        obtain ⟨⟨m_codeCount_21, m_codes_21⟩, h9, hf⟩ := ob_s hf
        have hf := uc2_e hf
        refine gcV (index := 474) S hE (c_X10_emit ad a_m_fam m_undoCount m_thrown m_hasSnapshot m_rows m_lineLength m_formattedLength m_bufferLength m_limit m_next_15 m_beginsAt_15 m_token_15 m_error_15 m_errorAt_15 m_errorPosition m_nested_15 m_codeCount_15 m_codes_15 (-24 : Int32) m_codeCount_21 m_codes_21 h9) mX10_emit tw2047 ⟨(show 0 + 1 ≤ fF + 1 by omega), (show 8 + (2 + 11) + (0) ≤ lF + 21 by omega)⟩ hP hD hS hA ⟨Nat.zero_le _, Nat.zero_le _⟩ 0 10 rfl rfl rfl (wr := [((ad 24), .inl (cI, 800, .inl m_buffer))]) [0, 2] [1] rfl rfl rfl rfl (by decide) (As := [.int (-24 : Int32)]) (rest := []) rfl hl.1 rfl (Nat.le_of_ble_eq_true rfl) dX10_compileConjunction_21 (fun H locs hP hD hS => ?_)
        refine W.eq (g2 := F0 m 24 ls []) rfl ?_
        have hP : va_P (dC, dI) vwCl [((ad 24), .inl (cI, 800, .inl m_buffer)), (ad 0, .inr (10, oM ad m_undoCount m_thrown m_hasSnapshot a_m_fam m_rows m_lineLength m_formattedLength m_bufferLength m_limit m_next_15 m_beginsAt_15 m_token_15 m_error_15 m_errorAt_15 m_errorPosition m_nested_15 m_codeCount_21)), ((ad 35), .inl (cI, 200, .inl m_codes_21))] H := hP
        have hD : va_D A [((ad 24), .inl (cI, 800, .inl m_buffer)), (ad 0, .inr (10, oM ad m_undoCount m_thrown m_hasSnapshot a_m_fam m_rows m_lineLength m_formattedLength m_bufferLength m_limit m_next_15 m_beginsAt_15 m_token_15 m_error_15 m_errorAt_15 m_errorPosition m_nested_15 m_codeCount_21)), ((ad 35), .inl (cI, 200, .inl m_codes_21))] := hD
        refine lv_goto (tgt := 4) hx hb dX10_compileConjunction_24 (by decide) ?_
        exact ih4 m_beginsAt_15 m_codeCount_21 m_codes_21 m_error_15 m_errorAt_15 m_nested_15 m_next_15 m_token_15 ex4 H locs ls hf hk4 (hP.sub [1, 0, 2] rfl) (hD.sub [1, 0, 2] (by decide) rfl) hS (lv_sub hl [0] rfl)
  obtain ⟨ex, h9, hf⟩ := ob_s hf
  exact K4 FU m_beginsAt_1 m_codeCount_1 m_codes_1 m_error_1 m_errorAt_1 m_nested_1 m_next_1 m_token_1 ex H locs ls h9 hf hP hD hS (lv_sub hl [0] rfl)
set_option maxHeartbeats 4000000 in
set_option maxRecDepth 100000 in
theorem c_X10_compileTest_o (kF : Int32 → Int32 → Int32 → Int32 → Int32 → Int32 → Int32 → Int32 → (Nat → Int32) → (Nat → Int32) → Option (Int32 × Int32 × (Nat → Int32) × Int32 × Int32 × Int32 × Int32 × Int32)) (fF lF : Nat) (hbF : 60 ≤ fF) (hbL : 3000 ≤ lF) (hF : ∀ (ad : Nat → Nat) (hNm : gNm adV ad) (a_m_fam : Nat) (m_undoCount : Int32) (m_thrown : Int32) (m_hasSnapshot : Bool) (m_rows : Int32) (m_lineLength : Int32) (m_formattedLength : Int32) (m_bufferLength : Int32) (m_limit : Int32) (m_next : Int32) (m_beginsAt : Int32) (m_token : Int32) (m_error : Int32) (m_errorAt : Int32) (m_errorPosition : Int32) (m_nested : Int32) (m_codeCount : Int32) (m_buffer : Nat → Int32) (m_codes : Nat → Int32) (m_beginsAt_9 : Int32) (m_codeCount_9 : Int32) (m_codes_9 : Nat → Int32) (m_error_9 : Int32) (m_errorAt_9 : Int32) (m_nested_9 : Int32) (m_next_9 : Int32) (m_token_9 : Int32) (_ : kF m_limit m_next m_beginsAt m_token m_error m_errorAt m_nested m_codeCount m_buffer m_codes = some (m_beginsAt_9, m_codeCount_9, m_codes_9, m_error_9, m_errorAt_9, m_nested_9, m_next_9, m_token_9)), gMH l dC dI cI cJ cZ adK adV yX10_compileFactor cX10_compileFactor 2 none fF lF [.ref (ad 0)] [(ad 0, .inr (10, oM ad m_undoCount m_thrown m_hasSnapshot a_m_fam m_rows m_lineLength m_formattedLength m_bufferLength m_limit m_next m_beginsAt m_token m_error m_errorAt m_errorPosition m_nested m_codeCount)), ((ad 24), .inl (cI, 800, .inl m_buffer)), ((ad 35), .inl (cI, 200, .inl m_codes))] [(ad 0, .inr (10, oM ad m_undoCount m_thrown m_hasSnapshot a_m_fam m_rows m_lineLength m_formattedLength m_bufferLength m_limit m_next_9 m_beginsAt_9 m_token_9 m_error_9 m_errorAt_9 m_errorPosition m_nested_9 m_codeCount_9)), ((ad 24), .inl (cI, 800, .inl m_buffer)), ((ad 35), .inl (cI, 200, .inl m_codes_9))] none) (ad : Nat → Nat) (hNm : gNm adV ad) (a_m_fam : Nat) (m_undoCount : Int32) (m_thrown : Int32) (m_hasSnapshot : Bool) (m_rows : Int32) (m_lineLength : Int32) (m_formattedLength : Int32) (m_bufferLength : Int32) (m_limit : Int32) (m_next : Int32) (m_beginsAt : Int32) (m_token : Int32) (m_error : Int32) (m_errorAt : Int32) (m_errorPosition : Int32) (m_nested : Int32) (m_codeCount : Int32) (m_buffer : Nat → Int32) (m_codes : Nat → Int32) (m_beginsAt_9 : Int32) (m_codeCount_9 : Int32) (m_codes_9 : Nat → Int32) (m_error_9 : Int32) (m_errorAt_9 : Int32) (m_nested_9 : Int32) (m_next_9 : Int32) (m_token_9 : Int32) (hf : p10_compileTest kF m_limit m_next m_beginsAt m_token m_error m_errorAt m_nested m_codeCount m_buffer m_codes = some (m_beginsAt_9, m_codeCount_9, m_codes_9, m_error_9, m_errorAt_9, m_nested_9, m_next_9, m_token_9)) : gMH l dC dI cI cJ cZ adK adV yX10_compileTest cX10_compileTest 1 none (fF + 2) (lF + 41) [.ref (ad 0)] [(ad 0, .inr (10, oM ad m_undoCount m_thrown m_hasSnapshot a_m_fam m_rows m_lineLength m_formattedLength m_bufferLength m_limit m_next m_beginsAt m_token m_error m_errorAt m_errorPosition m_nested m_codeCount)), ((ad 24), .inl (cI, 800, .inl m_buffer)), ((ad 35), .inl (cI, 200, .inl m_codes))] [(ad 0, .inr (10, oM ad m_undoCount m_thrown m_hasSnapshot a_m_fam m_rows m_lineLength m_formattedLength m_bufferLength m_limit m_next_9 m_beginsAt_9 m_token_9 m_error_9 m_errorAt_9 m_errorPosition m_nested_9 m_codeCount_9)), ((ad 24), .inl (cI, 800, .inl m_buffer)), ((ad 35), .inl (cI, 200, .inl m_codes_9))] none := by
  refine g_startH (own := RX10) (by decide +kernel) rfl (Nat.le_of_ble_eq_true rfl) ?_
  intro p e s m below meth c A ls S hr hlocks hE hG hP hD hS hA hl hin
  have hx := S.1
  have hb := S.2.1
  have hml := S.2.2.1
  have hown := S.2.2.2.1
  have htg : ∀ z ∈ gw, z.before ([.ref (ad 0)] : List Value).toArray s = true := fun w h => S.2.2.2.2 w (List.mem_cons_of_mem _ h)
  have hl : lv_has ls 1 [(0, .ref (ad 0))] := hl
  have hS0 := hS
  obtain ⟨H, hH⟩ : ∃ H, H = s.heap := ⟨_, rfl⟩
  obtain ⟨locs, hlc⟩ : ∃ locs : List Loc, locs = [] := ⟨_, rfl⟩
  have hS : va_S A s.heap H locs := by rw [hH, hlc]; exact hS0
  have hP : va_P (dC, dI) vwCl [(ad 0, .inr (10, oM ad m_undoCount m_thrown m_hasSnapshot a_m_fam m_rows m_lineLength m_formattedLength m_bufferLength m_limit m_next m_beginsAt m_token m_error m_errorAt m_errorPosition m_nested m_codeCount)), ((ad 24), .inl (cI, 800, .inl m_buffer)), ((ad 35), .inl (cI, 200, .inl m_codes))] H := by rw [hH]; exact hP
  suffices hgo : W p l e ({ frames := fF + 2, cells := 0, slots := 0, locals := lF + 41 }) s m ([.ref (ad 0)] : List Value).toArray below meth c H locs 0 0 (MQ below (gQ dC dI none A [(ad 0, .inr (10, oM ad m_undoCount m_thrown m_hasSnapshot a_m_fam m_rows m_lineLength m_formattedLength m_bufferLength m_limit m_next_9 m_beginsAt_9 m_token_9 m_error_9 m_errorAt_9 m_errorPosition m_nested_9 m_codeCount_9)), ((ad 24), .inl (cI, 800, .inl m_buffer)), ((ad 35), .inl (cI, 200, .inl m_codes_9))]) ([.ref (ad 0)] : List Value).toArray s 0 0 A) (F0 m 0 ls []) by rw [hH, hlc] at hgo; exact hgo
  rw [p10_compileTest] at hf
  have J27 : ∀ (m_next_27 : Int32) (m_beginsAt_27 : Int32) (m_token_27 : Int32) (m_error_27 : Int32) (m_errorAt_27 : Int32) (m_nested_27 : Int32) (m_codeCount_27 : Int32) (m_codes_27 : Nat → Int32) (H : Heap) (locs : List Loc) (ls : Array Slot), p10_compileTest_J27 m_next_27 m_beginsAt_27 m_token_27 m_error_27 m_errorAt_27 m_nested_27 m_codeCount_27 m_codes_27 = some (m_beginsAt_9, m_codeCount_9, m_codes_9, m_error_9, m_errorAt_9, m_nested_9, m_next_9, m_token_9) → va_P (dC, dI) vwCl [(ad 0, .inr (10, oM ad m_undoCount m_thrown m_hasSnapshot a_m_fam m_rows m_lineLength m_formattedLength m_bufferLength m_limit m_next_27 m_beginsAt_27 m_token_27 m_error_27 m_errorAt_27 m_errorPosition m_nested_27 m_codeCount_27)), ((ad 24), .inl (cI, 800, .inl m_buffer)), ((ad 35), .inl (cI, 200, .inl m_codes_27))] H → va_D A [(ad 0, .inr (10, oM ad m_undoCount m_thrown m_hasSnapshot a_m_fam m_rows m_lineLength m_formattedLength m_bufferLength m_limit m_next_27 m_beginsAt_27 m_token_27 m_error_27 m_errorAt_27 m_errorPosition m_nested_27 m_codeCount_27)), ((ad 24), .inl (cI, 800, .inl m_buffer)), ((ad 35), .inl (cI, 200, .inl m_codes_27))] → va_S A s.heap H locs → lv_has ls 1 [] → W p l e ({ frames := fF + 2, cells := 0, slots := 0, locals := lF + 41 }) s m ([.ref (ad 0)] : List Value).toArray below meth c H locs 0 0 (MQ below (gQ dC dI none A [(ad 0, .inr (10, oM ad m_undoCount m_thrown m_hasSnapshot a_m_fam m_rows m_lineLength m_formattedLength m_bufferLength m_limit m_next_9 m_beginsAt_9 m_token_9 m_error_9 m_errorAt_9 m_errorPosition m_nested_9 m_codeCount_9)), ((ad 24), .inl (cI, 800, .inl m_buffer)), ((ad 35), .inl (cI, 200, .inl m_codes_9))]) ([.ref (ad 0)] : List Value).toArray s 0 0 A) (F0 m 27 ls []) := by
    intro m_next_27 m_beginsAt_27 m_token_27 m_error_27 m_errorAt_27 m_nested_27 m_codeCount_27 m_codes_27 H locs ls hf hP hD hS hl
    rw [p10_compileTest_J27] at hf
    cases hf
    exact g_vret S hr hlocks hP hD hS dX10_compileTest_27
  refine lv_aload_n hx hb dX10_compileTest_0 rfl (lv_at hl 0 rfl) ?_
  obtain ⟨⟨m_beginsAt_1, m_codeCount_1, m_codes_1, m_error_1, m_errorAt_1, m_nested_1, m_next_1, m_token_1⟩, h9, hf⟩ := ob_s hf
  have hf := uc8_e hf
  refine gcVH (index := 496) S hE hG (c_X10_compileConjunction_o kF fF lF hbF hbL hF ad hNm a_m_fam m_undoCount m_thrown m_hasSnapshot m_rows m_lineLength m_formattedLength m_bufferLength m_limit m_next m_beginsAt m_token m_error m_errorAt m_errorPosition m_nested m_codeCount m_buffer m_codes m_beginsAt_1 m_codeCount_1 m_codes_1 m_error_1 m_errorAt_1 m_nested_1 m_next_1 m_token_1 h9) mX10_compileConjunction tw2034 ⟨(show fF + 1 + 1 ≤ fF + 2 by omega), (show 8 + (1 + 11) + (lF + 21) ≤ lF + 41 by omega)⟩ hP hD hS hA ⟨Nat.zero_le _, Nat.zero_le _⟩ 0 10 rfl rfl rfl (wr := []) [0, 1, 2] [] rfl rfl rfl rfl (by decide) (As := []) (rest := []) rfl hl.1 rfl (Nat.le_of_ble_eq_true rfl) dX10_compileTest_1 (fun H locs hP hD hS => ?_)
  refine W.eq (g2 := F0 m 4 ls []) rfl ?_
  have hP : va_P (dC, dI) vwCl [(ad 0, .inr (10, oM ad m_undoCount m_thrown m_hasSnapshot a_m_fam m_rows m_lineLength m_formattedLength m_bufferLength m_limit m_next_1 m_beginsAt_1 m_token_1 m_error_1 m_errorAt_1 m_errorPosition m_nested_1 m_codeCount_1)), ((ad 24), .inl (cI, 800, .inl m_buffer)), ((ad 35), .inl (cI, 200, .inl m_codes_1))] H := hP
  have hD : va_D A [(ad 0, .inr (10, oM ad m_undoCount m_thrown m_hasSnapshot a_m_fam m_rows m_lineLength m_formattedLength m_bufferLength m_limit m_next_1 m_beginsAt_1 m_token_1 m_error_1 m_errorAt_1 m_errorPosition m_nested_1 m_codeCount_1)), ((ad 24), .inl (cI, 800, .inl m_buffer)), ((ad 35), .inl (cI, 200, .inl m_codes_1))] := hD
  have K4 : ∀ (n4 : Nat) (m_beginsAt_4 : Int32) (m_codeCount_4 : Int32) (m_codes_4 : Nat → Int32) (m_error_4 : Int32) (m_errorAt_4 : Int32) (m_nested_4 : Int32) (m_next_4 : Int32) (m_token_4 : Int32) (ex4 : Int32 × Int32 × (Nat → Int32) × Int32 × Int32 × Int32 × Int32 × Int32) (H : Heap) (locs : List Loc) (ls : Array Slot), p10_compileTest_L4 kF m_buffer m_limit n4 m_beginsAt_4 m_codeCount_4 m_codes_4 m_error_4 m_errorAt_4 m_nested_4 m_next_4 m_token_4 = some ex4 → (uc8 fun m_beginsAt_x4 m_codeCount_x4 m_codes_x4 m_error_x4 m_errorAt_x4 m_nested_x4 m_next_x4 m_token_x4 => p10_compileTest_J27 m_next_x4 m_beginsAt_x4 m_token_x4 m_error_x4 m_errorAt_x4 m_nested_x4 m_codeCount_x4 m_codes_x4) ex4 = some (m_beginsAt_9, m_codeCount_9, m_codes_9, m_error_9, m_errorAt_9, m_nested_9, m_next_9, m_token_9) → va_P (dC, dI) vwCl [(ad 0, .inr (10, oM ad m_undoCount m_thrown m_hasSnapshot a_m_fam m_rows m_lineLength m_formattedLength m_bufferLength m_limit m_next_4 m_beginsAt_4 m_token_4 m_error_4 m_errorAt_4 m_errorPosition m_nested_4 m_codeCount_4)), ((ad 24), .inl (cI, 800, .inl m_buffer)), ((ad 35), .inl (cI, 200, .inl m_codes_4))] H → va_D A [(ad 0, .inr (10, oM ad m_undoCount m_thrown m_hasSnapshot a_m_fam m_rows m_lineLength m_formattedLength m_bufferLength m_limit m_next_4 m_beginsAt_4 m_token_4 m_error_4 m_errorAt_4 m_errorPosition m_nested_4 m_codeCount_4)), ((ad 24), .inl (cI, 800, .inl m_buffer)), ((ad 35), .inl (cI, 200, .inl m_codes_4))] → va_S A s.heap H locs → lv_has ls 1 [(0, .ref (ad 0))] → W p l e ({ frames := fF + 2, cells := 0, slots := 0, locals := lF + 41 }) s m ([.ref (ad 0)] : List Value).toArray below meth c H locs 0 0 (MQ below (gQ dC dI none A [(ad 0, .inr (10, oM ad m_undoCount m_thrown m_hasSnapshot a_m_fam m_rows m_lineLength m_formattedLength m_bufferLength m_limit m_next_9 m_beginsAt_9 m_token_9 m_error_9 m_errorAt_9 m_errorPosition m_nested_9 m_codeCount_9)), ((ad 24), .inl (cI, 800, .inl m_buffer)), ((ad 35), .inl (cI, 200, .inl m_codes_9))]) ([.ref (ad 0)] : List Value).toArray s 0 0 A) (F0 m 4 ls []) := by
    intro n4
    induction n4 with
    | zero => intro m_beginsAt_4 m_codeCount_4 m_codes_4 m_error_4 m_errorAt_4 m_nested_4 m_next_4 m_token_4 ex4 H locs ls hf; rw [p10_compileTest_L4] at hf; cases hf
    | succ n4 ih4 =>
      intro m_beginsAt_4 m_codeCount_4 m_codes_4 m_error_4 m_errorAt_4 m_nested_4 m_next_4 m_token_4 ex4 H locs ls hf hk4 hP hD hS hl
      rw [p10_compileTest_L4, p10_compileTest_L4_B] at hf
      refine lv_aload_n hx hb dX10_compileTest_4 rfl (lv_at hl 0 rfl) ?_
      refine va_ldcSw (own := RX10) hx hb hown (hG.2.2.1 40 ("FamilyChartModel", 499, "or", 12) rfl) dX10_compileTest_5 ?_
      obtain ⟨⟨r8, m_beginsAt_8, m_next_8, m_token_8⟩, h9, hf⟩ := ob_s hf
      have hf := uc4_e hf
      refine gcVH (index := 493) S hE hG (c_X10_accept ad a_m_fam m_undoCount m_thrown m_hasSnapshot m_rows m_lineLength m_formattedLength m_bufferLength m_limit m_next_4 m_beginsAt_4 m_token_4 m_error_4 m_errorAt_4 m_errorPosition m_nested_4 m_codeCount_4 m_buffer 12 (by decide) r8 m_beginsAt_8 m_next_8 m_token_8 h9) mX10_accept tw2057 ⟨(show 5 + 1 ≤ fF + 2 by omega), (show 8 + (3 + 11) + (108) ≤ lF + 41 by omega)⟩ hP hD hS hA ⟨Nat.zero_le _, Nat.zero_le _⟩ 0 10 rfl rfl rfl (wr := [((ad 35), .inl (cI, 200, .inl m_codes_4))]) [0, 1] [2] rfl rfl rfl rfl (by decide) (As := [.ref (adK 12)]) (rest := []) rfl hl.1 rfl (Nat.le_of_ble_eq_true rfl) dX10_compileTest_8 (fun H locs hP hD hS => ?_)
      refine W.eq (g2 := F0 m 11 ls [.int (bI r8)]) rfl ?_
      have hP : va_P (dC, dI) vwCl [((ad 35), .inl (cI, 200, .inl m_codes_4)), (ad 0, .inr (10, oM ad m_undoCount m_thrown m_hasSnapshot a_m_fam m_rows m_lineLength m_formattedLength m_bufferLength m_limit m_next_8 m_beginsAt_8 m_token_8 m_error_4 m_errorAt_4 m_errorPosition m_nested_4 m_codeCount_4)), ((ad 24), .inl (cI, 800, .inl m_buffer))] H := hP
      have hD : va_D A [((ad 35), .inl (cI, 200, .inl m_codes_4)), (ad 0, .inr (10, oM ad m_undoCount m_thrown m_hasSnapshot a_m_fam m_rows m_lineLength m_formattedLength m_bufferLength m_limit m_next_8 m_beginsAt_8 m_token_8 m_error_4 m_errorAt_4 m_errorPosition m_nested_4 m_codeCount_4)), ((ad 24), .inl (cI, 800, .inl m_buffer))] := hD
      refine lv_if_eq (tgt := 27) hx hb dX10_compileTest_11 (by decide) (fun h9 => ?_) (fun h9 => ?_)
      · have hf := ctf (bI_0 h9) hf
        cases hf
        have hf := hk4
        have hf := uc8_e hf
        exact J27 m_next_8 m_beginsAt_8 m_token_8 m_error_4 m_errorAt_4 m_nested_4 m_codeCount_4 m_codes_4 H locs ls hf (hP.sub [1, 2, 0] rfl) (hD.sub [1, 2, 0] (by decide) rfl) hS (lv_sub hl [] rfl)
      · have hf := ctt (bI_1 h9) hf
        refine lv_aload_n hx hb dX10_compileTest_14 rfl (lv_at hl 0 rfl) ?_
        obtain ⟨⟨m_beginsAt_15, m_codeCount_15, m_codes_15, m_error_15, m_errorAt_15, m_nested_15, m_next_15, m_token_15⟩, h9, hf⟩ := ob_s hf
        have hf := uc8_e hf
        refine gcVH (index := 496) S hE hG (c_X10_compileConjunction_o kF fF lF hbF hbL hF ad hNm a_m_fam m_undoCount m_thrown m_hasSnapshot m_rows m_lineLength m_formattedLength m_bufferLength m_limit m_next_8 m_beginsAt_8 m_token_8 m_error_4 m_errorAt_4 m_errorPosition m_nested_4 m_codeCount_4 m_buffer m_codes_4 m_beginsAt_15 m_codeCount_15 m_codes_15 m_error_15 m_errorAt_15 m_nested_15 m_next_15 m_token_15 h9) mX10_compileConjunction tw2034 ⟨(show fF + 1 + 1 ≤ fF + 2 by omega), (show 8 + (1 + 11) + (lF + 21) ≤ lF + 41 by omega)⟩ hP hD hS hA ⟨Nat.zero_le _, Nat.zero_le _⟩ 1 10 rfl rfl rfl (wr := []) [1, 2, 0] [] rfl rfl rfl rfl (by decide) (As := []) (rest := []) rfl hl.1 rfl (Nat.le_of_ble_eq_true rfl) dX10_compileTest_15 (fun H locs hP hD hS => ?_)
        refine W.eq (g2 := F0 m 18 ls []) rfl ?_
        have hP : va_P (dC, dI) vwCl [(ad 0, .inr (10, oM ad m_undoCount m_thrown m_hasSnapshot a_m_fam m_rows m_lineLength m_formattedLength m_bufferLength m_limit m_next_15 m_beginsAt_15 m_token_15 m_error_15 m_errorAt_15 m_errorPosition m_nested_15 m_codeCount_15)), ((ad 24), .inl (cI, 800, .inl m_buffer)), ((ad 35), .inl (cI, 200, .inl m_codes_15))] H := hP
        have hD : va_D A [(ad 0, .inr (10, oM ad m_undoCount m_thrown m_hasSnapshot a_m_fam m_rows m_lineLength m_formattedLength m_bufferLength m_limit m_next_15 m_beginsAt_15 m_token_15 m_error_15 m_errorAt_15 m_errorPosition m_nested_15 m_codeCount_15)), ((ad 24), .inl (cI, 800, .inl m_buffer)), ((ad 35), .inl (cI, 200, .inl m_codes_15))] := hD
        refine lv_aload_n hx hb dX10_compileTest_18 rfl (lv_at hl 0 rfl) ?_
        refine lv_bipush (v := -25) hx hb dX10_compileTest_19 (by decide) ?_
        obtain ⟨⟨m_codeCount_21, m_codes_21⟩, h9, hf⟩ := ob_s hf
        have hf := uc2_e hf
        refine gcV (index := 474) S hE (c_X10_emit ad a_m_fam m_undoCount m_thrown m_hasSnapshot m_rows m_lineLength m_formattedLength m_bufferLength m_limit m_next_15 m_beginsAt_15 m_token_15 m_error_15 m_errorAt_15 m_errorPosition m_nested_15 m_codeCount_15 m_codes_15 (-25 : Int32) m_codeCount_21 m_codes_21 h9) mX10_emit tw2047 ⟨(show 0 + 1 ≤ fF + 2 by omega), (show 8 + (2 + 11) + (0) ≤ lF + 41 by omega)⟩ hP hD hS hA ⟨Nat.zero_le _, Nat.zero_le _⟩ 0 10 rfl rfl rfl (wr := [((ad 24), .inl (cI, 800, .inl m_buffer))]) [0, 2] [1] rfl rfl rfl rfl (by decide) (As := [.int (-25 : Int32)]) (rest := []) rfl hl.1 rfl (Nat.le_of_ble_eq_true rfl) dX10_compileTest_21 (fun H locs hP hD hS => ?_)
        refine W.eq (g2 := F0 m 24 ls []) rfl ?_
        have hP : va_P (dC, dI) vwCl [((ad 24), .inl (cI, 800, .inl m_buffer)), (ad 0, .inr (10, oM ad m_undoCount m_thrown m_hasSnapshot a_m_fam m_rows m_lineLength m_formattedLength m_bufferLength m_limit m_next_15 m_beginsAt_15 m_token_15 m_error_15 m_errorAt_15 m_errorPosition m_nested_15 m_codeCount_21)), ((ad 35), .inl (cI, 200, .inl m_codes_21))] H := hP
        have hD : va_D A [((ad 24), .inl (cI, 800, .inl m_buffer)), (ad 0, .inr (10, oM ad m_undoCount m_thrown m_hasSnapshot a_m_fam m_rows m_lineLength m_formattedLength m_bufferLength m_limit m_next_15 m_beginsAt_15 m_token_15 m_error_15 m_errorAt_15 m_errorPosition m_nested_15 m_codeCount_21)), ((ad 35), .inl (cI, 200, .inl m_codes_21))] := hD
        refine lv_goto (tgt := 4) hx hb dX10_compileTest_24 (by decide) ?_
        exact ih4 m_beginsAt_15 m_codeCount_21 m_codes_21 m_error_15 m_errorAt_15 m_nested_15 m_next_15 m_token_15 ex4 H locs ls hf hk4 (hP.sub [1, 0, 2] rfl) (hD.sub [1, 0, 2] (by decide) rfl) hS (lv_sub hl [0] rfl)
  obtain ⟨ex, h9, hf⟩ := ob_s hf
  exact K4 FU m_beginsAt_1 m_codeCount_1 m_codes_1 m_error_1 m_errorAt_1 m_nested_1 m_next_1 m_token_1 ex H locs ls h9 hf hP hD hS (lv_sub hl [0] rfl)
set_option maxHeartbeats 4000000 in
set_option maxRecDepth 100000 in
theorem c_X10_compileFactor_o (kF : Int32 → Int32 → Int32 → Int32 → Int32 → Int32 → Int32 → Int32 → (Nat → Int32) → (Nat → Int32) → Option (Int32 × Int32 × (Nat → Int32) × Int32 × Int32 × Int32 × Int32 × Int32)) (fF lF : Nat) (hbF : 60 ≤ fF) (hbL : 3000 ≤ lF) (hF : ∀ (ad : Nat → Nat) (hNm : gNm adV ad) (a_m_fam : Nat) (m_undoCount : Int32) (m_thrown : Int32) (m_hasSnapshot : Bool) (m_rows : Int32) (m_lineLength : Int32) (m_formattedLength : Int32) (m_bufferLength : Int32) (m_limit : Int32) (m_next : Int32) (m_beginsAt : Int32) (m_token : Int32) (m_error : Int32) (m_errorAt : Int32) (m_errorPosition : Int32) (m_nested : Int32) (m_codeCount : Int32) (m_buffer : Nat → Int32) (m_codes : Nat → Int32) (m_beginsAt_9 : Int32) (m_codeCount_9 : Int32) (m_codes_9 : Nat → Int32) (m_error_9 : Int32) (m_errorAt_9 : Int32) (m_nested_9 : Int32) (m_next_9 : Int32) (m_token_9 : Int32) (_ : kF m_limit m_next m_beginsAt m_token m_error m_errorAt m_nested m_codeCount m_buffer m_codes = some (m_beginsAt_9, m_codeCount_9, m_codes_9, m_error_9, m_errorAt_9, m_nested_9, m_next_9, m_token_9)), gMH l dC dI cI cJ cZ adK adV yX10_compileFactor cX10_compileFactor 2 none fF lF [.ref (ad 0)] [(ad 0, .inr (10, oM ad m_undoCount m_thrown m_hasSnapshot a_m_fam m_rows m_lineLength m_formattedLength m_bufferLength m_limit m_next m_beginsAt m_token m_error m_errorAt m_errorPosition m_nested m_codeCount)), ((ad 24), .inl (cI, 800, .inl m_buffer)), ((ad 35), .inl (cI, 200, .inl m_codes))] [(ad 0, .inr (10, oM ad m_undoCount m_thrown m_hasSnapshot a_m_fam m_rows m_lineLength m_formattedLength m_bufferLength m_limit m_next_9 m_beginsAt_9 m_token_9 m_error_9 m_errorAt_9 m_errorPosition m_nested_9 m_codeCount_9)), ((ad 24), .inl (cI, 800, .inl m_buffer)), ((ad 35), .inl (cI, 200, .inl m_codes_9))] none) (ad : Nat → Nat) (hNm : gNm adV ad) (a_m_fam : Nat) (m_undoCount : Int32) (m_thrown : Int32) (m_hasSnapshot : Bool) (m_rows : Int32) (m_lineLength : Int32) (m_formattedLength : Int32) (m_bufferLength : Int32) (m_limit : Int32) (m_next : Int32) (m_beginsAt : Int32) (m_token : Int32) (m_error : Int32) (m_errorAt : Int32) (m_errorPosition : Int32) (m_nested : Int32) (m_codeCount : Int32) (m_buffer : Nat → Int32) (m_codes : Nat → Int32) (m_beginsAt_9 : Int32) (m_codeCount_9 : Int32) (m_codes_9 : Nat → Int32) (m_error_9 : Int32) (m_errorAt_9 : Int32) (m_nested_9 : Int32) (m_next_9 : Int32) (m_token_9 : Int32) (hf : p10_compileFactor_O kF m_limit m_next m_beginsAt m_token m_error m_errorAt m_nested m_codeCount m_buffer m_codes = some (m_beginsAt_9, m_codeCount_9, m_codes_9, m_error_9, m_errorAt_9, m_nested_9, m_next_9, m_token_9)) : gMH l dC dI cI cJ cZ adK adV yX10_compileFactor cX10_compileFactor 2 none (fF + 3) (lF + 61) [.ref (ad 0)] [(ad 0, .inr (10, oM ad m_undoCount m_thrown m_hasSnapshot a_m_fam m_rows m_lineLength m_formattedLength m_bufferLength m_limit m_next m_beginsAt m_token m_error m_errorAt m_errorPosition m_nested m_codeCount)), ((ad 24), .inl (cI, 800, .inl m_buffer)), ((ad 35), .inl (cI, 200, .inl m_codes))] [(ad 0, .inr (10, oM ad m_undoCount m_thrown m_hasSnapshot a_m_fam m_rows m_lineLength m_formattedLength m_bufferLength m_limit m_next_9 m_beginsAt_9 m_token_9 m_error_9 m_errorAt_9 m_errorPosition m_nested_9 m_codeCount_9)), ((ad 24), .inl (cI, 800, .inl m_buffer)), ((ad 35), .inl (cI, 200, .inl m_codes_9))] none := by
  refine g_startH (own := RX10) (by decide +kernel) rfl (Nat.le_of_ble_eq_true rfl) ?_
  intro p e s m below meth c A ls S hr hlocks hE hG hP hD hS hA hl hin
  have hx := S.1
  have hb := S.2.1
  have hml := S.2.2.1
  have hown := S.2.2.2.1
  have htg : ∀ z ∈ gw, z.before ([.ref (ad 0)] : List Value).toArray s = true := fun w h => S.2.2.2.2 w (List.mem_cons_of_mem _ h)
  have hl : lv_has ls 2 [(0, .ref (ad 0))] := hl
  have hS0 := hS
  obtain ⟨H, hH⟩ : ∃ H, H = s.heap := ⟨_, rfl⟩
  obtain ⟨locs, hlc⟩ : ∃ locs : List Loc, locs = [] := ⟨_, rfl⟩
  have hS : va_S A s.heap H locs := by rw [hH, hlc]; exact hS0
  have hP : va_P (dC, dI) vwCl [(ad 0, .inr (10, oM ad m_undoCount m_thrown m_hasSnapshot a_m_fam m_rows m_lineLength m_formattedLength m_bufferLength m_limit m_next m_beginsAt m_token m_error m_errorAt m_errorPosition m_nested m_codeCount)), ((ad 24), .inl (cI, 800, .inl m_buffer)), ((ad 35), .inl (cI, 200, .inl m_codes))] H := by rw [hH]; exact hP
  suffices hgo : W p l e ({ frames := fF + 3, cells := 0, slots := 0, locals := lF + 61 }) s m ([.ref (ad 0)] : List Value).toArray below meth c H locs 0 0 (MQ below (gQ dC dI none A [(ad 0, .inr (10, oM ad m_undoCount m_thrown m_hasSnapshot a_m_fam m_rows m_lineLength m_formattedLength m_bufferLength m_limit m_next_9 m_beginsAt_9 m_token_9 m_error_9 m_errorAt_9 m_errorPosition m_nested_9 m_codeCount_9)), ((ad 24), .inl (cI, 800, .inl m_buffer)), ((ad 35), .inl (cI, 200, .inl m_codes_9))]) ([.ref (ad 0)] : List Value).toArray s 0 0 A) (F0 m 0 ls []) by rw [hH, hlc] at hgo; exact hgo
  rw [p10_compileFactor_O] at hf
  have J147 : ∀ (v1_147 : Int32) (m_next_147 : Int32) (m_beginsAt_147 : Int32) (m_token_147 : Int32) (m_error_147 : Int32) (m_errorAt_147 : Int32) (m_codeCount_147 : Int32) (m_codes_147 : Nat → Int32) (H : Heap) (locs : List Loc) (ls : Array Slot), p10_compileFactor_J147 m_buffer m_limit m_nested v1_147 m_next_147 m_beginsAt_147 m_token_147 m_error_147 m_errorAt_147 m_codeCount_147 m_codes_147 = some (m_beginsAt_9, m_codeCount_9, m_codes_9, m_error_9, m_errorAt_9, m_nested_9, m_next_9, m_token_9) → va_P (dC, dI) vwCl [(ad 0, .inr (10, oM ad m_undoCount m_thrown m_hasSnapshot a_m_fam m_rows m_lineLength m_formattedLength m_bufferLength m_limit m_next_147 m_beginsAt_147 m_token_147 m_error_147 m_errorAt_147 m_errorPosition m_nested m_codeCount_147)), ((ad 24), .inl (cI, 800, .inl m_buffer)), ((ad 35), .inl (cI, 200, .inl m_codes_147))] H → va_D A [(ad 0, .inr (10, oM ad m_undoCount m_thrown m_hasSnapshot a_m_fam m_rows m_lineLength m_formattedLength m_bufferLength m_limit m_next_147 m_beginsAt_147 m_token_147 m_error_147 m_errorAt_147 m_errorPosition m_nested m_codeCount_147)), ((ad 24), .inl (cI, 800, .inl m_buffer)), ((ad 35), .inl (cI, 200, .inl m_codes_147))] → va_S A s.heap H locs → lv_has ls 2 [(0, .ref (ad 0)), (1, .int v1_147)] → W p l e ({ frames := fF + 3, cells := 0, slots := 0, locals := lF + 61 }) s m ([.ref (ad 0)] : List Value).toArray below meth c H locs 0 0 (MQ below (gQ dC dI none A [(ad 0, .inr (10, oM ad m_undoCount m_thrown m_hasSnapshot a_m_fam m_rows m_lineLength m_formattedLength m_bufferLength m_limit m_next_9 m_beginsAt_9 m_token_9 m_error_9 m_errorAt_9 m_errorPosition m_nested_9 m_codeCount_9)), ((ad 24), .inl (cI, 800, .inl m_buffer)), ((ad 35), .inl (cI, 200, .inl m_codes_9))]) ([.ref (ad 0)] : List Value).toArray s 0 0 A) (F0 m 147 ls []) := by
    intro v1_147 m_next_147 m_beginsAt_147 m_token_147 m_error_147 m_errorAt_147 m_codeCount_147 m_codes_147 H locs ls hf hP hD hS hl
    rw [p10_compileFactor_J147] at hf
    refine lv_aload_n hx hb dX10_compileFactor_147 rfl (lv_at hl 0 rfl) ?_
    obtain ⟨⟨m_beginsAt_148, m_next_148, m_token_148⟩, h9, hf⟩ := ob_s hf
    have hf := uc3_e hf
    refine gcV (index := 419) S hE (c_X10_advance ad a_m_fam m_undoCount m_thrown m_hasSnapshot m_rows m_lineLength m_formattedLength m_bufferLength m_limit m_next_147 m_beginsAt_147 m_token_147 m_error_147 m_errorAt_147 m_errorPosition m_nested m_codeCount_147 m_buffer m_beginsAt_148 m_next_148 m_token_148 h9) mX10_advance tw1976 ⟨(show 3 + 1 ≤ fF + 3 by omega), (show 8 + (1 + 11) + (62) ≤ lF + 61 by omega)⟩ hP hD hS hA ⟨Nat.zero_le _, Nat.zero_le _⟩ 0 10 rfl rfl rfl (wr := [((ad 35), .inl (cI, 200, .inl m_codes_147))]) [0, 1] [2] rfl rfl rfl rfl (by decide) (As := []) (rest := []) rfl hl.1 rfl (Nat.le_of_ble_eq_true rfl) dX10_compileFactor_148 (fun H locs hP hD hS => ?_)
    refine W.eq (g2 := F0 m 151 ls []) rfl ?_
    have hP : va_P (dC, dI) vwCl [((ad 35), .inl (cI, 200, .inl m_codes_147)), (ad 0, .inr (10, oM ad m_undoCount m_thrown m_hasSnapshot a_m_fam m_rows m_lineLength m_formattedLength m_bufferLength m_limit m_next_148 m_beginsAt_148 m_token_148 m_error_147 m_errorAt_147 m_errorPosition m_nested m_codeCount_147)), ((ad 24), .inl (cI, 800, .inl m_buffer))] H := hP
    have hD : va_D A [((ad 35), .inl (cI, 200, .inl m_codes_147)), (ad 0, .inr (10, oM ad m_undoCount m_thrown m_hasSnapshot a_m_fam m_rows m_lineLength m_formattedLength m_bufferLength m_limit m_next_148 m_beginsAt_148 m_token_148 m_error_147 m_errorAt_147 m_errorPosition m_nested m_codeCount_147)), ((ad 24), .inl (cI, 800, .inl m_buffer))] := hD
    refine lv_aload_n hx hb dX10_compileFactor_151 rfl (lv_at hl 0 rfl) ?_
    obtain ⟨⟨m_beginsAt_152, m_codeCount_152, m_codes_152, m_error_152, m_errorAt_152, m_next_152, m_token_152⟩, h9, hf⟩ := ob_s hf
    have hf := uc7_e hf
    refine gcVH (index := 488) S hE hG (c_X10_compileValue ad hNm a_m_fam m_undoCount m_thrown m_hasSnapshot m_rows m_lineLength m_formattedLength m_bufferLength m_limit m_next_148 m_beginsAt_148 m_token_148 m_error_147 m_errorAt_147 m_errorPosition m_nested m_codeCount_147 m_buffer m_codes_147 m_beginsAt_152 m_codeCount_152 m_codes_152 m_error_152 m_errorAt_152 m_next_152 m_token_152 h9) mX10_compileValue tw2051 ⟨(show 5 + 1 ≤ fF + 3 by omega), (show 8 + (2 + 11) + (108) ≤ lF + 61 by omega)⟩ hP hD hS hA ⟨Nat.zero_le _, Nat.zero_le _⟩ 1 10 rfl rfl rfl (wr := []) [1, 2, 0] [] rfl rfl rfl rfl (by decide) (As := []) (rest := []) rfl hl.1 rfl (Nat.le_of_ble_eq_true rfl) dX10_compileFactor_152 (fun H locs hP hD hS => ?_)
    refine W.eq (g2 := F0 m 155 ls []) rfl ?_
    have hP : va_P (dC, dI) vwCl [(ad 0, .inr (10, oM ad m_undoCount m_thrown m_hasSnapshot a_m_fam m_rows m_lineLength m_formattedLength m_bufferLength m_limit m_next_152 m_beginsAt_152 m_token_152 m_error_152 m_errorAt_152 m_errorPosition m_nested m_codeCount_152)), ((ad 24), .inl (cI, 800, .inl m_buffer)), ((ad 35), .inl (cI, 200, .inl m_codes_152))] H := hP
    have hD : va_D A [(ad 0, .inr (10, oM ad m_undoCount m_thrown m_hasSnapshot a_m_fam m_rows m_lineLength m_formattedLength m_bufferLength m_limit m_next_152 m_beginsAt_152 m_token_152 m_error_152 m_errorAt_152 m_errorPosition m_nested m_codeCount_152)), ((ad 24), .inl (cI, 800, .inl m_buffer)), ((ad 35), .inl (cI, 200, .inl m_codes_152))] := hD
    refine lv_aload_n hx hb dX10_compileFactor_155 rfl (lv_at hl 0 rfl) ?_
    refine lv_iload_n hx hb dX10_compileFactor_156 rfl (lv_at hl 1 rfl) ?_
    obtain ⟨⟨m_codeCount_157, m_codes_157⟩, h9, hf⟩ := ob_s hf
    have hf := uc2_e hf
    refine gcV (index := 474) S hE (c_X10_emit ad a_m_fam m_undoCount m_thrown m_hasSnapshot m_rows m_lineLength m_formattedLength m_bufferLength m_limit m_next_152 m_beginsAt_152 m_token_152 m_error_152 m_errorAt_152 m_errorPosition m_nested m_codeCount_152 m_codes_152 v1_147 m_codeCount_157 m_codes_157 h9) mX10_emit tw2047 ⟨(show 0 + 1 ≤ fF + 3 by omega), (show 8 + (2 + 11) + (0) ≤ lF + 61 by omega)⟩ hP hD hS hA ⟨Nat.zero_le _, Nat.zero_le _⟩ 0 10 rfl rfl rfl (wr := [((ad 24), .inl (cI, 800, .inl m_buffer))]) [0, 2] [1] rfl rfl rfl rfl (by decide) (As := [.int v1_147]) (rest := []) rfl hl.1 rfl (Nat.le_of_ble_eq_true rfl) dX10_compileFactor_157 (fun H locs hP hD hS => ?_)
    refine W.eq (g2 := F0 m 160 ls []) rfl ?_
    have hP : va_P (dC, dI) vwCl [((ad 24), .inl (cI, 800, .inl m_buffer)), (ad 0, .inr (10, oM ad m_undoCount m_thrown m_hasSnapshot a_m_fam m_rows m_lineLength m_formattedLength m_bufferLength m_limit m_next_152 m_beginsAt_152 m_token_152 m_error_152 m_errorAt_152 m_errorPosition m_nested m_codeCount_157)), ((ad 35), .inl (cI, 200, .inl m_codes_157))] H := hP
    have hD : va_D A [((ad 24), .inl (cI, 800, .inl m_buffer)), (ad 0, .inr (10, oM ad m_undoCount m_thrown m_hasSnapshot a_m_fam m_rows m_lineLength m_formattedLength m_bufferLength m_limit m_next_152 m_beginsAt_152 m_token_152 m_error_152 m_errorAt_152 m_errorPosition m_nested m_codeCount_157)), ((ad 35), .inl (cI, 200, .inl m_codes_157))] := hD
    cases hf
    exact g_vret S hr hlocks (hP.sub [1, 0, 2] rfl) (hD.sub [1, 0, 2] (by decide) rfl) hS dX10_compileFactor_160
  have J122 : ∀ (v1_122 : Int32) (m_next_122 : Int32) (m_beginsAt_122 : Int32) (m_token_122 : Int32) (m_error_122 : Int32) (m_errorAt_122 : Int32) (m_codeCount_122 : Int32) (m_codes_122 : Nat → Int32) (H : Heap) (locs : List Loc) (ls : Array Slot), p10_compileFactor_J122 m_buffer m_limit m_nested v1_122 m_next_122 m_beginsAt_122 m_token_122 m_error_122 m_errorAt_122 m_codeCount_122 m_codes_122 = some (m_beginsAt_9, m_codeCount_9, m_codes_9, m_error_9, m_errorAt_9, m_nested_9, m_next_9, m_token_9) → va_P (dC, dI) vwCl [(ad 0, .inr (10, oM ad m_undoCount m_thrown m_hasSnapshot a_m_fam m_rows m_lineLength m_formattedLength m_bufferLength m_limit m_next_122 m_beginsAt_122 m_token_122 m_error_122 m_errorAt_122 m_errorPosition m_nested m_codeCount_122)), ((ad 24), .inl (cI, 800, .inl m_buffer)), ((ad 35), .inl (cI, 200, .inl m_codes_122))] H → va_D A [(ad 0, .inr (10, oM ad m_undoCount m_thrown m_hasSnapshot a_m_fam m_rows m_lineLength m_formattedLength m_bufferLength m_limit m_next_122 m_beginsAt_122 m_token_122 m_error_122 m_errorAt_122 m_errorPosition m_nested m_codeCount_122)), ((ad 24), .inl (cI, 800, .inl m_buffer)), ((ad 35), .inl (cI, 200, .inl m_codes_122))] → va_S A s.heap H locs → lv_has ls 2 [(0, .ref (ad 0)), (1, .int v1_122)] → W p l e ({ frames := fF + 3, cells := 0, slots := 0, locals := lF + 61 }) s m ([.ref (ad 0)] : List Value).toArray below meth c H locs 0 0 (MQ below (gQ dC dI none A [(ad 0, .inr (10, oM ad m_undoCount m_thrown m_hasSnapshot a_m_fam m_rows m_lineLength m_formattedLength m_bufferLength m_limit m_next_9 m_beginsAt_9 m_token_9 m_error_9 m_errorAt_9 m_errorPosition m_nested_9 m_codeCount_9)), ((ad 24), .inl (cI, 800, .inl m_buffer)), ((ad 35), .inl (cI, 200, .inl m_codes_9))]) ([.ref (ad 0)] : List Value).toArray s 0 0 A) (F0 m 122 ls []) := by
    intro v1_122 m_next_122 m_beginsAt_122 m_token_122 m_error_122 m_errorAt_122 m_codeCount_122 m_codes_122 H locs ls hf hP hD hS hl
    rw [p10_compileFactor_J122] at hf
    refine lv_aload_n hx hb dX10_compileFactor_122 rfl (lv_at hl 0 rfl) ?_
    refine lv_iload_n hx hb dX10_compileFactor_123 rfl (lv_at hl 1 rfl) ?_
    refine lv_bipush (v := -22) hx hb dX10_compileFactor_124 (by decide) ?_
    refine lv_icmp_ne (tgt := 138) hx hb dX10_compileFactor_126 (by decide) (fun h9 => ?_) (fun h9 => ?_)
    · have hf := itf h9 hf
      refine lv_iconst (v := 1) hx hb dX10_compileFactor_138 (by decide) ?_
      refine lv_goto (tgt := 143) hx hb dX10_compileFactor_139 (by decide) ?_
      refine lv_iconst (v := 1) hx hb dX10_compileFactor_143 (by decide) ?_
      obtain ⟨m_error_144, m_errorAt_144, h9⟩ : ∃ m_error_144 m_errorAt_144, p10_check m_beginsAt_122 m_error_122 m_errorAt_122 true (1 : Int32) = (m_error_144, m_errorAt_144) := ⟨_, _, rfl⟩
      have hf := uc2_e (lb_e h9.symm hf)
      refine gcV (index := 415) S hE (c_X10_check ad a_m_fam m_undoCount m_thrown m_hasSnapshot m_rows m_lineLength m_formattedLength m_bufferLength m_limit m_next_122 m_beginsAt_122 m_token_122 m_error_122 m_errorAt_122 m_errorPosition m_nested m_codeCount_122 true (1 : Int32) m_error_144 m_errorAt_144 h9) mX10_check tw1968 ⟨(show 1 + 1 ≤ fF + 3 by omega), (show 8 + (3 + 11) + (21) ≤ lF + 61 by omega)⟩ hP hD hS hA ⟨Nat.zero_le _, Nat.zero_le _⟩ 0 10 rfl rfl rfl (wr := [((ad 24), .inl (cI, 800, .inl m_buffer)), ((ad 35), .inl (cI, 200, .inl m_codes_122))]) [0] [1, 2] rfl rfl rfl rfl (by decide) (As := [.int (bI true), .int (1 : Int32)]) (rest := []) rfl hl.1 rfl (Nat.le_of_ble_eq_true rfl) dX10_compileFactor_144 (fun H locs hP hD hS => ?_)
      refine W.eq (g2 := F0 m 147 ls []) rfl ?_
      have hP : va_P (dC, dI) vwCl [((ad 24), .inl (cI, 800, .inl m_buffer)), ((ad 35), .inl (cI, 200, .inl m_codes_122)), (ad 0, .inr (10, oM ad m_undoCount m_thrown m_hasSnapshot a_m_fam m_rows m_lineLength m_formattedLength m_bufferLength m_limit m_next_122 m_beginsAt_122 m_token_122 m_error_144 m_errorAt_144 m_errorPosition m_nested m_codeCount_122))] H := hP
      have hD : va_D A [((ad 24), .inl (cI, 800, .inl m_buffer)), ((ad 35), .inl (cI, 200, .inl m_codes_122)), (ad 0, .inr (10, oM ad m_undoCount m_thrown m_hasSnapshot a_m_fam m_rows m_lineLength m_formattedLength m_bufferLength m_limit m_next_122 m_beginsAt_122 m_token_122 m_error_144 m_errorAt_144 m_errorPosition m_nested m_codeCount_122))] := hD
      exact J147 v1_122 m_next_122 m_beginsAt_122 m_token_122 m_error_144 m_errorAt_144 m_codeCount_122 m_codes_122 H locs ls hf (hP.sub [2, 0, 1] rfl) (hD.sub [2, 0, 1] (by decide) rfl) hS (lv_sub hl [0, 1] rfl)
    · have hf := itt h9 hf
      refine lv_aload_n hx hb dX10_compileFactor_129 rfl (lv_at hl 0 rfl) ?_
      refine lv_bipush (v := 62) hx hb dX10_compileFactor_130 (by decide) ?_
      obtain ⟨r132, h9, hf⟩ := ob_s hf
      refine gcV (index := 422) S hE (c_X10_isSymbol ad a_m_fam m_undoCount m_thrown m_hasSnapshot m_rows m_lineLength m_formattedLength m_bufferLength m_limit m_next_122 m_beginsAt_122 m_token_122 m_error_122 m_errorAt_122 m_errorPosition m_nested m_codeCount_122 m_buffer (62 : Int32) r132 h9) mX10_isSymbol tw2016 ⟨(show 0 + 1 ≤ fF + 3 by omega), (show 8 + (2 + 11) + (0) ≤ lF + 61 by omega)⟩ hP hD hS hA ⟨Nat.zero_le _, Nat.zero_le _⟩ 0 10 rfl rfl rfl (wr := [((ad 35), .inl (cI, 200, .inl m_codes_122))]) [0, 1] [2] rfl rfl rfl rfl (by decide) (As := [.int (62 : Int32)]) (rest := [.ref (ad 0)]) rfl hl.1 rfl (Nat.le_of_ble_eq_true rfl) dX10_compileFactor_132 (fun H locs hP hD hS => ?_)
      refine W.eq (g2 := F0 m 135 ls [.int (bI r132), .ref (ad 0)]) rfl ?_
      have hP : va_P (dC, dI) vwCl [((ad 35), .inl (cI, 200, .inl m_codes_122)), (ad 0, .inr (10, oM ad m_undoCount m_thrown m_hasSnapshot a_m_fam m_rows m_lineLength m_formattedLength m_bufferLength m_limit m_next_122 m_beginsAt_122 m_token_122 m_error_122 m_errorAt_122 m_errorPosition m_nested m_codeCount_122)), ((ad 24), .inl (cI, 800, .inl m_buffer))] H := hP
      have hD : va_D A [((ad 35), .inl (cI, 200, .inl m_codes_122)), (ad 0, .inr (10, oM ad m_undoCount m_thrown m_hasSnapshot a_m_fam m_rows m_lineLength m_formattedLength m_bufferLength m_limit m_next_122 m_beginsAt_122 m_token_122 m_error_122 m_errorAt_122 m_errorPosition m_nested m_codeCount_122)), ((ad 24), .inl (cI, 800, .inl m_buffer))] := hD
      refine lv_if_eq (tgt := 142) hx hb dX10_compileFactor_135 (by decide) (fun h9 => ?_) (fun h9 => ?_)
      · have hf := ctf (bI_0 h9) hf
        refine lv_iconst (v := 0) hx hb dX10_compileFactor_142 (by decide) ?_
        refine lv_iconst (v := 1) hx hb dX10_compileFactor_143 (by decide) ?_
        obtain ⟨m_error_144, m_errorAt_144, h9⟩ : ∃ m_error_144 m_errorAt_144, p10_check m_beginsAt_122 m_error_122 m_errorAt_122 false (1 : Int32) = (m_error_144, m_errorAt_144) := ⟨_, _, rfl⟩
        have hf := uc2_e (lb_e h9.symm hf)
        refine gcV (index := 415) S hE (c_X10_check ad a_m_fam m_undoCount m_thrown m_hasSnapshot m_rows m_lineLength m_formattedLength m_bufferLength m_limit m_next_122 m_beginsAt_122 m_token_122 m_error_122 m_errorAt_122 m_errorPosition m_nested m_codeCount_122 false (1 : Int32) m_error_144 m_errorAt_144 h9) mX10_check tw1968 ⟨(show 1 + 1 ≤ fF + 3 by omega), (show 8 + (3 + 11) + (21) ≤ lF + 61 by omega)⟩ hP hD hS hA ⟨Nat.zero_le _, Nat.zero_le _⟩ 1 10 rfl rfl rfl (wr := [((ad 35), .inl (cI, 200, .inl m_codes_122)), ((ad 24), .inl (cI, 800, .inl m_buffer))]) [1] [0, 2] rfl rfl rfl rfl (by decide) (As := [.int (bI false), .int (1 : Int32)]) (rest := []) rfl hl.1 rfl (Nat.le_of_ble_eq_true rfl) dX10_compileFactor_144 (fun H locs hP hD hS => ?_)
        refine W.eq (g2 := F0 m 147 ls []) rfl ?_
        have hP : va_P (dC, dI) vwCl [((ad 35), .inl (cI, 200, .inl m_codes_122)), ((ad 24), .inl (cI, 800, .inl m_buffer)), (ad 0, .inr (10, oM ad m_undoCount m_thrown m_hasSnapshot a_m_fam m_rows m_lineLength m_formattedLength m_bufferLength m_limit m_next_122 m_beginsAt_122 m_token_122 m_error_144 m_errorAt_144 m_errorPosition m_nested m_codeCount_122))] H := hP
        have hD : va_D A [((ad 35), .inl (cI, 200, .inl m_codes_122)), ((ad 24), .inl (cI, 800, .inl m_buffer)), (ad 0, .inr (10, oM ad m_undoCount m_thrown m_hasSnapshot a_m_fam m_rows m_lineLength m_formattedLength m_bufferLength m_limit m_next_122 m_beginsAt_122 m_token_122 m_error_144 m_errorAt_144 m_errorPosition m_nested m_codeCount_122))] := hD
        exact J147 v1_122 m_next_122 m_beginsAt_122 m_token_122 m_error_144 m_errorAt_144 m_codeCount_122 m_codes_122 H locs ls hf (hP.sub [2, 1, 0] rfl) (hD.sub [2, 1, 0] (by decide) rfl) hS (lv_sub hl [0, 1] rfl)
      · have hf := ctt (bI_1 h9) hf
        refine lv_iconst (v := 1) hx hb dX10_compileFactor_138 (by decide) ?_
        refine lv_goto (tgt := 143) hx hb dX10_compileFactor_139 (by decide) ?_
        refine lv_iconst (v := 1) hx hb dX10_compileFactor_143 (by decide) ?_
        obtain ⟨m_error_144, m_errorAt_144, h9⟩ : ∃ m_error_144 m_errorAt_144, p10_check m_beginsAt_122 m_error_122 m_errorAt_122 true (1 : Int32) = (m_error_144, m_errorAt_144) := ⟨_, _, rfl⟩
        have hf := uc2_e (lb_e h9.symm hf)
        refine gcV (index := 415) S hE (c_X10_check ad a_m_fam m_undoCount m_thrown m_hasSnapshot m_rows m_lineLength m_formattedLength m_bufferLength m_limit m_next_122 m_beginsAt_122 m_token_122 m_error_122 m_errorAt_122 m_errorPosition m_nested m_codeCount_122 true (1 : Int32) m_error_144 m_errorAt_144 h9) mX10_check tw1968 ⟨(show 1 + 1 ≤ fF + 3 by omega), (show 8 + (3 + 11) + (21) ≤ lF + 61 by omega)⟩ hP hD hS hA ⟨Nat.zero_le _, Nat.zero_le _⟩ 1 10 rfl rfl rfl (wr := [((ad 35), .inl (cI, 200, .inl m_codes_122)), ((ad 24), .inl (cI, 800, .inl m_buffer))]) [1] [0, 2] rfl rfl rfl rfl (by decide) (As := [.int (bI true), .int (1 : Int32)]) (rest := []) rfl hl.1 rfl (Nat.le_of_ble_eq_true rfl) dX10_compileFactor_144 (fun H locs hP hD hS => ?_)
        refine W.eq (g2 := F0 m 147 ls []) rfl ?_
        have hP : va_P (dC, dI) vwCl [((ad 35), .inl (cI, 200, .inl m_codes_122)), ((ad 24), .inl (cI, 800, .inl m_buffer)), (ad 0, .inr (10, oM ad m_undoCount m_thrown m_hasSnapshot a_m_fam m_rows m_lineLength m_formattedLength m_bufferLength m_limit m_next_122 m_beginsAt_122 m_token_122 m_error_144 m_errorAt_144 m_errorPosition m_nested m_codeCount_122))] H := hP
        have hD : va_D A [((ad 35), .inl (cI, 200, .inl m_codes_122)), ((ad 24), .inl (cI, 800, .inl m_buffer)), (ad 0, .inr (10, oM ad m_undoCount m_thrown m_hasSnapshot a_m_fam m_rows m_lineLength m_formattedLength m_bufferLength m_limit m_next_122 m_beginsAt_122 m_token_122 m_error_144 m_errorAt_144 m_errorPosition m_nested m_codeCount_122))] := hD
        exact J147 v1_122 m_next_122 m_beginsAt_122 m_token_122 m_error_144 m_errorAt_144 m_codeCount_122 m_codes_122 H locs ls hf (hP.sub [2, 1, 0] rfl) (hD.sub [2, 1, 0] (by decide) rfl) hS (lv_sub hl [0, 1] rfl)
  have J68 : ∀ (m_next_68 : Int32) (m_beginsAt_68 : Int32) (m_token_68 : Int32) (m_error_68 : Int32) (m_errorAt_68 : Int32) (m_nested_68 : Int32) (m_codeCount_68 : Int32) (m_codes_68 : Nat → Int32) (H : Heap) (locs : List Loc) (ls : Array Slot), p10_compileFactor_J68 m_buffer m_limit m_next_68 m_beginsAt_68 m_token_68 m_error_68 m_errorAt_68 m_nested_68 m_codeCount_68 m_codes_68 = some (m_beginsAt_9, m_codeCount_9, m_codes_9, m_error_9, m_errorAt_9, m_nested_9, m_next_9, m_token_9) → va_P (dC, dI) vwCl [(ad 0, .inr (10, oM ad m_undoCount m_thrown m_hasSnapshot a_m_fam m_rows m_lineLength m_formattedLength m_bufferLength m_limit m_next_68 m_beginsAt_68 m_token_68 m_error_68 m_errorAt_68 m_errorPosition m_nested_68 m_codeCount_68)), ((ad 24), .inl (cI, 800, .inl m_buffer)), ((ad 35), .inl (cI, 200, .inl m_codes_68))] H → va_D A [(ad 0, .inr (10, oM ad m_undoCount m_thrown m_hasSnapshot a_m_fam m_rows m_lineLength m_formattedLength m_bufferLength m_limit m_next_68 m_beginsAt_68 m_token_68 m_error_68 m_errorAt_68 m_errorPosition m_nested_68 m_codeCount_68)), ((ad 24), .inl (cI, 800, .inl m_buffer)), ((ad 35), .inl (cI, 200, .inl m_codes_68))] → va_S A s.heap H locs → lv_has ls 2 [(0, .ref (ad 0))] → W p l e ({ frames := fF + 3, cells := 0, slots := 0, locals := lF + 61 }) s m ([.ref (ad 0)] : List Value).toArray below meth c H locs 0 0 (MQ below (gQ dC dI none A [(ad 0, .inr (10, oM ad m_undoCount m_thrown m_hasSnapshot a_m_fam m_rows m_lineLength m_formattedLength m_bufferLength m_limit m_next_9 m_beginsAt_9 m_token_9 m_error_9 m_errorAt_9 m_errorPosition m_nested_9 m_codeCount_9)), ((ad 24), .inl (cI, 800, .inl m_buffer)), ((ad 35), .inl (cI, 200, .inl m_codes_9))]) ([.ref (ad 0)] : List Value).toArray s 0 0 A) (F0 m 68 ls []) := by
    intro m_next_68 m_beginsAt_68 m_token_68 m_error_68 m_errorAt_68 m_nested_68 m_codeCount_68 m_codes_68 H locs ls hf hP hD hS hl
    rw [p10_compileFactor_J68] at hf
    refine lv_aload_n hx hb dX10_compileFactor_68 rfl (lv_at hl 0 rfl) ?_
    refine lv_bipush (v := 41) hx hb dX10_compileFactor_69 (by decide) ?_
    obtain ⟨⟨m_beginsAt_71, m_error_71, m_errorAt_71, m_next_71, m_token_71⟩, h9, hf⟩ := ob_s hf
    have hf := uc5_e hf
    refine gcV (index := 458) S hE (c_X10_expect ad a_m_fam m_undoCount m_thrown m_hasSnapshot m_rows m_lineLength m_formattedLength m_bufferLength m_limit m_next_68 m_beginsAt_68 m_token_68 m_error_68 m_errorAt_68 m_errorPosition m_nested_68 m_codeCount_68 m_buffer (41 : Int32) m_beginsAt_71 m_error_71 m_errorAt_71 m_next_71 m_token_71 h9) mX10_expect tw2012 ⟨(show 4 + 1 ≤ fF + 3 by omega), (show 8 + (2 + 11) + (82) ≤ lF + 61 by omega)⟩ hP hD hS hA ⟨Nat.zero_le _, Nat.zero_le _⟩ 0 10 rfl rfl rfl (wr := [((ad 35), .inl (cI, 200, .inl m_codes_68))]) [0, 1] [2] rfl rfl rfl rfl (by decide) (As := [.int (41 : Int32)]) (rest := []) rfl hl.1 rfl (Nat.le_of_ble_eq_true rfl) dX10_compileFactor_71 (fun H locs hP hD hS => ?_)
    refine W.eq (g2 := F0 m 74 ls []) rfl ?_
    have hP : va_P (dC, dI) vwCl [((ad 35), .inl (cI, 200, .inl m_codes_68)), (ad 0, .inr (10, oM ad m_undoCount m_thrown m_hasSnapshot a_m_fam m_rows m_lineLength m_formattedLength m_bufferLength m_limit m_next_71 m_beginsAt_71 m_token_71 m_error_71 m_errorAt_71 m_errorPosition m_nested_68 m_codeCount_68)), ((ad 24), .inl (cI, 800, .inl m_buffer))] H := hP
    have hD : va_D A [((ad 35), .inl (cI, 200, .inl m_codes_68)), (ad 0, .inr (10, oM ad m_undoCount m_thrown m_hasSnapshot a_m_fam m_rows m_lineLength m_formattedLength m_bufferLength m_limit m_next_71 m_beginsAt_71 m_token_71 m_error_71 m_errorAt_71 m_errorPosition m_nested_68 m_codeCount_68)), ((ad 24), .inl (cI, 800, .inl m_buffer))] := hD
    refine lv_aload_n hx hb dX10_compileFactor_74 rfl (lv_at hl 0 rfl) ?_
    refine lv_dup hx hb dX10_compileFactor_75 rfl ?_
    refine va_get (D := (dC, dI)) (ci := 10) (v := .int m_nested_68) (C := RX10) (T := TX10) (N := 37) hx hb htg inX10 hown hE.1 hP 1 rfl rfl 32 (by decide) (htg _ tw1414) (fun _ h9 => h9) rfl dX10_compileFactor_76 ?_
    refine lv_iconst (v := 1) hx hb dX10_compileFactor_79 (by decide) ?_
    refine lv_isub hx hb dX10_compileFactor_80 ?_
    refine lv_topi (fun t81 h9 => ?_)
    have hf := lb_e h9 hf
    refine va_put (D := (dC, dI)) (ci := 10) (v := .int t81) (ty := .int) (C := RX10) (T := TX10) (N := 37) hx hb htg inX10 tyX10 tyX10_ok nmX10 hown hE.1 hP hD hS 1 rfl rfl 32 (by decide) (htg _ tw1414) (fun _ h9 => h9) rfl (by decide +kernel) rfl rfl (Nat.le_of_ble_eq_true rfl) dX10_compileFactor_81 (fun H locs hP hD hS => ?_)
    have hP : va_P (dC, dI) vwCl [((ad 35), .inl (cI, 200, .inl m_codes_68)), (ad 0, .inr (10, oM ad m_undoCount m_thrown m_hasSnapshot a_m_fam m_rows m_lineLength m_formattedLength m_bufferLength m_limit m_next_71 m_beginsAt_71 m_token_71 m_error_71 m_errorAt_71 m_errorPosition t81 m_codeCount_68)), ((ad 24), .inl (cI, 800, .inl m_buffer))] H := hP
    have hD : va_D A [((ad 35), .inl (cI, 200, .inl m_codes_68)), (ad 0, .inr (10, oM ad m_undoCount m_thrown m_hasSnapshot a_m_fam m_rows m_lineLength m_formattedLength m_bufferLength m_limit m_next_71 m_beginsAt_71 m_token_71 m_error_71 m_errorAt_71 m_errorPosition t81 m_codeCount_68)), ((ad 24), .inl (cI, 800, .inl m_buffer))] := hD
    refine lv_goto (tgt := 160) hx hb dX10_compileFactor_84 (by decide) ?_
    cases hf
    exact g_vret S hr hlocks (hP.sub [1, 2, 0] rfl) (hD.sub [1, 2, 0] (by decide) rfl) hS dX10_compileFactor_160
  have J25 : ∀ (m_next_25 : Int32) (m_beginsAt_25 : Int32) (m_token_25 : Int32) (m_error_25 : Int32) (m_errorAt_25 : Int32) (m_nested_25 : Int32) (m_codeCount_25 : Int32) (m_codes_25 : Nat → Int32) (H : Heap) (locs : List Loc) (ls : Array Slot), p10_compileFactor_J25 m_next_25 m_beginsAt_25 m_token_25 m_error_25 m_errorAt_25 m_nested_25 m_codeCount_25 m_codes_25 = some (m_beginsAt_9, m_codeCount_9, m_codes_9, m_error_9, m_errorAt_9, m_nested_9, m_next_9, m_token_9) → va_P (dC, dI) vwCl [(ad 0, .inr (10, oM ad m_undoCount m_thrown m_hasSnapshot a_m_fam m_rows m_lineLength m_formattedLength m_bufferLength m_limit m_next_25 m_beginsAt_25 m_token_25 m_error_25 m_errorAt_25 m_errorPosition m_nested_25 m_codeCount_25)), ((ad 24), .inl (cI, 800, .inl m_buffer)), ((ad 35), .inl (cI, 200, .inl m_codes_25))] H → va_D A [(ad 0, .inr (10, oM ad m_undoCount m_thrown m_hasSnapshot a_m_fam m_rows m_lineLength m_formattedLength m_bufferLength m_limit m_next_25 m_beginsAt_25 m_token_25 m_error_25 m_errorAt_25 m_errorPosition m_nested_25 m_codeCount_25)), ((ad 24), .inl (cI, 800, .inl m_buffer)), ((ad 35), .inl (cI, 200, .inl m_codes_25))] → va_S A s.heap H locs → lv_has ls 2 [(0, .ref (ad 0))] → W p l e ({ frames := fF + 3, cells := 0, slots := 0, locals := lF + 61 }) s m ([.ref (ad 0)] : List Value).toArray below meth c H locs 0 0 (MQ below (gQ dC dI none A [(ad 0, .inr (10, oM ad m_undoCount m_thrown m_hasSnapshot a_m_fam m_rows m_lineLength m_formattedLength m_bufferLength m_limit m_next_9 m_beginsAt_9 m_token_9 m_error_9 m_errorAt_9 m_errorPosition m_nested_9 m_codeCount_9)), ((ad 24), .inl (cI, 800, .inl m_buffer)), ((ad 35), .inl (cI, 200, .inl m_codes_9))]) ([.ref (ad 0)] : List Value).toArray s 0 0 A) (F0 m 25 ls []) := by
    intro m_next_25 m_beginsAt_25 m_token_25 m_error_25 m_errorAt_25 m_nested_25 m_codeCount_25 m_codes_25 H locs ls hf hP hD hS hl
    rw [p10_compileFactor_J25] at hf
    refine lv_aload_n hx hb dX10_compileFactor_25 rfl (lv_at hl 0 rfl) ?_
    refine lv_bipush (v := -23) hx hb dX10_compileFactor_26 (by decide) ?_
    obtain ⟨⟨m_codeCount_28, m_codes_28⟩, h9, hf⟩ := ob_s hf
    have hf := uc2_e hf
    refine gcV (index := 474) S hE (c_X10_emit ad a_m_fam m_undoCount m_thrown m_hasSnapshot m_rows m_lineLength m_formattedLength m_bufferLength m_limit m_next_25 m_beginsAt_25 m_token_25 m_error_25 m_errorAt_25 m_errorPosition m_nested_25 m_codeCount_25 m_codes_25 (-23 : Int32) m_codeCount_28 m_codes_28 h9) mX10_emit tw2047 ⟨(show 0 + 1 ≤ fF + 3 by omega), (show 8 + (2 + 11) + (0) ≤ lF + 61 by omega)⟩ hP hD hS hA ⟨Nat.zero_le _, Nat.zero_le _⟩ 0 10 rfl rfl rfl (wr := [((ad 24), .inl (cI, 800, .inl m_buffer))]) [0, 2] [1] rfl rfl rfl rfl (by decide) (As := [.int (-23 : Int32)]) (rest := []) rfl hl.1 rfl (Nat.le_of_ble_eq_true rfl) dX10_compileFactor_28 (fun H locs hP hD hS => ?_)
    refine W.eq (g2 := F0 m 31 ls []) rfl ?_
    have hP : va_P (dC, dI) vwCl [((ad 24), .inl (cI, 800, .inl m_buffer)), (ad 0, .inr (10, oM ad m_undoCount m_thrown m_hasSnapshot a_m_fam m_rows m_lineLength m_formattedLength m_bufferLength m_limit m_next_25 m_beginsAt_25 m_token_25 m_error_25 m_errorAt_25 m_errorPosition m_nested_25 m_codeCount_28)), ((ad 35), .inl (cI, 200, .inl m_codes_28))] H := hP
    have hD : va_D A [((ad 24), .inl (cI, 800, .inl m_buffer)), (ad 0, .inr (10, oM ad m_undoCount m_thrown m_hasSnapshot a_m_fam m_rows m_lineLength m_formattedLength m_bufferLength m_limit m_next_25 m_beginsAt_25 m_token_25 m_error_25 m_errorAt_25 m_errorPosition m_nested_25 m_codeCount_28)), ((ad 35), .inl (cI, 200, .inl m_codes_28))] := hD
    refine lv_aload_n hx hb dX10_compileFactor_31 rfl (lv_at hl 0 rfl) ?_
    refine lv_dup hx hb dX10_compileFactor_32 rfl ?_
    refine va_get (D := (dC, dI)) (ci := 10) (v := .int m_nested_25) (C := RX10) (T := TX10) (N := 37) hx hb htg inX10 hown hE.1 hP 1 rfl rfl 32 (by decide) (htg _ tw1414) (fun _ h9 => h9) rfl dX10_compileFactor_33 ?_
    refine lv_iconst (v := 1) hx hb dX10_compileFactor_36 (by decide) ?_
    refine lv_isub hx hb dX10_compileFactor_37 ?_
    refine lv_topi (fun t38 h9 => ?_)
    have hf := lb_e h9 hf
    refine va_put (D := (dC, dI)) (ci := 10) (v := .int t38) (ty := .int) (C := RX10) (T := TX10) (N := 37) hx hb htg inX10 tyX10 tyX10_ok nmX10 hown hE.1 hP hD hS 1 rfl rfl 32 (by decide) (htg _ tw1414) (fun _ h9 => h9) rfl (by decide +kernel) rfl rfl (Nat.le_of_ble_eq_true rfl) dX10_compileFactor_38 (fun H locs hP hD hS => ?_)
    have hP : va_P (dC, dI) vwCl [((ad 24), .inl (cI, 800, .inl m_buffer)), (ad 0, .inr (10, oM ad m_undoCount m_thrown m_hasSnapshot a_m_fam m_rows m_lineLength m_formattedLength m_bufferLength m_limit m_next_25 m_beginsAt_25 m_token_25 m_error_25 m_errorAt_25 m_errorPosition t38 m_codeCount_28)), ((ad 35), .inl (cI, 200, .inl m_codes_28))] H := hP
    have hD : va_D A [((ad 24), .inl (cI, 800, .inl m_buffer)), (ad 0, .inr (10, oM ad m_undoCount m_thrown m_hasSnapshot a_m_fam m_rows m_lineLength m_formattedLength m_bufferLength m_limit m_next_25 m_beginsAt_25 m_token_25 m_error_25 m_errorAt_25 m_errorPosition t38 m_codeCount_28)), ((ad 35), .inl (cI, 200, .inl m_codes_28))] := hD
    refine lv_goto (tgt := 160) hx hb dX10_compileFactor_41 (by decide) ?_
    cases hf
    exact g_vret S hr hlocks (hP.sub [1, 0, 2] rfl) (hD.sub [1, 0, 2] (by decide) rfl) hS dX10_compileFactor_160
  refine lv_aload_n hx hb dX10_compileFactor_0 rfl (lv_at hl 0 rfl) ?_
  refine va_ldcSw (own := RX10) hx hb hown (hG.2.2.1 38 ("FamilyChartModel", 477, "not", 4) rfl) dX10_compileFactor_1 ?_
  obtain ⟨r4, h9, hf⟩ := ob_s hf
  refine gcVH (index := 411) S hE hG (c_X10_isWord ad a_m_fam m_undoCount m_thrown m_hasSnapshot m_rows m_lineLength m_formattedLength m_bufferLength m_limit m_next m_beginsAt m_token m_error m_errorAt m_errorPosition m_nested m_codeCount m_buffer 4 (by decide) r4 h9) mX10_isWord tw1958 ⟨(show 4 + 1 ≤ fF + 3 by omega), (show 8 + (4 + 11) + (85) ≤ lF + 61 by omega)⟩ hP hD hS hA ⟨Nat.zero_le _, Nat.zero_le _⟩ 0 10 rfl rfl rfl (wr := [((ad 35), .inl (cI, 200, .inl m_codes))]) [0, 1] [2] rfl rfl rfl rfl (by decide) (As := [.ref (adK 4)]) (rest := []) rfl hl.1 rfl (Nat.le_of_ble_eq_true rfl) dX10_compileFactor_4 (fun H locs hP hD hS => ?_)
  refine W.eq (g2 := F0 m 7 ls [.int (bI r4)]) rfl ?_
  have hP : va_P (dC, dI) vwCl [((ad 35), .inl (cI, 200, .inl m_codes)), (ad 0, .inr (10, oM ad m_undoCount m_thrown m_hasSnapshot a_m_fam m_rows m_lineLength m_formattedLength m_bufferLength m_limit m_next m_beginsAt m_token m_error m_errorAt m_errorPosition m_nested m_codeCount)), ((ad 24), .inl (cI, 800, .inl m_buffer))] H := hP
  have hD : va_D A [((ad 35), .inl (cI, 200, .inl m_codes)), (ad 0, .inr (10, oM ad m_undoCount m_thrown m_hasSnapshot a_m_fam m_rows m_lineLength m_formattedLength m_bufferLength m_limit m_next m_beginsAt m_token m_error m_errorAt m_errorPosition m_nested m_codeCount)), ((ad 24), .inl (cI, 800, .inl m_buffer))] := hD
  refine lv_if_eq (tgt := 44) hx hb dX10_compileFactor_7 (by decide) (fun h9 => ?_) (fun h9 => ?_)
  · have hf := ctf (bI_0 h9) hf
    refine lv_aload_n hx hb dX10_compileFactor_44 rfl (lv_at hl 0 rfl) ?_
    refine lv_bipush (v := 40) hx hb dX10_compileFactor_45 (by decide) ?_
    obtain ⟨r47, h9, hf⟩ := ob_s hf
    refine gcV (index := 422) S hE (c_X10_isSymbol ad a_m_fam m_undoCount m_thrown m_hasSnapshot m_rows m_lineLength m_formattedLength m_bufferLength m_limit m_next m_beginsAt m_token m_error m_errorAt m_errorPosition m_nested m_codeCount m_buffer (40 : Int32) r47 h9) mX10_isSymbol tw2016 ⟨(show 0 + 1 ≤ fF + 3 by omega), (show 8 + (2 + 11) + (0) ≤ lF + 61 by omega)⟩ hP hD hS hA ⟨Nat.zero_le _, Nat.zero_le _⟩ 1 10 rfl rfl rfl (wr := [((ad 35), .inl (cI, 200, .inl m_codes))]) [1, 2] [0] rfl rfl rfl rfl (by decide) (As := [.int (40 : Int32)]) (rest := []) rfl hl.1 rfl (Nat.le_of_ble_eq_true rfl) dX10_compileFactor_47 (fun H locs hP hD hS => ?_)
    refine W.eq (g2 := F0 m 50 ls [.int (bI r47)]) rfl ?_
    have hP : va_P (dC, dI) vwCl [((ad 35), .inl (cI, 200, .inl m_codes)), (ad 0, .inr (10, oM ad m_undoCount m_thrown m_hasSnapshot a_m_fam m_rows m_lineLength m_formattedLength m_bufferLength m_limit m_next m_beginsAt m_token m_error m_errorAt m_errorPosition m_nested m_codeCount)), ((ad 24), .inl (cI, 800, .inl m_buffer))] H := hP
    have hD : va_D A [((ad 35), .inl (cI, 200, .inl m_codes)), (ad 0, .inr (10, oM ad m_undoCount m_thrown m_hasSnapshot a_m_fam m_rows m_lineLength m_formattedLength m_bufferLength m_limit m_next m_beginsAt m_token m_error m_errorAt m_errorPosition m_nested m_codeCount)), ((ad 24), .inl (cI, 800, .inl m_buffer))] := hD
    refine lv_if_eq (tgt := 87) hx hb dX10_compileFactor_50 (by decide) (fun h9 => ?_) (fun h9 => ?_)
    · have hf := ctf (bI_0 h9) hf
      refine lv_aload_n hx hb dX10_compileFactor_87 rfl (lv_at hl 0 rfl) ?_
      obtain ⟨⟨m_beginsAt_88, m_codeCount_88, m_codes_88, m_error_88, m_errorAt_88, m_next_88, m_token_88⟩, h9, hf⟩ := ob_s hf
      have hf := uc7_e hf
      refine gcVH (index := 488) S hE hG (c_X10_compileValue ad hNm a_m_fam m_undoCount m_thrown m_hasSnapshot m_rows m_lineLength m_formattedLength m_bufferLength m_limit m_next m_beginsAt m_token m_error m_errorAt m_errorPosition m_nested m_codeCount m_buffer m_codes m_beginsAt_88 m_codeCount_88 m_codes_88 m_error_88 m_errorAt_88 m_next_88 m_token_88 h9) mX10_compileValue tw2051 ⟨(show 5 + 1 ≤ fF + 3 by omega), (show 8 + (2 + 11) + (108) ≤ lF + 61 by omega)⟩ hP hD hS hA ⟨Nat.zero_le _, Nat.zero_le _⟩ 1 10 rfl rfl rfl (wr := []) [1, 2, 0] [] rfl rfl rfl rfl (by decide) (As := []) (rest := []) rfl hl.1 rfl (Nat.le_of_ble_eq_true rfl) dX10_compileFactor_88 (fun H locs hP hD hS => ?_)
      refine W.eq (g2 := F0 m 91 ls []) rfl ?_
      have hP : va_P (dC, dI) vwCl [(ad 0, .inr (10, oM ad m_undoCount m_thrown m_hasSnapshot a_m_fam m_rows m_lineLength m_formattedLength m_bufferLength m_limit m_next_88 m_beginsAt_88 m_token_88 m_error_88 m_errorAt_88 m_errorPosition m_nested m_codeCount_88)), ((ad 24), .inl (cI, 800, .inl m_buffer)), ((ad 35), .inl (cI, 200, .inl m_codes_88))] H := hP
      have hD : va_D A [(ad 0, .inr (10, oM ad m_undoCount m_thrown m_hasSnapshot a_m_fam m_rows m_lineLength m_formattedLength m_bufferLength m_limit m_next_88 m_beginsAt_88 m_token_88 m_error_88 m_errorAt_88 m_errorPosition m_nested m_codeCount_88)), ((ad 24), .inl (cI, 800, .inl m_buffer)), ((ad 35), .inl (cI, 200, .inl m_codes_88))] := hD
      refine lv_aload_n hx hb dX10_compileFactor_91 rfl (lv_at hl 0 rfl) ?_
      refine lv_bipush (v := 60) hx hb dX10_compileFactor_92 (by decide) ?_
      obtain ⟨r94, h9, hf⟩ := ob_s hf
      refine gcV (index := 422) S hE (c_X10_isSymbol ad a_m_fam m_undoCount m_thrown m_hasSnapshot m_rows m_lineLength m_formattedLength m_bufferLength m_limit m_next_88 m_beginsAt_88 m_token_88 m_error_88 m_errorAt_88 m_errorPosition m_nested m_codeCount_88 m_buffer (60 : Int32) r94 h9) mX10_isSymbol tw2016 ⟨(show 0 + 1 ≤ fF + 3 by omega), (show 8 + (2 + 11) + (0) ≤ lF + 61 by omega)⟩ hP hD hS hA ⟨Nat.zero_le _, Nat.zero_le _⟩ 0 10 rfl rfl rfl (wr := [((ad 35), .inl (cI, 200, .inl m_codes_88))]) [0, 1] [2] rfl rfl rfl rfl (by decide) (As := [.int (60 : Int32)]) (rest := []) rfl hl.1 rfl (Nat.le_of_ble_eq_true rfl) dX10_compileFactor_94 (fun H locs hP hD hS => ?_)
      refine W.eq (g2 := F0 m 97 ls [.int (bI r94)]) rfl ?_
      have hP : va_P (dC, dI) vwCl [((ad 35), .inl (cI, 200, .inl m_codes_88)), (ad 0, .inr (10, oM ad m_undoCount m_thrown m_hasSnapshot a_m_fam m_rows m_lineLength m_formattedLength m_bufferLength m_limit m_next_88 m_beginsAt_88 m_token_88 m_error_88 m_errorAt_88 m_errorPosition m_nested m_codeCount_88)), ((ad 24), .inl (cI, 800, .inl m_buffer))] H := hP
      have hD : va_D A [((ad 35), .inl (cI, 200, .inl m_codes_88)), (ad 0, .inr (10, oM ad m_undoCount m_thrown m_hasSnapshot a_m_fam m_rows m_lineLength m_formattedLength m_bufferLength m_limit m_next_88 m_beginsAt_88 m_token_88 m_error_88 m_errorAt_88 m_errorPosition m_nested m_codeCount_88)), ((ad 24), .inl (cI, 800, .inl m_buffer))] := hD
      refine lv_if_eq (tgt := 105) hx hb dX10_compileFactor_97 (by decide) (fun h9 => ?_) (fun h9 => ?_)
      · have hf := ctf (bI_0 h9) hf
        refine lv_aload_n hx hb dX10_compileFactor_105 rfl (lv_at hl 0 rfl) ?_
        refine lv_bipush (v := 61) hx hb dX10_compileFactor_106 (by decide) ?_
        obtain ⟨r108, h9, hf⟩ := ob_s hf
        refine gcV (index := 422) S hE (c_X10_isSymbol ad a_m_fam m_undoCount m_thrown m_hasSnapshot m_rows m_lineLength m_formattedLength m_bufferLength m_limit m_next_88 m_beginsAt_88 m_token_88 m_error_88 m_errorAt_88 m_errorPosition m_nested m_codeCount_88 m_buffer (61 : Int32) r108 h9) mX10_isSymbol tw2016 ⟨(show 0 + 1 ≤ fF + 3 by omega), (show 8 + (2 + 11) + (0) ≤ lF + 61 by omega)⟩ hP hD hS hA ⟨Nat.zero_le _, Nat.zero_le _⟩ 1 10 rfl rfl rfl (wr := [((ad 35), .inl (cI, 200, .inl m_codes_88))]) [1, 2] [0] rfl rfl rfl rfl (by decide) (As := [.int (61 : Int32)]) (rest := []) rfl hl.1 rfl (Nat.le_of_ble_eq_true rfl) dX10_compileFactor_108 (fun H locs hP hD hS => ?_)
        refine W.eq (g2 := F0 m 111 ls [.int (bI r108)]) rfl ?_
        have hP : va_P (dC, dI) vwCl [((ad 35), .inl (cI, 200, .inl m_codes_88)), (ad 0, .inr (10, oM ad m_undoCount m_thrown m_hasSnapshot a_m_fam m_rows m_lineLength m_formattedLength m_bufferLength m_limit m_next_88 m_beginsAt_88 m_token_88 m_error_88 m_errorAt_88 m_errorPosition m_nested m_codeCount_88)), ((ad 24), .inl (cI, 800, .inl m_buffer))] H := hP
        have hD : va_D A [((ad 35), .inl (cI, 200, .inl m_codes_88)), (ad 0, .inr (10, oM ad m_undoCount m_thrown m_hasSnapshot a_m_fam m_rows m_lineLength m_formattedLength m_bufferLength m_limit m_next_88 m_beginsAt_88 m_token_88 m_error_88 m_errorAt_88 m_errorPosition m_nested m_codeCount_88)), ((ad 24), .inl (cI, 800, .inl m_buffer))] := hD
        refine lv_if_eq (tgt := 119) hx hb dX10_compileFactor_111 (by decide) (fun h9 => ?_) (fun h9 => ?_)
        · have hf := ctf (bI_0 h9) hf
          refine lv_bipush (v := -22) hx hb dX10_compileFactor_119 (by decide) ?_
          refine lv_istore_n (lv' := [(1, .int (-22 : Int32)), (0, .ref (ad 0))]) hx hb dX10_compileFactor_121 rfl hl (by decide) rfl (fun ls hl => ?_)
          exact J122 (-22 : Int32) m_next_88 m_beginsAt_88 m_token_88 m_error_88 m_errorAt_88 m_codeCount_88 m_codes_88 H locs ls hf (hP.sub [1, 2, 0] rfl) (hD.sub [1, 2, 0] (by decide) rfl) hS (lv_sub hl [1, 0] rfl)
        · have hf := ctt (bI_1 h9) hf
          refine lv_bipush (v := -21) hx hb dX10_compileFactor_114 (by decide) ?_
          refine lv_goto (tgt := 121) hx hb dX10_compileFactor_116 (by decide) ?_
          refine lv_istore_n (lv' := [(1, .int (-21 : Int32)), (0, .ref (ad 0))]) hx hb dX10_compileFactor_121 rfl hl (by decide) rfl (fun ls hl => ?_)
          exact J122 (-21 : Int32) m_next_88 m_beginsAt_88 m_token_88 m_error_88 m_errorAt_88 m_codeCount_88 m_codes_88 H locs ls hf (hP.sub [1, 2, 0] rfl) (hD.sub [1, 2, 0] (by decide) rfl) hS (lv_sub hl [1, 0] rfl)
      · have hf := ctt (bI_1 h9) hf
        refine lv_bipush (v := -20) hx hb dX10_compileFactor_100 (by decide) ?_
        refine lv_goto (tgt := 121) hx hb dX10_compileFactor_102 (by decide) ?_
        refine lv_istore_n (lv' := [(1, .int (-20 : Int32)), (0, .ref (ad 0))]) hx hb dX10_compileFactor_121 rfl hl (by decide) rfl (fun ls hl => ?_)
        exact J122 (-20 : Int32) m_next_88 m_beginsAt_88 m_token_88 m_error_88 m_errorAt_88 m_codeCount_88 m_codes_88 H locs ls hf (hP.sub [1, 2, 0] rfl) (hD.sub [1, 2, 0] (by decide) rfl) hS (lv_sub hl [1, 0] rfl)
    · have hf := ctt (bI_1 h9) hf
      refine lv_aload_n hx hb dX10_compileFactor_53 rfl (lv_at hl 0 rfl) ?_
      obtain ⟨⟨m_beginsAt_54, m_error_54, m_errorAt_54, m_nested_54, m_next_54, m_token_54⟩, h9, hf⟩ := ob_s hf
      have hf := uc6_e hf
      refine gcV (index := 479) S hE (c_X10_enter ad a_m_fam m_undoCount m_thrown m_hasSnapshot m_rows m_lineLength m_formattedLength m_bufferLength m_limit m_next m_beginsAt m_token m_error m_errorAt m_errorPosition m_nested m_codeCount m_buffer m_beginsAt_54 m_error_54 m_errorAt_54 m_nested_54 m_next_54 m_token_54 h9) mX10_enter tw2043 ⟨(show 4 + 1 ≤ fF + 3 by omega), (show 8 + (1 + 11) + (82) ≤ lF + 61 by omega)⟩ hP hD hS hA ⟨Nat.zero_le _, Nat.zero_le _⟩ 1 10 rfl rfl rfl (wr := [((ad 35), .inl (cI, 200, .inl m_codes))]) [1, 2] [0] rfl rfl rfl rfl (by decide) (As := []) (rest := []) rfl hl.1 rfl (Nat.le_of_ble_eq_true rfl) dX10_compileFactor_54 (fun H locs hP hD hS => ?_)
      refine W.eq (g2 := F0 m 57 ls []) rfl ?_
      have hP : va_P (dC, dI) vwCl [((ad 35), .inl (cI, 200, .inl m_codes)), (ad 0, .inr (10, oM ad m_undoCount m_thrown m_hasSnapshot a_m_fam m_rows m_lineLength m_formattedLength m_bufferLength m_limit m_next_54 m_beginsAt_54 m_token_54 m_error_54 m_errorAt_54 m_errorPosition m_nested_54 m_codeCount)), ((ad 24), .inl (cI, 800, .inl m_buffer))] H := hP
      have hD : va_D A [((ad 35), .inl (cI, 200, .inl m_codes)), (ad 0, .inr (10, oM ad m_undoCount m_thrown m_hasSnapshot a_m_fam m_rows m_lineLength m_formattedLength m_bufferLength m_limit m_next_54 m_beginsAt_54 m_token_54 m_error_54 m_errorAt_54 m_errorPosition m_nested_54 m_codeCount)), ((ad 24), .inl (cI, 800, .inl m_buffer))] := hD
      refine lv_aload_n hx hb dX10_compileFactor_57 rfl (lv_at hl 0 rfl) ?_
      refine va_get (D := (dC, dI)) (ci := 10) (v := .int m_error_54) (C := RX10) (T := TX10) (N := 37) hx hb htg inX10 hown hE.1 hP 1 rfl rfl 29 (by decide) (htg _ tw1411) (fun _ h9 => h9) rfl dX10_compileFactor_58 ?_
      refine lv_if_ne (tgt := 68) hx hb dX10_compileFactor_61 (by decide) (fun h9 => ?_) (fun h9 => ?_)
      · have hf := itf h9 hf
        exact J68 m_next_54 m_beginsAt_54 m_token_54 m_error_54 m_errorAt_54 m_nested_54 m_codeCount m_codes H locs ls hf (hP.sub [1, 2, 0] rfl) (hD.sub [1, 2, 0] (by decide) rfl) hS (lv_sub hl [0] rfl)
      · have hf := itt h9 hf
        refine lv_aload_n hx hb dX10_compileFactor_64 rfl (lv_at hl 0 rfl) ?_
        obtain ⟨⟨m_beginsAt_65, m_codeCount_65, m_codes_65, m_error_65, m_errorAt_65, m_nested_65, m_next_65, m_token_65⟩, h9, hf⟩ := ob_s hf
        have hf := uc8_e hf
        refine gcVH (index := 485) S hE hG (c_X10_compileTest_o kF fF lF hbF hbL hF ad hNm a_m_fam m_undoCount m_thrown m_hasSnapshot m_rows m_lineLength m_formattedLength m_bufferLength m_limit m_next_54 m_beginsAt_54 m_token_54 m_error_54 m_errorAt_54 m_errorPosition m_nested_54 m_codeCount m_buffer m_codes m_beginsAt_65 m_codeCount_65 m_codes_65 m_error_65 m_errorAt_65 m_nested_65 m_next_65 m_token_65 h9) mX10_compileTest tw2030 ⟨(show fF + 2 + 1 ≤ fF + 3 by omega), (show 8 + (1 + 11) + (lF + 41) ≤ lF + 61 by omega)⟩ hP hD hS hA ⟨Nat.zero_le _, Nat.zero_le _⟩ 1 10 rfl rfl rfl (wr := []) [1, 2, 0] [] rfl rfl rfl rfl (by decide) (As := []) (rest := []) rfl hl.1 rfl (Nat.le_of_ble_eq_true rfl) dX10_compileFactor_65 (fun H locs hP hD hS => ?_)
        refine W.eq (g2 := F0 m 68 ls []) rfl ?_
        have hP : va_P (dC, dI) vwCl [(ad 0, .inr (10, oM ad m_undoCount m_thrown m_hasSnapshot a_m_fam m_rows m_lineLength m_formattedLength m_bufferLength m_limit m_next_65 m_beginsAt_65 m_token_65 m_error_65 m_errorAt_65 m_errorPosition m_nested_65 m_codeCount_65)), ((ad 24), .inl (cI, 800, .inl m_buffer)), ((ad 35), .inl (cI, 200, .inl m_codes_65))] H := hP
        have hD : va_D A [(ad 0, .inr (10, oM ad m_undoCount m_thrown m_hasSnapshot a_m_fam m_rows m_lineLength m_formattedLength m_bufferLength m_limit m_next_65 m_beginsAt_65 m_token_65 m_error_65 m_errorAt_65 m_errorPosition m_nested_65 m_codeCount_65)), ((ad 24), .inl (cI, 800, .inl m_buffer)), ((ad 35), .inl (cI, 200, .inl m_codes_65))] := hD
        exact J68 m_next_65 m_beginsAt_65 m_token_65 m_error_65 m_errorAt_65 m_nested_65 m_codeCount_65 m_codes_65 H locs ls hf hP hD hS (lv_sub hl [0] rfl)
  · have hf := ctt (bI_1 h9) hf
    refine lv_aload_n hx hb dX10_compileFactor_10 rfl (lv_at hl 0 rfl) ?_
    obtain ⟨⟨m_beginsAt_11, m_error_11, m_errorAt_11, m_nested_11, m_next_11, m_token_11⟩, h9, hf⟩ := ob_s hf
    have hf := uc6_e hf
    refine gcV (index := 479) S hE (c_X10_enter ad a_m_fam m_undoCount m_thrown m_hasSnapshot m_rows m_lineLength m_formattedLength m_bufferLength m_limit m_next m_beginsAt m_token m_error m_errorAt m_errorPosition m_nested m_codeCount m_buffer m_beginsAt_11 m_error_11 m_errorAt_11 m_nested_11 m_next_11 m_token_11 h9) mX10_enter tw2043 ⟨(show 4 + 1 ≤ fF + 3 by omega), (show 8 + (1 + 11) + (82) ≤ lF + 61 by omega)⟩ hP hD hS hA ⟨Nat.zero_le _, Nat.zero_le _⟩ 1 10 rfl rfl rfl (wr := [((ad 35), .inl (cI, 200, .inl m_codes))]) [1, 2] [0] rfl rfl rfl rfl (by decide) (As := []) (rest := []) rfl hl.1 rfl (Nat.le_of_ble_eq_true rfl) dX10_compileFactor_11 (fun H locs hP hD hS => ?_)
    refine W.eq (g2 := F0 m 14 ls []) rfl ?_
    have hP : va_P (dC, dI) vwCl [((ad 35), .inl (cI, 200, .inl m_codes)), (ad 0, .inr (10, oM ad m_undoCount m_thrown m_hasSnapshot a_m_fam m_rows m_lineLength m_formattedLength m_bufferLength m_limit m_next_11 m_beginsAt_11 m_token_11 m_error_11 m_errorAt_11 m_errorPosition m_nested_11 m_codeCount)), ((ad 24), .inl (cI, 800, .inl m_buffer))] H := hP
    have hD : va_D A [((ad 35), .inl (cI, 200, .inl m_codes)), (ad 0, .inr (10, oM ad m_undoCount m_thrown m_hasSnapshot a_m_fam m_rows m_lineLength m_formattedLength m_bufferLength m_limit m_next_11 m_beginsAt_11 m_token_11 m_error_11 m_errorAt_11 m_errorPosition m_nested_11 m_codeCount)), ((ad 24), .inl (cI, 800, .inl m_buffer))] := hD
    refine lv_aload_n hx hb dX10_compileFactor_14 rfl (lv_at hl 0 rfl) ?_
    refine va_get (D := (dC, dI)) (ci := 10) (v := .int m_error_11) (C := RX10) (T := TX10) (N := 37) hx hb htg inX10 hown hE.1 hP 1 rfl rfl 29 (by decide) (htg _ tw1411) (fun _ h9 => h9) rfl dX10_compileFactor_15 ?_
    refine lv_if_ne (tgt := 25) hx hb dX10_compileFactor_18 (by decide) (fun h9 => ?_) (fun h9 => ?_)
    · have hf := itf h9 hf
      exact J25 m_next_11 m_beginsAt_11 m_token_11 m_error_11 m_errorAt_11 m_nested_11 m_codeCount m_codes H locs ls hf (hP.sub [1, 2, 0] rfl) (hD.sub [1, 2, 0] (by decide) rfl) hS (lv_sub hl [0] rfl)
    · have hf := itt h9 hf
      refine lv_aload_n hx hb dX10_compileFactor_21 rfl (lv_at hl 0 rfl) ?_
      obtain ⟨⟨m_beginsAt_22, m_codeCount_22, m_codes_22, m_error_22, m_errorAt_22, m_nested_22, m_next_22, m_token_22⟩, h9, hf⟩ := ob_s hf
      have hf := uc8_e hf
      refine gcVH (index := 482) S hE hG (hF ad hNm a_m_fam m_undoCount m_thrown m_hasSnapshot m_rows m_lineLength m_formattedLength m_bufferLength m_limit m_next_11 m_beginsAt_11 m_token_11 m_error_11 m_errorAt_11 m_errorPosition m_nested_11 m_codeCount m_buffer m_codes m_beginsAt_22 m_codeCount_22 m_codes_22 m_error_22 m_errorAt_22 m_nested_22 m_next_22 m_token_22 h9) mX10_compileFactor tw2038 ⟨(show fF + 1 ≤ fF + 3 by omega), (show 8 + (2 + 11) + (lF) ≤ lF + 61 by omega)⟩ hP hD hS hA ⟨Nat.zero_le _, Nat.zero_le _⟩ 1 10 rfl rfl rfl (wr := []) [1, 2, 0] [] rfl rfl rfl rfl (by decide) (As := []) (rest := []) rfl hl.1 rfl (Nat.le_of_ble_eq_true rfl) dX10_compileFactor_22 (fun H locs hP hD hS => ?_)
      refine W.eq (g2 := F0 m 25 ls []) rfl ?_
      have hP : va_P (dC, dI) vwCl [(ad 0, .inr (10, oM ad m_undoCount m_thrown m_hasSnapshot a_m_fam m_rows m_lineLength m_formattedLength m_bufferLength m_limit m_next_22 m_beginsAt_22 m_token_22 m_error_22 m_errorAt_22 m_errorPosition m_nested_22 m_codeCount_22)), ((ad 24), .inl (cI, 800, .inl m_buffer)), ((ad 35), .inl (cI, 200, .inl m_codes_22))] H := hP
      have hD : va_D A [(ad 0, .inr (10, oM ad m_undoCount m_thrown m_hasSnapshot a_m_fam m_rows m_lineLength m_formattedLength m_bufferLength m_limit m_next_22 m_beginsAt_22 m_token_22 m_error_22 m_errorAt_22 m_errorPosition m_nested_22 m_codeCount_22)), ((ad 24), .inl (cI, 800, .inl m_buffer)), ((ad 35), .inl (cI, 200, .inl m_codes_22))] := hD
      exact J25 m_next_22 m_beginsAt_22 m_token_22 m_error_22 m_errorAt_22 m_nested_22 m_codeCount_22 m_codes_22 H locs ls hf hP hD hS (lv_sub hl [0] rfl)
theorem c_X10_compileFactor_d : ∀ (d : Nat) (ad : Nat → Nat) (hNm : gNm adV ad) (a_m_fam : Nat) (m_undoCount : Int32) (m_thrown : Int32) (m_hasSnapshot : Bool) (m_rows : Int32) (m_lineLength : Int32) (m_formattedLength : Int32) (m_bufferLength : Int32) (m_limit : Int32) (m_next : Int32) (m_beginsAt : Int32) (m_token : Int32) (m_error : Int32) (m_errorAt : Int32) (m_errorPosition : Int32) (m_nested : Int32) (m_codeCount : Int32) (m_buffer : Nat → Int32) (m_codes : Nat → Int32) (m_beginsAt_9 : Int32) (m_codeCount_9 : Int32) (m_codes_9 : Nat → Int32) (m_error_9 : Int32) (m_errorAt_9 : Int32) (m_nested_9 : Int32) (m_next_9 : Int32) (m_token_9 : Int32) (hf : p10_compileFactor d m_limit m_next m_beginsAt m_token m_error m_errorAt m_nested m_codeCount m_buffer m_codes = some (m_beginsAt_9, m_codeCount_9, m_codes_9, m_error_9, m_errorAt_9, m_nested_9, m_next_9, m_token_9)), gMH l dC dI cI cJ cZ adK adV yX10_compileFactor cX10_compileFactor 2 none (60 + 3 * d) (3000 + 61 * d) [.ref (ad 0)] [(ad 0, .inr (10, oM ad m_undoCount m_thrown m_hasSnapshot a_m_fam m_rows m_lineLength m_formattedLength m_bufferLength m_limit m_next m_beginsAt m_token m_error m_errorAt m_errorPosition m_nested m_codeCount)), ((ad 24), .inl (cI, 800, .inl m_buffer)), ((ad 35), .inl (cI, 200, .inl m_codes))] [(ad 0, .inr (10, oM ad m_undoCount m_thrown m_hasSnapshot a_m_fam m_rows m_lineLength m_formattedLength m_bufferLength m_limit m_next_9 m_beginsAt_9 m_token_9 m_error_9 m_errorAt_9 m_errorPosition m_nested_9 m_codeCount_9)), ((ad 24), .inl (cI, 800, .inl m_buffer)), ((ad 35), .inl (cI, 200, .inl m_codes_9))] none := by
  intro d
  induction d with
  | zero => intro ad hNm a_m_fam m_undoCount m_thrown m_hasSnapshot m_rows m_lineLength m_formattedLength m_bufferLength m_limit m_next m_beginsAt m_token m_error m_errorAt m_errorPosition m_nested m_codeCount m_buffer m_codes m_beginsAt_9 m_codeCount_9 m_codes_9 m_error_9 m_errorAt_9 m_nested_9 m_next_9 m_token_9 hf; rw [p10_compileFactor] at hf; cases hf
  | succ d ih =>
    intro ad hNm a_m_fam m_undoCount m_thrown m_hasSnapshot m_rows m_lineLength m_formattedLength m_bufferLength m_limit m_next m_beginsAt m_token m_error m_errorAt m_errorPosition m_nested m_codeCount m_buffer m_codes m_beginsAt_9 m_codeCount_9 m_codes_9 m_error_9 m_errorAt_9 m_nested_9 m_next_9 m_token_9 hf
    rw [p10_compileFactor] at hf
    rw [show 60 + 3 * (d + 1) = (60 + 3 * d) + 3 by omega, show 3000 + 61 * (d + 1) = (3000 + 61 * d) + 61 by omega]
    exact c_X10_compileFactor_o (p10_compileFactor d) (60 + 3 * d) (3000 + 61 * d) (by omega) (by omega) ih ad hNm a_m_fam m_undoCount m_thrown m_hasSnapshot m_rows m_lineLength m_formattedLength m_bufferLength m_limit m_next m_beginsAt m_token m_error m_errorAt m_errorPosition m_nested m_codeCount m_buffer m_codes m_beginsAt_9 m_codeCount_9 m_codes_9 m_error_9 m_errorAt_9 m_nested_9 m_next_9 m_token_9 hf
theorem c_X10_compileFactor (ad : Nat → Nat) (hNm : gNm adV ad) (a_m_fam : Nat) (m_undoCount : Int32) (m_thrown : Int32) (m_hasSnapshot : Bool) (m_rows : Int32) (m_lineLength : Int32) (m_formattedLength : Int32) (m_bufferLength : Int32) (m_limit : Int32) (m_next : Int32) (m_beginsAt : Int32) (m_token : Int32) (m_error : Int32) (m_errorAt : Int32) (m_errorPosition : Int32) (m_nested : Int32) (m_codeCount : Int32) (m_buffer : Nat → Int32) (m_codes : Nat → Int32) (m_beginsAt_9 : Int32) (m_codeCount_9 : Int32) (m_codes_9 : Nat → Int32) (m_error_9 : Int32) (m_errorAt_9 : Int32) (m_nested_9 : Int32) (m_next_9 : Int32) (m_token_9 : Int32) (hf : p10_compileFactor 64 m_limit m_next m_beginsAt m_token m_error m_errorAt m_nested m_codeCount m_buffer m_codes = some (m_beginsAt_9, m_codeCount_9, m_codes_9, m_error_9, m_errorAt_9, m_nested_9, m_next_9, m_token_9)) : gMH l dC dI cI cJ cZ adK adV yX10_compileFactor cX10_compileFactor 2 none 252 6904 [.ref (ad 0)] [(ad 0, .inr (10, oM ad m_undoCount m_thrown m_hasSnapshot a_m_fam m_rows m_lineLength m_formattedLength m_bufferLength m_limit m_next m_beginsAt m_token m_error m_errorAt m_errorPosition m_nested m_codeCount)), ((ad 24), .inl (cI, 800, .inl m_buffer)), ((ad 35), .inl (cI, 200, .inl m_codes))] [(ad 0, .inr (10, oM ad m_undoCount m_thrown m_hasSnapshot a_m_fam m_rows m_lineLength m_formattedLength m_bufferLength m_limit m_next_9 m_beginsAt_9 m_token_9 m_error_9 m_errorAt_9 m_errorPosition m_nested_9 m_codeCount_9)), ((ad 24), .inl (cI, 800, .inl m_buffer)), ((ad 35), .inl (cI, 200, .inl m_codes_9))] none := c_X10_compileFactor_d 64 ad hNm a_m_fam m_undoCount m_thrown m_hasSnapshot m_rows m_lineLength m_formattedLength m_bufferLength m_limit m_next m_beginsAt m_token m_error m_errorAt m_errorPosition m_nested m_codeCount m_buffer m_codes m_beginsAt_9 m_codeCount_9 m_codes_9 m_error_9 m_errorAt_9 m_nested_9 m_next_9 m_token_9 hf
theorem c_X10_compileConjunction (ad : Nat → Nat) (hNm : gNm adV ad) (a_m_fam : Nat) (m_undoCount : Int32) (m_thrown : Int32) (m_hasSnapshot : Bool) (m_rows : Int32) (m_lineLength : Int32) (m_formattedLength : Int32) (m_bufferLength : Int32) (m_limit : Int32) (m_next : Int32) (m_beginsAt : Int32) (m_token : Int32) (m_error : Int32) (m_errorAt : Int32) (m_errorPosition : Int32) (m_nested : Int32) (m_codeCount : Int32) (m_buffer : Nat → Int32) (m_codes : Nat → Int32) (m_beginsAt_9 : Int32) (m_codeCount_9 : Int32) (m_codes_9 : Nat → Int32) (m_error_9 : Int32) (m_errorAt_9 : Int32) (m_nested_9 : Int32) (m_next_9 : Int32) (m_token_9 : Int32) (hf : p10_compileConjunction (p10_compileFactor 64) m_limit m_next m_beginsAt m_token m_error m_errorAt m_nested m_codeCount m_buffer m_codes = some (m_beginsAt_9, m_codeCount_9, m_codes_9, m_error_9, m_errorAt_9, m_nested_9, m_next_9, m_token_9)) : gMH l dC dI cI cJ cZ adK adV yX10_compileConjunction cX10_compileConjunction 1 none 253 6925 [.ref (ad 0)] [(ad 0, .inr (10, oM ad m_undoCount m_thrown m_hasSnapshot a_m_fam m_rows m_lineLength m_formattedLength m_bufferLength m_limit m_next m_beginsAt m_token m_error m_errorAt m_errorPosition m_nested m_codeCount)), ((ad 24), .inl (cI, 800, .inl m_buffer)), ((ad 35), .inl (cI, 200, .inl m_codes))] [(ad 0, .inr (10, oM ad m_undoCount m_thrown m_hasSnapshot a_m_fam m_rows m_lineLength m_formattedLength m_bufferLength m_limit m_next_9 m_beginsAt_9 m_token_9 m_error_9 m_errorAt_9 m_errorPosition m_nested_9 m_codeCount_9)), ((ad 24), .inl (cI, 800, .inl m_buffer)), ((ad 35), .inl (cI, 200, .inl m_codes_9))] none := c_X10_compileConjunction_o (p10_compileFactor 64) 252 6904 (by decide) (by decide) (fun ad hNm a_m_fam m_undoCount m_thrown m_hasSnapshot m_rows m_lineLength m_formattedLength m_bufferLength m_limit m_next m_beginsAt m_token m_error m_errorAt m_errorPosition m_nested m_codeCount m_buffer m_codes m_beginsAt_9 m_codeCount_9 m_codes_9 m_error_9 m_errorAt_9 m_nested_9 m_next_9 m_token_9 hf => c_X10_compileFactor ad hNm a_m_fam m_undoCount m_thrown m_hasSnapshot m_rows m_lineLength m_formattedLength m_bufferLength m_limit m_next m_beginsAt m_token m_error m_errorAt m_errorPosition m_nested m_codeCount m_buffer m_codes m_beginsAt_9 m_codeCount_9 m_codes_9 m_error_9 m_errorAt_9 m_nested_9 m_next_9 m_token_9 hf) ad hNm a_m_fam m_undoCount m_thrown m_hasSnapshot m_rows m_lineLength m_formattedLength m_bufferLength m_limit m_next m_beginsAt m_token m_error m_errorAt m_errorPosition m_nested m_codeCount m_buffer m_codes m_beginsAt_9 m_codeCount_9 m_codes_9 m_error_9 m_errorAt_9 m_nested_9 m_next_9 m_token_9 hf
theorem c_X10_compileTest (ad : Nat → Nat) (hNm : gNm adV ad) (a_m_fam : Nat) (m_undoCount : Int32) (m_thrown : Int32) (m_hasSnapshot : Bool) (m_rows : Int32) (m_lineLength : Int32) (m_formattedLength : Int32) (m_bufferLength : Int32) (m_limit : Int32) (m_next : Int32) (m_beginsAt : Int32) (m_token : Int32) (m_error : Int32) (m_errorAt : Int32) (m_errorPosition : Int32) (m_nested : Int32) (m_codeCount : Int32) (m_buffer : Nat → Int32) (m_codes : Nat → Int32) (m_beginsAt_9 : Int32) (m_codeCount_9 : Int32) (m_codes_9 : Nat → Int32) (m_error_9 : Int32) (m_errorAt_9 : Int32) (m_nested_9 : Int32) (m_next_9 : Int32) (m_token_9 : Int32) (hf : p10_compileTest (p10_compileFactor 64) m_limit m_next m_beginsAt m_token m_error m_errorAt m_nested m_codeCount m_buffer m_codes = some (m_beginsAt_9, m_codeCount_9, m_codes_9, m_error_9, m_errorAt_9, m_nested_9, m_next_9, m_token_9)) : gMH l dC dI cI cJ cZ adK adV yX10_compileTest cX10_compileTest 1 none 254 6945 [.ref (ad 0)] [(ad 0, .inr (10, oM ad m_undoCount m_thrown m_hasSnapshot a_m_fam m_rows m_lineLength m_formattedLength m_bufferLength m_limit m_next m_beginsAt m_token m_error m_errorAt m_errorPosition m_nested m_codeCount)), ((ad 24), .inl (cI, 800, .inl m_buffer)), ((ad 35), .inl (cI, 200, .inl m_codes))] [(ad 0, .inr (10, oM ad m_undoCount m_thrown m_hasSnapshot a_m_fam m_rows m_lineLength m_formattedLength m_bufferLength m_limit m_next_9 m_beginsAt_9 m_token_9 m_error_9 m_errorAt_9 m_errorPosition m_nested_9 m_codeCount_9)), ((ad 24), .inl (cI, 800, .inl m_buffer)), ((ad 35), .inl (cI, 200, .inl m_codes_9))] none := c_X10_compileTest_o (p10_compileFactor 64) 252 6904 (by decide) (by decide) (fun ad hNm a_m_fam m_undoCount m_thrown m_hasSnapshot m_rows m_lineLength m_formattedLength m_bufferLength m_limit m_next m_beginsAt m_token m_error m_errorAt m_errorPosition m_nested m_codeCount m_buffer m_codes m_beginsAt_9 m_codeCount_9 m_codes_9 m_error_9 m_errorAt_9 m_nested_9 m_next_9 m_token_9 hf => c_X10_compileFactor ad hNm a_m_fam m_undoCount m_thrown m_hasSnapshot m_rows m_lineLength m_formattedLength m_bufferLength m_limit m_next m_beginsAt m_token m_error m_errorAt m_errorPosition m_nested m_codeCount m_buffer m_codes m_beginsAt_9 m_codeCount_9 m_codes_9 m_error_9 m_errorAt_9 m_nested_9 m_next_9 m_token_9 hf) ad hNm a_m_fam m_undoCount m_thrown m_hasSnapshot m_rows m_lineLength m_formattedLength m_bufferLength m_limit m_next m_beginsAt m_token m_error m_errorAt m_errorPosition m_nested m_codeCount m_buffer m_codes m_beginsAt_9 m_codeCount_9 m_codes_9 m_error_9 m_errorAt_9 m_nested_9 m_next_9 m_token_9 hf
set_option maxHeartbeats 4000000 in
set_option maxRecDepth 100000 in
theorem c_X10_layPlaces (ad : Nat → Nat) (a_m_fam : Nat) (m_undoCount : Int32) (m_thrown : Int32) (m_hasSnapshot : Bool) (m_rows : Int32) (m_lineLength : Int32) (m_formattedLength : Int32) (m_bufferLength : Int32) (m_limit : Int32) (m_next : Int32) (m_beginsAt : Int32) (m_token : Int32) (m_error : Int32) (m_errorAt : Int32) (m_errorPosition : Int32) (m_nested : Int32) (m_codeCount : Int32) (m_boxAt : Nat → Int32) (m_fam : Nat → Int64) (m_isThere : Nat → Bool) (m_rowOf : Nat → Int32) (m_boxAt_9 : Nat → Int32) (hf : p10_layPlaces m_boxAt m_fam m_isThere m_rowOf = some m_boxAt_9) : gM l dC dI cI cJ cZ yX10_layPlaces cX10_layPlaces 2 none (1) (21) [.ref (ad 0)] [(ad 0, .inr (10, oM ad m_undoCount m_thrown m_hasSnapshot a_m_fam m_rows m_lineLength m_formattedLength m_bufferLength m_limit m_next m_beginsAt m_token m_error m_errorAt m_errorPosition m_nested m_codeCount)), ((ad 14), .inl (cI, 448, .inl m_boxAt)), (a_m_fam, .inl (cJ, 130, .inr (.inl m_fam))), ((ad 13), .inl (cZ, 28, .inl (bF m_isThere))), ((ad 12), .inl (cI, 28, .inl m_rowOf))] [(ad 0, .inr (10, oM ad m_undoCount m_thrown m_hasSnapshot a_m_fam m_rows m_lineLength m_formattedLength m_bufferLength m_limit m_next m_beginsAt m_token m_error m_errorAt m_errorPosition m_nested m_codeCount)), ((ad 14), .inl (cI, 448, .inl m_boxAt_9)), (a_m_fam, .inl (cJ, 130, .inr (.inl m_fam))), ((ad 13), .inl (cZ, 28, .inl (bF m_isThere))), ((ad 12), .inl (cI, 28, .inl m_rowOf))] none := by
  refine g_start (own := RX10) (by decide +kernel) rfl (Nat.le_of_ble_eq_true rfl) ?_
  intro p e s m below meth c A ls S hr hlocks hE hP hD hS hA hl hin
  have hx := S.1
  have hb := S.2.1
  have hml := S.2.2.1
  have hown := S.2.2.2.1
  have htg : ∀ z ∈ gw, z.before ([.ref (ad 0)] : List Value).toArray s = true := fun w h => S.2.2.2.2 w (List.mem_cons_of_mem _ h)
  have hl : lv_has ls 2 [(0, .ref (ad 0))] := hl
  have hS0 := hS
  obtain ⟨H, hH⟩ : ∃ H, H = s.heap := ⟨_, rfl⟩
  obtain ⟨locs, hlc⟩ : ∃ locs : List Loc, locs = [] := ⟨_, rfl⟩
  have hS : va_S A s.heap H locs := by rw [hH, hlc]; exact hS0
  have hP : va_P (dC, dI) vwCl [(ad 0, .inr (10, oM ad m_undoCount m_thrown m_hasSnapshot a_m_fam m_rows m_lineLength m_formattedLength m_bufferLength m_limit m_next m_beginsAt m_token m_error m_errorAt m_errorPosition m_nested m_codeCount)), ((ad 14), .inl (cI, 448, .inl m_boxAt)), (a_m_fam, .inl (cJ, 130, .inr (.inl m_fam))), ((ad 13), .inl (cZ, 28, .inl (bF m_isThere))), ((ad 12), .inl (cI, 28, .inl m_rowOf))] H := by rw [hH]; exact hP
  suffices hgo : W p l e ({ frames := 1, cells := 0, slots := 0, locals := 21 }) s m ([.ref (ad 0)] : List Value).toArray below meth c H locs 0 0 (MQ below (gQ dC dI none A [(ad 0, .inr (10, oM ad m_undoCount m_thrown m_hasSnapshot a_m_fam m_rows m_lineLength m_formattedLength m_bufferLength m_limit m_next m_beginsAt m_token m_error m_errorAt m_errorPosition m_nested m_codeCount)), ((ad 14), .inl (cI, 448, .inl m_boxAt_9)), (a_m_fam, .inl (cJ, 130, .inr (.inl m_fam))), ((ad 13), .inl (cZ, 28, .inl (bF m_isThere))), ((ad 12), .inl (cI, 28, .inl m_rowOf))]) ([.ref (ad 0)] : List Value).toArray s 0 0 A) (F0 m 0 ls []) by rw [hH, hlc] at hgo; exact hgo
  rw [p10_layPlaces] at hf
  have J44 : ∀ (m_boxAt_44 : Nat → Int32) (H : Heap) (locs : List Loc) (ls : Array Slot), p10_layPlaces_J44 m_boxAt_44 = some m_boxAt_9 → va_P (dC, dI) vwCl [(ad 0, .inr (10, oM ad m_undoCount m_thrown m_hasSnapshot a_m_fam m_rows m_lineLength m_formattedLength m_bufferLength m_limit m_next m_beginsAt m_token m_error m_errorAt m_errorPosition m_nested m_codeCount)), ((ad 14), .inl (cI, 448, .inl m_boxAt_44)), (a_m_fam, .inl (cJ, 130, .inr (.inl m_fam))), ((ad 13), .inl (cZ, 28, .inl (bF m_isThere))), ((ad 12), .inl (cI, 28, .inl m_rowOf))] H → va_D A [(ad 0, .inr (10, oM ad m_undoCount m_thrown m_hasSnapshot a_m_fam m_rows m_lineLength m_formattedLength m_bufferLength m_limit m_next m_beginsAt m_token m_error m_errorAt m_errorPosition m_nested m_codeCount)), ((ad 14), .inl (cI, 448, .inl m_boxAt_44)), (a_m_fam, .inl (cJ, 130, .inr (.inl m_fam))), ((ad 13), .inl (cZ, 28, .inl (bF m_isThere))), ((ad 12), .inl (cI, 28, .inl m_rowOf))] → va_S A s.heap H locs → lv_has ls 2 [] → W p l e ({ frames := 1, cells := 0, slots := 0, locals := 21 }) s m ([.ref (ad 0)] : List Value).toArray below meth c H locs 0 0 (MQ below (gQ dC dI none A [(ad 0, .inr (10, oM ad m_undoCount m_thrown m_hasSnapshot a_m_fam m_rows m_lineLength m_formattedLength m_bufferLength m_limit m_next m_beginsAt m_token m_error m_errorAt m_errorPosition m_nested m_codeCount)), ((ad 14), .inl (cI, 448, .inl m_boxAt_9)), (a_m_fam, .inl (cJ, 130, .inr (.inl m_fam))), ((ad 13), .inl (cZ, 28, .inl (bF m_isThere))), ((ad 12), .inl (cI, 28, .inl m_rowOf))]) ([.ref (ad 0)] : List Value).toArray s 0 0 A) (F0 m 44 ls []) := by
    intro m_boxAt_44 H locs ls hf hP hD hS hl
    rw [p10_layPlaces_J44] at hf
    cases hf
    exact g_vret S hr hlocks hP hD hS dX10_layPlaces_44
  refine lv_iconst (v := 0) hx hb dX10_layPlaces_0 (by decide) ?_
  refine lv_istore_n (lv' := [(1, .int (0 : Int32)), (0, .ref (ad 0))]) hx hb dX10_layPlaces_1 rfl hl (by decide) rfl (fun ls hl => ?_)
  have K2 : ∀ (n2 : Nat) (v1_2 : Int32) (m_boxAt_2 : Nat → Int32) (ex2 : (Nat → Int32)) (H : Heap) (locs : List Loc) (ls : Array Slot), p10_layPlaces_L2 m_fam m_isThere m_rowOf n2 v1_2 m_boxAt_2 = some ex2 → (fun m_boxAt_x2 => p10_layPlaces_J44 m_boxAt_x2) ex2 = some m_boxAt_9 → va_P (dC, dI) vwCl [(ad 0, .inr (10, oM ad m_undoCount m_thrown m_hasSnapshot a_m_fam m_rows m_lineLength m_formattedLength m_bufferLength m_limit m_next m_beginsAt m_token m_error m_errorAt m_errorPosition m_nested m_codeCount)), ((ad 14), .inl (cI, 448, .inl m_boxAt_2)), (a_m_fam, .inl (cJ, 130, .inr (.inl m_fam))), ((ad 13), .inl (cZ, 28, .inl (bF m_isThere))), ((ad 12), .inl (cI, 28, .inl m_rowOf))] H → va_D A [(ad 0, .inr (10, oM ad m_undoCount m_thrown m_hasSnapshot a_m_fam m_rows m_lineLength m_formattedLength m_bufferLength m_limit m_next m_beginsAt m_token m_error m_errorAt m_errorPosition m_nested m_codeCount)), ((ad 14), .inl (cI, 448, .inl m_boxAt_2)), (a_m_fam, .inl (cJ, 130, .inr (.inl m_fam))), ((ad 13), .inl (cZ, 28, .inl (bF m_isThere))), ((ad 12), .inl (cI, 28, .inl m_rowOf))] → va_S A s.heap H locs → lv_has ls 2 [(0, .ref (ad 0)), (1, .int v1_2)] → W p l e ({ frames := 1, cells := 0, slots := 0, locals := 21 }) s m ([.ref (ad 0)] : List Value).toArray below meth c H locs 0 0 (MQ below (gQ dC dI none A [(ad 0, .inr (10, oM ad m_undoCount m_thrown m_hasSnapshot a_m_fam m_rows m_lineLength m_formattedLength m_bufferLength m_limit m_next m_beginsAt m_token m_error m_errorAt m_errorPosition m_nested m_codeCount)), ((ad 14), .inl (cI, 448, .inl m_boxAt_9)), (a_m_fam, .inl (cJ, 130, .inr (.inl m_fam))), ((ad 13), .inl (cZ, 28, .inl (bF m_isThere))), ((ad 12), .inl (cI, 28, .inl m_rowOf))]) ([.ref (ad 0)] : List Value).toArray s 0 0 A) (F0 m 2 ls []) := by
    intro n2
    induction n2 with
    | zero => intro v1_2 m_boxAt_2 ex2 H locs ls hf; rw [p10_layPlaces_L2] at hf; cases hf
    | succ n2 ih2 =>
      intro v1_2 m_boxAt_2 ex2 H locs ls hf hk2 hP hD hS hl
      rw [p10_layPlaces_L2, p10_layPlaces_L2_B] at hf
      refine lv_iload_n hx hb dX10_layPlaces_2 rfl (lv_at hl 1 rfl) ?_
      refine lv_bipush (v := 28) hx hb dX10_layPlaces_3 (by decide) ?_
      refine lv_icmp_ge (tgt := 44) hx hb dX10_layPlaces_5 (by decide) (fun h9 => ?_) (fun h9 => ?_)
      · have hf := itt h9 hf
        cases hf
        have hf := hk2
        exact J44 m_boxAt_2 H locs ls hf hP hD hS (lv_sub hl [] rfl)
      · have hf := itf h9 hf
        refine lv_aload_n hx hb dX10_layPlaces_8 rfl (lv_at hl 0 rfl) ?_
        refine va_get (D := (dC, dI)) (ci := 10) (v := .ref (ad 13)) (C := RX10) (T := TX10) (N := 37) hx hb htg inX10 hown hE.1 hP 0 rfl rfl 12 (by decide) (htg _ tw1394) (fun _ h9 => h9) rfl dX10_layPlaces_9 ?_
        refine lv_iload_n hx hb dX10_layPlaces_12 rfl (lv_at hl 1 rfl) ?_
        obtain ⟨h9, hf⟩ := gd_s hf
        refine va_zald hx hb hE.1 hP 3 2 rfl rfl h9 dX10_layPlaces_13 ?_
        refine W.eq (g2 := F0 m 14 ls [.int (bI (m_isThere v1_2.toNatClampNeg))]) rfl ?_
        refine lv_if_eq (tgt := 38) hx hb dX10_layPlaces_14 (by decide) (fun h9 => ?_) (fun h9 => ?_)
        · have hf := ctf (bI_0 h9) hf
          obtain ⟨t38, h9⟩ : ∃ z : Int32, z = (v1_2 + (1 : Int32)) := ⟨_, rfl⟩
          have hf := lb_e h9 hf
          refine lv_iinc (v := t38) (lv' := [(1, .int t38), (0, .ref (ad 0))]) hx hb dX10_layPlaces_38 hl (k := 1) rfl (by rw [h9]; rfl) (by decide) rfl (fun ls hl => ?_)
          refine lv_goto (tgt := 2) hx hb dX10_layPlaces_41 (by decide) ?_
          exact ih2 t38 m_boxAt_2 ex2 H locs ls hf hk2 hP hD hS (lv_sub hl [1, 0] rfl)
        · have hf := ctt (bI_1 h9) hf
          refine lv_aload_n hx hb dX10_layPlaces_17 rfl (lv_at hl 0 rfl) ?_
          refine va_get (D := (dC, dI)) (ci := 10) (v := .ref (ad 14)) (C := RX10) (T := TX10) (N := 37) hx hb htg inX10 hown hE.1 hP 0 rfl rfl 13 (by decide) (htg _ tw1395) (fun _ h9 => h9) rfl dX10_layPlaces_18 ?_
          refine lv_bipush (v := 28) hx hb dX10_layPlaces_21 (by decide) ?_
          refine lv_aload_n hx hb dX10_layPlaces_23 rfl (lv_at hl 0 rfl) ?_
          refine va_get (D := (dC, dI)) (ci := 10) (v := .ref (ad 12)) (C := RX10) (T := TX10) (N := 37) hx hb htg inX10 hown hE.1 hP 0 rfl rfl 11 (by decide) (htg _ tw1393) (fun _ h9 => h9) rfl dX10_layPlaces_24 ?_
          refine lv_iload_n hx hb dX10_layPlaces_27 rfl (lv_at hl 1 rfl) ?_
          obtain ⟨h9, hf⟩ := gd_s hf
          refine va_iald hx hb hE.1 hP 4 0 rfl rfl h9 dX10_layPlaces_28 ?_
          refine lv_imul hx hb dX10_layPlaces_29 ?_
          refine lv_aload_n hx hb dX10_layPlaces_30 rfl (lv_at hl 0 rfl) ?_
          refine lv_iload_n hx hb dX10_layPlaces_31 rfl (lv_at hl 1 rfl) ?_
          obtain ⟨r32, h9, hf⟩ := ob_s hf
          refine gcV (index := 147) S hE (c_X10_placeOf ad a_m_fam m_undoCount m_thrown m_hasSnapshot m_rows m_lineLength m_formattedLength m_bufferLength m_limit m_next m_beginsAt m_token m_error m_errorAt m_errorPosition m_nested m_codeCount m_fam v1_2 r32 h9) mX10_placeOf tw1548 ⟨Nat.le_of_ble_eq_true rfl, Nat.le_of_ble_eq_true rfl⟩ hP hD hS hA ⟨Nat.zero_le _, Nat.zero_le _⟩ 0 10 rfl rfl rfl (wr := [((ad 14), .inl (cI, 448, .inl m_boxAt_2)), ((ad 13), .inl (cZ, 28, .inl (bF m_isThere))), ((ad 12), .inl (cI, 28, .inl m_rowOf))]) [0, 2] [1, 3, 4] rfl rfl rfl rfl (by decide) (As := [.int v1_2]) (rest := [.int ((28 : Int32) * (m_rowOf v1_2.toNatClampNeg)), .ref (ad 14)]) rfl hl.1 rfl (Nat.le_of_ble_eq_true rfl) dX10_layPlaces_32 (fun H locs hP hD hS => ?_)
          refine W.eq (g2 := F0 m 35 ls [.int r32, .int ((28 : Int32) * (m_rowOf v1_2.toNatClampNeg)), .ref (ad 14)]) rfl ?_
          have hP : va_P (dC, dI) vwCl [((ad 14), .inl (cI, 448, .inl m_boxAt_2)), ((ad 13), .inl (cZ, 28, .inl (bF m_isThere))), ((ad 12), .inl (cI, 28, .inl m_rowOf)), (ad 0, .inr (10, oM ad m_undoCount m_thrown m_hasSnapshot a_m_fam m_rows m_lineLength m_formattedLength m_bufferLength m_limit m_next m_beginsAt m_token m_error m_errorAt m_errorPosition m_nested m_codeCount)), (a_m_fam, .inl (cJ, 130, .inr (.inl m_fam)))] H := hP
          have hD : va_D A [((ad 14), .inl (cI, 448, .inl m_boxAt_2)), ((ad 13), .inl (cZ, 28, .inl (bF m_isThere))), ((ad 12), .inl (cI, 28, .inl m_rowOf)), (ad 0, .inr (10, oM ad m_undoCount m_thrown m_hasSnapshot a_m_fam m_rows m_lineLength m_formattedLength m_bufferLength m_limit m_next m_beginsAt m_token m_error m_errorAt m_errorPosition m_nested m_codeCount)), (a_m_fam, .inl (cJ, 130, .inr (.inl m_fam)))] := hD
          refine lv_iadd hx hb dX10_layPlaces_35 ?_
          refine lv_iload_n hx hb dX10_layPlaces_36 rfl (lv_at hl 1 rfl) ?_
          obtain ⟨h9, hf⟩ := gd_s hf
          refine va_iast hx hb hE.1 hP hD hS 0 0 rfl rfl h9 dX10_layPlaces_37 (fun H locs hP hD hS => ?_)
          obtain ⟨g37, h9⟩ : ∃ z, z = (upd m_boxAt_2 (((28 : Int32) * (m_rowOf v1_2.toNatClampNeg)) + r32).toNatClampNeg v1_2) := ⟨_, rfl⟩
          have hf := lb_e h9 hf
          have hP : va_P (dC, dI) vwCl [((ad 14), .inl (cI, 448, .inl g37)), ((ad 13), .inl (cZ, 28, .inl (bF m_isThere))), ((ad 12), .inl (cI, 28, .inl m_rowOf)), (ad 0, .inr (10, oM ad m_undoCount m_thrown m_hasSnapshot a_m_fam m_rows m_lineLength m_formattedLength m_bufferLength m_limit m_next m_beginsAt m_token m_error m_errorAt m_errorPosition m_nested m_codeCount)), (a_m_fam, .inl (cJ, 130, .inr (.inl m_fam)))] H := by rw [h9]; exact hP
          have hD : va_D A [((ad 14), .inl (cI, 448, .inl g37)), ((ad 13), .inl (cZ, 28, .inl (bF m_isThere))), ((ad 12), .inl (cI, 28, .inl m_rowOf)), (ad 0, .inr (10, oM ad m_undoCount m_thrown m_hasSnapshot a_m_fam m_rows m_lineLength m_formattedLength m_bufferLength m_limit m_next m_beginsAt m_token m_error m_errorAt m_errorPosition m_nested m_codeCount)), (a_m_fam, .inl (cJ, 130, .inr (.inl m_fam)))] := by rw [h9]; exact hD
          obtain ⟨t38, h9⟩ : ∃ z : Int32, z = (v1_2 + (1 : Int32)) := ⟨_, rfl⟩
          have hf := lb_e h9 hf
          refine lv_iinc (v := t38) (lv' := [(1, .int t38), (0, .ref (ad 0))]) hx hb dX10_layPlaces_38 hl (k := 1) rfl (by rw [h9]; rfl) (by decide) rfl (fun ls hl => ?_)
          refine lv_goto (tgt := 2) hx hb dX10_layPlaces_41 (by decide) ?_
          exact ih2 t38 g37 ex2 H locs ls hf hk2 (hP.sub [3, 0, 4, 1, 2] rfl) (hD.sub [3, 0, 4, 1, 2] (by decide) rfl) hS (lv_sub hl [1, 0] rfl)
  obtain ⟨ex, h9, hf⟩ := ob_s hf
  exact K2 FU (0 : Int32) m_boxAt ex H locs ls h9 hf hP hD hS (lv_sub hl [1, 0] rfl)
set_option maxHeartbeats 4000000 in
set_option maxRecDepth 100000 in
theorem c_X10_makePlain (ad : Nat → Nat) (a_m_fam : Nat) (m_undoCount : Int32) (m_thrown : Int32) (m_hasSnapshot : Bool) (m_rows : Int32) (m_lineLength : Int32) (m_formattedLength : Int32) (m_bufferLength : Int32) (m_limit : Int32) (m_next : Int32) (m_beginsAt : Int32) (m_token : Int32) (m_error : Int32) (m_errorAt : Int32) (m_errorPosition : Int32) (m_nested : Int32) (m_codeCount : Int32) (m_boxAt : Nat → Int32) (m_fam : Nat → Int64) (m_generation : Nat → Int32) (m_isThere : Nat → Bool) (m_level : Nat → Int32) (m_rowOf : Nat → Int32) (m_rowSize : Nat → Int32) (m_boxAt_9 : Nat → Int32) (m_fam_9 : Nat → Int64) (m_generation_9 : Nat → Int32) (m_isThere_9 : Nat → Bool) (m_level_9 : Nat → Int32) (m_rowOf_9 : Nat → Int32) (m_rowSize_9 : Nat → Int32) (m_rows_9 : Int32) (hf : p10_makePlain m_boxAt m_fam m_generation m_isThere m_level m_rowOf m_rowSize = some (m_boxAt_9, m_fam_9, m_generation_9, m_isThere_9, m_level_9, m_rowOf_9, m_rowSize_9, m_rows_9)) : gM l dC dI cI cJ cZ yX10_makePlain cX10_makePlain 4 none (3) (67) [.ref (ad 0)] [(ad 0, .inr (10, oM ad m_undoCount m_thrown m_hasSnapshot a_m_fam m_rows m_lineLength m_formattedLength m_bufferLength m_limit m_next m_beginsAt m_token m_error m_errorAt m_errorPosition m_nested m_codeCount)), ((ad 14), .inl (cI, 448, .inl m_boxAt)), (a_m_fam, .inl (cJ, 130, .inr (.inl m_fam))), ((ad 9), .inl (cI, 16, .inl m_generation)), ((ad 13), .inl (cZ, 28, .inl (bF m_isThere))), ((ad 10), .inl (cI, 12, .inl m_level)), ((ad 12), .inl (cI, 28, .inl m_rowOf)), ((ad 11), .inl (cI, 16, .inl m_rowSize))] [(ad 0, .inr (10, oM ad m_undoCount m_thrown m_hasSnapshot a_m_fam m_rows_9 m_lineLength m_formattedLength m_bufferLength m_limit m_next m_beginsAt m_token m_error m_errorAt m_errorPosition m_nested m_codeCount)), ((ad 14), .inl (cI, 448, .inl m_boxAt_9)), (a_m_fam, .inl (cJ, 130, .inr (.inl m_fam_9))), ((ad 9), .inl (cI, 16, .inl m_generation_9)), ((ad 13), .inl (cZ, 28, .inl (bF m_isThere_9))), ((ad 10), .inl (cI, 12, .inl m_level_9)), ((ad 12), .inl (cI, 28, .inl m_rowOf_9)), ((ad 11), .inl (cI, 16, .inl m_rowSize_9))] none := by
  refine g_start (own := RX10) (by decide +kernel) rfl (Nat.le_of_ble_eq_true rfl) ?_
  intro p e s m below meth c A ls S hr hlocks hE hP hD hS hA hl hin
  have hx := S.1
  have hb := S.2.1
  have hml := S.2.2.1
  have hown := S.2.2.2.1
  have htg : ∀ z ∈ gw, z.before ([.ref (ad 0)] : List Value).toArray s = true := fun w h => S.2.2.2.2 w (List.mem_cons_of_mem _ h)
  have hl : lv_has ls 4 [(0, .ref (ad 0))] := hl
  have hS0 := hS
  obtain ⟨H, hH⟩ : ∃ H, H = s.heap := ⟨_, rfl⟩
  obtain ⟨locs, hlc⟩ : ∃ locs : List Loc, locs = [] := ⟨_, rfl⟩
  have hS : va_S A s.heap H locs := by rw [hH, hlc]; exact hS0
  have hP : va_P (dC, dI) vwCl [(ad 0, .inr (10, oM ad m_undoCount m_thrown m_hasSnapshot a_m_fam m_rows m_lineLength m_formattedLength m_bufferLength m_limit m_next m_beginsAt m_token m_error m_errorAt m_errorPosition m_nested m_codeCount)), ((ad 14), .inl (cI, 448, .inl m_boxAt)), (a_m_fam, .inl (cJ, 130, .inr (.inl m_fam))), ((ad 9), .inl (cI, 16, .inl m_generation)), ((ad 13), .inl (cZ, 28, .inl (bF m_isThere))), ((ad 10), .inl (cI, 12, .inl m_level)), ((ad 12), .inl (cI, 28, .inl m_rowOf)), ((ad 11), .inl (cI, 16, .inl m_rowSize))] H := by rw [hH]; exact hP
  suffices hgo : W p l e ({ frames := 3, cells := 0, slots := 0, locals := 67 }) s m ([.ref (ad 0)] : List Value).toArray below meth c H locs 0 0 (MQ below (gQ dC dI none A [(ad 0, .inr (10, oM ad m_undoCount m_thrown m_hasSnapshot a_m_fam m_rows_9 m_lineLength m_formattedLength m_bufferLength m_limit m_next m_beginsAt m_token m_error m_errorAt m_errorPosition m_nested m_codeCount)), ((ad 14), .inl (cI, 448, .inl m_boxAt_9)), (a_m_fam, .inl (cJ, 130, .inr (.inl m_fam_9))), ((ad 9), .inl (cI, 16, .inl m_generation_9)), ((ad 13), .inl (cZ, 28, .inl (bF m_isThere_9))), ((ad 10), .inl (cI, 12, .inl m_level_9)), ((ad 12), .inl (cI, 28, .inl m_rowOf_9)), ((ad 11), .inl (cI, 16, .inl m_rowSize_9))]) ([.ref (ad 0)] : List Value).toArray s 0 0 A) (F0 m 0 ls []) by rw [hH, hlc] at hgo; exact hgo
  rw [p10_makePlain] at hf
  have J73 : ∀ (m_rows_73 : Int32) (m_fam_73 : Nat → Int64) (m_generation_73 : Nat → Int32) (m_isThere_73 : Nat → Bool) (m_level_73 : Nat → Int32) (m_rowOf_73 : Nat → Int32) (m_rowSize_73 : Nat → Int32) (H : Heap) (locs : List Loc) (ls : Array Slot), p10_makePlain_J73 m_boxAt m_rows_73 m_fam_73 m_generation_73 m_isThere_73 m_level_73 m_rowOf_73 m_rowSize_73 = some (m_boxAt_9, m_fam_9, m_generation_9, m_isThere_9, m_level_9, m_rowOf_9, m_rowSize_9, m_rows_9) → va_P (dC, dI) vwCl [(ad 0, .inr (10, oM ad m_undoCount m_thrown m_hasSnapshot a_m_fam m_rows_73 m_lineLength m_formattedLength m_bufferLength m_limit m_next m_beginsAt m_token m_error m_errorAt m_errorPosition m_nested m_codeCount)), ((ad 14), .inl (cI, 448, .inl m_boxAt)), (a_m_fam, .inl (cJ, 130, .inr (.inl m_fam_73))), ((ad 9), .inl (cI, 16, .inl m_generation_73)), ((ad 13), .inl (cZ, 28, .inl (bF m_isThere_73))), ((ad 10), .inl (cI, 12, .inl m_level_73)), ((ad 12), .inl (cI, 28, .inl m_rowOf_73)), ((ad 11), .inl (cI, 16, .inl m_rowSize_73))] H → va_D A [(ad 0, .inr (10, oM ad m_undoCount m_thrown m_hasSnapshot a_m_fam m_rows_73 m_lineLength m_formattedLength m_bufferLength m_limit m_next m_beginsAt m_token m_error m_errorAt m_errorPosition m_nested m_codeCount)), ((ad 14), .inl (cI, 448, .inl m_boxAt)), (a_m_fam, .inl (cJ, 130, .inr (.inl m_fam_73))), ((ad 9), .inl (cI, 16, .inl m_generation_73)), ((ad 13), .inl (cZ, 28, .inl (bF m_isThere_73))), ((ad 10), .inl (cI, 12, .inl m_level_73)), ((ad 12), .inl (cI, 28, .inl m_rowOf_73)), ((ad 11), .inl (cI, 16, .inl m_rowSize_73))] → va_S A s.heap H locs → lv_has ls 4 [(0, .ref (ad 0))] → W p l e ({ frames := 3, cells := 0, slots := 0, locals := 67 }) s m ([.ref (ad 0)] : List Value).toArray below meth c H locs 0 0 (MQ below (gQ dC dI none A [(ad 0, .inr (10, oM ad m_undoCount m_thrown m_hasSnapshot a_m_fam m_rows_9 m_lineLength m_formattedLength m_bufferLength m_limit m_next m_beginsAt m_token m_error m_errorAt m_errorPosition m_nested m_codeCount)), ((ad 14), .inl (cI, 448, .inl m_boxAt_9)), (a_m_fam, .inl (cJ, 130, .inr (.inl m_fam_9))), ((ad 9), .inl (cI, 16, .inl m_generation_9)), ((ad 13), .inl (cZ, 28, .inl (bF m_isThere_9))), ((ad 10), .inl (cI, 12, .inl m_level_9)), ((ad 12), .inl (cI, 28, .inl m_rowOf_9)), ((ad 11), .inl (cI, 16, .inl m_rowSize_9))]) ([.ref (ad 0)] : List Value).toArray s 0 0 A) (F0 m 73 ls []) := by
    intro m_rows_73 m_fam_73 m_generation_73 m_isThere_73 m_level_73 m_rowOf_73 m_rowSize_73 H locs ls hf hP hD hS hl
    rw [p10_makePlain_J73] at hf
    refine lv_aload_n hx hb dX10_makePlain_73 rfl (lv_at hl 0 rfl) ?_
    obtain ⟨m_boxAt_74, h9, hf⟩ := ob_s hf
    refine gcV (index := 144) S hE (c_X10_layPlaces ad a_m_fam m_undoCount m_thrown m_hasSnapshot m_rows_73 m_lineLength m_formattedLength m_bufferLength m_limit m_next m_beginsAt m_token m_error m_errorAt m_errorPosition m_nested m_codeCount m_boxAt m_fam_73 m_isThere_73 m_rowOf_73 m_boxAt_74 h9) mX10_layPlaces tw1544 ⟨Nat.le_of_ble_eq_true rfl, Nat.le_of_ble_eq_true rfl⟩ hP hD hS hA ⟨Nat.zero_le _, Nat.zero_le _⟩ 0 10 rfl rfl rfl (wr := [((ad 9), .inl (cI, 16, .inl m_generation_73)), ((ad 10), .inl (cI, 12, .inl m_level_73)), ((ad 11), .inl (cI, 16, .inl m_rowSize_73))]) [0, 1, 2, 4, 6] [3, 5, 7] rfl rfl rfl rfl (by decide) (As := []) (rest := []) rfl hl.1 rfl (Nat.le_of_ble_eq_true rfl) dX10_makePlain_74 (fun H locs hP hD hS => ?_)
    refine W.eq (g2 := F0 m 77 ls []) rfl ?_
    have hP : va_P (dC, dI) vwCl [((ad 9), .inl (cI, 16, .inl m_generation_73)), ((ad 10), .inl (cI, 12, .inl m_level_73)), ((ad 11), .inl (cI, 16, .inl m_rowSize_73)), (ad 0, .inr (10, oM ad m_undoCount m_thrown m_hasSnapshot a_m_fam m_rows_73 m_lineLength m_formattedLength m_bufferLength m_limit m_next m_beginsAt m_token m_error m_errorAt m_errorPosition m_nested m_codeCount)), ((ad 14), .inl (cI, 448, .inl m_boxAt_74)), (a_m_fam, .inl (cJ, 130, .inr (.inl m_fam_73))), ((ad 13), .inl (cZ, 28, .inl (bF m_isThere_73))), ((ad 12), .inl (cI, 28, .inl m_rowOf_73))] H := hP
    have hD : va_D A [((ad 9), .inl (cI, 16, .inl m_generation_73)), ((ad 10), .inl (cI, 12, .inl m_level_73)), ((ad 11), .inl (cI, 16, .inl m_rowSize_73)), (ad 0, .inr (10, oM ad m_undoCount m_thrown m_hasSnapshot a_m_fam m_rows_73 m_lineLength m_formattedLength m_bufferLength m_limit m_next m_beginsAt m_token m_error m_errorAt m_errorPosition m_nested m_codeCount)), ((ad 14), .inl (cI, 448, .inl m_boxAt_74)), (a_m_fam, .inl (cJ, 130, .inr (.inl m_fam_73))), ((ad 13), .inl (cZ, 28, .inl (bF m_isThere_73))), ((ad 12), .inl (cI, 28, .inl m_rowOf_73))] := hD
    cases hf
    exact g_vret S hr hlocks (hP.sub [3, 4, 5, 0, 6, 1, 7, 2] rfl) (hD.sub [3, 4, 5, 0, 6, 1, 7, 2] (by decide) rfl) hS dX10_makePlain_77
  refine lv_aload_n hx hb dX10_makePlain_0 rfl (lv_at hl 0 rfl) ?_
  obtain ⟨⟨m_generation_1, m_level_1, m_rows_1⟩, h9, hf⟩ := ob_s hf
  have hf := uc3_e hf
  refine gcV (index := 138) S hE (c_X10_layGenerations ad a_m_fam m_undoCount m_thrown m_hasSnapshot m_rows m_lineLength m_formattedLength m_bufferLength m_limit m_next m_beginsAt m_token m_error m_errorAt m_errorPosition m_nested m_codeCount m_fam m_generation m_level m_generation_1 m_level_1 m_rows_1 h9) mX10_layGenerations tw1507 ⟨Nat.le_of_ble_eq_true rfl, Nat.le_of_ble_eq_true rfl⟩ hP hD hS hA ⟨Nat.zero_le _, Nat.zero_le _⟩ 0 10 rfl rfl rfl (wr := [((ad 14), .inl (cI, 448, .inl m_boxAt)), ((ad 13), .inl (cZ, 28, .inl (bF m_isThere))), ((ad 12), .inl (cI, 28, .inl m_rowOf)), ((ad 11), .inl (cI, 16, .inl m_rowSize))]) [0, 2, 3, 5] [1, 4, 6, 7] rfl rfl rfl rfl (by decide) (As := []) (rest := []) rfl hl.1 rfl (Nat.le_of_ble_eq_true rfl) dX10_makePlain_1 (fun H locs hP hD hS => ?_)
  refine W.eq (g2 := F0 m 4 ls []) rfl ?_
  have hP : va_P (dC, dI) vwCl [((ad 14), .inl (cI, 448, .inl m_boxAt)), ((ad 13), .inl (cZ, 28, .inl (bF m_isThere))), ((ad 12), .inl (cI, 28, .inl m_rowOf)), ((ad 11), .inl (cI, 16, .inl m_rowSize)), (ad 0, .inr (10, oM ad m_undoCount m_thrown m_hasSnapshot a_m_fam m_rows_1 m_lineLength m_formattedLength m_bufferLength m_limit m_next m_beginsAt m_token m_error m_errorAt m_errorPosition m_nested m_codeCount)), (a_m_fam, .inl (cJ, 130, .inr (.inl m_fam))), ((ad 9), .inl (cI, 16, .inl m_generation_1)), ((ad 10), .inl (cI, 12, .inl m_level_1))] H := hP
  have hD : va_D A [((ad 14), .inl (cI, 448, .inl m_boxAt)), ((ad 13), .inl (cZ, 28, .inl (bF m_isThere))), ((ad 12), .inl (cI, 28, .inl m_rowOf)), ((ad 11), .inl (cI, 16, .inl m_rowSize)), (ad 0, .inr (10, oM ad m_undoCount m_thrown m_hasSnapshot a_m_fam m_rows_1 m_lineLength m_formattedLength m_bufferLength m_limit m_next m_beginsAt m_token m_error m_errorAt m_errorPosition m_nested m_codeCount)), (a_m_fam, .inl (cJ, 130, .inr (.inl m_fam))), ((ad 9), .inl (cI, 16, .inl m_generation_1)), ((ad 10), .inl (cI, 12, .inl m_level_1))] := hD
  refine lv_aload_n hx hb dX10_makePlain_4 rfl (lv_at hl 0 rfl) ?_
  obtain ⟨⟨m_isThere_5, m_rowOf_5, m_rowSize_5⟩, h9, hf⟩ := ob_s hf
  have hf := uc3_e hf
  refine gcV (index := 141) S hE (c_X10_layBoxes ad a_m_fam m_undoCount m_thrown m_hasSnapshot m_rows_1 m_lineLength m_formattedLength m_bufferLength m_limit m_next m_beginsAt m_token m_error m_errorAt m_errorPosition m_nested m_codeCount m_fam m_generation_1 m_isThere m_level_1 m_rowOf m_rowSize m_isThere_5 m_rowOf_5 m_rowSize_5 h9) mX10_layBoxes tw1536 ⟨Nat.le_of_ble_eq_true rfl, Nat.le_of_ble_eq_true rfl⟩ hP hD hS hA ⟨Nat.zero_le _, Nat.zero_le _⟩ 4 10 rfl rfl rfl (wr := [((ad 14), .inl (cI, 448, .inl m_boxAt))]) [4, 5, 6, 1, 7, 2, 3] [0] rfl rfl rfl rfl (by decide) (As := []) (rest := []) rfl hl.1 rfl (Nat.le_of_ble_eq_true rfl) dX10_makePlain_5 (fun H locs hP hD hS => ?_)
  refine W.eq (g2 := F0 m 8 ls []) rfl ?_
  have hP : va_P (dC, dI) vwCl [((ad 14), .inl (cI, 448, .inl m_boxAt)), (ad 0, .inr (10, oM ad m_undoCount m_thrown m_hasSnapshot a_m_fam m_rows_1 m_lineLength m_formattedLength m_bufferLength m_limit m_next m_beginsAt m_token m_error m_errorAt m_errorPosition m_nested m_codeCount)), (a_m_fam, .inl (cJ, 130, .inr (.inl m_fam))), ((ad 9), .inl (cI, 16, .inl m_generation_1)), ((ad 13), .inl (cZ, 28, .inl (bF m_isThere_5))), ((ad 10), .inl (cI, 12, .inl m_level_1)), ((ad 12), .inl (cI, 28, .inl m_rowOf_5)), ((ad 11), .inl (cI, 16, .inl m_rowSize_5))] H := hP
  have hD : va_D A [((ad 14), .inl (cI, 448, .inl m_boxAt)), (ad 0, .inr (10, oM ad m_undoCount m_thrown m_hasSnapshot a_m_fam m_rows_1 m_lineLength m_formattedLength m_bufferLength m_limit m_next m_beginsAt m_token m_error m_errorAt m_errorPosition m_nested m_codeCount)), (a_m_fam, .inl (cJ, 130, .inr (.inl m_fam))), ((ad 9), .inl (cI, 16, .inl m_generation_1)), ((ad 13), .inl (cZ, 28, .inl (bF m_isThere_5))), ((ad 10), .inl (cI, 12, .inl m_level_1)), ((ad 12), .inl (cI, 28, .inl m_rowOf_5)), ((ad 11), .inl (cI, 16, .inl m_rowSize_5))] := hD
  refine lv_iconst (v := 0) hx hb dX10_makePlain_8 (by decide) ?_
  refine lv_istore_n (lv' := [(1, .int (0 : Int32)), (0, .ref (ad 0))]) hx hb dX10_makePlain_9 rfl hl (by decide) rfl (fun ls hl => ?_)
  have K10 : ∀ (n10 : Nat) (v1_10 : Int32) (m_fam_10 : Nat → Int64) (ex10 : (Nat → Int64)) (H : Heap) (locs : List Loc) (ls : Array Slot), p10_makePlain_L10 m_isThere_5 m_rowOf_5 m_rows_1 n10 v1_10 m_fam_10 = some ex10 → (fun m_fam_x10 => p10_makePlain_J73 m_boxAt m_rows_1 m_fam_x10 m_generation_1 m_isThere_5 m_level_1 m_rowOf_5 m_rowSize_5) ex10 = some (m_boxAt_9, m_fam_9, m_generation_9, m_isThere_9, m_level_9, m_rowOf_9, m_rowSize_9, m_rows_9) → va_P (dC, dI) vwCl [(ad 0, .inr (10, oM ad m_undoCount m_thrown m_hasSnapshot a_m_fam m_rows_1 m_lineLength m_formattedLength m_bufferLength m_limit m_next m_beginsAt m_token m_error m_errorAt m_errorPosition m_nested m_codeCount)), ((ad 14), .inl (cI, 448, .inl m_boxAt)), (a_m_fam, .inl (cJ, 130, .inr (.inl m_fam_10))), ((ad 9), .inl (cI, 16, .inl m_generation_1)), ((ad 13), .inl (cZ, 28, .inl (bF m_isThere_5))), ((ad 10), .inl (cI, 12, .inl m_level_1)), ((ad 12), .inl (cI, 28, .inl m_rowOf_5)), ((ad 11), .inl (cI, 16, .inl m_rowSize_5))] H → va_D A [(ad 0, .inr (10, oM ad m_undoCount m_thrown m_hasSnapshot a_m_fam m_rows_1 m_lineLength m_formattedLength m_bufferLength m_limit m_next m_beginsAt m_token m_error m_errorAt m_errorPosition m_nested m_codeCount)), ((ad 14), .inl (cI, 448, .inl m_boxAt)), (a_m_fam, .inl (cJ, 130, .inr (.inl m_fam_10))), ((ad 9), .inl (cI, 16, .inl m_generation_1)), ((ad 13), .inl (cZ, 28, .inl (bF m_isThere_5))), ((ad 10), .inl (cI, 12, .inl m_level_1)), ((ad 12), .inl (cI, 28, .inl m_rowOf_5)), ((ad 11), .inl (cI, 16, .inl m_rowSize_5))] → va_S A s.heap H locs → lv_has ls 4 [(0, .ref (ad 0)), (1, .int v1_10)] → W p l e ({ frames := 3, cells := 0, slots := 0, locals := 67 }) s m ([.ref (ad 0)] : List Value).toArray below meth c H locs 0 0 (MQ below (gQ dC dI none A [(ad 0, .inr (10, oM ad m_undoCount m_thrown m_hasSnapshot a_m_fam m_rows_9 m_lineLength m_formattedLength m_bufferLength m_limit m_next m_beginsAt m_token m_error m_errorAt m_errorPosition m_nested m_codeCount)), ((ad 14), .inl (cI, 448, .inl m_boxAt_9)), (a_m_fam, .inl (cJ, 130, .inr (.inl m_fam_9))), ((ad 9), .inl (cI, 16, .inl m_generation_9)), ((ad 13), .inl (cZ, 28, .inl (bF m_isThere_9))), ((ad 10), .inl (cI, 12, .inl m_level_9)), ((ad 12), .inl (cI, 28, .inl m_rowOf_9)), ((ad 11), .inl (cI, 16, .inl m_rowSize_9))]) ([.ref (ad 0)] : List Value).toArray s 0 0 A) (F0 m 10 ls []) := by
    intro n10
    induction n10 with
    | zero => intro v1_10 m_fam_10 ex10 H locs ls hf; rw [p10_makePlain_L10] at hf; cases hf
    | succ n10 ih10 =>
      intro v1_10 m_fam_10 ex10 H locs ls hf hk10 hP hD hS hl
      rw [p10_makePlain_L10, p10_makePlain_L10_B] at hf
      have J67 : ∀ (m_fam_67 : Nat → Int64) (H : Heap) (locs : List Loc) (ls : Array Slot), p10_makePlain_J67 (p10_makePlain_L10 m_isThere_5 m_rowOf_5 m_rows_1 n10) v1_10 m_fam_67 = some ex10 → va_P (dC, dI) vwCl [(ad 0, .inr (10, oM ad m_undoCount m_thrown m_hasSnapshot a_m_fam m_rows_1 m_lineLength m_formattedLength m_bufferLength m_limit m_next m_beginsAt m_token m_error m_errorAt m_errorPosition m_nested m_codeCount)), ((ad 14), .inl (cI, 448, .inl m_boxAt)), (a_m_fam, .inl (cJ, 130, .inr (.inl m_fam_67))), ((ad 9), .inl (cI, 16, .inl m_generation_1)), ((ad 13), .inl (cZ, 28, .inl (bF m_isThere_5))), ((ad 10), .inl (cI, 12, .inl m_level_1)), ((ad 12), .inl (cI, 28, .inl m_rowOf_5)), ((ad 11), .inl (cI, 16, .inl m_rowSize_5))] H → va_D A [(ad 0, .inr (10, oM ad m_undoCount m_thrown m_hasSnapshot a_m_fam m_rows_1 m_lineLength m_formattedLength m_bufferLength m_limit m_next m_beginsAt m_token m_error m_errorAt m_errorPosition m_nested m_codeCount)), ((ad 14), .inl (cI, 448, .inl m_boxAt)), (a_m_fam, .inl (cJ, 130, .inr (.inl m_fam_67))), ((ad 9), .inl (cI, 16, .inl m_generation_1)), ((ad 13), .inl (cZ, 28, .inl (bF m_isThere_5))), ((ad 10), .inl (cI, 12, .inl m_level_1)), ((ad 12), .inl (cI, 28, .inl m_rowOf_5)), ((ad 11), .inl (cI, 16, .inl m_rowSize_5))] → va_S A s.heap H locs → lv_has ls 4 [(0, .ref (ad 0)), (1, .int v1_10)] → W p l e ({ frames := 3, cells := 0, slots := 0, locals := 67 }) s m ([.ref (ad 0)] : List Value).toArray below meth c H locs 0 0 (MQ below (gQ dC dI none A [(ad 0, .inr (10, oM ad m_undoCount m_thrown m_hasSnapshot a_m_fam m_rows_9 m_lineLength m_formattedLength m_bufferLength m_limit m_next m_beginsAt m_token m_error m_errorAt m_errorPosition m_nested m_codeCount)), ((ad 14), .inl (cI, 448, .inl m_boxAt_9)), (a_m_fam, .inl (cJ, 130, .inr (.inl m_fam_9))), ((ad 9), .inl (cI, 16, .inl m_generation_9)), ((ad 13), .inl (cZ, 28, .inl (bF m_isThere_9))), ((ad 10), .inl (cI, 12, .inl m_level_9)), ((ad 12), .inl (cI, 28, .inl m_rowOf_9)), ((ad 11), .inl (cI, 16, .inl m_rowSize_9))]) ([.ref (ad 0)] : List Value).toArray s 0 0 A) (F0 m 67 ls []) := by
        intro m_fam_67 H locs ls hf hP hD hS hl
        rw [p10_makePlain_J67] at hf
        obtain ⟨t67, h9⟩ : ∃ z : Int32, z = (v1_10 + (1 : Int32)) := ⟨_, rfl⟩
        have hf := lb_e h9 hf
        refine lv_iinc (v := t67) (lv' := [(1, .int t67), (0, .ref (ad 0))]) hx hb dX10_makePlain_67 hl (k := 1) rfl (by rw [h9]; rfl) (by decide) rfl (fun ls hl => ?_)
        refine lv_goto (tgt := 10) hx hb dX10_makePlain_70 (by decide) ?_
        exact ih10 t67 m_fam_67 ex10 H locs ls hf hk10 hP hD hS (lv_sub hl [1, 0] rfl)
      refine lv_iload_n hx hb dX10_makePlain_10 rfl (lv_at hl 1 rfl) ?_
      refine lv_aload_n hx hb dX10_makePlain_11 rfl (lv_at hl 0 rfl) ?_
      refine va_get (D := (dC, dI)) (ci := 10) (v := .int m_rows_1) (C := RX10) (T := TX10) (N := 37) hx hb htg inX10 hown hE.1 hP 0 rfl rfl 14 (by decide) (htg _ tw1396) (fun _ h9 => h9) rfl dX10_makePlain_12 ?_
      refine lv_icmp_ge (tgt := 73) hx hb dX10_makePlain_15 (by decide) (fun h9 => ?_) (fun h9 => ?_)
      · have hf := itt h9 hf
        cases hf
        have hf := hk10
        exact J73 m_rows_1 m_fam_10 m_generation_1 m_isThere_5 m_level_1 m_rowOf_5 m_rowSize_5 H locs ls hf hP hD hS (lv_sub hl [0] rfl)
      · have hf := itf h9 hf
        refine lv_iconst (v := 0) hx hb dX10_makePlain_18 (by decide) ?_
        refine lv_istore_n (lv' := [(2, .int (0 : Int32)), (0, .ref (ad 0)), (1, .int v1_10)]) hx hb dX10_makePlain_19 rfl hl (by decide) rfl (fun ls hl => ?_)
        refine lv_iconst (v := 0) hx hb dX10_makePlain_20 (by decide) ?_
        refine lv_istore_n (lv' := [(3, .int (0 : Int32)), (2, .int (0 : Int32)), (0, .ref (ad 0)), (1, .int v1_10)]) hx hb dX10_makePlain_21 rfl hl (by decide) rfl (fun ls hl => ?_)
        have K22 : ∀ (n22 : Nat) (v2_22 : Int32) (v3_22 : Int32) (m_fam_22 : Nat → Int64) (ex22 : (Nat → Int64)) (H : Heap) (locs : List Loc) (ls : Array Slot), p10_makePlain_L22 m_isThere_5 m_rowOf_5 v1_10 n22 v2_22 v3_22 m_fam_22 = some ex22 → (fun m_fam_x22 => p10_makePlain_J67 (p10_makePlain_L10 m_isThere_5 m_rowOf_5 m_rows_1 n10) v1_10 m_fam_x22) ex22 = some ex10 → va_P (dC, dI) vwCl [(ad 0, .inr (10, oM ad m_undoCount m_thrown m_hasSnapshot a_m_fam m_rows_1 m_lineLength m_formattedLength m_bufferLength m_limit m_next m_beginsAt m_token m_error m_errorAt m_errorPosition m_nested m_codeCount)), ((ad 14), .inl (cI, 448, .inl m_boxAt)), (a_m_fam, .inl (cJ, 130, .inr (.inl m_fam_22))), ((ad 9), .inl (cI, 16, .inl m_generation_1)), ((ad 13), .inl (cZ, 28, .inl (bF m_isThere_5))), ((ad 10), .inl (cI, 12, .inl m_level_1)), ((ad 12), .inl (cI, 28, .inl m_rowOf_5)), ((ad 11), .inl (cI, 16, .inl m_rowSize_5))] H → va_D A [(ad 0, .inr (10, oM ad m_undoCount m_thrown m_hasSnapshot a_m_fam m_rows_1 m_lineLength m_formattedLength m_bufferLength m_limit m_next m_beginsAt m_token m_error m_errorAt m_errorPosition m_nested m_codeCount)), ((ad 14), .inl (cI, 448, .inl m_boxAt)), (a_m_fam, .inl (cJ, 130, .inr (.inl m_fam_22))), ((ad 9), .inl (cI, 16, .inl m_generation_1)), ((ad 13), .inl (cZ, 28, .inl (bF m_isThere_5))), ((ad 10), .inl (cI, 12, .inl m_level_1)), ((ad 12), .inl (cI, 28, .inl m_rowOf_5)), ((ad 11), .inl (cI, 16, .inl m_rowSize_5))] → va_S A s.heap H locs → lv_has ls 4 [(0, .ref (ad 0)), (1, .int v1_10), (2, .int v2_22), (3, .int v3_22)] → W p l e ({ frames := 3, cells := 0, slots := 0, locals := 67 }) s m ([.ref (ad 0)] : List Value).toArray below meth c H locs 0 0 (MQ below (gQ dC dI none A [(ad 0, .inr (10, oM ad m_undoCount m_thrown m_hasSnapshot a_m_fam m_rows_9 m_lineLength m_formattedLength m_bufferLength m_limit m_next m_beginsAt m_token m_error m_errorAt m_errorPosition m_nested m_codeCount)), ((ad 14), .inl (cI, 448, .inl m_boxAt_9)), (a_m_fam, .inl (cJ, 130, .inr (.inl m_fam_9))), ((ad 9), .inl (cI, 16, .inl m_generation_9)), ((ad 13), .inl (cZ, 28, .inl (bF m_isThere_9))), ((ad 10), .inl (cI, 12, .inl m_level_9)), ((ad 12), .inl (cI, 28, .inl m_rowOf_9)), ((ad 11), .inl (cI, 16, .inl m_rowSize_9))]) ([.ref (ad 0)] : List Value).toArray s 0 0 A) (F0 m 22 ls []) := by
          intro n22
          induction n22 with
          | zero => intro v2_22 v3_22 m_fam_22 ex22 H locs ls hf; rw [p10_makePlain_L22] at hf; cases hf
          | succ n22 ih22 =>
            intro v2_22 v3_22 m_fam_22 ex22 H locs ls hf hk22 hP hD hS hl
            rw [p10_makePlain_L22, p10_makePlain_L22_B] at hf
            refine lv_iload_n hx hb dX10_makePlain_22 rfl (lv_at hl 3 rfl) ?_
            refine lv_bipush (v := 28) hx hb dX10_makePlain_23 (by decide) ?_
            refine lv_icmp_ge (tgt := 67) hx hb dX10_makePlain_25 (by decide) (fun h9 => ?_) (fun h9 => ?_)
            · have hf := itt h9 hf
              cases hf
              have hf := hk22
              exact J67 m_fam_22 H locs ls hf hP hD hS (lv_sub hl [0, 1] rfl)
            · have hf := itf h9 hf
              refine lv_aload_n hx hb dX10_makePlain_28 rfl (lv_at hl 0 rfl) ?_
              refine va_get (D := (dC, dI)) (ci := 10) (v := .ref (ad 13)) (C := RX10) (T := TX10) (N := 37) hx hb htg inX10 hown hE.1 hP 0 rfl rfl 12 (by decide) (htg _ tw1394) (fun _ h9 => h9) rfl dX10_makePlain_29 ?_
              refine lv_iload_n hx hb dX10_makePlain_32 rfl (lv_at hl 3 rfl) ?_
              obtain ⟨h9, hf⟩ := gd_s hf
              refine va_zald hx hb hE.1 hP 4 2 rfl rfl h9 dX10_makePlain_33 ?_
              refine W.eq (g2 := F0 m 34 ls [.int (bI (m_isThere_5 v3_22.toNatClampNeg))]) rfl ?_
              refine lv_if_eq (tgt := 61) hx hb dX10_makePlain_34 (by decide) (fun h9 => ?_) (fun h9 => ?_)
              · have hf := ctf (bI_0 h9) hf
                obtain ⟨t61, h9⟩ : ∃ z : Int32, z = (v3_22 + (1 : Int32)) := ⟨_, rfl⟩
                have hf := lb_e h9 hf
                refine lv_iinc (v := t61) (lv' := [(3, .int t61), (0, .ref (ad 0)), (1, .int v1_10), (2, .int v2_22)]) hx hb dX10_makePlain_61 hl (k := 3) rfl (by rw [h9]; rfl) (by decide) rfl (fun ls hl => ?_)
                refine lv_goto (tgt := 22) hx hb dX10_makePlain_64 (by decide) ?_
                exact ih22 v2_22 t61 m_fam_22 ex22 H locs ls hf hk22 hP hD hS (lv_sub hl [1, 2, 3, 0] rfl)
              · have hf := ctt (bI_1 h9) hf
                refine lv_aload_n hx hb dX10_makePlain_37 rfl (lv_at hl 0 rfl) ?_
                refine va_get (D := (dC, dI)) (ci := 10) (v := .ref (ad 12)) (C := RX10) (T := TX10) (N := 37) hx hb htg inX10 hown hE.1 hP 0 rfl rfl 11 (by decide) (htg _ tw1393) (fun _ h9 => h9) rfl dX10_makePlain_38 ?_
                refine lv_iload_n hx hb dX10_makePlain_41 rfl (lv_at hl 3 rfl) ?_
                obtain ⟨h9, hf⟩ := gd_s hf
                refine va_iald hx hb hE.1 hP 6 0 rfl rfl h9 dX10_makePlain_42 ?_
                refine lv_iload_n hx hb dX10_makePlain_43 rfl (lv_at hl 1 rfl) ?_
                refine lv_icmp_ne (tgt := 61) hx hb dX10_makePlain_44 (by decide) (fun h9 => ?_) (fun h9 => ?_)
                · have hf := itf h9 hf
                  obtain ⟨t61, h9⟩ : ∃ z : Int32, z = (v3_22 + (1 : Int32)) := ⟨_, rfl⟩
                  have hf := lb_e h9 hf
                  refine lv_iinc (v := t61) (lv' := [(3, .int t61), (0, .ref (ad 0)), (1, .int v1_10), (2, .int v2_22)]) hx hb dX10_makePlain_61 hl (k := 3) rfl (by rw [h9]; rfl) (by decide) rfl (fun ls hl => ?_)
                  refine lv_goto (tgt := 22) hx hb dX10_makePlain_64 (by decide) ?_
                  exact ih22 v2_22 t61 m_fam_22 ex22 H locs ls hf hk22 hP hD hS (lv_sub hl [1, 2, 3, 0] rfl)
                · have hf := itt h9 hf
                  refine lv_aload_n hx hb dX10_makePlain_47 rfl (lv_at hl 0 rfl) ?_
                  refine va_get (D := (dC, dI)) (ci := 10) (v := .ref a_m_fam) (C := RX10) (T := TX10) (N := 37) hx hb htg inX10 hown hE.1 hP 0 rfl rfl 7 (by decide) (htg _ tw1389) (fun _ h9 => h9) rfl dX10_makePlain_48 ?_
                  refine lv_bipush (v := 102) hx hb dX10_makePlain_51 (by decide) ?_
                  refine lv_iload_n hx hb dX10_makePlain_53 rfl (lv_at hl 3 rfl) ?_
                  refine lv_iadd hx hb dX10_makePlain_54 ?_
                  refine lv_iload_n hx hb dX10_makePlain_55 rfl (lv_at hl 2 rfl) ?_
                  refine lv_i2l hx hb dX10_makePlain_56 rfl ?_
                  obtain ⟨h9, hf⟩ := gd_s hf
                  refine va_last hx hb hE.1 hP hD hS 2 1 rfl rfl h9 dX10_makePlain_57 (fun H locs hP hD hS => ?_)
                  obtain ⟨g57, h9⟩ : ∃ z, z = (vp_updL m_fam_22 ((102 : Int32) + v3_22).toNatClampNeg v2_22.toInt64) := ⟨_, rfl⟩
                  have hf := lb_e h9 hf
                  have hP : va_P (dC, dI) vwCl [(ad 0, .inr (10, oM ad m_undoCount m_thrown m_hasSnapshot a_m_fam m_rows_1 m_lineLength m_formattedLength m_bufferLength m_limit m_next m_beginsAt m_token m_error m_errorAt m_errorPosition m_nested m_codeCount)), ((ad 14), .inl (cI, 448, .inl m_boxAt)), (a_m_fam, .inl (cJ, 130, .inr (.inl g57))), ((ad 9), .inl (cI, 16, .inl m_generation_1)), ((ad 13), .inl (cZ, 28, .inl (bF m_isThere_5))), ((ad 10), .inl (cI, 12, .inl m_level_1)), ((ad 12), .inl (cI, 28, .inl m_rowOf_5)), ((ad 11), .inl (cI, 16, .inl m_rowSize_5))] H := by rw [h9]; exact hP
                  have hD : va_D A [(ad 0, .inr (10, oM ad m_undoCount m_thrown m_hasSnapshot a_m_fam m_rows_1 m_lineLength m_formattedLength m_bufferLength m_limit m_next m_beginsAt m_token m_error m_errorAt m_errorPosition m_nested m_codeCount)), ((ad 14), .inl (cI, 448, .inl m_boxAt)), (a_m_fam, .inl (cJ, 130, .inr (.inl g57))), ((ad 9), .inl (cI, 16, .inl m_generation_1)), ((ad 13), .inl (cZ, 28, .inl (bF m_isThere_5))), ((ad 10), .inl (cI, 12, .inl m_level_1)), ((ad 12), .inl (cI, 28, .inl m_rowOf_5)), ((ad 11), .inl (cI, 16, .inl m_rowSize_5))] := by rw [h9]; exact hD
                  obtain ⟨t58, h9⟩ : ∃ z : Int32, z = (v2_22 + (1 : Int32)) := ⟨_, rfl⟩
                  have hf := lb_e h9 hf
                  refine lv_iinc (v := t58) (lv' := [(2, .int t58), (0, .ref (ad 0)), (1, .int v1_10), (3, .int v3_22)]) hx hb dX10_makePlain_58 hl (k := 2) rfl (by rw [h9]; rfl) (by decide) rfl (fun ls hl => ?_)
                  obtain ⟨t61, h9⟩ : ∃ z : Int32, z = (v3_22 + (1 : Int32)) := ⟨_, rfl⟩
                  have hf := lb_e h9 hf
                  refine lv_iinc (v := t61) (lv' := [(3, .int t61), (2, .int t58), (0, .ref (ad 0)), (1, .int v1_10)]) hx hb dX10_makePlain_61 hl (k := 3) rfl (by rw [h9]; rfl) (by decide) rfl (fun ls hl => ?_)
                  refine lv_goto (tgt := 22) hx hb dX10_makePlain_64 (by decide) ?_
                  exact ih22 t58 t61 g57 ex22 H locs ls hf hk22 hP hD hS (lv_sub hl [2, 3, 1, 0] rfl)
        obtain ⟨ex, h9, hf⟩ := ob_s hf
        exact K22 FU (0 : Int32) (0 : Int32) m_fam_10 ex H locs ls h9 hf hP hD hS (lv_sub hl [2, 3, 1, 0] rfl)
  obtain ⟨ex, h9, hf⟩ := ob_s hf
  exact K10 FU (0 : Int32) m_fam ex H locs ls h9 hf (hP.sub [1, 0, 2, 3, 4, 5, 6, 7] rfl) (hD.sub [1, 0, 2, 3, 4, 5, 6, 7] (by decide) rfl) hS (lv_sub hl [1, 0] rfl)
set_option maxHeartbeats 4000000 in
set_option maxRecDepth 100000 in
theorem c_X10_kinship (ad : Nat → Nat) (a_m_fam : Nat) (m_undoCount : Int32) (m_thrown : Int32) (m_hasSnapshot : Bool) (m_rows : Int32) (m_lineLength : Int32) (m_formattedLength : Int32) (m_bufferLength : Int32) (m_limit : Int32) (m_next : Int32) (m_beginsAt : Int32) (m_token : Int32) (m_error : Int32) (m_errorAt : Int32) (m_errorPosition : Int32) (m_nested : Int32) (m_codeCount : Int32) (m_fam : Nat → Int64) (m_generation : Nat → Int32) (m_kinships : Nat → Int64) (m_level : Nat → Int32) (v1 : Int32) (v2 : Int32) (r9 : Int64) (m_generation_9 : Nat → Int32) (m_kinships_9 : Nat → Int64) (m_level_9 : Nat → Int32) (m_rows_9 : Int32) (m_thrown_9 : Int32) (hf : p10_kinship m_rows m_fam m_generation m_kinships m_level v1 v2 = some (r9, m_generation_9, m_kinships_9, m_level_9, m_rows_9, m_thrown_9)) : gM l dC dI cI cJ cZ yX10_kinship cX10_kinship 3 (some .long) (125) (4950) [.ref (ad 0), .int v1, .int v2] [(ad 0, .inr (10, oM ad m_undoCount m_thrown m_hasSnapshot a_m_fam m_rows m_lineLength m_formattedLength m_bufferLength m_limit m_next m_beginsAt m_token m_error m_errorAt m_errorPosition m_nested m_codeCount)), (a_m_fam, .inl (cJ, 130, .inr (.inl m_fam))), ((ad 9), .inl (cI, 16, .inl m_generation)), ((ad 19), .inl (cJ, 256, .inr (.inl m_kinships))), ((ad 10), .inl (cI, 12, .inl m_level))] [(ad 0, .inr (10, oM ad m_undoCount m_thrown_9 m_hasSnapshot a_m_fam m_rows_9 m_lineLength m_formattedLength m_bufferLength m_limit m_next m_beginsAt m_token m_error m_errorAt m_errorPosition m_nested m_codeCount)), (a_m_fam, .inl (cJ, 130, .inr (.inl m_fam))), ((ad 9), .inl (cI, 16, .inl m_generation_9)), ((ad 19), .inl (cJ, 256, .inr (.inl m_kinships_9))), ((ad 10), .inl (cI, 12, .inl m_level_9))] (some (.long r9)) := by
  refine g_start (own := RX10) (by decide +kernel) rfl (Nat.le_of_ble_eq_true rfl) ?_
  intro p e s m below meth c A ls S hr hlocks hE hP hD hS hA hl hin
  have hx := S.1
  have hb := S.2.1
  have hml := S.2.2.1
  have hown := S.2.2.2.1
  have htg : ∀ z ∈ gw, z.before ([.ref (ad 0), .int v1, .int v2] : List Value).toArray s = true := fun w h => S.2.2.2.2 w (List.mem_cons_of_mem _ h)
  have hl : lv_has ls 3 [(0, .ref (ad 0)), (1, .int v1), (2, .int v2)] := hl
  have hS0 := hS
  obtain ⟨H, hH⟩ : ∃ H, H = s.heap := ⟨_, rfl⟩
  obtain ⟨locs, hlc⟩ : ∃ locs : List Loc, locs = [] := ⟨_, rfl⟩
  have hS : va_S A s.heap H locs := by rw [hH, hlc]; exact hS0
  have hP : va_P (dC, dI) vwCl [(ad 0, .inr (10, oM ad m_undoCount m_thrown m_hasSnapshot a_m_fam m_rows m_lineLength m_formattedLength m_bufferLength m_limit m_next m_beginsAt m_token m_error m_errorAt m_errorPosition m_nested m_codeCount)), (a_m_fam, .inl (cJ, 130, .inr (.inl m_fam))), ((ad 9), .inl (cI, 16, .inl m_generation)), ((ad 19), .inl (cJ, 256, .inr (.inl m_kinships))), ((ad 10), .inl (cI, 12, .inl m_level))] H := by rw [hH]; exact hP
  suffices hgo : W p l e ({ frames := 125, cells := 0, slots := 0, locals := 4950 }) s m ([.ref (ad 0), .int v1, .int v2] : List Value).toArray below meth c H locs 0 0 (MQ below (gQ dC dI (some (.long r9)) A [(ad 0, .inr (10, oM ad m_undoCount m_thrown_9 m_hasSnapshot a_m_fam m_rows_9 m_lineLength m_formattedLength m_bufferLength m_limit m_next m_beginsAt m_token m_error m_errorAt m_errorPosition m_nested m_codeCount)), (a_m_fam, .inl (cJ, 130, .inr (.inl m_fam))), ((ad 9), .inl (cI, 16, .inl m_generation_9)), ((ad 19), .inl (cJ, 256, .inr (.inl m_kinships_9))), ((ad 10), .inl (cI, 12, .inl m_level_9))]) ([.ref (ad 0), .int v1, .int v2] : List Value).toArray s 0 0 A) (F0 m 0 ls []) by rw [hH, hlc] at hgo; exact hgo
  rw [p10_kinship] at hf
  refine lv_aload_n hx hb dX10_kinship_0 rfl (lv_at hl 0 rfl) ?_
  refine lv_iload_n hx hb dX10_kinship_1 rfl (lv_at hl 1 rfl) ?_
  refine lv_iload_n hx hb dX10_kinship_2 rfl (lv_at hl 2 rfl) ?_
  obtain ⟨⟨r3, m_thrown_3⟩, h9, hf⟩ := ob_s hf
  have hf := uc2_e hf
  refine gcV (index := 272) S hE (c_X10_arePersons ad a_m_fam m_undoCount m_thrown m_hasSnapshot m_rows m_lineLength m_formattedLength m_bufferLength m_limit m_next m_beginsAt m_token m_error m_errorAt m_errorPosition m_nested m_codeCount m_fam v1 v2 r3 m_thrown_3 h9) mX10_arePersons tw1664 ⟨Nat.le_of_ble_eq_true rfl, Nat.le_of_ble_eq_true rfl⟩ hP hD hS hA ⟨Nat.zero_le _, Nat.zero_le _⟩ 0 10 rfl rfl rfl (wr := [((ad 9), .inl (cI, 16, .inl m_generation)), ((ad 19), .inl (cJ, 256, .inr (.inl m_kinships))), ((ad 10), .inl (cI, 12, .inl m_level))]) [0, 1] [2, 3, 4] rfl rfl rfl rfl (by decide) (As := [.int v1, .int v2]) (rest := []) rfl hl.1 rfl (Nat.le_of_ble_eq_true rfl) dX10_kinship_3 (fun H locs hP hD hS => ?_)
  refine W.eq (g2 := F0 m 6 ls [.int (bI r3)]) rfl ?_
  have hP : va_P (dC, dI) vwCl [((ad 9), .inl (cI, 16, .inl m_generation)), ((ad 19), .inl (cJ, 256, .inr (.inl m_kinships))), ((ad 10), .inl (cI, 12, .inl m_level)), (ad 0, .inr (10, oM ad m_undoCount m_thrown_3 m_hasSnapshot a_m_fam m_rows m_lineLength m_formattedLength m_bufferLength m_limit m_next m_beginsAt m_token m_error m_errorAt m_errorPosition m_nested m_codeCount)), (a_m_fam, .inl (cJ, 130, .inr (.inl m_fam)))] H := hP
  have hD : va_D A [((ad 9), .inl (cI, 16, .inl m_generation)), ((ad 19), .inl (cJ, 256, .inr (.inl m_kinships))), ((ad 10), .inl (cI, 12, .inl m_level)), (ad 0, .inr (10, oM ad m_undoCount m_thrown_3 m_hasSnapshot a_m_fam m_rows m_lineLength m_formattedLength m_bufferLength m_limit m_next m_beginsAt m_token m_error m_errorAt m_errorPosition m_nested m_codeCount)), (a_m_fam, .inl (cJ, 130, .inr (.inl m_fam)))] := hD
  refine lv_if_ne (tgt := 11) hx hb dX10_kinship_6 (by decide) (fun h9 => ?_) (fun h9 => ?_)
  · have hf := ctt (bI_1 h9) hf
    refine lv_aload_n hx hb dX10_kinship_11 rfl (lv_at hl 0 rfl) ?_
    obtain ⟨⟨m_generation_12, m_kinships_12, m_level_12, m_rows_12⟩, h9, hf⟩ := ob_s hf
    have hf := uc4_e hf
    refine gcV (index := 275) S hE (c_X10_forgetKinships ad a_m_fam m_undoCount m_thrown_3 m_hasSnapshot m_rows m_lineLength m_formattedLength m_bufferLength m_limit m_next m_beginsAt m_token m_error m_errorAt m_errorPosition m_nested m_codeCount m_fam m_generation m_kinships m_level m_generation_12 m_kinships_12 m_level_12 m_rows_12 h9) mX10_forgetKinships tw1668 ⟨Nat.le_of_ble_eq_true rfl, Nat.le_of_ble_eq_true rfl⟩ hP hD hS hA ⟨Nat.zero_le _, Nat.zero_le _⟩ 3 10 rfl rfl rfl (wr := []) [3, 4, 0, 1, 2] [] rfl rfl rfl rfl (by decide) (As := []) (rest := []) rfl hl.1 rfl (Nat.le_of_ble_eq_true rfl) dX10_kinship_12 (fun H locs hP hD hS => ?_)
    refine W.eq (g2 := F0 m 15 ls []) rfl ?_
    have hP : va_P (dC, dI) vwCl [(ad 0, .inr (10, oM ad m_undoCount m_thrown_3 m_hasSnapshot a_m_fam m_rows_12 m_lineLength m_formattedLength m_bufferLength m_limit m_next m_beginsAt m_token m_error m_errorAt m_errorPosition m_nested m_codeCount)), (a_m_fam, .inl (cJ, 130, .inr (.inl m_fam))), ((ad 9), .inl (cI, 16, .inl m_generation_12)), ((ad 19), .inl (cJ, 256, .inr (.inl m_kinships_12))), ((ad 10), .inl (cI, 12, .inl m_level_12))] H := hP
    have hD : va_D A [(ad 0, .inr (10, oM ad m_undoCount m_thrown_3 m_hasSnapshot a_m_fam m_rows_12 m_lineLength m_formattedLength m_bufferLength m_limit m_next m_beginsAt m_token m_error m_errorAt m_errorPosition m_nested m_codeCount)), (a_m_fam, .inl (cJ, 130, .inr (.inl m_fam))), ((ad 9), .inl (cI, 16, .inl m_generation_12)), ((ad 19), .inl (cJ, 256, .inr (.inl m_kinships_12))), ((ad 10), .inl (cI, 12, .inl m_level_12))] := hD
    refine lv_aload_n hx hb dX10_kinship_15 rfl (lv_at hl 0 rfl) ?_
    refine lv_iload_n hx hb dX10_kinship_16 rfl (lv_at hl 1 rfl) ?_
    refine lv_iload_n hx hb dX10_kinship_17 rfl (lv_at hl 2 rfl) ?_
    obtain ⟨⟨r18, m_kinships_18⟩, h9, hf⟩ := ob_s hf
    have hf := uc2_e hf
    refine gcV (index := 265) S hE (c_X10_kinshipOf ad a_m_fam m_undoCount m_thrown_3 m_hasSnapshot m_rows_12 m_lineLength m_formattedLength m_bufferLength m_limit m_next m_beginsAt m_token m_error m_errorAt m_errorPosition m_nested m_codeCount m_fam m_generation_12 m_kinships_12 v1 v2 r18 m_kinships_18 h9) mX10_kinshipOf tw1673 ⟨Nat.le_of_ble_eq_true rfl, Nat.le_of_ble_eq_true rfl⟩ hP hD hS hA ⟨Nat.zero_le _, Nat.zero_le _⟩ 0 10 rfl rfl rfl (wr := [((ad 10), .inl (cI, 12, .inl m_level_12))]) [0, 1, 2, 3] [4] rfl rfl rfl rfl (by decide) (As := [.int v1, .int v2]) (rest := []) rfl hl.1 rfl (Nat.le_of_ble_eq_true rfl) dX10_kinship_18 (fun H locs hP hD hS => ?_)
    refine W.eq (g2 := F0 m 21 ls [.long r18]) rfl ?_
    have hP : va_P (dC, dI) vwCl [((ad 10), .inl (cI, 12, .inl m_level_12)), (ad 0, .inr (10, oM ad m_undoCount m_thrown_3 m_hasSnapshot a_m_fam m_rows_12 m_lineLength m_formattedLength m_bufferLength m_limit m_next m_beginsAt m_token m_error m_errorAt m_errorPosition m_nested m_codeCount)), (a_m_fam, .inl (cJ, 130, .inr (.inl m_fam))), ((ad 9), .inl (cI, 16, .inl m_generation_12)), ((ad 19), .inl (cJ, 256, .inr (.inl m_kinships_18)))] H := hP
    have hD : va_D A [((ad 10), .inl (cI, 12, .inl m_level_12)), (ad 0, .inr (10, oM ad m_undoCount m_thrown_3 m_hasSnapshot a_m_fam m_rows_12 m_lineLength m_formattedLength m_bufferLength m_limit m_next m_beginsAt m_token m_error m_errorAt m_errorPosition m_nested m_codeCount)), (a_m_fam, .inl (cJ, 130, .inr (.inl m_fam))), ((ad 9), .inl (cI, 16, .inl m_generation_12)), ((ad 19), .inl (cJ, 256, .inr (.inl m_kinships_18)))] := hD
    cases hf
    exact g_lret S hr hlocks (hP.sub [1, 2, 3, 4, 0] rfl) (hD.sub [1, 2, 3, 4, 0] (by decide) rfl) hS dX10_kinship_21
  · have hf := ctf (bI_0 h9) hf
    refine lv_lconst (v := 0) hx hb dX10_kinship_9 (by decide) ?_
    cases hf
    exact g_lret S hr hlocks (hP.sub [3, 4, 0, 1, 2] rfl) (hD.sub [3, 4, 0, 1, 2] (by decide) rfl) hS dX10_kinship_10
set_option maxHeartbeats 4000000 in
set_option maxRecDepth 100000 in
theorem c_X10_inbreeding (ad : Nat → Nat) (a_m_fam : Nat) (m_undoCount : Int32) (m_thrown : Int32) (m_hasSnapshot : Bool) (m_rows : Int32) (m_lineLength : Int32) (m_formattedLength : Int32) (m_bufferLength : Int32) (m_limit : Int32) (m_next : Int32) (m_beginsAt : Int32) (m_token : Int32) (m_error : Int32) (m_errorAt : Int32) (m_errorPosition : Int32) (m_nested : Int32) (m_codeCount : Int32) (m_fam : Nat → Int64) (m_generation : Nat → Int32) (m_kinships : Nat → Int64) (m_level : Nat → Int32) (r9 : UInt64) (m_generation_9 : Nat → Int32) (m_kinships_9 : Nat → Int64) (m_level_9 : Nat → Int32) (m_rows_9 : Int32) (m_thrown_9 : Int32) (hf : p10_inbreeding m_fam m_generation m_kinships m_level = some (r9, m_generation_9, m_kinships_9, m_level_9, m_rows_9, m_thrown_9)) : gM l dC dI cI cJ cZ yX10_inbreeding cX10_inbreeding 4 (some .double) (125) (4950) [.ref (ad 0)] [(ad 0, .inr (10, oM ad m_undoCount m_thrown m_hasSnapshot a_m_fam m_rows m_lineLength m_formattedLength m_bufferLength m_limit m_next m_beginsAt m_token m_error m_errorAt m_errorPosition m_nested m_codeCount)), (a_m_fam, .inl (cJ, 130, .inr (.inl m_fam))), ((ad 9), .inl (cI, 16, .inl m_generation)), ((ad 19), .inl (cJ, 256, .inr (.inl m_kinships))), ((ad 10), .inl (cI, 12, .inl m_level))] [(ad 0, .inr (10, oM ad m_undoCount m_thrown_9 m_hasSnapshot a_m_fam m_rows_9 m_lineLength m_formattedLength m_bufferLength m_limit m_next m_beginsAt m_token m_error m_errorAt m_errorPosition m_nested m_codeCount)), (a_m_fam, .inl (cJ, 130, .inr (.inl m_fam))), ((ad 9), .inl (cI, 16, .inl m_generation_9)), ((ad 19), .inl (cJ, 256, .inr (.inl m_kinships_9))), ((ad 10), .inl (cI, 12, .inl m_level_9))] (some (.double r9)) := by
  refine g_start (own := RX10) (by decide +kernel) rfl (Nat.le_of_ble_eq_true rfl) ?_
  intro p e s m below meth c A ls S hr hlocks hE hP hD hS hA hl hin
  have hx := S.1
  have hb := S.2.1
  have hml := S.2.2.1
  have hown := S.2.2.2.1
  have htg : ∀ z ∈ gw, z.before ([.ref (ad 0)] : List Value).toArray s = true := fun w h => S.2.2.2.2 w (List.mem_cons_of_mem _ h)
  have hl : lv_has ls 4 [(0, .ref (ad 0))] := hl
  have hS0 := hS
  obtain ⟨H, hH⟩ : ∃ H, H = s.heap := ⟨_, rfl⟩
  obtain ⟨locs, hlc⟩ : ∃ locs : List Loc, locs = [] := ⟨_, rfl⟩
  have hS : va_S A s.heap H locs := by rw [hH, hlc]; exact hS0
  have hP : va_P (dC, dI) vwCl [(ad 0, .inr (10, oM ad m_undoCount m_thrown m_hasSnapshot a_m_fam m_rows m_lineLength m_formattedLength m_bufferLength m_limit m_next m_beginsAt m_token m_error m_errorAt m_errorPosition m_nested m_codeCount)), (a_m_fam, .inl (cJ, 130, .inr (.inl m_fam))), ((ad 9), .inl (cI, 16, .inl m_generation)), ((ad 19), .inl (cJ, 256, .inr (.inl m_kinships))), ((ad 10), .inl (cI, 12, .inl m_level))] H := by rw [hH]; exact hP
  suffices hgo : W p l e ({ frames := 125, cells := 0, slots := 0, locals := 4950 }) s m ([.ref (ad 0)] : List Value).toArray below meth c H locs 0 0 (MQ below (gQ dC dI (some (.double r9)) A [(ad 0, .inr (10, oM ad m_undoCount m_thrown_9 m_hasSnapshot a_m_fam m_rows_9 m_lineLength m_formattedLength m_bufferLength m_limit m_next m_beginsAt m_token m_error m_errorAt m_errorPosition m_nested m_codeCount)), (a_m_fam, .inl (cJ, 130, .inr (.inl m_fam))), ((ad 9), .inl (cI, 16, .inl m_generation_9)), ((ad 19), .inl (cJ, 256, .inr (.inl m_kinships_9))), ((ad 10), .inl (cI, 12, .inl m_level_9))]) ([.ref (ad 0)] : List Value).toArray s 0 0 A) (F0 m 0 ls []) by rw [hH, hlc] at hgo; exact hgo
  rw [p10_inbreeding] at hf
  have J46 : ∀ (v1_46 : Int64) (m_thrown_46 : Int32) (m_rows_46 : Int32) (m_generation_46 : Nat → Int32) (m_kinships_46 : Nat → Int64) (m_level_46 : Nat → Int32) (H : Heap) (locs : List Loc) (ls : Array Slot), p10_inbreeding_J46 m_fam v1_46 m_thrown_46 m_rows_46 m_generation_46 m_kinships_46 m_level_46 = some (r9, m_generation_9, m_kinships_9, m_level_9, m_rows_9, m_thrown_9) → va_P (dC, dI) vwCl [(ad 0, .inr (10, oM ad m_undoCount m_thrown_46 m_hasSnapshot a_m_fam m_rows_46 m_lineLength m_formattedLength m_bufferLength m_limit m_next m_beginsAt m_token m_error m_errorAt m_errorPosition m_nested m_codeCount)), (a_m_fam, .inl (cJ, 130, .inr (.inl m_fam))), ((ad 9), .inl (cI, 16, .inl m_generation_46)), ((ad 19), .inl (cJ, 256, .inr (.inl m_kinships_46))), ((ad 10), .inl (cI, 12, .inl m_level_46))] H → va_D A [(ad 0, .inr (10, oM ad m_undoCount m_thrown_46 m_hasSnapshot a_m_fam m_rows_46 m_lineLength m_formattedLength m_bufferLength m_limit m_next m_beginsAt m_token m_error m_errorAt m_errorPosition m_nested m_codeCount)), (a_m_fam, .inl (cJ, 130, .inr (.inl m_fam))), ((ad 9), .inl (cI, 16, .inl m_generation_46)), ((ad 19), .inl (cJ, 256, .inr (.inl m_kinships_46))), ((ad 10), .inl (cI, 12, .inl m_level_46))] → va_S A s.heap H locs → lv_has ls 4 [(0, .ref (ad 0)), (1, .long v1_46)] → W p l e ({ frames := 125, cells := 0, slots := 0, locals := 4950 }) s m ([.ref (ad 0)] : List Value).toArray below meth c H locs 0 0 (MQ below (gQ dC dI (some (.double r9)) A [(ad 0, .inr (10, oM ad m_undoCount m_thrown_9 m_hasSnapshot a_m_fam m_rows_9 m_lineLength m_formattedLength m_bufferLength m_limit m_next m_beginsAt m_token m_error m_errorAt m_errorPosition m_nested m_codeCount)), (a_m_fam, .inl (cJ, 130, .inr (.inl m_fam))), ((ad 9), .inl (cI, 16, .inl m_generation_9)), ((ad 19), .inl (cJ, 256, .inr (.inl m_kinships_9))), ((ad 10), .inl (cI, 12, .inl m_level_9))]) ([.ref (ad 0)] : List Value).toArray s 0 0 A) (F0 m 46 ls []) := by
    intro v1_46 m_thrown_46 m_rows_46 m_generation_46 m_kinships_46 m_level_46 H locs ls hf hP hD hS hl
    rw [p10_inbreeding_J46] at hf
    refine lv_aload_n hx hb dX10_inbreeding_46 rfl (lv_at hl 0 rfl) ?_
    obtain ⟨r47, h9, hf⟩ := ob_s hf
    refine gcV (index := 110) S hE (c_X10_unions ad a_m_fam m_undoCount m_thrown_46 m_hasSnapshot m_rows_46 m_lineLength m_formattedLength m_bufferLength m_limit m_next m_beginsAt m_token m_error m_errorAt m_errorPosition m_nested m_codeCount m_fam r47 h9) mX10_unions tw1532 ⟨Nat.le_of_ble_eq_true rfl, Nat.le_of_ble_eq_true rfl⟩ hP hD hS hA ⟨Nat.zero_le _, Nat.zero_le _⟩ 0 10 rfl rfl rfl (wr := [((ad 9), .inl (cI, 16, .inl m_generation_46)), ((ad 19), .inl (cJ, 256, .inr (.inl m_kinships_46))), ((ad 10), .inl (cI, 12, .inl m_level_46))]) [0, 1] [2, 3, 4] rfl rfl rfl rfl (by decide) (As := []) (rest := []) rfl hl.1 rfl (Nat.le_of_ble_eq_true rfl) dX10_inbreeding_47 (fun H locs hP hD hS => ?_)
    refine W.eq (g2 := F0 m 50 ls [.int r47]) rfl ?_
    have hP : va_P (dC, dI) vwCl [((ad 9), .inl (cI, 16, .inl m_generation_46)), ((ad 19), .inl (cJ, 256, .inr (.inl m_kinships_46))), ((ad 10), .inl (cI, 12, .inl m_level_46)), (ad 0, .inr (10, oM ad m_undoCount m_thrown_46 m_hasSnapshot a_m_fam m_rows_46 m_lineLength m_formattedLength m_bufferLength m_limit m_next m_beginsAt m_token m_error m_errorAt m_errorPosition m_nested m_codeCount)), (a_m_fam, .inl (cJ, 130, .inr (.inl m_fam)))] H := hP
    have hD : va_D A [((ad 9), .inl (cI, 16, .inl m_generation_46)), ((ad 19), .inl (cJ, 256, .inr (.inl m_kinships_46))), ((ad 10), .inl (cI, 12, .inl m_level_46)), (ad 0, .inr (10, oM ad m_undoCount m_thrown_46 m_hasSnapshot a_m_fam m_rows_46 m_lineLength m_formattedLength m_bufferLength m_limit m_next m_beginsAt m_token m_error m_errorAt m_errorPosition m_nested m_codeCount)), (a_m_fam, .inl (cJ, 130, .inr (.inl m_fam)))] := hD
    refine lv_if_ne (tgt := 57) hx hb dX10_inbreeding_50 (by decide) (fun h9 => ?_) (fun h9 => ?_)
    · have hf := itf h9 hf
      refine lv_lload_n hx hb dX10_inbreeding_57 rfl (lv_at hl 1 rfl) ?_
      refine lv_l2d hx hb dX10_inbreeding_58 ?_
      refine lv_aload_n hx hb dX10_inbreeding_59 rfl (lv_at hl 0 rfl) ?_
      obtain ⟨r60, h9, hf⟩ := ob_s hf
      refine gcV (index := 110) S hE (c_X10_unions ad a_m_fam m_undoCount m_thrown_46 m_hasSnapshot m_rows_46 m_lineLength m_formattedLength m_bufferLength m_limit m_next m_beginsAt m_token m_error m_errorAt m_errorPosition m_nested m_codeCount m_fam r60 h9) mX10_unions tw1532 ⟨Nat.le_of_ble_eq_true rfl, Nat.le_of_ble_eq_true rfl⟩ hP hD hS hA ⟨Nat.zero_le _, Nat.zero_le _⟩ 3 10 rfl rfl rfl (wr := [((ad 9), .inl (cI, 16, .inl m_generation_46)), ((ad 19), .inl (cJ, 256, .inr (.inl m_kinships_46))), ((ad 10), .inl (cI, 12, .inl m_level_46))]) [3, 4] [0, 1, 2] rfl rfl rfl rfl (by decide) (As := []) (rest := [.double (FP.l2d v1_46)]) rfl hl.1 rfl (Nat.le_of_ble_eq_true rfl) dX10_inbreeding_60 (fun H locs hP hD hS => ?_)
      refine W.eq (g2 := F0 m 63 ls [.int r60, .double (FP.l2d v1_46)]) rfl ?_
      have hP : va_P (dC, dI) vwCl [((ad 9), .inl (cI, 16, .inl m_generation_46)), ((ad 19), .inl (cJ, 256, .inr (.inl m_kinships_46))), ((ad 10), .inl (cI, 12, .inl m_level_46)), (ad 0, .inr (10, oM ad m_undoCount m_thrown_46 m_hasSnapshot a_m_fam m_rows_46 m_lineLength m_formattedLength m_bufferLength m_limit m_next m_beginsAt m_token m_error m_errorAt m_errorPosition m_nested m_codeCount)), (a_m_fam, .inl (cJ, 130, .inr (.inl m_fam)))] H := hP
      have hD : va_D A [((ad 9), .inl (cI, 16, .inl m_generation_46)), ((ad 19), .inl (cJ, 256, .inr (.inl m_kinships_46))), ((ad 10), .inl (cI, 12, .inl m_level_46)), (ad 0, .inr (10, oM ad m_undoCount m_thrown_46 m_hasSnapshot a_m_fam m_rows_46 m_lineLength m_formattedLength m_bufferLength m_limit m_next m_beginsAt m_token m_error m_errorAt m_errorPosition m_nested m_codeCount)), (a_m_fam, .inl (cJ, 130, .inr (.inl m_fam)))] := hD
      refine lv_i2l hx hb dX10_inbreeding_63 rfl ?_
      refine lv_ldc2 (own := RX10) (v := 549755813888) hx hb hown (htg _ tw1682) dX10_inbreeding_64 ?_
      refine lv_lmul hx hb dX10_inbreeding_67 ?_
      refine lv_l2d hx hb dX10_inbreeding_68 ?_
      obtain ⟨h9, hf⟩ := gn64_s hf
      refine lv_ddiv hx hb dX10_inbreeding_69 h9 ?_
      obtain ⟨z9, h9⟩ : ∃ z : UInt64, z = (FP.ddiv (FP.l2d v1_46) (FP.l2d (r60.toInt64 * (549755813888 : Int64)))) := ⟨_, rfl⟩
      rw [← h9] at hf ⊢
      cases hf
      exact g_dret S hr hlocks (hP.sub [3, 4, 0, 1, 2] rfl) (hD.sub [3, 4, 0, 1, 2] (by decide) rfl) hS dX10_inbreeding_70
    · have hf := itt h9 hf
      refine lv_dconst0 hx hb dX10_inbreeding_53 ?_
      refine lv_goto (tgt := 70) hx hb dX10_inbreeding_54 (by decide) ?_
      cases hf
      exact g_dret S hr hlocks (hP.sub [3, 4, 0, 1, 2] rfl) (hD.sub [3, 4, 0, 1, 2] (by decide) rfl) hS dX10_inbreeding_70
  refine lv_aload_n hx hb dX10_inbreeding_0 rfl (lv_at hl 0 rfl) ?_
  refine lv_iconst (v := 0) hx hb dX10_inbreeding_1 (by decide) ?_
  refine va_put (D := (dC, dI)) (ci := 10) (v := .int (0 : Int32)) (ty := .int) (C := RX10) (T := TX10) (N := 37) hx hb htg inX10 tyX10 tyX10_ok nmX10 hown hE.1 hP hD hS 0 rfl rfl 5 (by decide) (htg _ tw1387) (fun _ h9 => h9) rfl (by decide +kernel) rfl rfl (Nat.le_of_ble_eq_true rfl) dX10_inbreeding_2 (fun H locs hP hD hS => ?_)
  have hP : va_P (dC, dI) vwCl [(ad 0, .inr (10, oM ad m_undoCount (0 : Int32) m_hasSnapshot a_m_fam m_rows m_lineLength m_formattedLength m_bufferLength m_limit m_next m_beginsAt m_token m_error m_errorAt m_errorPosition m_nested m_codeCount)), (a_m_fam, .inl (cJ, 130, .inr (.inl m_fam))), ((ad 9), .inl (cI, 16, .inl m_generation)), ((ad 19), .inl (cJ, 256, .inr (.inl m_kinships))), ((ad 10), .inl (cI, 12, .inl m_level))] H := hP
  have hD : va_D A [(ad 0, .inr (10, oM ad m_undoCount (0 : Int32) m_hasSnapshot a_m_fam m_rows m_lineLength m_formattedLength m_bufferLength m_limit m_next m_beginsAt m_token m_error m_errorAt m_errorPosition m_nested m_codeCount)), (a_m_fam, .inl (cJ, 130, .inr (.inl m_fam))), ((ad 9), .inl (cI, 16, .inl m_generation)), ((ad 19), .inl (cJ, 256, .inr (.inl m_kinships))), ((ad 10), .inl (cI, 12, .inl m_level))] := hD
  refine lv_aload_n hx hb dX10_inbreeding_5 rfl (lv_at hl 0 rfl) ?_
  obtain ⟨⟨m_generation_6, m_kinships_6, m_level_6, m_rows_6⟩, h9, hf⟩ := ob_s hf
  have hf := uc4_e hf
  refine gcV (index := 275) S hE (c_X10_forgetKinships ad a_m_fam m_undoCount (0 : Int32) m_hasSnapshot m_rows m_lineLength m_formattedLength m_bufferLength m_limit m_next m_beginsAt m_token m_error m_errorAt m_errorPosition m_nested m_codeCount m_fam m_generation m_kinships m_level m_generation_6 m_kinships_6 m_level_6 m_rows_6 h9) mX10_forgetKinships tw1668 ⟨Nat.le_of_ble_eq_true rfl, Nat.le_of_ble_eq_true rfl⟩ hP hD hS hA ⟨Nat.zero_le _, Nat.zero_le _⟩ 0 10 rfl rfl rfl (wr := []) [0, 1, 2, 3, 4] [] rfl rfl rfl rfl (by decide) (As := []) (rest := []) rfl hl.1 rfl (Nat.le_of_ble_eq_true rfl) dX10_inbreeding_6 (fun H locs hP hD hS => ?_)
  refine W.eq (g2 := F0 m 9 ls []) rfl ?_
  have hP : va_P (dC, dI) vwCl [(ad 0, .inr (10, oM ad m_undoCount (0 : Int32) m_hasSnapshot a_m_fam m_rows_6 m_lineLength m_formattedLength m_bufferLength m_limit m_next m_beginsAt m_token m_error m_errorAt m_errorPosition m_nested m_codeCount)), (a_m_fam, .inl (cJ, 130, .inr (.inl m_fam))), ((ad 9), .inl (cI, 16, .inl m_generation_6)), ((ad 19), .inl (cJ, 256, .inr (.inl m_kinships_6))), ((ad 10), .inl (cI, 12, .inl m_level_6))] H := hP
  have hD : va_D A [(ad 0, .inr (10, oM ad m_undoCount (0 : Int32) m_hasSnapshot a_m_fam m_rows_6 m_lineLength m_formattedLength m_bufferLength m_limit m_next m_beginsAt m_token m_error m_errorAt m_errorPosition m_nested m_codeCount)), (a_m_fam, .inl (cJ, 130, .inr (.inl m_fam))), ((ad 9), .inl (cI, 16, .inl m_generation_6)), ((ad 19), .inl (cJ, 256, .inr (.inl m_kinships_6))), ((ad 10), .inl (cI, 12, .inl m_level_6))] := hD
  refine lv_lconst (v := 0) hx hb dX10_inbreeding_9 (by decide) ?_
  refine lv_lstore_n (lv' := [(1, .long (0 : Int64)), (0, .ref (ad 0))]) hx hb dX10_inbreeding_10 rfl hl (by decide) rfl (fun ls hl => ?_)
  refine lv_iconst (v := 0) hx hb dX10_inbreeding_11 (by decide) ?_
  refine lv_istore_n (lv' := [(3, .int (0 : Int32)), (1, .long (0 : Int64)), (0, .ref (ad 0))]) hx hb dX10_inbreeding_12 rfl hl (by decide) rfl (fun ls hl => ?_)
  have K13 : ∀ (n13 : Nat) (v1_13 : Int64) (v3_13 : Int32) (m_kinships_13 : Nat → Int64) (ex13 : Int64 × (Nat → Int64)) (H : Heap) (locs : List Loc) (ls : Array Slot), p10_inbreeding_L13 m_fam m_generation_6 n13 v1_13 v3_13 m_kinships_13 = some ex13 → (uc2 fun v1_x13 m_kinships_x13 => p10_inbreeding_J46 m_fam v1_x13 (0 : Int32) m_rows_6 m_generation_6 m_kinships_x13 m_level_6) ex13 = some (r9, m_generation_9, m_kinships_9, m_level_9, m_rows_9, m_thrown_9) → va_P (dC, dI) vwCl [(ad 0, .inr (10, oM ad m_undoCount (0 : Int32) m_hasSnapshot a_m_fam m_rows_6 m_lineLength m_formattedLength m_bufferLength m_limit m_next m_beginsAt m_token m_error m_errorAt m_errorPosition m_nested m_codeCount)), (a_m_fam, .inl (cJ, 130, .inr (.inl m_fam))), ((ad 9), .inl (cI, 16, .inl m_generation_6)), ((ad 19), .inl (cJ, 256, .inr (.inl m_kinships_13))), ((ad 10), .inl (cI, 12, .inl m_level_6))] H → va_D A [(ad 0, .inr (10, oM ad m_undoCount (0 : Int32) m_hasSnapshot a_m_fam m_rows_6 m_lineLength m_formattedLength m_bufferLength m_limit m_next m_beginsAt m_token m_error m_errorAt m_errorPosition m_nested m_codeCount)), (a_m_fam, .inl (cJ, 130, .inr (.inl m_fam))), ((ad 9), .inl (cI, 16, .inl m_generation_6)), ((ad 19), .inl (cJ, 256, .inr (.inl m_kinships_13))), ((ad 10), .inl (cI, 12, .inl m_level_6))] → va_S A s.heap H locs → lv_has ls 4 [(0, .ref (ad 0)), (1, .long v1_13), (3, .int v3_13)] → W p l e ({ frames := 125, cells := 0, slots := 0, locals := 4950 }) s m ([.ref (ad 0)] : List Value).toArray below meth c H locs 0 0 (MQ below (gQ dC dI (some (.double r9)) A [(ad 0, .inr (10, oM ad m_undoCount m_thrown_9 m_hasSnapshot a_m_fam m_rows_9 m_lineLength m_formattedLength m_bufferLength m_limit m_next m_beginsAt m_token m_error m_errorAt m_errorPosition m_nested m_codeCount)), (a_m_fam, .inl (cJ, 130, .inr (.inl m_fam))), ((ad 9), .inl (cI, 16, .inl m_generation_9)), ((ad 19), .inl (cJ, 256, .inr (.inl m_kinships_9))), ((ad 10), .inl (cI, 12, .inl m_level_9))]) ([.ref (ad 0)] : List Value).toArray s 0 0 A) (F0 m 13 ls []) := by
    intro n13
    induction n13 with
    | zero => intro v1_13 v3_13 m_kinships_13 ex13 H locs ls hf; rw [p10_inbreeding_L13] at hf; cases hf
    | succ n13 ih13 =>
      intro v1_13 v3_13 m_kinships_13 ex13 H locs ls hf hk13 hP hD hS hl
      rw [p10_inbreeding_L13, p10_inbreeding_L13_B] at hf
      refine lv_iload_n hx hb dX10_inbreeding_13 rfl (lv_at hl 2 rfl) ?_
      refine lv_aload_n hx hb dX10_inbreeding_14 rfl (lv_at hl 0 rfl) ?_
      obtain ⟨r15, h9, hf⟩ := ob_s hf
      refine gcV (index := 110) S hE (c_X10_unions ad a_m_fam m_undoCount (0 : Int32) m_hasSnapshot m_rows_6 m_lineLength m_formattedLength m_bufferLength m_limit m_next m_beginsAt m_token m_error m_errorAt m_errorPosition m_nested m_codeCount m_fam r15 h9) mX10_unions tw1532 ⟨Nat.le_of_ble_eq_true rfl, Nat.le_of_ble_eq_true rfl⟩ hP hD hS hA ⟨Nat.zero_le _, Nat.zero_le _⟩ 0 10 rfl rfl rfl (wr := [((ad 9), .inl (cI, 16, .inl m_generation_6)), ((ad 19), .inl (cJ, 256, .inr (.inl m_kinships_13))), ((ad 10), .inl (cI, 12, .inl m_level_6))]) [0, 1] [2, 3, 4] rfl rfl rfl rfl (by decide) (As := []) (rest := [.int v3_13]) rfl hl.1 rfl (Nat.le_of_ble_eq_true rfl) dX10_inbreeding_15 (fun H locs hP hD hS => ?_)
      refine W.eq (g2 := F0 m 18 ls [.int r15, .int v3_13]) rfl ?_
      have hP : va_P (dC, dI) vwCl [((ad 9), .inl (cI, 16, .inl m_generation_6)), ((ad 19), .inl (cJ, 256, .inr (.inl m_kinships_13))), ((ad 10), .inl (cI, 12, .inl m_level_6)), (ad 0, .inr (10, oM ad m_undoCount (0 : Int32) m_hasSnapshot a_m_fam m_rows_6 m_lineLength m_formattedLength m_bufferLength m_limit m_next m_beginsAt m_token m_error m_errorAt m_errorPosition m_nested m_codeCount)), (a_m_fam, .inl (cJ, 130, .inr (.inl m_fam)))] H := hP
      have hD : va_D A [((ad 9), .inl (cI, 16, .inl m_generation_6)), ((ad 19), .inl (cJ, 256, .inr (.inl m_kinships_13))), ((ad 10), .inl (cI, 12, .inl m_level_6)), (ad 0, .inr (10, oM ad m_undoCount (0 : Int32) m_hasSnapshot a_m_fam m_rows_6 m_lineLength m_formattedLength m_bufferLength m_limit m_next m_beginsAt m_token m_error m_errorAt m_errorPosition m_nested m_codeCount)), (a_m_fam, .inl (cJ, 130, .inr (.inl m_fam)))] := hD
      refine lv_icmp_ge (tgt := 46) hx hb dX10_inbreeding_18 (by decide) (fun h9 => ?_) (fun h9 => ?_)
      · have hf := itt h9 hf
        cases hf
        have hf := hk13
        have hf := uc2_e hf
        exact J46 v1_13 (0 : Int32) m_rows_6 m_generation_6 m_kinships_13 m_level_6 H locs ls hf (hP.sub [3, 4, 0, 1, 2] rfl) (hD.sub [3, 4, 0, 1, 2] (by decide) rfl) hS (lv_sub hl [0, 1] rfl)
      · have hf := itf h9 hf
        refine lv_lload_n hx hb dX10_inbreeding_21 rfl (lv_at hl 1 rfl) ?_
        refine lv_aload_n hx hb dX10_inbreeding_22 rfl (lv_at hl 0 rfl) ?_
        refine lv_aload_n hx hb dX10_inbreeding_23 rfl (lv_at hl 0 rfl) ?_
        refine lv_iload_n hx hb dX10_inbreeding_24 rfl (lv_at hl 2 rfl) ?_
        refine lv_iconst (v := 0) hx hb dX10_inbreeding_25 (by decide) ?_
        obtain ⟨r26, h9, hf⟩ := ob_s hf
        refine gcV (index := 102) S hE (c_X10_partner ad a_m_fam m_undoCount (0 : Int32) m_hasSnapshot m_rows_6 m_lineLength m_formattedLength m_bufferLength m_limit m_next m_beginsAt m_token m_error m_errorAt m_errorPosition m_nested m_codeCount m_fam v3_13 (0 : Int32) r26 h9) mX10_partner tw1527 ⟨Nat.le_of_ble_eq_true rfl, Nat.le_of_ble_eq_true rfl⟩ hP hD hS hA ⟨Nat.zero_le _, Nat.zero_le _⟩ 3 10 rfl rfl rfl (wr := [((ad 9), .inl (cI, 16, .inl m_generation_6)), ((ad 19), .inl (cJ, 256, .inr (.inl m_kinships_13))), ((ad 10), .inl (cI, 12, .inl m_level_6))]) [3, 4] [0, 1, 2] rfl rfl rfl rfl (by decide) (As := [.int v3_13, .int (0 : Int32)]) (rest := [.ref (ad 0), .long v1_13]) rfl hl.1 rfl (Nat.le_of_ble_eq_true rfl) dX10_inbreeding_26 (fun H locs hP hD hS => ?_)
        refine W.eq (g2 := F0 m 29 ls [.int r26, .ref (ad 0), .long v1_13]) rfl ?_
        have hP : va_P (dC, dI) vwCl [((ad 9), .inl (cI, 16, .inl m_generation_6)), ((ad 19), .inl (cJ, 256, .inr (.inl m_kinships_13))), ((ad 10), .inl (cI, 12, .inl m_level_6)), (ad 0, .inr (10, oM ad m_undoCount (0 : Int32) m_hasSnapshot a_m_fam m_rows_6 m_lineLength m_formattedLength m_bufferLength m_limit m_next m_beginsAt m_token m_error m_errorAt m_errorPosition m_nested m_codeCount)), (a_m_fam, .inl (cJ, 130, .inr (.inl m_fam)))] H := hP
        have hD : va_D A [((ad 9), .inl (cI, 16, .inl m_generation_6)), ((ad 19), .inl (cJ, 256, .inr (.inl m_kinships_13))), ((ad 10), .inl (cI, 12, .inl m_level_6)), (ad 0, .inr (10, oM ad m_undoCount (0 : Int32) m_hasSnapshot a_m_fam m_rows_6 m_lineLength m_formattedLength m_bufferLength m_limit m_next m_beginsAt m_token m_error m_errorAt m_errorPosition m_nested m_codeCount)), (a_m_fam, .inl (cJ, 130, .inr (.inl m_fam)))] := hD
        refine lv_aload_n hx hb dX10_inbreeding_29 rfl (lv_at hl 0 rfl) ?_
        refine lv_iload_n hx hb dX10_inbreeding_30 rfl (lv_at hl 2 rfl) ?_
        refine lv_iconst (v := 1) hx hb dX10_inbreeding_31 (by decide) ?_
        obtain ⟨r32, h9, hf⟩ := ob_s hf
        refine gcV (index := 102) S hE (c_X10_partner ad a_m_fam m_undoCount (0 : Int32) m_hasSnapshot m_rows_6 m_lineLength m_formattedLength m_bufferLength m_limit m_next m_beginsAt m_token m_error m_errorAt m_errorPosition m_nested m_codeCount m_fam v3_13 (1 : Int32) r32 h9) mX10_partner tw1527 ⟨Nat.le_of_ble_eq_true rfl, Nat.le_of_ble_eq_true rfl⟩ hP hD hS hA ⟨Nat.zero_le _, Nat.zero_le _⟩ 3 10 rfl rfl rfl (wr := [((ad 9), .inl (cI, 16, .inl m_generation_6)), ((ad 19), .inl (cJ, 256, .inr (.inl m_kinships_13))), ((ad 10), .inl (cI, 12, .inl m_level_6))]) [3, 4] [0, 1, 2] rfl rfl rfl rfl (by decide) (As := [.int v3_13, .int (1 : Int32)]) (rest := [.int r26, .ref (ad 0), .long v1_13]) rfl hl.1 rfl (Nat.le_of_ble_eq_true rfl) dX10_inbreeding_32 (fun H locs hP hD hS => ?_)
        refine W.eq (g2 := F0 m 35 ls [.int r32, .int r26, .ref (ad 0), .long v1_13]) rfl ?_
        have hP : va_P (dC, dI) vwCl [((ad 9), .inl (cI, 16, .inl m_generation_6)), ((ad 19), .inl (cJ, 256, .inr (.inl m_kinships_13))), ((ad 10), .inl (cI, 12, .inl m_level_6)), (ad 0, .inr (10, oM ad m_undoCount (0 : Int32) m_hasSnapshot a_m_fam m_rows_6 m_lineLength m_formattedLength m_bufferLength m_limit m_next m_beginsAt m_token m_error m_errorAt m_errorPosition m_nested m_codeCount)), (a_m_fam, .inl (cJ, 130, .inr (.inl m_fam)))] H := hP
        have hD : va_D A [((ad 9), .inl (cI, 16, .inl m_generation_6)), ((ad 19), .inl (cJ, 256, .inr (.inl m_kinships_13))), ((ad 10), .inl (cI, 12, .inl m_level_6)), (ad 0, .inr (10, oM ad m_undoCount (0 : Int32) m_hasSnapshot a_m_fam m_rows_6 m_lineLength m_formattedLength m_bufferLength m_limit m_next m_beginsAt m_token m_error m_errorAt m_errorPosition m_nested m_codeCount)), (a_m_fam, .inl (cJ, 130, .inr (.inl m_fam)))] := hD
        obtain ⟨⟨r35, m_kinships_35⟩, h9, hf⟩ := ob_s hf
        have hf := uc2_e hf
        refine gcV (index := 265) S hE (c_X10_kinshipOf ad a_m_fam m_undoCount (0 : Int32) m_hasSnapshot m_rows_6 m_lineLength m_formattedLength m_bufferLength m_limit m_next m_beginsAt m_token m_error m_errorAt m_errorPosition m_nested m_codeCount m_fam m_generation_6 m_kinships_13 r26 r32 r35 m_kinships_35 h9) mX10_kinshipOf tw1673 ⟨Nat.le_of_ble_eq_true rfl, Nat.le_of_ble_eq_true rfl⟩ hP hD hS hA ⟨Nat.zero_le _, Nat.zero_le _⟩ 3 10 rfl rfl rfl (wr := [((ad 10), .inl (cI, 12, .inl m_level_6))]) [3, 4, 0, 1] [2] rfl rfl rfl rfl (by decide) (As := [.int r26, .int r32]) (rest := [.long v1_13]) rfl hl.1 rfl (Nat.le_of_ble_eq_true rfl) dX10_inbreeding_35 (fun H locs hP hD hS => ?_)
        refine W.eq (g2 := F0 m 38 ls [.long r35, .long v1_13]) rfl ?_
        have hP : va_P (dC, dI) vwCl [((ad 10), .inl (cI, 12, .inl m_level_6)), (ad 0, .inr (10, oM ad m_undoCount (0 : Int32) m_hasSnapshot a_m_fam m_rows_6 m_lineLength m_formattedLength m_bufferLength m_limit m_next m_beginsAt m_token m_error m_errorAt m_errorPosition m_nested m_codeCount)), (a_m_fam, .inl (cJ, 130, .inr (.inl m_fam))), ((ad 9), .inl (cI, 16, .inl m_generation_6)), ((ad 19), .inl (cJ, 256, .inr (.inl m_kinships_35)))] H := hP
        have hD : va_D A [((ad 10), .inl (cI, 12, .inl m_level_6)), (ad 0, .inr (10, oM ad m_undoCount (0 : Int32) m_hasSnapshot a_m_fam m_rows_6 m_lineLength m_formattedLength m_bufferLength m_limit m_next m_beginsAt m_token m_error m_errorAt m_errorPosition m_nested m_codeCount)), (a_m_fam, .inl (cJ, 130, .inr (.inl m_fam))), ((ad 9), .inl (cI, 16, .inl m_generation_6)), ((ad 19), .inl (cJ, 256, .inr (.inl m_kinships_35)))] := hD
        refine lv_ladd hx hb dX10_inbreeding_38 ?_
        refine lv_topl (fun t39 h9 => ?_)
        have hf := lb_e h9 hf
        refine lv_lstore_n (lv' := [(1, .long t39), (0, .ref (ad 0)), (3, .int v3_13)]) hx hb dX10_inbreeding_39 rfl hl (by decide) rfl (fun ls hl => ?_)
        obtain ⟨t40, h9⟩ : ∃ z : Int32, z = (v3_13 + (1 : Int32)) := ⟨_, rfl⟩
        have hf := lb_e h9 hf
        refine lv_iinc (v := t40) (lv' := [(3, .int t40), (1, .long t39), (0, .ref (ad 0))]) hx hb dX10_inbreeding_40 hl (k := 2) rfl (by rw [h9]; rfl) (by decide) rfl (fun ls hl => ?_)
        refine lv_goto (tgt := 13) hx hb dX10_inbreeding_43 (by decide) ?_
        exact ih13 t39 t40 m_kinships_35 ex13 H locs ls hf hk13 (hP.sub [1, 2, 3, 4, 0] rfl) (hD.sub [1, 2, 3, 4, 0] (by decide) rfl) hS (lv_sub hl [2, 1, 0] rfl)
  obtain ⟨ex, h9, hf⟩ := ob_s hf
  exact K13 FU (0 : Int64) (0 : Int32) m_kinships_6 ex H locs ls h9 hf hP hD hS (lv_sub hl [2, 1, 0] rfl)
end G_31_FamilyChartModel04
