section G_31_FamilyChartModel04
variable {l : Launch} {dC : Nat → ClassId} {dI : Nat → Nat → Nat} {cI cJ cZ : ClassId}
def p10_readName_J41 (m_beginsAt : Int32) (v1_41 : Int32) (m_error_41 : Int32) (m_errorAt_41 : Int32) : Option (Int32 × Int32 × Int32) := (if m_error_41 = (0 : Int32) then (if v1_41 = (-1 : Int32) then lb (p10_check m_beginsAt m_error_41 m_errorAt_41 false (4 : Int32)) (uc2 fun m_error_60 m_errorAt_60 => some (v1_41, m_error_60, m_errorAt_60)) else lb (p10_check m_beginsAt m_error_41 m_errorAt_41 true (4 : Int32)) (uc2 fun m_error_60 m_errorAt_60 => some (v1_41, m_error_60, m_errorAt_60))) else lb (p10_check m_beginsAt m_error_41 m_errorAt_41 true (4 : Int32)) (uc2 fun m_error_60 m_errorAt_60 => some (v1_41, m_error_60, m_errorAt_60)))
def p10_readName_J25 (m_beginsAt : Int32) (m_buffer : Nat → Int32) (m_fam : Nat → Int64) (m_next : Int32) (m_token : Int32) (m_error_25 : Int32) (m_errorAt_25 : Int32) : Option (Int32 × Int32 × Int32) := (if m_error_25 = (0 : Int32) then ob (p10_personHere m_next m_beginsAt m_token m_buffer m_fam) (fun r37 => (p10_readName_J41 m_beginsAt r37 m_error_25 m_errorAt_25)) else (p10_readName_J41 m_beginsAt (-1 : Int32) m_error_25 m_errorAt_25))
def p10_readName (m_next : Int32) (m_beginsAt : Int32) (m_token : Int32) (m_error : Int32) (m_errorAt : Int32) (m_buffer : Nat → Int32) (m_fam : Nat → Int64) : Option (Int32 × Int32 × Int32) := (if m_error = (0 : Int32) then (if m_token = (1 : Int32) then lb (p10_check m_beginsAt m_error m_errorAt true (1 : Int32)) (uc2 fun m_error_22 m_errorAt_22 => (p10_readName_J25 m_beginsAt m_buffer m_fam m_next m_token m_error_22 m_errorAt_22)) else lb (p10_check m_beginsAt m_error m_errorAt false (1 : Int32)) (uc2 fun m_error_22 m_errorAt_22 => (p10_readName_J25 m_beginsAt m_buffer m_fam m_next m_token m_error_22 m_errorAt_22))) else lb (p10_check m_beginsAt m_error m_errorAt true (1 : Int32)) (uc2 fun m_error_22 m_errorAt_22 => (p10_readName_J25 m_beginsAt m_buffer m_fam m_next m_token m_error_22 m_errorAt_22)))
set_option maxHeartbeats 4000000 in
set_option maxRecDepth 100000 in
theorem c_X10_readName (ad : Nat → Nat) (a_m_fam : Nat) (m_undoCount : Int32) (m_thrown : Int32) (m_hasSnapshot : Bool) (m_rows : Int32) (m_lineLength : Int32) (m_formattedLength : Int32) (m_bufferLength : Int32) (m_limit : Int32) (m_next : Int32) (m_beginsAt : Int32) (m_token : Int32) (m_error : Int32) (m_errorAt : Int32) (m_errorPosition : Int32) (m_nested : Int32) (m_codeCount : Int32) (m_buffer : Nat → Int32) (m_fam : Nat → Int64) (r9 : Int32) (m_error_9 : Int32) (m_errorAt_9 : Int32) (hf : p10_readName m_next m_beginsAt m_token m_error m_errorAt m_buffer m_fam = some (r9, m_error_9, m_errorAt_9)) : gM l dC dI cI cJ cZ yX10_readName cX10_readName 2 (some .int) 2 44 [.ref (ad 0)] [(ad 0, .inr (10, oM ad m_undoCount m_thrown m_hasSnapshot a_m_fam m_rows m_lineLength m_formattedLength m_bufferLength m_limit m_next m_beginsAt m_token m_error m_errorAt m_errorPosition m_nested m_codeCount)), ((ad 24), .inl (cI, 800, .inl m_buffer)), (a_m_fam, .inl (cJ, 130, .inr (.inl m_fam)))] [(ad 0, .inr (10, oM ad m_undoCount m_thrown m_hasSnapshot a_m_fam m_rows m_lineLength m_formattedLength m_bufferLength m_limit m_next m_beginsAt m_token m_error_9 m_errorAt_9 m_errorPosition m_nested m_codeCount)), ((ad 24), .inl (cI, 800, .inl m_buffer)), (a_m_fam, .inl (cJ, 130, .inr (.inl m_fam)))] (some (.int r9)) := by
  refine g_start (own := RX10) (by decide +kernel) rfl (Nat.le_of_ble_eq_true rfl) ?_
  intro p e s m below meth c A ls S hr hlocks hE hP hD hS hA hl hin
  have hx := S.1
  have hb := S.2.1
  have hml := S.2.2.1
  have hown := S.2.2.2.1
  have htg : ∀ w ∈ gw, w.before ([.ref (ad 0)] : List Value).toArray s = true := fun w h => S.2.2.2.2 w (List.mem_cons_of_mem _ h)
  have hl : lv_has ls 2 [(0, .ref (ad 0))] := hl
  have hS0 := hS
  obtain ⟨H, hH⟩ : ∃ H, H = s.heap := ⟨_, rfl⟩
  obtain ⟨locs, hlc⟩ : ∃ locs : List Loc, locs = [] := ⟨_, rfl⟩
  have hS : va_S A s.heap H locs := by rw [hH, hlc]; exact hS0
  have hP : va_P (dC, dI) vwCl [(ad 0, .inr (10, oM ad m_undoCount m_thrown m_hasSnapshot a_m_fam m_rows m_lineLength m_formattedLength m_bufferLength m_limit m_next m_beginsAt m_token m_error m_errorAt m_errorPosition m_nested m_codeCount)), ((ad 24), .inl (cI, 800, .inl m_buffer)), (a_m_fam, .inl (cJ, 130, .inr (.inl m_fam)))] H := by rw [hH]; exact hP
  suffices hgo : W p l e ({ frames := 2, cells := 0, slots := 0, locals := 44 }) s m ([.ref (ad 0)] : List Value).toArray below meth c H locs 0 0 (MQ below (gQ dC dI (some (.int r9)) A [(ad 0, .inr (10, oM ad m_undoCount m_thrown m_hasSnapshot a_m_fam m_rows m_lineLength m_formattedLength m_bufferLength m_limit m_next m_beginsAt m_token m_error_9 m_errorAt_9 m_errorPosition m_nested m_codeCount)), ((ad 24), .inl (cI, 800, .inl m_buffer)), (a_m_fam, .inl (cJ, 130, .inr (.inl m_fam)))]) ([.ref (ad 0)] : List Value).toArray s 0 0 A) (F0 m 0 ls []) by rw [hH, hlc] at hgo; exact hgo
  rw [p10_readName] at hf
  have J41 : ∀ (v1_41 : Int32) (m_error_41 : Int32) (m_errorAt_41 : Int32) (H : Heap) (locs : List Loc) (ls : Array Slot), p10_readName_J41 m_beginsAt v1_41 m_error_41 m_errorAt_41 = some (r9, m_error_9, m_errorAt_9) → va_P (dC, dI) vwCl [(ad 0, .inr (10, oM ad m_undoCount m_thrown m_hasSnapshot a_m_fam m_rows m_lineLength m_formattedLength m_bufferLength m_limit m_next m_beginsAt m_token m_error_41 m_errorAt_41 m_errorPosition m_nested m_codeCount)), ((ad 24), .inl (cI, 800, .inl m_buffer)), (a_m_fam, .inl (cJ, 130, .inr (.inl m_fam)))] H → va_D A [(ad 0, .inr (10, oM ad m_undoCount m_thrown m_hasSnapshot a_m_fam m_rows m_lineLength m_formattedLength m_bufferLength m_limit m_next m_beginsAt m_token m_error_41 m_errorAt_41 m_errorPosition m_nested m_codeCount)), ((ad 24), .inl (cI, 800, .inl m_buffer)), (a_m_fam, .inl (cJ, 130, .inr (.inl m_fam)))] → va_S A s.heap H locs → lv_has ls 2 [(0, .ref (ad 0)), (1, .int v1_41)] → W p l e ({ frames := 2, cells := 0, slots := 0, locals := 44 }) s m ([.ref (ad 0)] : List Value).toArray below meth c H locs 0 0 (MQ below (gQ dC dI (some (.int r9)) A [(ad 0, .inr (10, oM ad m_undoCount m_thrown m_hasSnapshot a_m_fam m_rows m_lineLength m_formattedLength m_bufferLength m_limit m_next m_beginsAt m_token m_error_9 m_errorAt_9 m_errorPosition m_nested m_codeCount)), ((ad 24), .inl (cI, 800, .inl m_buffer)), (a_m_fam, .inl (cJ, 130, .inr (.inl m_fam)))]) ([.ref (ad 0)] : List Value).toArray s 0 0 A) (F0 m 41 ls []) := by
    intro v1_41 m_error_41 m_errorAt_41 H locs ls hf hP hD hS hl
    rw [p10_readName_J41] at hf
    refine lv_aload_n hx hb dX10_readName_41 rfl (lv_at hl 0 rfl) ?_
    refine lv_aload_n hx hb dX10_readName_42 rfl (lv_at hl 0 rfl) ?_
    refine va_get (D := (dC, dI)) (ci := 10) (v := .int m_error_41) (C := RX10) (T := TX10) (N := 37) hx hb htg inX10 hown hE.1 hP 0 rfl rfl 29 (by decide) (htg _ tw1411) (fun _ h9 => h9) rfl dX10_readName_43 ?_
    refine lv_if_ne (tgt := 54) hx hb dX10_readName_46 (by decide) (fun h9 => ?_) (fun h9 => ?_)
    · have hf := itf h9 hf
      refine lv_iconst (v := 1) hx hb dX10_readName_54 (by decide) ?_
      refine lv_goto (tgt := 59) hx hb dX10_readName_55 (by decide) ?_
      refine lv_iconst (v := 4) hx hb dX10_readName_59 (by decide) ?_
      obtain ⟨m_error_60, m_errorAt_60, h9⟩ : ∃ m_error_60 m_errorAt_60, p10_check m_beginsAt m_error_41 m_errorAt_41 true (4 : Int32) = (m_error_60, m_errorAt_60) := ⟨_, _, rfl⟩
      have hf := uc2_e (lb_e h9.symm hf)
      refine gcV (index := 415) S hE (c_X10_check ad a_m_fam m_undoCount m_thrown m_hasSnapshot m_rows m_lineLength m_formattedLength m_bufferLength m_limit m_next m_beginsAt m_token m_error_41 m_errorAt_41 m_errorPosition m_nested m_codeCount true (4 : Int32) m_error_60 m_errorAt_60 h9) mX10_check tw1968 ⟨Nat.le_of_ble_eq_true rfl, Nat.le_of_ble_eq_true rfl⟩ hP hD hS hA ⟨Nat.zero_le _, Nat.zero_le _⟩ 0 10 rfl rfl rfl (wr := [((ad 24), .inl (cI, 800, .inl m_buffer)), (a_m_fam, .inl (cJ, 130, .inr (.inl m_fam)))]) [0] [1, 2] rfl rfl rfl rfl (by decide) (As := [.int (bI true), .int (4 : Int32)]) (rest := []) rfl hl.1 rfl (Nat.le_of_ble_eq_true rfl) dX10_readName_60 (fun H locs hP hD hS => ?_)
      refine W.eq (g2 := F0 m 63 ls []) rfl ?_
      have hP : va_P (dC, dI) vwCl [((ad 24), .inl (cI, 800, .inl m_buffer)), (a_m_fam, .inl (cJ, 130, .inr (.inl m_fam))), (ad 0, .inr (10, oM ad m_undoCount m_thrown m_hasSnapshot a_m_fam m_rows m_lineLength m_formattedLength m_bufferLength m_limit m_next m_beginsAt m_token m_error_60 m_errorAt_60 m_errorPosition m_nested m_codeCount))] H := hP
      have hD : va_D A [((ad 24), .inl (cI, 800, .inl m_buffer)), (a_m_fam, .inl (cJ, 130, .inr (.inl m_fam))), (ad 0, .inr (10, oM ad m_undoCount m_thrown m_hasSnapshot a_m_fam m_rows m_lineLength m_formattedLength m_bufferLength m_limit m_next m_beginsAt m_token m_error_60 m_errorAt_60 m_errorPosition m_nested m_codeCount))] := hD
      refine lv_iload_n hx hb dX10_readName_63 rfl (lv_at hl 1 rfl) ?_
      cases hf
      exact g_iret S hr hlocks (hP.sub [2, 0, 1] rfl) (hD.sub [2, 0, 1] (by decide) rfl) hS dX10_readName_64
    · have hf := itt h9 hf
      refine lv_iload_n hx hb dX10_readName_49 rfl (lv_at hl 1 rfl) ?_
      refine lv_iconst (v := -1) hx hb dX10_readName_50 (by decide) ?_
      refine lv_icmp_eq (tgt := 58) hx hb dX10_readName_51 (by decide) (fun h9 => ?_) (fun h9 => ?_)
      · have hf := itt h9 hf
        refine lv_iconst (v := 0) hx hb dX10_readName_58 (by decide) ?_
        refine lv_iconst (v := 4) hx hb dX10_readName_59 (by decide) ?_
        obtain ⟨m_error_60, m_errorAt_60, h9⟩ : ∃ m_error_60 m_errorAt_60, p10_check m_beginsAt m_error_41 m_errorAt_41 false (4 : Int32) = (m_error_60, m_errorAt_60) := ⟨_, _, rfl⟩
        have hf := uc2_e (lb_e h9.symm hf)
        refine gcV (index := 415) S hE (c_X10_check ad a_m_fam m_undoCount m_thrown m_hasSnapshot m_rows m_lineLength m_formattedLength m_bufferLength m_limit m_next m_beginsAt m_token m_error_41 m_errorAt_41 m_errorPosition m_nested m_codeCount false (4 : Int32) m_error_60 m_errorAt_60 h9) mX10_check tw1968 ⟨Nat.le_of_ble_eq_true rfl, Nat.le_of_ble_eq_true rfl⟩ hP hD hS hA ⟨Nat.zero_le _, Nat.zero_le _⟩ 0 10 rfl rfl rfl (wr := [((ad 24), .inl (cI, 800, .inl m_buffer)), (a_m_fam, .inl (cJ, 130, .inr (.inl m_fam)))]) [0] [1, 2] rfl rfl rfl rfl (by decide) (As := [.int (bI false), .int (4 : Int32)]) (rest := []) rfl hl.1 rfl (Nat.le_of_ble_eq_true rfl) dX10_readName_60 (fun H locs hP hD hS => ?_)
        refine W.eq (g2 := F0 m 63 ls []) rfl ?_
        have hP : va_P (dC, dI) vwCl [((ad 24), .inl (cI, 800, .inl m_buffer)), (a_m_fam, .inl (cJ, 130, .inr (.inl m_fam))), (ad 0, .inr (10, oM ad m_undoCount m_thrown m_hasSnapshot a_m_fam m_rows m_lineLength m_formattedLength m_bufferLength m_limit m_next m_beginsAt m_token m_error_60 m_errorAt_60 m_errorPosition m_nested m_codeCount))] H := hP
        have hD : va_D A [((ad 24), .inl (cI, 800, .inl m_buffer)), (a_m_fam, .inl (cJ, 130, .inr (.inl m_fam))), (ad 0, .inr (10, oM ad m_undoCount m_thrown m_hasSnapshot a_m_fam m_rows m_lineLength m_formattedLength m_bufferLength m_limit m_next m_beginsAt m_token m_error_60 m_errorAt_60 m_errorPosition m_nested m_codeCount))] := hD
        refine lv_iload_n hx hb dX10_readName_63 rfl (lv_at hl 1 rfl) ?_
        cases hf
        exact g_iret S hr hlocks (hP.sub [2, 0, 1] rfl) (hD.sub [2, 0, 1] (by decide) rfl) hS dX10_readName_64
      · have hf := itf h9 hf
        refine lv_iconst (v := 1) hx hb dX10_readName_54 (by decide) ?_
        refine lv_goto (tgt := 59) hx hb dX10_readName_55 (by decide) ?_
        refine lv_iconst (v := 4) hx hb dX10_readName_59 (by decide) ?_
        obtain ⟨m_error_60, m_errorAt_60, h9⟩ : ∃ m_error_60 m_errorAt_60, p10_check m_beginsAt m_error_41 m_errorAt_41 true (4 : Int32) = (m_error_60, m_errorAt_60) := ⟨_, _, rfl⟩
        have hf := uc2_e (lb_e h9.symm hf)
        refine gcV (index := 415) S hE (c_X10_check ad a_m_fam m_undoCount m_thrown m_hasSnapshot m_rows m_lineLength m_formattedLength m_bufferLength m_limit m_next m_beginsAt m_token m_error_41 m_errorAt_41 m_errorPosition m_nested m_codeCount true (4 : Int32) m_error_60 m_errorAt_60 h9) mX10_check tw1968 ⟨Nat.le_of_ble_eq_true rfl, Nat.le_of_ble_eq_true rfl⟩ hP hD hS hA ⟨Nat.zero_le _, Nat.zero_le _⟩ 0 10 rfl rfl rfl (wr := [((ad 24), .inl (cI, 800, .inl m_buffer)), (a_m_fam, .inl (cJ, 130, .inr (.inl m_fam)))]) [0] [1, 2] rfl rfl rfl rfl (by decide) (As := [.int (bI true), .int (4 : Int32)]) (rest := []) rfl hl.1 rfl (Nat.le_of_ble_eq_true rfl) dX10_readName_60 (fun H locs hP hD hS => ?_)
        refine W.eq (g2 := F0 m 63 ls []) rfl ?_
        have hP : va_P (dC, dI) vwCl [((ad 24), .inl (cI, 800, .inl m_buffer)), (a_m_fam, .inl (cJ, 130, .inr (.inl m_fam))), (ad 0, .inr (10, oM ad m_undoCount m_thrown m_hasSnapshot a_m_fam m_rows m_lineLength m_formattedLength m_bufferLength m_limit m_next m_beginsAt m_token m_error_60 m_errorAt_60 m_errorPosition m_nested m_codeCount))] H := hP
        have hD : va_D A [((ad 24), .inl (cI, 800, .inl m_buffer)), (a_m_fam, .inl (cJ, 130, .inr (.inl m_fam))), (ad 0, .inr (10, oM ad m_undoCount m_thrown m_hasSnapshot a_m_fam m_rows m_lineLength m_formattedLength m_bufferLength m_limit m_next m_beginsAt m_token m_error_60 m_errorAt_60 m_errorPosition m_nested m_codeCount))] := hD
        refine lv_iload_n hx hb dX10_readName_63 rfl (lv_at hl 1 rfl) ?_
        cases hf
        exact g_iret S hr hlocks (hP.sub [2, 0, 1] rfl) (hD.sub [2, 0, 1] (by decide) rfl) hS dX10_readName_64
  have J25 : ∀ (m_error_25 : Int32) (m_errorAt_25 : Int32) (H : Heap) (locs : List Loc) (ls : Array Slot), p10_readName_J25 m_beginsAt m_buffer m_fam m_next m_token m_error_25 m_errorAt_25 = some (r9, m_error_9, m_errorAt_9) → va_P (dC, dI) vwCl [(ad 0, .inr (10, oM ad m_undoCount m_thrown m_hasSnapshot a_m_fam m_rows m_lineLength m_formattedLength m_bufferLength m_limit m_next m_beginsAt m_token m_error_25 m_errorAt_25 m_errorPosition m_nested m_codeCount)), ((ad 24), .inl (cI, 800, .inl m_buffer)), (a_m_fam, .inl (cJ, 130, .inr (.inl m_fam)))] H → va_D A [(ad 0, .inr (10, oM ad m_undoCount m_thrown m_hasSnapshot a_m_fam m_rows m_lineLength m_formattedLength m_bufferLength m_limit m_next m_beginsAt m_token m_error_25 m_errorAt_25 m_errorPosition m_nested m_codeCount)), ((ad 24), .inl (cI, 800, .inl m_buffer)), (a_m_fam, .inl (cJ, 130, .inr (.inl m_fam)))] → va_S A s.heap H locs → lv_has ls 2 [(0, .ref (ad 0))] → W p l e ({ frames := 2, cells := 0, slots := 0, locals := 44 }) s m ([.ref (ad 0)] : List Value).toArray below meth c H locs 0 0 (MQ below (gQ dC dI (some (.int r9)) A [(ad 0, .inr (10, oM ad m_undoCount m_thrown m_hasSnapshot a_m_fam m_rows m_lineLength m_formattedLength m_bufferLength m_limit m_next m_beginsAt m_token m_error_9 m_errorAt_9 m_errorPosition m_nested m_codeCount)), ((ad 24), .inl (cI, 800, .inl m_buffer)), (a_m_fam, .inl (cJ, 130, .inr (.inl m_fam)))]) ([.ref (ad 0)] : List Value).toArray s 0 0 A) (F0 m 25 ls []) := by
    intro m_error_25 m_errorAt_25 H locs ls hf hP hD hS hl
    rw [p10_readName_J25] at hf
    refine lv_aload_n hx hb dX10_readName_25 rfl (lv_at hl 0 rfl) ?_
    refine va_get (D := (dC, dI)) (ci := 10) (v := .int m_error_25) (C := RX10) (T := TX10) (N := 37) hx hb htg inX10 hown hE.1 hP 0 rfl rfl 29 (by decide) (htg _ tw1411) (fun _ h9 => h9) rfl dX10_readName_26 ?_
    refine lv_if_eq (tgt := 36) hx hb dX10_readName_29 (by decide) (fun h9 => ?_) (fun h9 => ?_)
    · have hf := itt h9 hf
      refine lv_aload_n hx hb dX10_readName_36 rfl (lv_at hl 0 rfl) ?_
      obtain ⟨r37, h9, hf⟩ := ob_s hf
      refine gcV (index := 438) S hE (c_X10_personHere ad a_m_fam m_undoCount m_thrown m_hasSnapshot m_rows m_lineLength m_formattedLength m_bufferLength m_limit m_next m_beginsAt m_token m_error_25 m_errorAt_25 m_errorPosition m_nested m_codeCount m_buffer m_fam r37 h9) mX10_personHere tw1980 ⟨Nat.le_of_ble_eq_true rfl, Nat.le_of_ble_eq_true rfl⟩ hP hD hS hA ⟨Nat.zero_le _, Nat.zero_le _⟩ 0 10 rfl rfl rfl (wr := []) [0, 1, 2] [] rfl rfl rfl rfl (by decide) (As := []) (rest := []) rfl hl.1 rfl (Nat.le_of_ble_eq_true rfl) dX10_readName_37 (fun H locs hP hD hS => ?_)
      refine W.eq (g2 := F0 m 40 ls [.int r37]) rfl ?_
      have hP : va_P (dC, dI) vwCl [(ad 0, .inr (10, oM ad m_undoCount m_thrown m_hasSnapshot a_m_fam m_rows m_lineLength m_formattedLength m_bufferLength m_limit m_next m_beginsAt m_token m_error_25 m_errorAt_25 m_errorPosition m_nested m_codeCount)), ((ad 24), .inl (cI, 800, .inl m_buffer)), (a_m_fam, .inl (cJ, 130, .inr (.inl m_fam)))] H := hP
      have hD : va_D A [(ad 0, .inr (10, oM ad m_undoCount m_thrown m_hasSnapshot a_m_fam m_rows m_lineLength m_formattedLength m_bufferLength m_limit m_next m_beginsAt m_token m_error_25 m_errorAt_25 m_errorPosition m_nested m_codeCount)), ((ad 24), .inl (cI, 800, .inl m_buffer)), (a_m_fam, .inl (cJ, 130, .inr (.inl m_fam)))] := hD
      refine lv_istore_n (lv' := [(1, .int r37), (0, .ref (ad 0))]) hx hb dX10_readName_40 rfl hl (by decide) rfl (fun ls hl => ?_)
      exact J41 r37 m_error_25 m_errorAt_25 H locs ls hf hP hD hS (lv_sub hl [1, 0] rfl)
    · have hf := itf h9 hf
      refine lv_iconst (v := -1) hx hb dX10_readName_32 (by decide) ?_
      refine lv_goto (tgt := 40) hx hb dX10_readName_33 (by decide) ?_
      refine lv_istore_n (lv' := [(1, .int (-1 : Int32)), (0, .ref (ad 0))]) hx hb dX10_readName_40 rfl hl (by decide) rfl (fun ls hl => ?_)
      exact J41 (-1 : Int32) m_error_25 m_errorAt_25 H locs ls hf hP hD hS (lv_sub hl [1, 0] rfl)
  refine lv_aload_n hx hb dX10_readName_0 rfl (lv_at hl 0 rfl) ?_
  refine lv_aload_n hx hb dX10_readName_1 rfl (lv_at hl 0 rfl) ?_
  refine va_get (D := (dC, dI)) (ci := 10) (v := .int m_error) (C := RX10) (T := TX10) (N := 37) hx hb htg inX10 hown hE.1 hP 0 rfl rfl 29 (by decide) (htg _ tw1411) (fun _ h9 => h9) rfl dX10_readName_2 ?_
  refine lv_if_ne (tgt := 16) hx hb dX10_readName_5 (by decide) (fun h9 => ?_) (fun h9 => ?_)
  · have hf := itf h9 hf
    refine lv_iconst (v := 1) hx hb dX10_readName_16 (by decide) ?_
    refine lv_goto (tgt := 21) hx hb dX10_readName_17 (by decide) ?_
    refine lv_iconst (v := 1) hx hb dX10_readName_21 (by decide) ?_
    obtain ⟨m_error_22, m_errorAt_22, h9⟩ : ∃ m_error_22 m_errorAt_22, p10_check m_beginsAt m_error m_errorAt true (1 : Int32) = (m_error_22, m_errorAt_22) := ⟨_, _, rfl⟩
    have hf := uc2_e (lb_e h9.symm hf)
    refine gcV (index := 415) S hE (c_X10_check ad a_m_fam m_undoCount m_thrown m_hasSnapshot m_rows m_lineLength m_formattedLength m_bufferLength m_limit m_next m_beginsAt m_token m_error m_errorAt m_errorPosition m_nested m_codeCount true (1 : Int32) m_error_22 m_errorAt_22 h9) mX10_check tw1968 ⟨Nat.le_of_ble_eq_true rfl, Nat.le_of_ble_eq_true rfl⟩ hP hD hS hA ⟨Nat.zero_le _, Nat.zero_le _⟩ 0 10 rfl rfl rfl (wr := [((ad 24), .inl (cI, 800, .inl m_buffer)), (a_m_fam, .inl (cJ, 130, .inr (.inl m_fam)))]) [0] [1, 2] rfl rfl rfl rfl (by decide) (As := [.int (bI true), .int (1 : Int32)]) (rest := []) rfl hl.1 rfl (Nat.le_of_ble_eq_true rfl) dX10_readName_22 (fun H locs hP hD hS => ?_)
    refine W.eq (g2 := F0 m 25 ls []) rfl ?_
    have hP : va_P (dC, dI) vwCl [((ad 24), .inl (cI, 800, .inl m_buffer)), (a_m_fam, .inl (cJ, 130, .inr (.inl m_fam))), (ad 0, .inr (10, oM ad m_undoCount m_thrown m_hasSnapshot a_m_fam m_rows m_lineLength m_formattedLength m_bufferLength m_limit m_next m_beginsAt m_token m_error_22 m_errorAt_22 m_errorPosition m_nested m_codeCount))] H := hP
    have hD : va_D A [((ad 24), .inl (cI, 800, .inl m_buffer)), (a_m_fam, .inl (cJ, 130, .inr (.inl m_fam))), (ad 0, .inr (10, oM ad m_undoCount m_thrown m_hasSnapshot a_m_fam m_rows m_lineLength m_formattedLength m_bufferLength m_limit m_next m_beginsAt m_token m_error_22 m_errorAt_22 m_errorPosition m_nested m_codeCount))] := hD
    exact J25 m_error_22 m_errorAt_22 H locs ls hf (hP.sub [2, 0, 1] rfl) (hD.sub [2, 0, 1] (by decide) rfl) hS (lv_sub hl [0] rfl)
  · have hf := itt h9 hf
    refine lv_aload_n hx hb dX10_readName_8 rfl (lv_at hl 0 rfl) ?_
    refine va_get (D := (dC, dI)) (ci := 10) (v := .int m_token) (C := RX10) (T := TX10) (N := 37) hx hb htg inX10 hown hE.1 hP 0 rfl rfl 28 (by decide) (htg _ tw1410) (fun _ h9 => h9) rfl dX10_readName_9 ?_
    refine lv_iconst (v := 1) hx hb dX10_readName_12 (by decide) ?_
    refine lv_icmp_ne (tgt := 20) hx hb dX10_readName_13 (by decide) (fun h9 => ?_) (fun h9 => ?_)
    · have hf := itf h9 hf
      refine lv_iconst (v := 0) hx hb dX10_readName_20 (by decide) ?_
      refine lv_iconst (v := 1) hx hb dX10_readName_21 (by decide) ?_
      obtain ⟨m_error_22, m_errorAt_22, h9⟩ : ∃ m_error_22 m_errorAt_22, p10_check m_beginsAt m_error m_errorAt false (1 : Int32) = (m_error_22, m_errorAt_22) := ⟨_, _, rfl⟩
      have hf := uc2_e (lb_e h9.symm hf)
      refine gcV (index := 415) S hE (c_X10_check ad a_m_fam m_undoCount m_thrown m_hasSnapshot m_rows m_lineLength m_formattedLength m_bufferLength m_limit m_next m_beginsAt m_token m_error m_errorAt m_errorPosition m_nested m_codeCount false (1 : Int32) m_error_22 m_errorAt_22 h9) mX10_check tw1968 ⟨Nat.le_of_ble_eq_true rfl, Nat.le_of_ble_eq_true rfl⟩ hP hD hS hA ⟨Nat.zero_le _, Nat.zero_le _⟩ 0 10 rfl rfl rfl (wr := [((ad 24), .inl (cI, 800, .inl m_buffer)), (a_m_fam, .inl (cJ, 130, .inr (.inl m_fam)))]) [0] [1, 2] rfl rfl rfl rfl (by decide) (As := [.int (bI false), .int (1 : Int32)]) (rest := []) rfl hl.1 rfl (Nat.le_of_ble_eq_true rfl) dX10_readName_22 (fun H locs hP hD hS => ?_)
      refine W.eq (g2 := F0 m 25 ls []) rfl ?_
      have hP : va_P (dC, dI) vwCl [((ad 24), .inl (cI, 800, .inl m_buffer)), (a_m_fam, .inl (cJ, 130, .inr (.inl m_fam))), (ad 0, .inr (10, oM ad m_undoCount m_thrown m_hasSnapshot a_m_fam m_rows m_lineLength m_formattedLength m_bufferLength m_limit m_next m_beginsAt m_token m_error_22 m_errorAt_22 m_errorPosition m_nested m_codeCount))] H := hP
      have hD : va_D A [((ad 24), .inl (cI, 800, .inl m_buffer)), (a_m_fam, .inl (cJ, 130, .inr (.inl m_fam))), (ad 0, .inr (10, oM ad m_undoCount m_thrown m_hasSnapshot a_m_fam m_rows m_lineLength m_formattedLength m_bufferLength m_limit m_next m_beginsAt m_token m_error_22 m_errorAt_22 m_errorPosition m_nested m_codeCount))] := hD
      exact J25 m_error_22 m_errorAt_22 H locs ls hf (hP.sub [2, 0, 1] rfl) (hD.sub [2, 0, 1] (by decide) rfl) hS (lv_sub hl [0] rfl)
    · have hf := itt h9 hf
      refine lv_iconst (v := 1) hx hb dX10_readName_16 (by decide) ?_
      refine lv_goto (tgt := 21) hx hb dX10_readName_17 (by decide) ?_
      refine lv_iconst (v := 1) hx hb dX10_readName_21 (by decide) ?_
      obtain ⟨m_error_22, m_errorAt_22, h9⟩ : ∃ m_error_22 m_errorAt_22, p10_check m_beginsAt m_error m_errorAt true (1 : Int32) = (m_error_22, m_errorAt_22) := ⟨_, _, rfl⟩
      have hf := uc2_e (lb_e h9.symm hf)
      refine gcV (index := 415) S hE (c_X10_check ad a_m_fam m_undoCount m_thrown m_hasSnapshot m_rows m_lineLength m_formattedLength m_bufferLength m_limit m_next m_beginsAt m_token m_error m_errorAt m_errorPosition m_nested m_codeCount true (1 : Int32) m_error_22 m_errorAt_22 h9) mX10_check tw1968 ⟨Nat.le_of_ble_eq_true rfl, Nat.le_of_ble_eq_true rfl⟩ hP hD hS hA ⟨Nat.zero_le _, Nat.zero_le _⟩ 0 10 rfl rfl rfl (wr := [((ad 24), .inl (cI, 800, .inl m_buffer)), (a_m_fam, .inl (cJ, 130, .inr (.inl m_fam)))]) [0] [1, 2] rfl rfl rfl rfl (by decide) (As := [.int (bI true), .int (1 : Int32)]) (rest := []) rfl hl.1 rfl (Nat.le_of_ble_eq_true rfl) dX10_readName_22 (fun H locs hP hD hS => ?_)
      refine W.eq (g2 := F0 m 25 ls []) rfl ?_
      have hP : va_P (dC, dI) vwCl [((ad 24), .inl (cI, 800, .inl m_buffer)), (a_m_fam, .inl (cJ, 130, .inr (.inl m_fam))), (ad 0, .inr (10, oM ad m_undoCount m_thrown m_hasSnapshot a_m_fam m_rows m_lineLength m_formattedLength m_bufferLength m_limit m_next m_beginsAt m_token m_error_22 m_errorAt_22 m_errorPosition m_nested m_codeCount))] H := hP
      have hD : va_D A [((ad 24), .inl (cI, 800, .inl m_buffer)), (a_m_fam, .inl (cJ, 130, .inr (.inl m_fam))), (ad 0, .inr (10, oM ad m_undoCount m_thrown m_hasSnapshot a_m_fam m_rows m_lineLength m_formattedLength m_bufferLength m_limit m_next m_beginsAt m_token m_error_22 m_errorAt_22 m_errorPosition m_nested m_codeCount))] := hD
      exact J25 m_error_22 m_errorAt_22 H locs ls hf (hP.sub [2, 0, 1] rfl) (hD.sub [2, 0, 1] (by decide) rfl) hS (lv_sub hl [0] rfl)
def p10_readChild_J55 (m_beginsAt : Int32) (m_buffer : Nat → Int32) (m_limit : Int32) (m_next : Int32) (m_token : Int32) (m_error_55 : Int32) (m_errorAt_55 : Int32) (m_fam_55 : Nat → Int64) : Option (Int32 × Int32 × Int32 × (Nat → Int64) × Int32 × Int32) := ob (p10_advance m_limit m_next m_beginsAt m_token m_error_55 m_buffer) (uc3 fun m_beginsAt_56 m_next_56 m_token_56 => some (m_beginsAt_56, m_error_55, m_errorAt_55, m_fam_55, m_next_56, m_token_56))
def p10_readChild_J40 (m_beginsAt : Int32) (m_buffer : Nat → Int32) (m_fam : Nat → Int64) (m_limit : Int32) (m_next : Int32) (m_token : Int32) (v1 : Int32) (v2_40 : Int32) (m_error_40 : Int32) (m_errorAt_40 : Int32) : Option (Int32 × Int32 × Int32 × (Nat → Int64) × Int32 × Int32) := (if m_error_40 = (0 : Int32) then ob (p10_putPerson m_fam v2_40 (1 : Int32) v1.toInt64) (fun m_fam_52 => (p10_readChild_J55 m_beginsAt m_buffer m_limit m_next m_token m_error_40 m_errorAt_40 m_fam_52)) else (p10_readChild_J55 m_beginsAt m_buffer m_limit m_next m_token m_error_40 m_errorAt_40 m_fam))
def p10_readChild (m_limit : Int32) (m_next : Int32) (m_beginsAt : Int32) (m_token : Int32) (m_error : Int32) (m_errorAt : Int32) (m_buffer : Nat → Int32) (m_fam : Nat → Int64) (v1 : Int32) : Option (Int32 × Int32 × Int32 × (Nat → Int64) × Int32 × Int32) := ob (p10_readName m_next m_beginsAt m_token m_error m_errorAt m_buffer m_fam) (uc3 fun r1 m_error_1 m_errorAt_1 => (if m_error_1 = (0 : Int32) then ob (p10_parentsOf m_fam r1) (fun r15 => (if r15 = (-1 : Int32) then ob (p10_isAncestorOfBoth m_fam v1 r1) (fun r25 => (cond r25 (lb (p10_check m_beginsAt m_error_1 m_errorAt_1 false (5 : Int32)) (uc2 fun m_error_37 m_errorAt_37 => (p10_readChild_J40 m_beginsAt m_buffer m_fam m_limit m_next m_token v1 r1 m_error_37 m_errorAt_37))) (lb (p10_check m_beginsAt m_error_1 m_errorAt_1 true (5 : Int32)) (uc2 fun m_error_37 m_errorAt_37 => (p10_readChild_J40 m_beginsAt m_buffer m_fam m_limit m_next m_token v1 r1 m_error_37 m_errorAt_37))))) else lb (p10_check m_beginsAt m_error_1 m_errorAt_1 false (5 : Int32)) (uc2 fun m_error_37 m_errorAt_37 => (p10_readChild_J40 m_beginsAt m_buffer m_fam m_limit m_next m_token v1 r1 m_error_37 m_errorAt_37)))) else lb (p10_check m_beginsAt m_error_1 m_errorAt_1 true (5 : Int32)) (uc2 fun m_error_37 m_errorAt_37 => (p10_readChild_J40 m_beginsAt m_buffer m_fam m_limit m_next m_token v1 r1 m_error_37 m_errorAt_37))))
set_option maxHeartbeats 4000000 in
set_option maxRecDepth 100000 in
theorem c_X10_readChild (ad : Nat → Nat) (a_m_fam : Nat) (m_undoCount : Int32) (m_thrown : Int32) (m_hasSnapshot : Bool) (m_rows : Int32) (m_lineLength : Int32) (m_formattedLength : Int32) (m_bufferLength : Int32) (m_limit : Int32) (m_next : Int32) (m_beginsAt : Int32) (m_token : Int32) (m_error : Int32) (m_errorAt : Int32) (m_errorPosition : Int32) (m_nested : Int32) (m_codeCount : Int32) (m_buffer : Nat → Int32) (m_fam : Nat → Int64) (v1 : Int32) (m_beginsAt_9 : Int32) (m_error_9 : Int32) (m_errorAt_9 : Int32) (m_fam_9 : Nat → Int64) (m_next_9 : Int32) (m_token_9 : Int32) (hf : p10_readChild m_limit m_next m_beginsAt m_token m_error m_errorAt m_buffer m_fam v1 = some (m_beginsAt_9, m_error_9, m_errorAt_9, m_fam_9, m_next_9, m_token_9)) : gM l dC dI cI cJ cZ yX10_readChild cX10_readChild 3 none 4 93 [.ref (ad 0), .int v1] [(ad 0, .inr (10, oM ad m_undoCount m_thrown m_hasSnapshot a_m_fam m_rows m_lineLength m_formattedLength m_bufferLength m_limit m_next m_beginsAt m_token m_error m_errorAt m_errorPosition m_nested m_codeCount)), ((ad 24), .inl (cI, 800, .inl m_buffer)), (a_m_fam, .inl (cJ, 130, .inr (.inl m_fam)))] [(ad 0, .inr (10, oM ad m_undoCount m_thrown m_hasSnapshot a_m_fam m_rows m_lineLength m_formattedLength m_bufferLength m_limit m_next_9 m_beginsAt_9 m_token_9 m_error_9 m_errorAt_9 m_errorPosition m_nested m_codeCount)), ((ad 24), .inl (cI, 800, .inl m_buffer)), (a_m_fam, .inl (cJ, 130, .inr (.inl m_fam_9)))] none := by
  refine g_start (own := RX10) (by decide +kernel) rfl (Nat.le_of_ble_eq_true rfl) ?_
  intro p e s m below meth c A ls S hr hlocks hE hP hD hS hA hl hin
  have hx := S.1
  have hb := S.2.1
  have hml := S.2.2.1
  have hown := S.2.2.2.1
  have htg : ∀ w ∈ gw, w.before ([.ref (ad 0), .int v1] : List Value).toArray s = true := fun w h => S.2.2.2.2 w (List.mem_cons_of_mem _ h)
  have hl : lv_has ls 3 [(0, .ref (ad 0)), (1, .int v1)] := hl
  have hS0 := hS
  obtain ⟨H, hH⟩ : ∃ H, H = s.heap := ⟨_, rfl⟩
  obtain ⟨locs, hlc⟩ : ∃ locs : List Loc, locs = [] := ⟨_, rfl⟩
  have hS : va_S A s.heap H locs := by rw [hH, hlc]; exact hS0
  have hP : va_P (dC, dI) vwCl [(ad 0, .inr (10, oM ad m_undoCount m_thrown m_hasSnapshot a_m_fam m_rows m_lineLength m_formattedLength m_bufferLength m_limit m_next m_beginsAt m_token m_error m_errorAt m_errorPosition m_nested m_codeCount)), ((ad 24), .inl (cI, 800, .inl m_buffer)), (a_m_fam, .inl (cJ, 130, .inr (.inl m_fam)))] H := by rw [hH]; exact hP
  suffices hgo : W p l e ({ frames := 4, cells := 0, slots := 0, locals := 93 }) s m ([.ref (ad 0), .int v1] : List Value).toArray below meth c H locs 0 0 (MQ below (gQ dC dI none A [(ad 0, .inr (10, oM ad m_undoCount m_thrown m_hasSnapshot a_m_fam m_rows m_lineLength m_formattedLength m_bufferLength m_limit m_next_9 m_beginsAt_9 m_token_9 m_error_9 m_errorAt_9 m_errorPosition m_nested m_codeCount)), ((ad 24), .inl (cI, 800, .inl m_buffer)), (a_m_fam, .inl (cJ, 130, .inr (.inl m_fam_9)))]) ([.ref (ad 0), .int v1] : List Value).toArray s 0 0 A) (F0 m 0 ls []) by rw [hH, hlc] at hgo; exact hgo
  rw [p10_readChild] at hf
  have J55 : ∀ (m_error_55 : Int32) (m_errorAt_55 : Int32) (m_fam_55 : Nat → Int64) (H : Heap) (locs : List Loc) (ls : Array Slot), p10_readChild_J55 m_beginsAt m_buffer m_limit m_next m_token m_error_55 m_errorAt_55 m_fam_55 = some (m_beginsAt_9, m_error_9, m_errorAt_9, m_fam_9, m_next_9, m_token_9) → va_P (dC, dI) vwCl [(ad 0, .inr (10, oM ad m_undoCount m_thrown m_hasSnapshot a_m_fam m_rows m_lineLength m_formattedLength m_bufferLength m_limit m_next m_beginsAt m_token m_error_55 m_errorAt_55 m_errorPosition m_nested m_codeCount)), ((ad 24), .inl (cI, 800, .inl m_buffer)), (a_m_fam, .inl (cJ, 130, .inr (.inl m_fam_55)))] H → va_D A [(ad 0, .inr (10, oM ad m_undoCount m_thrown m_hasSnapshot a_m_fam m_rows m_lineLength m_formattedLength m_bufferLength m_limit m_next m_beginsAt m_token m_error_55 m_errorAt_55 m_errorPosition m_nested m_codeCount)), ((ad 24), .inl (cI, 800, .inl m_buffer)), (a_m_fam, .inl (cJ, 130, .inr (.inl m_fam_55)))] → va_S A s.heap H locs → lv_has ls 3 [(0, .ref (ad 0))] → W p l e ({ frames := 4, cells := 0, slots := 0, locals := 93 }) s m ([.ref (ad 0), .int v1] : List Value).toArray below meth c H locs 0 0 (MQ below (gQ dC dI none A [(ad 0, .inr (10, oM ad m_undoCount m_thrown m_hasSnapshot a_m_fam m_rows m_lineLength m_formattedLength m_bufferLength m_limit m_next_9 m_beginsAt_9 m_token_9 m_error_9 m_errorAt_9 m_errorPosition m_nested m_codeCount)), ((ad 24), .inl (cI, 800, .inl m_buffer)), (a_m_fam, .inl (cJ, 130, .inr (.inl m_fam_9)))]) ([.ref (ad 0), .int v1] : List Value).toArray s 0 0 A) (F0 m 55 ls []) := by
    intro m_error_55 m_errorAt_55 m_fam_55 H locs ls hf hP hD hS hl
    rw [p10_readChild_J55] at hf
    refine lv_aload_n hx hb dX10_readChild_55 rfl (lv_at hl 0 rfl) ?_
    obtain ⟨⟨m_beginsAt_56, m_next_56, m_token_56⟩, h9, hf⟩ := ob_s hf
    have hf := uc3_e hf
    refine gcV (index := 419) S hE (c_X10_advance ad a_m_fam m_undoCount m_thrown m_hasSnapshot m_rows m_lineLength m_formattedLength m_bufferLength m_limit m_next m_beginsAt m_token m_error_55 m_errorAt_55 m_errorPosition m_nested m_codeCount m_buffer m_beginsAt_56 m_next_56 m_token_56 h9) mX10_advance tw1976 ⟨Nat.le_of_ble_eq_true rfl, Nat.le_of_ble_eq_true rfl⟩ hP hD hS hA ⟨Nat.zero_le _, Nat.zero_le _⟩ 0 10 rfl rfl rfl (wr := [(a_m_fam, .inl (cJ, 130, .inr (.inl m_fam_55)))]) [0, 1] [2] rfl rfl rfl rfl (by decide) (As := []) (rest := []) rfl hl.1 rfl (Nat.le_of_ble_eq_true rfl) dX10_readChild_56 (fun H locs hP hD hS => ?_)
    refine W.eq (g2 := F0 m 59 ls []) rfl ?_
    have hP : va_P (dC, dI) vwCl [(a_m_fam, .inl (cJ, 130, .inr (.inl m_fam_55))), (ad 0, .inr (10, oM ad m_undoCount m_thrown m_hasSnapshot a_m_fam m_rows m_lineLength m_formattedLength m_bufferLength m_limit m_next_56 m_beginsAt_56 m_token_56 m_error_55 m_errorAt_55 m_errorPosition m_nested m_codeCount)), ((ad 24), .inl (cI, 800, .inl m_buffer))] H := hP
    have hD : va_D A [(a_m_fam, .inl (cJ, 130, .inr (.inl m_fam_55))), (ad 0, .inr (10, oM ad m_undoCount m_thrown m_hasSnapshot a_m_fam m_rows m_lineLength m_formattedLength m_bufferLength m_limit m_next_56 m_beginsAt_56 m_token_56 m_error_55 m_errorAt_55 m_errorPosition m_nested m_codeCount)), ((ad 24), .inl (cI, 800, .inl m_buffer))] := hD
    cases hf
    exact g_vret S hr hlocks (hP.sub [1, 2, 0] rfl) (hD.sub [1, 2, 0] (by decide) rfl) hS dX10_readChild_59
  have J40 : ∀ (v2_40 : Int32) (m_error_40 : Int32) (m_errorAt_40 : Int32) (H : Heap) (locs : List Loc) (ls : Array Slot), p10_readChild_J40 m_beginsAt m_buffer m_fam m_limit m_next m_token v1 v2_40 m_error_40 m_errorAt_40 = some (m_beginsAt_9, m_error_9, m_errorAt_9, m_fam_9, m_next_9, m_token_9) → va_P (dC, dI) vwCl [(ad 0, .inr (10, oM ad m_undoCount m_thrown m_hasSnapshot a_m_fam m_rows m_lineLength m_formattedLength m_bufferLength m_limit m_next m_beginsAt m_token m_error_40 m_errorAt_40 m_errorPosition m_nested m_codeCount)), ((ad 24), .inl (cI, 800, .inl m_buffer)), (a_m_fam, .inl (cJ, 130, .inr (.inl m_fam)))] H → va_D A [(ad 0, .inr (10, oM ad m_undoCount m_thrown m_hasSnapshot a_m_fam m_rows m_lineLength m_formattedLength m_bufferLength m_limit m_next m_beginsAt m_token m_error_40 m_errorAt_40 m_errorPosition m_nested m_codeCount)), ((ad 24), .inl (cI, 800, .inl m_buffer)), (a_m_fam, .inl (cJ, 130, .inr (.inl m_fam)))] → va_S A s.heap H locs → lv_has ls 3 [(0, .ref (ad 0)), (1, .int v1), (2, .int v2_40)] → W p l e ({ frames := 4, cells := 0, slots := 0, locals := 93 }) s m ([.ref (ad 0), .int v1] : List Value).toArray below meth c H locs 0 0 (MQ below (gQ dC dI none A [(ad 0, .inr (10, oM ad m_undoCount m_thrown m_hasSnapshot a_m_fam m_rows m_lineLength m_formattedLength m_bufferLength m_limit m_next_9 m_beginsAt_9 m_token_9 m_error_9 m_errorAt_9 m_errorPosition m_nested m_codeCount)), ((ad 24), .inl (cI, 800, .inl m_buffer)), (a_m_fam, .inl (cJ, 130, .inr (.inl m_fam_9)))]) ([.ref (ad 0), .int v1] : List Value).toArray s 0 0 A) (F0 m 40 ls []) := by
    intro v2_40 m_error_40 m_errorAt_40 H locs ls hf hP hD hS hl
    rw [p10_readChild_J40] at hf
    refine lv_aload_n hx hb dX10_readChild_40 rfl (lv_at hl 0 rfl) ?_
    refine va_get (D := (dC, dI)) (ci := 10) (v := .int m_error_40) (C := RX10) (T := TX10) (N := 37) hx hb htg inX10 hown hE.1 hP 0 rfl rfl 29 (by decide) (htg _ tw1411) (fun _ h9 => h9) rfl dX10_readChild_41 ?_
    refine lv_if_ne (tgt := 55) hx hb dX10_readChild_44 (by decide) (fun h9 => ?_) (fun h9 => ?_)
    · have hf := itf h9 hf
      exact J55 m_error_40 m_errorAt_40 m_fam H locs ls hf hP hD hS (lv_sub hl [0] rfl)
    · have hf := itt h9 hf
      refine lv_aload_n hx hb dX10_readChild_47 rfl (lv_at hl 0 rfl) ?_
      refine lv_iload_n hx hb dX10_readChild_48 rfl (lv_at hl 2 rfl) ?_
      refine lv_iconst (v := 1) hx hb dX10_readChild_49 (by decide) ?_
      refine lv_iload_n hx hb dX10_readChild_50 rfl (lv_at hl 1 rfl) ?_
      refine lv_i2l hx hb dX10_readChild_51 rfl ?_
      obtain ⟨m_fam_52, h9, hf⟩ := ob_s hf
      refine gcV (index := 339) S hE (c_X10_putPerson ad a_m_fam m_undoCount m_thrown m_hasSnapshot m_rows m_lineLength m_formattedLength m_bufferLength m_limit m_next m_beginsAt m_token m_error_40 m_errorAt_40 m_errorPosition m_nested m_codeCount m_fam v2_40 (1 : Int32) v1.toInt64 m_fam_52 h9) mX10_putPerson tw1869 ⟨Nat.le_of_ble_eq_true rfl, Nat.le_of_ble_eq_true rfl⟩ hP hD hS hA ⟨Nat.zero_le _, Nat.zero_le _⟩ 0 10 rfl rfl rfl (wr := [((ad 24), .inl (cI, 800, .inl m_buffer))]) [0, 2] [1] rfl rfl rfl rfl (by decide) (As := [.int v2_40, .int (1 : Int32), .long v1.toInt64]) (rest := []) rfl hl.1 rfl (Nat.le_of_ble_eq_true rfl) dX10_readChild_52 (fun H locs hP hD hS => ?_)
      refine W.eq (g2 := F0 m 55 ls []) rfl ?_
      have hP : va_P (dC, dI) vwCl [((ad 24), .inl (cI, 800, .inl m_buffer)), (ad 0, .inr (10, oM ad m_undoCount m_thrown m_hasSnapshot a_m_fam m_rows m_lineLength m_formattedLength m_bufferLength m_limit m_next m_beginsAt m_token m_error_40 m_errorAt_40 m_errorPosition m_nested m_codeCount)), (a_m_fam, .inl (cJ, 130, .inr (.inl m_fam_52)))] H := hP
      have hD : va_D A [((ad 24), .inl (cI, 800, .inl m_buffer)), (ad 0, .inr (10, oM ad m_undoCount m_thrown m_hasSnapshot a_m_fam m_rows m_lineLength m_formattedLength m_bufferLength m_limit m_next m_beginsAt m_token m_error_40 m_errorAt_40 m_errorPosition m_nested m_codeCount)), (a_m_fam, .inl (cJ, 130, .inr (.inl m_fam_52)))] := hD
      exact J55 m_error_40 m_errorAt_40 m_fam_52 H locs ls hf (hP.sub [1, 0, 2] rfl) (hD.sub [1, 0, 2] (by decide) rfl) hS (lv_sub hl [0] rfl)
  refine lv_aload_n hx hb dX10_readChild_0 rfl (lv_at hl 0 rfl) ?_
  obtain ⟨⟨r1, m_error_1, m_errorAt_1⟩, h9, hf⟩ := ob_s hf
  have hf := uc3_e hf
  refine gcV (index := 444) S hE (c_X10_readName ad a_m_fam m_undoCount m_thrown m_hasSnapshot m_rows m_lineLength m_formattedLength m_bufferLength m_limit m_next m_beginsAt m_token m_error m_errorAt m_errorPosition m_nested m_codeCount m_buffer m_fam r1 m_error_1 m_errorAt_1 h9) mX10_readName tw2004 ⟨Nat.le_of_ble_eq_true rfl, Nat.le_of_ble_eq_true rfl⟩ hP hD hS hA ⟨Nat.zero_le _, Nat.zero_le _⟩ 0 10 rfl rfl rfl (wr := []) [0, 1, 2] [] rfl rfl rfl rfl (by decide) (As := []) (rest := []) rfl hl.1 rfl (Nat.le_of_ble_eq_true rfl) dX10_readChild_1 (fun H locs hP hD hS => ?_)
  refine W.eq (g2 := F0 m 4 ls [.int r1]) rfl ?_
  have hP : va_P (dC, dI) vwCl [(ad 0, .inr (10, oM ad m_undoCount m_thrown m_hasSnapshot a_m_fam m_rows m_lineLength m_formattedLength m_bufferLength m_limit m_next m_beginsAt m_token m_error_1 m_errorAt_1 m_errorPosition m_nested m_codeCount)), ((ad 24), .inl (cI, 800, .inl m_buffer)), (a_m_fam, .inl (cJ, 130, .inr (.inl m_fam)))] H := hP
  have hD : va_D A [(ad 0, .inr (10, oM ad m_undoCount m_thrown m_hasSnapshot a_m_fam m_rows m_lineLength m_formattedLength m_bufferLength m_limit m_next m_beginsAt m_token m_error_1 m_errorAt_1 m_errorPosition m_nested m_codeCount)), ((ad 24), .inl (cI, 800, .inl m_buffer)), (a_m_fam, .inl (cJ, 130, .inr (.inl m_fam)))] := hD
  refine lv_istore_n (lv' := [(2, .int r1), (0, .ref (ad 0)), (1, .int v1)]) hx hb dX10_readChild_4 rfl hl (by decide) rfl (fun ls hl => ?_)
  refine lv_aload_n hx hb dX10_readChild_5 rfl (lv_at hl 1 rfl) ?_
  refine lv_aload_n hx hb dX10_readChild_6 rfl (lv_at hl 1 rfl) ?_
  refine va_get (D := (dC, dI)) (ci := 10) (v := .int m_error_1) (C := RX10) (T := TX10) (N := 37) hx hb htg inX10 hown hE.1 hP 0 rfl rfl 29 (by decide) (htg _ tw1411) (fun _ h9 => h9) rfl dX10_readChild_7 ?_
  refine lv_if_ne (tgt := 31) hx hb dX10_readChild_10 (by decide) (fun h9 => ?_) (fun h9 => ?_)
  · have hf := itf h9 hf
    refine lv_iconst (v := 1) hx hb dX10_readChild_31 (by decide) ?_
    refine lv_goto (tgt := 36) hx hb dX10_readChild_32 (by decide) ?_
    refine lv_iconst (v := 5) hx hb dX10_readChild_36 (by decide) ?_
    obtain ⟨m_error_37, m_errorAt_37, h9⟩ : ∃ m_error_37 m_errorAt_37, p10_check m_beginsAt m_error_1 m_errorAt_1 true (5 : Int32) = (m_error_37, m_errorAt_37) := ⟨_, _, rfl⟩
    have hf := uc2_e (lb_e h9.symm hf)
    refine gcV (index := 415) S hE (c_X10_check ad a_m_fam m_undoCount m_thrown m_hasSnapshot m_rows m_lineLength m_formattedLength m_bufferLength m_limit m_next m_beginsAt m_token m_error_1 m_errorAt_1 m_errorPosition m_nested m_codeCount true (5 : Int32) m_error_37 m_errorAt_37 h9) mX10_check tw1968 ⟨Nat.le_of_ble_eq_true rfl, Nat.le_of_ble_eq_true rfl⟩ hP hD hS hA ⟨Nat.zero_le _, Nat.zero_le _⟩ 0 10 rfl rfl rfl (wr := [((ad 24), .inl (cI, 800, .inl m_buffer)), (a_m_fam, .inl (cJ, 130, .inr (.inl m_fam)))]) [0] [1, 2] rfl rfl rfl rfl (by decide) (As := [.int (bI true), .int (5 : Int32)]) (rest := []) rfl hl.1 rfl (Nat.le_of_ble_eq_true rfl) dX10_readChild_37 (fun H locs hP hD hS => ?_)
    refine W.eq (g2 := F0 m 40 ls []) rfl ?_
    have hP : va_P (dC, dI) vwCl [((ad 24), .inl (cI, 800, .inl m_buffer)), (a_m_fam, .inl (cJ, 130, .inr (.inl m_fam))), (ad 0, .inr (10, oM ad m_undoCount m_thrown m_hasSnapshot a_m_fam m_rows m_lineLength m_formattedLength m_bufferLength m_limit m_next m_beginsAt m_token m_error_37 m_errorAt_37 m_errorPosition m_nested m_codeCount))] H := hP
    have hD : va_D A [((ad 24), .inl (cI, 800, .inl m_buffer)), (a_m_fam, .inl (cJ, 130, .inr (.inl m_fam))), (ad 0, .inr (10, oM ad m_undoCount m_thrown m_hasSnapshot a_m_fam m_rows m_lineLength m_formattedLength m_bufferLength m_limit m_next m_beginsAt m_token m_error_37 m_errorAt_37 m_errorPosition m_nested m_codeCount))] := hD
    exact J40 r1 m_error_37 m_errorAt_37 H locs ls hf (hP.sub [2, 0, 1] rfl) (hD.sub [2, 0, 1] (by decide) rfl) hS (lv_sub hl [1, 2, 0] rfl)
  · have hf := itt h9 hf
    refine lv_aload_n hx hb dX10_readChild_13 rfl (lv_at hl 1 rfl) ?_
    refine lv_iload_n hx hb dX10_readChild_14 rfl (lv_at hl 0 rfl) ?_
    obtain ⟨r15, h9, hf⟩ := ob_s hf
    refine gcV (index := 117) S hE (c_X10_parentsOf ad a_m_fam m_undoCount m_thrown m_hasSnapshot m_rows m_lineLength m_formattedLength m_bufferLength m_limit m_next m_beginsAt m_token m_error_1 m_errorAt_1 m_errorPosition m_nested m_codeCount m_fam r1 r15 h9) mX10_parentsOf tw1515 ⟨Nat.le_of_ble_eq_true rfl, Nat.le_of_ble_eq_true rfl⟩ hP hD hS hA ⟨Nat.zero_le _, Nat.zero_le _⟩ 0 10 rfl rfl rfl (wr := [((ad 24), .inl (cI, 800, .inl m_buffer))]) [0, 2] [1] rfl rfl rfl rfl (by decide) (As := [.int r1]) (rest := [.ref (ad 0)]) rfl hl.1 rfl (Nat.le_of_ble_eq_true rfl) dX10_readChild_15 (fun H locs hP hD hS => ?_)
    refine W.eq (g2 := F0 m 18 ls [.int r15, .ref (ad 0)]) rfl ?_
    have hP : va_P (dC, dI) vwCl [((ad 24), .inl (cI, 800, .inl m_buffer)), (ad 0, .inr (10, oM ad m_undoCount m_thrown m_hasSnapshot a_m_fam m_rows m_lineLength m_formattedLength m_bufferLength m_limit m_next m_beginsAt m_token m_error_1 m_errorAt_1 m_errorPosition m_nested m_codeCount)), (a_m_fam, .inl (cJ, 130, .inr (.inl m_fam)))] H := hP
    have hD : va_D A [((ad 24), .inl (cI, 800, .inl m_buffer)), (ad 0, .inr (10, oM ad m_undoCount m_thrown m_hasSnapshot a_m_fam m_rows m_lineLength m_formattedLength m_bufferLength m_limit m_next m_beginsAt m_token m_error_1 m_errorAt_1 m_errorPosition m_nested m_codeCount)), (a_m_fam, .inl (cJ, 130, .inr (.inl m_fam)))] := hD
    refine lv_iconst (v := -1) hx hb dX10_readChild_18 (by decide) ?_
    refine lv_icmp_ne (tgt := 35) hx hb dX10_readChild_19 (by decide) (fun h9 => ?_) (fun h9 => ?_)
    · have hf := itf h9 hf
      refine lv_iconst (v := 0) hx hb dX10_readChild_35 (by decide) ?_
      refine lv_iconst (v := 5) hx hb dX10_readChild_36 (by decide) ?_
      obtain ⟨m_error_37, m_errorAt_37, h9⟩ : ∃ m_error_37 m_errorAt_37, p10_check m_beginsAt m_error_1 m_errorAt_1 false (5 : Int32) = (m_error_37, m_errorAt_37) := ⟨_, _, rfl⟩
      have hf := uc2_e (lb_e h9.symm hf)
      refine gcV (index := 415) S hE (c_X10_check ad a_m_fam m_undoCount m_thrown m_hasSnapshot m_rows m_lineLength m_formattedLength m_bufferLength m_limit m_next m_beginsAt m_token m_error_1 m_errorAt_1 m_errorPosition m_nested m_codeCount false (5 : Int32) m_error_37 m_errorAt_37 h9) mX10_check tw1968 ⟨Nat.le_of_ble_eq_true rfl, Nat.le_of_ble_eq_true rfl⟩ hP hD hS hA ⟨Nat.zero_le _, Nat.zero_le _⟩ 1 10 rfl rfl rfl (wr := [((ad 24), .inl (cI, 800, .inl m_buffer)), (a_m_fam, .inl (cJ, 130, .inr (.inl m_fam)))]) [1] [0, 2] rfl rfl rfl rfl (by decide) (As := [.int (bI false), .int (5 : Int32)]) (rest := []) rfl hl.1 rfl (Nat.le_of_ble_eq_true rfl) dX10_readChild_37 (fun H locs hP hD hS => ?_)
      refine W.eq (g2 := F0 m 40 ls []) rfl ?_
      have hP : va_P (dC, dI) vwCl [((ad 24), .inl (cI, 800, .inl m_buffer)), (a_m_fam, .inl (cJ, 130, .inr (.inl m_fam))), (ad 0, .inr (10, oM ad m_undoCount m_thrown m_hasSnapshot a_m_fam m_rows m_lineLength m_formattedLength m_bufferLength m_limit m_next m_beginsAt m_token m_error_37 m_errorAt_37 m_errorPosition m_nested m_codeCount))] H := hP
      have hD : va_D A [((ad 24), .inl (cI, 800, .inl m_buffer)), (a_m_fam, .inl (cJ, 130, .inr (.inl m_fam))), (ad 0, .inr (10, oM ad m_undoCount m_thrown m_hasSnapshot a_m_fam m_rows m_lineLength m_formattedLength m_bufferLength m_limit m_next m_beginsAt m_token m_error_37 m_errorAt_37 m_errorPosition m_nested m_codeCount))] := hD
      exact J40 r1 m_error_37 m_errorAt_37 H locs ls hf (hP.sub [2, 0, 1] rfl) (hD.sub [2, 0, 1] (by decide) rfl) hS (lv_sub hl [1, 2, 0] rfl)
    · have hf := itt h9 hf
      refine lv_aload_n hx hb dX10_readChild_22 rfl (lv_at hl 1 rfl) ?_
      refine lv_iload_n hx hb dX10_readChild_23 rfl (lv_at hl 2 rfl) ?_
      refine lv_iload_n hx hb dX10_readChild_24 rfl (lv_at hl 0 rfl) ?_
      obtain ⟨r25, h9, hf⟩ := ob_s hf
      refine gcV (index := 336) S hE (c_X10_isAncestorOfBoth ad a_m_fam m_undoCount m_thrown m_hasSnapshot m_rows m_lineLength m_formattedLength m_bufferLength m_limit m_next m_beginsAt m_token m_error_1 m_errorAt_1 m_errorPosition m_nested m_codeCount m_fam v1 r1 r25 h9) mX10_isAncestorOfBoth tw1865 ⟨Nat.le_of_ble_eq_true rfl, Nat.le_of_ble_eq_true rfl⟩ hP hD hS hA ⟨Nat.zero_le _, Nat.zero_le _⟩ 1 10 rfl rfl rfl (wr := [((ad 24), .inl (cI, 800, .inl m_buffer))]) [1, 2] [0] rfl rfl rfl rfl (by decide) (As := [.int v1, .int r1]) (rest := [.ref (ad 0)]) rfl hl.1 rfl (Nat.le_of_ble_eq_true rfl) dX10_readChild_25 (fun H locs hP hD hS => ?_)
      refine W.eq (g2 := F0 m 28 ls [.int (bI r25), .ref (ad 0)]) rfl ?_
      have hP : va_P (dC, dI) vwCl [((ad 24), .inl (cI, 800, .inl m_buffer)), (ad 0, .inr (10, oM ad m_undoCount m_thrown m_hasSnapshot a_m_fam m_rows m_lineLength m_formattedLength m_bufferLength m_limit m_next m_beginsAt m_token m_error_1 m_errorAt_1 m_errorPosition m_nested m_codeCount)), (a_m_fam, .inl (cJ, 130, .inr (.inl m_fam)))] H := hP
      have hD : va_D A [((ad 24), .inl (cI, 800, .inl m_buffer)), (ad 0, .inr (10, oM ad m_undoCount m_thrown m_hasSnapshot a_m_fam m_rows m_lineLength m_formattedLength m_bufferLength m_limit m_next m_beginsAt m_token m_error_1 m_errorAt_1 m_errorPosition m_nested m_codeCount)), (a_m_fam, .inl (cJ, 130, .inr (.inl m_fam)))] := hD
      refine lv_if_ne (tgt := 35) hx hb dX10_readChild_28 (by decide) (fun h9 => ?_) (fun h9 => ?_)
      · have hf := ctt (bI_1 h9) hf
        refine lv_iconst (v := 0) hx hb dX10_readChild_35 (by decide) ?_
        refine lv_iconst (v := 5) hx hb dX10_readChild_36 (by decide) ?_
        obtain ⟨m_error_37, m_errorAt_37, h9⟩ : ∃ m_error_37 m_errorAt_37, p10_check m_beginsAt m_error_1 m_errorAt_1 false (5 : Int32) = (m_error_37, m_errorAt_37) := ⟨_, _, rfl⟩
        have hf := uc2_e (lb_e h9.symm hf)
        refine gcV (index := 415) S hE (c_X10_check ad a_m_fam m_undoCount m_thrown m_hasSnapshot m_rows m_lineLength m_formattedLength m_bufferLength m_limit m_next m_beginsAt m_token m_error_1 m_errorAt_1 m_errorPosition m_nested m_codeCount false (5 : Int32) m_error_37 m_errorAt_37 h9) mX10_check tw1968 ⟨Nat.le_of_ble_eq_true rfl, Nat.le_of_ble_eq_true rfl⟩ hP hD hS hA ⟨Nat.zero_le _, Nat.zero_le _⟩ 1 10 rfl rfl rfl (wr := [((ad 24), .inl (cI, 800, .inl m_buffer)), (a_m_fam, .inl (cJ, 130, .inr (.inl m_fam)))]) [1] [0, 2] rfl rfl rfl rfl (by decide) (As := [.int (bI false), .int (5 : Int32)]) (rest := []) rfl hl.1 rfl (Nat.le_of_ble_eq_true rfl) dX10_readChild_37 (fun H locs hP hD hS => ?_)
        refine W.eq (g2 := F0 m 40 ls []) rfl ?_
        have hP : va_P (dC, dI) vwCl [((ad 24), .inl (cI, 800, .inl m_buffer)), (a_m_fam, .inl (cJ, 130, .inr (.inl m_fam))), (ad 0, .inr (10, oM ad m_undoCount m_thrown m_hasSnapshot a_m_fam m_rows m_lineLength m_formattedLength m_bufferLength m_limit m_next m_beginsAt m_token m_error_37 m_errorAt_37 m_errorPosition m_nested m_codeCount))] H := hP
        have hD : va_D A [((ad 24), .inl (cI, 800, .inl m_buffer)), (a_m_fam, .inl (cJ, 130, .inr (.inl m_fam))), (ad 0, .inr (10, oM ad m_undoCount m_thrown m_hasSnapshot a_m_fam m_rows m_lineLength m_formattedLength m_bufferLength m_limit m_next m_beginsAt m_token m_error_37 m_errorAt_37 m_errorPosition m_nested m_codeCount))] := hD
        exact J40 r1 m_error_37 m_errorAt_37 H locs ls hf (hP.sub [2, 0, 1] rfl) (hD.sub [2, 0, 1] (by decide) rfl) hS (lv_sub hl [1, 2, 0] rfl)
      · have hf := ctf (bI_0 h9) hf
        refine lv_iconst (v := 1) hx hb dX10_readChild_31 (by decide) ?_
        refine lv_goto (tgt := 36) hx hb dX10_readChild_32 (by decide) ?_
        refine lv_iconst (v := 5) hx hb dX10_readChild_36 (by decide) ?_
        obtain ⟨m_error_37, m_errorAt_37, h9⟩ : ∃ m_error_37 m_errorAt_37, p10_check m_beginsAt m_error_1 m_errorAt_1 true (5 : Int32) = (m_error_37, m_errorAt_37) := ⟨_, _, rfl⟩
        have hf := uc2_e (lb_e h9.symm hf)
        refine gcV (index := 415) S hE (c_X10_check ad a_m_fam m_undoCount m_thrown m_hasSnapshot m_rows m_lineLength m_formattedLength m_bufferLength m_limit m_next m_beginsAt m_token m_error_1 m_errorAt_1 m_errorPosition m_nested m_codeCount true (5 : Int32) m_error_37 m_errorAt_37 h9) mX10_check tw1968 ⟨Nat.le_of_ble_eq_true rfl, Nat.le_of_ble_eq_true rfl⟩ hP hD hS hA ⟨Nat.zero_le _, Nat.zero_le _⟩ 1 10 rfl rfl rfl (wr := [((ad 24), .inl (cI, 800, .inl m_buffer)), (a_m_fam, .inl (cJ, 130, .inr (.inl m_fam)))]) [1] [0, 2] rfl rfl rfl rfl (by decide) (As := [.int (bI true), .int (5 : Int32)]) (rest := []) rfl hl.1 rfl (Nat.le_of_ble_eq_true rfl) dX10_readChild_37 (fun H locs hP hD hS => ?_)
        refine W.eq (g2 := F0 m 40 ls []) rfl ?_
        have hP : va_P (dC, dI) vwCl [((ad 24), .inl (cI, 800, .inl m_buffer)), (a_m_fam, .inl (cJ, 130, .inr (.inl m_fam))), (ad 0, .inr (10, oM ad m_undoCount m_thrown m_hasSnapshot a_m_fam m_rows m_lineLength m_formattedLength m_bufferLength m_limit m_next m_beginsAt m_token m_error_37 m_errorAt_37 m_errorPosition m_nested m_codeCount))] H := hP
        have hD : va_D A [((ad 24), .inl (cI, 800, .inl m_buffer)), (a_m_fam, .inl (cJ, 130, .inr (.inl m_fam))), (ad 0, .inr (10, oM ad m_undoCount m_thrown m_hasSnapshot a_m_fam m_rows m_lineLength m_formattedLength m_bufferLength m_limit m_next m_beginsAt m_token m_error_37 m_errorAt_37 m_errorPosition m_nested m_codeCount))] := hD
        exact J40 r1 m_error_37 m_errorAt_37 H locs ls hf (hP.sub [2, 0, 1] rfl) (hD.sub [2, 0, 1] (by decide) rfl) hS (lv_sub hl [1, 2, 0] rfl)
def p10_readUnion_J125 (m_next_125 : Int32) (m_beginsAt_125 : Int32) (m_token_125 : Int32) (m_error_125 : Int32) (m_errorAt_125 : Int32) (m_fam_125 : Nat → Int64) : Option (Int32 × Int32 × Int32 × (Nat → Int64) × Int32 × Int32) := some (m_beginsAt_125, m_error_125, m_errorAt_125, m_fam_125, m_next_125, m_token_125)
def p10_readUnion_L97_B (m_buffer : Nat → Int32) (m_limit : Int32) (k97 : Int32 → Int32 → Int32 → (Nat → Int64) → Int32 → Int32 → Option (Int32 × Int32 × Int32 × (Nat → Int64) × Int32 × Int32)) (m_beginsAt_97 : Int32) (m_error_97 : Int32) (m_errorAt_97 : Int32) (m_fam_97 : Nat → Int64) (m_next_97 : Int32) (m_token_97 : Int32) : Option (Int32 × Int32 × Int32 × (Nat → Int64) × Int32 × Int32) := (if m_error_97 = (0 : Int32) then (if m_token_97 = (1 : Int32) then ob (p10_unions m_fam_97) (fun r114 => ob (p10_readChild m_limit m_next_97 m_beginsAt_97 m_token_97 m_error_97 m_errorAt_97 m_buffer m_fam_97 (r114 - (1 : Int32))) (uc6 fun m_beginsAt_119 m_error_119 m_errorAt_119 m_fam_119 m_next_119 m_token_119 => (k97 m_beginsAt_119 m_error_119 m_errorAt_119 m_fam_119 m_next_119 m_token_119))) else some (m_beginsAt_97, m_error_97, m_errorAt_97, m_fam_97, m_next_97, m_token_97)) else some (m_beginsAt_97, m_error_97, m_errorAt_97, m_fam_97, m_next_97, m_token_97))
def p10_readUnion_L97 (m_buffer : Nat → Int32) (m_limit : Int32) : Nat → Int32 → Int32 → Int32 → (Nat → Int64) → Int32 → Int32 → Option (Int32 × Int32 × Int32 × (Nat → Int64) × Int32 × Int32)
  | 0, _, _, _, _, _, _ => none
  | n+1, m_beginsAt_97, m_error_97, m_errorAt_97, m_fam_97, m_next_97, m_token_97 => p10_readUnion_L97_B m_buffer m_limit (p10_readUnion_L97 m_buffer m_limit n) m_beginsAt_97 m_error_97 m_errorAt_97 m_fam_97 m_next_97 m_token_97
def p10_readUnion_J69 (m_buffer : Nat → Int32) (m_fam : Nat → Int64) (m_limit : Int32) (v1_69 : Int32) (v2_69 : Int32) (m_next_69 : Int32) (m_beginsAt_69 : Int32) (m_token_69 : Int32) (m_error_69 : Int32) (m_errorAt_69 : Int32) : Option (Int32 × Int32 × Int32 × (Nat → Int64) × Int32 × Int32) := ob (p10_advance m_limit m_next_69 m_beginsAt_69 m_token_69 m_error_69 m_buffer) (uc3 fun m_beginsAt_70 m_next_70 m_token_70 => ob (p10_readNumber m_limit m_next_70 m_beginsAt_70 m_token_70 m_error_69 m_errorAt_69 m_buffer (0 : Int32) (2100 : Int32)) (uc6 fun r78 m_beginsAt_78 m_error_78 m_errorAt_78 m_next_78 m_token_78 => (if m_error_78 = (0 : Int32) then ob (p10_addUnion m_fam v1_69 v2_69 r78) (fun m_fam_94 => (ob (p10_readUnion_L97 m_buffer m_limit FU m_beginsAt_78 m_error_78 m_errorAt_78 m_fam_94 m_next_78 m_token_78) (uc6 fun m_beginsAt_x97 m_error_x97 m_errorAt_x97 m_fam_x97 m_next_x97 m_token_x97 => p10_readUnion_J125 m_next_x97 m_beginsAt_x97 m_token_x97 m_error_x97 m_errorAt_x97 m_fam_x97))) else some (m_beginsAt_78, m_error_78, m_errorAt_78, m_fam, m_next_78, m_token_78))))
def p10_readUnion_J19 (m_beginsAt : Int32) (m_buffer : Nat → Int32) (m_fam : Nat → Int64) (m_limit : Int32) (m_next : Int32) (m_token : Int32) (m_error_19 : Int32) (m_errorAt_19 : Int32) : Option (Int32 × Int32 × Int32 × (Nat → Int64) × Int32 × Int32) := ob (p10_advance m_limit m_next m_beginsAt m_token m_error_19 m_buffer) (uc3 fun m_beginsAt_20 m_next_20 m_token_20 => ob (p10_readName m_next_20 m_beginsAt_20 m_token_20 m_error_19 m_errorAt_19 m_buffer m_fam) (uc3 fun r24 m_error_24 m_errorAt_24 => ob (p10_advance m_limit m_next_20 m_beginsAt_20 m_token_20 m_error_24 m_buffer) (uc3 fun m_beginsAt_29 m_next_29 m_token_29 => ob (p10_readName m_next_29 m_beginsAt_29 m_token_29 m_error_24 m_errorAt_24 m_buffer m_fam) (uc3 fun r33 m_error_33 m_errorAt_33 => (if m_error_33 = (0 : Int32) then (if r24 = r33 then lb (p10_check m_beginsAt_29 m_error_33 m_errorAt_33 false (5 : Int32)) (uc2 fun m_error_66 m_errorAt_66 => (p10_readUnion_J69 m_buffer m_fam m_limit r24 r33 m_next_29 m_beginsAt_29 m_token_29 m_error_66 m_errorAt_66)) else ob (p10_unionOf m_fam r24 r33) (fun r53 => (if r53 = (-1 : Int32) then lb (p10_check m_beginsAt_29 m_error_33 m_errorAt_33 true (5 : Int32)) (uc2 fun m_error_66 m_errorAt_66 => (p10_readUnion_J69 m_buffer m_fam m_limit r24 r33 m_next_29 m_beginsAt_29 m_token_29 m_error_66 m_errorAt_66)) else lb (p10_check m_beginsAt_29 m_error_33 m_errorAt_33 false (5 : Int32)) (uc2 fun m_error_66 m_errorAt_66 => (p10_readUnion_J69 m_buffer m_fam m_limit r24 r33 m_next_29 m_beginsAt_29 m_token_29 m_error_66 m_errorAt_66))))) else lb (p10_check m_beginsAt_29 m_error_33 m_errorAt_33 true (5 : Int32)) (uc2 fun m_error_66 m_errorAt_66 => (p10_readUnion_J69 m_buffer m_fam m_limit r24 r33 m_next_29 m_beginsAt_29 m_token_29 m_error_66 m_errorAt_66)))))))
def p10_readUnion (m_limit : Int32) (m_next : Int32) (m_beginsAt : Int32) (m_token : Int32) (m_error : Int32) (m_errorAt : Int32) (m_buffer : Nat → Int32) (m_fam : Nat → Int64) : Option (Int32 × Int32 × Int32 × (Nat → Int64) × Int32 × Int32) := ob (p10_unions m_fam) (fun r2 => (if (12 : Int32) ≤ r2 then lb (p10_check m_beginsAt m_error m_errorAt false (3 : Int32)) (uc2 fun m_error_16 m_errorAt_16 => (p10_readUnion_J19 m_beginsAt m_buffer m_fam m_limit m_next m_token m_error_16 m_errorAt_16)) else lb (p10_check m_beginsAt m_error m_errorAt true (3 : Int32)) (uc2 fun m_error_16 m_errorAt_16 => (p10_readUnion_J19 m_beginsAt m_buffer m_fam m_limit m_next m_token m_error_16 m_errorAt_16))))
set_option maxHeartbeats 4000000 in
set_option maxRecDepth 100000 in
theorem c_X10_readUnion (ad : Nat → Nat) (a_m_fam : Nat) (m_undoCount : Int32) (m_thrown : Int32) (m_hasSnapshot : Bool) (m_rows : Int32) (m_lineLength : Int32) (m_formattedLength : Int32) (m_bufferLength : Int32) (m_limit : Int32) (m_next : Int32) (m_beginsAt : Int32) (m_token : Int32) (m_error : Int32) (m_errorAt : Int32) (m_errorPosition : Int32) (m_nested : Int32) (m_codeCount : Int32) (m_buffer : Nat → Int32) (m_fam : Nat → Int64) (m_beginsAt_9 : Int32) (m_error_9 : Int32) (m_errorAt_9 : Int32) (m_fam_9 : Nat → Int64) (m_next_9 : Int32) (m_token_9 : Int32) (hf : p10_readUnion m_limit m_next m_beginsAt m_token m_error m_errorAt m_buffer m_fam = some (m_beginsAt_9, m_error_9, m_errorAt_9, m_fam_9, m_next_9, m_token_9)) : gM l dC dI cI cJ cZ yX10_readUnion cX10_readUnion 4 none 5 115 [.ref (ad 0)] [(ad 0, .inr (10, oM ad m_undoCount m_thrown m_hasSnapshot a_m_fam m_rows m_lineLength m_formattedLength m_bufferLength m_limit m_next m_beginsAt m_token m_error m_errorAt m_errorPosition m_nested m_codeCount)), ((ad 24), .inl (cI, 800, .inl m_buffer)), (a_m_fam, .inl (cJ, 130, .inr (.inl m_fam)))] [(ad 0, .inr (10, oM ad m_undoCount m_thrown m_hasSnapshot a_m_fam m_rows m_lineLength m_formattedLength m_bufferLength m_limit m_next_9 m_beginsAt_9 m_token_9 m_error_9 m_errorAt_9 m_errorPosition m_nested m_codeCount)), ((ad 24), .inl (cI, 800, .inl m_buffer)), (a_m_fam, .inl (cJ, 130, .inr (.inl m_fam_9)))] none := by
  refine g_start (own := RX10) (by decide +kernel) rfl (Nat.le_of_ble_eq_true rfl) ?_
  intro p e s m below meth c A ls S hr hlocks hE hP hD hS hA hl hin
  have hx := S.1
  have hb := S.2.1
  have hml := S.2.2.1
  have hown := S.2.2.2.1
  have htg : ∀ w ∈ gw, w.before ([.ref (ad 0)] : List Value).toArray s = true := fun w h => S.2.2.2.2 w (List.mem_cons_of_mem _ h)
  have hl : lv_has ls 4 [(0, .ref (ad 0))] := hl
  have hS0 := hS
  obtain ⟨H, hH⟩ : ∃ H, H = s.heap := ⟨_, rfl⟩
  obtain ⟨locs, hlc⟩ : ∃ locs : List Loc, locs = [] := ⟨_, rfl⟩
  have hS : va_S A s.heap H locs := by rw [hH, hlc]; exact hS0
  have hP : va_P (dC, dI) vwCl [(ad 0, .inr (10, oM ad m_undoCount m_thrown m_hasSnapshot a_m_fam m_rows m_lineLength m_formattedLength m_bufferLength m_limit m_next m_beginsAt m_token m_error m_errorAt m_errorPosition m_nested m_codeCount)), ((ad 24), .inl (cI, 800, .inl m_buffer)), (a_m_fam, .inl (cJ, 130, .inr (.inl m_fam)))] H := by rw [hH]; exact hP
  suffices hgo : W p l e ({ frames := 5, cells := 0, slots := 0, locals := 115 }) s m ([.ref (ad 0)] : List Value).toArray below meth c H locs 0 0 (MQ below (gQ dC dI none A [(ad 0, .inr (10, oM ad m_undoCount m_thrown m_hasSnapshot a_m_fam m_rows m_lineLength m_formattedLength m_bufferLength m_limit m_next_9 m_beginsAt_9 m_token_9 m_error_9 m_errorAt_9 m_errorPosition m_nested m_codeCount)), ((ad 24), .inl (cI, 800, .inl m_buffer)), (a_m_fam, .inl (cJ, 130, .inr (.inl m_fam_9)))]) ([.ref (ad 0)] : List Value).toArray s 0 0 A) (F0 m 0 ls []) by rw [hH, hlc] at hgo; exact hgo
  rw [p10_readUnion] at hf
  have J125 : ∀ (m_next_125 : Int32) (m_beginsAt_125 : Int32) (m_token_125 : Int32) (m_error_125 : Int32) (m_errorAt_125 : Int32) (m_fam_125 : Nat → Int64) (H : Heap) (locs : List Loc) (ls : Array Slot), p10_readUnion_J125 m_next_125 m_beginsAt_125 m_token_125 m_error_125 m_errorAt_125 m_fam_125 = some (m_beginsAt_9, m_error_9, m_errorAt_9, m_fam_9, m_next_9, m_token_9) → va_P (dC, dI) vwCl [(ad 0, .inr (10, oM ad m_undoCount m_thrown m_hasSnapshot a_m_fam m_rows m_lineLength m_formattedLength m_bufferLength m_limit m_next_125 m_beginsAt_125 m_token_125 m_error_125 m_errorAt_125 m_errorPosition m_nested m_codeCount)), ((ad 24), .inl (cI, 800, .inl m_buffer)), (a_m_fam, .inl (cJ, 130, .inr (.inl m_fam_125)))] H → va_D A [(ad 0, .inr (10, oM ad m_undoCount m_thrown m_hasSnapshot a_m_fam m_rows m_lineLength m_formattedLength m_bufferLength m_limit m_next_125 m_beginsAt_125 m_token_125 m_error_125 m_errorAt_125 m_errorPosition m_nested m_codeCount)), ((ad 24), .inl (cI, 800, .inl m_buffer)), (a_m_fam, .inl (cJ, 130, .inr (.inl m_fam_125)))] → va_S A s.heap H locs → lv_has ls 4 [] → W p l e ({ frames := 5, cells := 0, slots := 0, locals := 115 }) s m ([.ref (ad 0)] : List Value).toArray below meth c H locs 0 0 (MQ below (gQ dC dI none A [(ad 0, .inr (10, oM ad m_undoCount m_thrown m_hasSnapshot a_m_fam m_rows m_lineLength m_formattedLength m_bufferLength m_limit m_next_9 m_beginsAt_9 m_token_9 m_error_9 m_errorAt_9 m_errorPosition m_nested m_codeCount)), ((ad 24), .inl (cI, 800, .inl m_buffer)), (a_m_fam, .inl (cJ, 130, .inr (.inl m_fam_9)))]) ([.ref (ad 0)] : List Value).toArray s 0 0 A) (F0 m 125 ls []) := by
    intro m_next_125 m_beginsAt_125 m_token_125 m_error_125 m_errorAt_125 m_fam_125 H locs ls hf hP hD hS hl
    rw [p10_readUnion_J125] at hf
    cases hf
    exact g_vret S hr hlocks hP hD hS dX10_readUnion_125
  have J69 : ∀ (v1_69 : Int32) (v2_69 : Int32) (m_next_69 : Int32) (m_beginsAt_69 : Int32) (m_token_69 : Int32) (m_error_69 : Int32) (m_errorAt_69 : Int32) (H : Heap) (locs : List Loc) (ls : Array Slot), p10_readUnion_J69 m_buffer m_fam m_limit v1_69 v2_69 m_next_69 m_beginsAt_69 m_token_69 m_error_69 m_errorAt_69 = some (m_beginsAt_9, m_error_9, m_errorAt_9, m_fam_9, m_next_9, m_token_9) → va_P (dC, dI) vwCl [(ad 0, .inr (10, oM ad m_undoCount m_thrown m_hasSnapshot a_m_fam m_rows m_lineLength m_formattedLength m_bufferLength m_limit m_next_69 m_beginsAt_69 m_token_69 m_error_69 m_errorAt_69 m_errorPosition m_nested m_codeCount)), ((ad 24), .inl (cI, 800, .inl m_buffer)), (a_m_fam, .inl (cJ, 130, .inr (.inl m_fam)))] H → va_D A [(ad 0, .inr (10, oM ad m_undoCount m_thrown m_hasSnapshot a_m_fam m_rows m_lineLength m_formattedLength m_bufferLength m_limit m_next_69 m_beginsAt_69 m_token_69 m_error_69 m_errorAt_69 m_errorPosition m_nested m_codeCount)), ((ad 24), .inl (cI, 800, .inl m_buffer)), (a_m_fam, .inl (cJ, 130, .inr (.inl m_fam)))] → va_S A s.heap H locs → lv_has ls 4 [(0, .ref (ad 0)), (1, .int v1_69), (2, .int v2_69)] → W p l e ({ frames := 5, cells := 0, slots := 0, locals := 115 }) s m ([.ref (ad 0)] : List Value).toArray below meth c H locs 0 0 (MQ below (gQ dC dI none A [(ad 0, .inr (10, oM ad m_undoCount m_thrown m_hasSnapshot a_m_fam m_rows m_lineLength m_formattedLength m_bufferLength m_limit m_next_9 m_beginsAt_9 m_token_9 m_error_9 m_errorAt_9 m_errorPosition m_nested m_codeCount)), ((ad 24), .inl (cI, 800, .inl m_buffer)), (a_m_fam, .inl (cJ, 130, .inr (.inl m_fam_9)))]) ([.ref (ad 0)] : List Value).toArray s 0 0 A) (F0 m 69 ls []) := by
    intro v1_69 v2_69 m_next_69 m_beginsAt_69 m_token_69 m_error_69 m_errorAt_69 H locs ls hf hP hD hS hl
    rw [p10_readUnion_J69] at hf
    refine lv_aload_n hx hb dX10_readUnion_69 rfl (lv_at hl 0 rfl) ?_
    obtain ⟨⟨m_beginsAt_70, m_next_70, m_token_70⟩, h9, hf⟩ := ob_s hf
    have hf := uc3_e hf
    refine gcV (index := 419) S hE (c_X10_advance ad a_m_fam m_undoCount m_thrown m_hasSnapshot m_rows m_lineLength m_formattedLength m_bufferLength m_limit m_next_69 m_beginsAt_69 m_token_69 m_error_69 m_errorAt_69 m_errorPosition m_nested m_codeCount m_buffer m_beginsAt_70 m_next_70 m_token_70 h9) mX10_advance tw1976 ⟨Nat.le_of_ble_eq_true rfl, Nat.le_of_ble_eq_true rfl⟩ hP hD hS hA ⟨Nat.zero_le _, Nat.zero_le _⟩ 0 10 rfl rfl rfl (wr := [(a_m_fam, .inl (cJ, 130, .inr (.inl m_fam)))]) [0, 1] [2] rfl rfl rfl rfl (by decide) (As := []) (rest := []) rfl hl.1 rfl (Nat.le_of_ble_eq_true rfl) dX10_readUnion_70 (fun H locs hP hD hS => ?_)
    refine W.eq (g2 := F0 m 73 ls []) rfl ?_
    have hP : va_P (dC, dI) vwCl [(a_m_fam, .inl (cJ, 130, .inr (.inl m_fam))), (ad 0, .inr (10, oM ad m_undoCount m_thrown m_hasSnapshot a_m_fam m_rows m_lineLength m_formattedLength m_bufferLength m_limit m_next_70 m_beginsAt_70 m_token_70 m_error_69 m_errorAt_69 m_errorPosition m_nested m_codeCount)), ((ad 24), .inl (cI, 800, .inl m_buffer))] H := hP
    have hD : va_D A [(a_m_fam, .inl (cJ, 130, .inr (.inl m_fam))), (ad 0, .inr (10, oM ad m_undoCount m_thrown m_hasSnapshot a_m_fam m_rows m_lineLength m_formattedLength m_bufferLength m_limit m_next_70 m_beginsAt_70 m_token_70 m_error_69 m_errorAt_69 m_errorPosition m_nested m_codeCount)), ((ad 24), .inl (cI, 800, .inl m_buffer))] := hD
    refine lv_aload_n hx hb dX10_readUnion_73 rfl (lv_at hl 0 rfl) ?_
    refine lv_iconst (v := 0) hx hb dX10_readUnion_74 (by decide) ?_
    refine lv_sipush (v := 2100) hx hb dX10_readUnion_75 (by decide) ?_
    obtain ⟨⟨r78, m_beginsAt_78, m_error_78, m_errorAt_78, m_next_78, m_token_78⟩, h9, hf⟩ := ob_s hf
    have hf := uc6_e hf
    refine gcV (index := 441) S hE (c_X10_readNumber ad a_m_fam m_undoCount m_thrown m_hasSnapshot m_rows m_lineLength m_formattedLength m_bufferLength m_limit m_next_70 m_beginsAt_70 m_token_70 m_error_69 m_errorAt_69 m_errorPosition m_nested m_codeCount m_buffer (0 : Int32) (2100 : Int32) r78 m_beginsAt_78 m_error_78 m_errorAt_78 m_next_78 m_token_78 h9) mX10_readNumber tw1989 ⟨Nat.le_of_ble_eq_true rfl, Nat.le_of_ble_eq_true rfl⟩ hP hD hS hA ⟨Nat.zero_le _, Nat.zero_le _⟩ 1 10 rfl rfl rfl (wr := [(a_m_fam, .inl (cJ, 130, .inr (.inl m_fam)))]) [1, 2] [0] rfl rfl rfl rfl (by decide) (As := [.int (0 : Int32), .int (2100 : Int32)]) (rest := []) rfl hl.1 rfl (Nat.le_of_ble_eq_true rfl) dX10_readUnion_78 (fun H locs hP hD hS => ?_)
    refine W.eq (g2 := F0 m 81 ls [.int r78]) rfl ?_
    have hP : va_P (dC, dI) vwCl [(a_m_fam, .inl (cJ, 130, .inr (.inl m_fam))), (ad 0, .inr (10, oM ad m_undoCount m_thrown m_hasSnapshot a_m_fam m_rows m_lineLength m_formattedLength m_bufferLength m_limit m_next_78 m_beginsAt_78 m_token_78 m_error_78 m_errorAt_78 m_errorPosition m_nested m_codeCount)), ((ad 24), .inl (cI, 800, .inl m_buffer))] H := hP
    have hD : va_D A [(a_m_fam, .inl (cJ, 130, .inr (.inl m_fam))), (ad 0, .inr (10, oM ad m_undoCount m_thrown m_hasSnapshot a_m_fam m_rows m_lineLength m_formattedLength m_bufferLength m_limit m_next_78 m_beginsAt_78 m_token_78 m_error_78 m_errorAt_78 m_errorPosition m_nested m_codeCount)), ((ad 24), .inl (cI, 800, .inl m_buffer))] := hD
    refine lv_istore_n (lv' := [(3, .int r78), (0, .ref (ad 0)), (1, .int v1_69), (2, .int v2_69)]) hx hb dX10_readUnion_81 rfl hl (by decide) rfl (fun ls hl => ?_)
    refine lv_aload_n hx hb dX10_readUnion_82 rfl (lv_at hl 1 rfl) ?_
    refine va_get (D := (dC, dI)) (ci := 10) (v := .int m_error_78) (C := RX10) (T := TX10) (N := 37) hx hb htg inX10 hown hE.1 hP 1 rfl rfl 29 (by decide) (htg _ tw1411) (fun _ h9 => h9) rfl dX10_readUnion_83 ?_
    refine lv_if_eq (tgt := 90) hx hb dX10_readUnion_86 (by decide) (fun h9 => ?_) (fun h9 => ?_)
    · have hf := itt h9 hf
      refine lv_aload_n hx hb dX10_readUnion_90 rfl (lv_at hl 1 rfl) ?_
      refine lv_iload_n hx hb dX10_readUnion_91 rfl (lv_at hl 2 rfl) ?_
      refine lv_iload_n hx hb dX10_readUnion_92 rfl (lv_at hl 3 rfl) ?_
      refine lv_iload_n hx hb dX10_readUnion_93 rfl (lv_at hl 0 rfl) ?_
      obtain ⟨m_fam_94, h9, hf⟩ := ob_s hf
      refine gcV (index := 330) S hE (c_X10_addUnion ad a_m_fam m_undoCount m_thrown m_hasSnapshot m_rows m_lineLength m_formattedLength m_bufferLength m_limit m_next_78 m_beginsAt_78 m_token_78 m_error_78 m_errorAt_78 m_errorPosition m_nested m_codeCount m_fam v1_69 v2_69 r78 m_fam_94 h9) mX10_addUnion tw1853 ⟨Nat.le_of_ble_eq_true rfl, Nat.le_of_ble_eq_true rfl⟩ hP hD hS hA ⟨Nat.zero_le _, Nat.zero_le _⟩ 1 10 rfl rfl rfl (wr := [((ad 24), .inl (cI, 800, .inl m_buffer))]) [1, 0] [2] rfl rfl rfl rfl (by decide) (As := [.int v1_69, .int v2_69, .int r78]) (rest := []) rfl hl.1 rfl (Nat.le_of_ble_eq_true rfl) dX10_readUnion_94 (fun H locs hP hD hS => ?_)
      refine W.eq (g2 := F0 m 97 ls []) rfl ?_
      have hP : va_P (dC, dI) vwCl [((ad 24), .inl (cI, 800, .inl m_buffer)), (ad 0, .inr (10, oM ad m_undoCount m_thrown m_hasSnapshot a_m_fam m_rows m_lineLength m_formattedLength m_bufferLength m_limit m_next_78 m_beginsAt_78 m_token_78 m_error_78 m_errorAt_78 m_errorPosition m_nested m_codeCount)), (a_m_fam, .inl (cJ, 130, .inr (.inl m_fam_94)))] H := hP
      have hD : va_D A [((ad 24), .inl (cI, 800, .inl m_buffer)), (ad 0, .inr (10, oM ad m_undoCount m_thrown m_hasSnapshot a_m_fam m_rows m_lineLength m_formattedLength m_bufferLength m_limit m_next_78 m_beginsAt_78 m_token_78 m_error_78 m_errorAt_78 m_errorPosition m_nested m_codeCount)), (a_m_fam, .inl (cJ, 130, .inr (.inl m_fam_94)))] := hD
      have K97 : ∀ (n97 : Nat) (m_beginsAt_97 : Int32) (m_error_97 : Int32) (m_errorAt_97 : Int32) (m_fam_97 : Nat → Int64) (m_next_97 : Int32) (m_token_97 : Int32) (ex97 : Int32 × Int32 × Int32 × (Nat → Int64) × Int32 × Int32) (H : Heap) (locs : List Loc) (ls : Array Slot), p10_readUnion_L97 m_buffer m_limit n97 m_beginsAt_97 m_error_97 m_errorAt_97 m_fam_97 m_next_97 m_token_97 = some ex97 → (uc6 fun m_beginsAt_x97 m_error_x97 m_errorAt_x97 m_fam_x97 m_next_x97 m_token_x97 => p10_readUnion_J125 m_next_x97 m_beginsAt_x97 m_token_x97 m_error_x97 m_errorAt_x97 m_fam_x97) ex97 = some (m_beginsAt_9, m_error_9, m_errorAt_9, m_fam_9, m_next_9, m_token_9) → va_P (dC, dI) vwCl [(ad 0, .inr (10, oM ad m_undoCount m_thrown m_hasSnapshot a_m_fam m_rows m_lineLength m_formattedLength m_bufferLength m_limit m_next_97 m_beginsAt_97 m_token_97 m_error_97 m_errorAt_97 m_errorPosition m_nested m_codeCount)), ((ad 24), .inl (cI, 800, .inl m_buffer)), (a_m_fam, .inl (cJ, 130, .inr (.inl m_fam_97)))] H → va_D A [(ad 0, .inr (10, oM ad m_undoCount m_thrown m_hasSnapshot a_m_fam m_rows m_lineLength m_formattedLength m_bufferLength m_limit m_next_97 m_beginsAt_97 m_token_97 m_error_97 m_errorAt_97 m_errorPosition m_nested m_codeCount)), ((ad 24), .inl (cI, 800, .inl m_buffer)), (a_m_fam, .inl (cJ, 130, .inr (.inl m_fam_97)))] → va_S A s.heap H locs → lv_has ls 4 [(0, .ref (ad 0))] → W p l e ({ frames := 5, cells := 0, slots := 0, locals := 115 }) s m ([.ref (ad 0)] : List Value).toArray below meth c H locs 0 0 (MQ below (gQ dC dI none A [(ad 0, .inr (10, oM ad m_undoCount m_thrown m_hasSnapshot a_m_fam m_rows m_lineLength m_formattedLength m_bufferLength m_limit m_next_9 m_beginsAt_9 m_token_9 m_error_9 m_errorAt_9 m_errorPosition m_nested m_codeCount)), ((ad 24), .inl (cI, 800, .inl m_buffer)), (a_m_fam, .inl (cJ, 130, .inr (.inl m_fam_9)))]) ([.ref (ad 0)] : List Value).toArray s 0 0 A) (F0 m 97 ls []) := by
        intro n97
        induction n97 with
        | zero => intro m_beginsAt_97 m_error_97 m_errorAt_97 m_fam_97 m_next_97 m_token_97 ex97 H locs ls hf; rw [p10_readUnion_L97] at hf; cases hf
        | succ n97 ih97 =>
          intro m_beginsAt_97 m_error_97 m_errorAt_97 m_fam_97 m_next_97 m_token_97 ex97 H locs ls hf hk97 hP hD hS hl
          rw [p10_readUnion_L97, p10_readUnion_L97_B] at hf
          refine lv_aload_n hx hb dX10_readUnion_97 rfl (lv_at hl 0 rfl) ?_
          refine va_get (D := (dC, dI)) (ci := 10) (v := .int m_error_97) (C := RX10) (T := TX10) (N := 37) hx hb htg inX10 hown hE.1 hP 0 rfl rfl 29 (by decide) (htg _ tw1411) (fun _ h9 => h9) rfl dX10_readUnion_98 ?_
          refine lv_if_ne (tgt := 125) hx hb dX10_readUnion_101 (by decide) (fun h9 => ?_) (fun h9 => ?_)
          · have hf := itf h9 hf
            cases hf
            have hf := hk97
            have hf := uc6_e hf
            exact J125 m_next_97 m_beginsAt_97 m_token_97 m_error_97 m_errorAt_97 m_fam_97 H locs ls hf hP hD hS (lv_sub hl [] rfl)
          · have hf := itt h9 hf
            refine lv_aload_n hx hb dX10_readUnion_104 rfl (lv_at hl 0 rfl) ?_
            refine va_get (D := (dC, dI)) (ci := 10) (v := .int m_token_97) (C := RX10) (T := TX10) (N := 37) hx hb htg inX10 hown hE.1 hP 0 rfl rfl 28 (by decide) (htg _ tw1410) (fun _ h9 => h9) rfl dX10_readUnion_105 ?_
            refine lv_iconst (v := 1) hx hb dX10_readUnion_108 (by decide) ?_
            refine lv_icmp_ne (tgt := 125) hx hb dX10_readUnion_109 (by decide) (fun h9 => ?_) (fun h9 => ?_)
            · have hf := itf h9 hf
              cases hf
              have hf := hk97
              have hf := uc6_e hf
              exact J125 m_next_97 m_beginsAt_97 m_token_97 m_error_97 m_errorAt_97 m_fam_97 H locs ls hf hP hD hS (lv_sub hl [] rfl)
            · have hf := itt h9 hf
              refine lv_aload_n hx hb dX10_readUnion_112 rfl (lv_at hl 0 rfl) ?_
              refine lv_aload_n hx hb dX10_readUnion_113 rfl (lv_at hl 0 rfl) ?_
              obtain ⟨r114, h9, hf⟩ := ob_s hf
              refine gcV (index := 110) S hE (c_X10_unions ad a_m_fam m_undoCount m_thrown m_hasSnapshot m_rows m_lineLength m_formattedLength m_bufferLength m_limit m_next_97 m_beginsAt_97 m_token_97 m_error_97 m_errorAt_97 m_errorPosition m_nested m_codeCount m_fam_97 r114 h9) mX10_unions tw1532 ⟨Nat.le_of_ble_eq_true rfl, Nat.le_of_ble_eq_true rfl⟩ hP hD hS hA ⟨Nat.zero_le _, Nat.zero_le _⟩ 0 10 rfl rfl rfl (wr := [((ad 24), .inl (cI, 800, .inl m_buffer))]) [0, 2] [1] rfl rfl rfl rfl (by decide) (As := []) (rest := [.ref (ad 0)]) rfl hl.1 rfl (Nat.le_of_ble_eq_true rfl) dX10_readUnion_114 (fun H locs hP hD hS => ?_)
              refine W.eq (g2 := F0 m 117 ls [.int r114, .ref (ad 0)]) rfl ?_
              have hP : va_P (dC, dI) vwCl [((ad 24), .inl (cI, 800, .inl m_buffer)), (ad 0, .inr (10, oM ad m_undoCount m_thrown m_hasSnapshot a_m_fam m_rows m_lineLength m_formattedLength m_bufferLength m_limit m_next_97 m_beginsAt_97 m_token_97 m_error_97 m_errorAt_97 m_errorPosition m_nested m_codeCount)), (a_m_fam, .inl (cJ, 130, .inr (.inl m_fam_97)))] H := hP
              have hD : va_D A [((ad 24), .inl (cI, 800, .inl m_buffer)), (ad 0, .inr (10, oM ad m_undoCount m_thrown m_hasSnapshot a_m_fam m_rows m_lineLength m_formattedLength m_bufferLength m_limit m_next_97 m_beginsAt_97 m_token_97 m_error_97 m_errorAt_97 m_errorPosition m_nested m_codeCount)), (a_m_fam, .inl (cJ, 130, .inr (.inl m_fam_97)))] := hD
              refine lv_iconst (v := 1) hx hb dX10_readUnion_117 (by decide) ?_
              refine lv_isub hx hb dX10_readUnion_118 ?_
              obtain ⟨⟨m_beginsAt_119, m_error_119, m_errorAt_119, m_fam_119, m_next_119, m_token_119⟩, h9, hf⟩ := ob_s hf
              have hf := uc6_e hf
              refine gcV (index := 447) S hE (c_X10_readChild ad a_m_fam m_undoCount m_thrown m_hasSnapshot m_rows m_lineLength m_formattedLength m_bufferLength m_limit m_next_97 m_beginsAt_97 m_token_97 m_error_97 m_errorAt_97 m_errorPosition m_nested m_codeCount m_buffer m_fam_97 (r114 - (1 : Int32)) m_beginsAt_119 m_error_119 m_errorAt_119 m_fam_119 m_next_119 m_token_119 h9) mX10_readChild tw2008 ⟨Nat.le_of_ble_eq_true rfl, Nat.le_of_ble_eq_true rfl⟩ hP hD hS hA ⟨Nat.zero_le _, Nat.zero_le _⟩ 1 10 rfl rfl rfl (wr := []) [1, 0, 2] [] rfl rfl rfl rfl (by decide) (As := [.int (r114 - (1 : Int32))]) (rest := []) rfl hl.1 rfl (Nat.le_of_ble_eq_true rfl) dX10_readUnion_119 (fun H locs hP hD hS => ?_)
              refine W.eq (g2 := F0 m 122 ls []) rfl ?_
              have hP : va_P (dC, dI) vwCl [(ad 0, .inr (10, oM ad m_undoCount m_thrown m_hasSnapshot a_m_fam m_rows m_lineLength m_formattedLength m_bufferLength m_limit m_next_119 m_beginsAt_119 m_token_119 m_error_119 m_errorAt_119 m_errorPosition m_nested m_codeCount)), ((ad 24), .inl (cI, 800, .inl m_buffer)), (a_m_fam, .inl (cJ, 130, .inr (.inl m_fam_119)))] H := hP
              have hD : va_D A [(ad 0, .inr (10, oM ad m_undoCount m_thrown m_hasSnapshot a_m_fam m_rows m_lineLength m_formattedLength m_bufferLength m_limit m_next_119 m_beginsAt_119 m_token_119 m_error_119 m_errorAt_119 m_errorPosition m_nested m_codeCount)), ((ad 24), .inl (cI, 800, .inl m_buffer)), (a_m_fam, .inl (cJ, 130, .inr (.inl m_fam_119)))] := hD
              refine lv_goto (tgt := 97) hx hb dX10_readUnion_122 (by decide) ?_
              exact ih97 m_beginsAt_119 m_error_119 m_errorAt_119 m_fam_119 m_next_119 m_token_119 ex97 H locs ls hf hk97 hP hD hS (lv_sub hl [0] rfl)
      obtain ⟨ex, h9, hf⟩ := ob_s hf
      exact K97 FU m_beginsAt_78 m_error_78 m_errorAt_78 m_fam_94 m_next_78 m_token_78 ex H locs ls h9 hf (hP.sub [1, 0, 2] rfl) (hD.sub [1, 0, 2] (by decide) rfl) hS (lv_sub hl [1] rfl)
    · have hf := itf h9 hf
      cases hf
      exact g_vret S hr hlocks (hP.sub [1, 2, 0] rfl) (hD.sub [1, 2, 0] (by decide) rfl) hS dX10_readUnion_89
  have J19 : ∀ (m_error_19 : Int32) (m_errorAt_19 : Int32) (H : Heap) (locs : List Loc) (ls : Array Slot), p10_readUnion_J19 m_beginsAt m_buffer m_fam m_limit m_next m_token m_error_19 m_errorAt_19 = some (m_beginsAt_9, m_error_9, m_errorAt_9, m_fam_9, m_next_9, m_token_9) → va_P (dC, dI) vwCl [(ad 0, .inr (10, oM ad m_undoCount m_thrown m_hasSnapshot a_m_fam m_rows m_lineLength m_formattedLength m_bufferLength m_limit m_next m_beginsAt m_token m_error_19 m_errorAt_19 m_errorPosition m_nested m_codeCount)), ((ad 24), .inl (cI, 800, .inl m_buffer)), (a_m_fam, .inl (cJ, 130, .inr (.inl m_fam)))] H → va_D A [(ad 0, .inr (10, oM ad m_undoCount m_thrown m_hasSnapshot a_m_fam m_rows m_lineLength m_formattedLength m_bufferLength m_limit m_next m_beginsAt m_token m_error_19 m_errorAt_19 m_errorPosition m_nested m_codeCount)), ((ad 24), .inl (cI, 800, .inl m_buffer)), (a_m_fam, .inl (cJ, 130, .inr (.inl m_fam)))] → va_S A s.heap H locs → lv_has ls 4 [(0, .ref (ad 0))] → W p l e ({ frames := 5, cells := 0, slots := 0, locals := 115 }) s m ([.ref (ad 0)] : List Value).toArray below meth c H locs 0 0 (MQ below (gQ dC dI none A [(ad 0, .inr (10, oM ad m_undoCount m_thrown m_hasSnapshot a_m_fam m_rows m_lineLength m_formattedLength m_bufferLength m_limit m_next_9 m_beginsAt_9 m_token_9 m_error_9 m_errorAt_9 m_errorPosition m_nested m_codeCount)), ((ad 24), .inl (cI, 800, .inl m_buffer)), (a_m_fam, .inl (cJ, 130, .inr (.inl m_fam_9)))]) ([.ref (ad 0)] : List Value).toArray s 0 0 A) (F0 m 19 ls []) := by
    intro m_error_19 m_errorAt_19 H locs ls hf hP hD hS hl
    rw [p10_readUnion_J19] at hf
    refine lv_aload_n hx hb dX10_readUnion_19 rfl (lv_at hl 0 rfl) ?_
    obtain ⟨⟨m_beginsAt_20, m_next_20, m_token_20⟩, h9, hf⟩ := ob_s hf
    have hf := uc3_e hf
    refine gcV (index := 419) S hE (c_X10_advance ad a_m_fam m_undoCount m_thrown m_hasSnapshot m_rows m_lineLength m_formattedLength m_bufferLength m_limit m_next m_beginsAt m_token m_error_19 m_errorAt_19 m_errorPosition m_nested m_codeCount m_buffer m_beginsAt_20 m_next_20 m_token_20 h9) mX10_advance tw1976 ⟨Nat.le_of_ble_eq_true rfl, Nat.le_of_ble_eq_true rfl⟩ hP hD hS hA ⟨Nat.zero_le _, Nat.zero_le _⟩ 0 10 rfl rfl rfl (wr := [(a_m_fam, .inl (cJ, 130, .inr (.inl m_fam)))]) [0, 1] [2] rfl rfl rfl rfl (by decide) (As := []) (rest := []) rfl hl.1 rfl (Nat.le_of_ble_eq_true rfl) dX10_readUnion_20 (fun H locs hP hD hS => ?_)
    refine W.eq (g2 := F0 m 23 ls []) rfl ?_
    have hP : va_P (dC, dI) vwCl [(a_m_fam, .inl (cJ, 130, .inr (.inl m_fam))), (ad 0, .inr (10, oM ad m_undoCount m_thrown m_hasSnapshot a_m_fam m_rows m_lineLength m_formattedLength m_bufferLength m_limit m_next_20 m_beginsAt_20 m_token_20 m_error_19 m_errorAt_19 m_errorPosition m_nested m_codeCount)), ((ad 24), .inl (cI, 800, .inl m_buffer))] H := hP
    have hD : va_D A [(a_m_fam, .inl (cJ, 130, .inr (.inl m_fam))), (ad 0, .inr (10, oM ad m_undoCount m_thrown m_hasSnapshot a_m_fam m_rows m_lineLength m_formattedLength m_bufferLength m_limit m_next_20 m_beginsAt_20 m_token_20 m_error_19 m_errorAt_19 m_errorPosition m_nested m_codeCount)), ((ad 24), .inl (cI, 800, .inl m_buffer))] := hD
    refine lv_aload_n hx hb dX10_readUnion_23 rfl (lv_at hl 0 rfl) ?_
    obtain ⟨⟨r24, m_error_24, m_errorAt_24⟩, h9, hf⟩ := ob_s hf
    have hf := uc3_e hf
    refine gcV (index := 444) S hE (c_X10_readName ad a_m_fam m_undoCount m_thrown m_hasSnapshot m_rows m_lineLength m_formattedLength m_bufferLength m_limit m_next_20 m_beginsAt_20 m_token_20 m_error_19 m_errorAt_19 m_errorPosition m_nested m_codeCount m_buffer m_fam r24 m_error_24 m_errorAt_24 h9) mX10_readName tw2004 ⟨Nat.le_of_ble_eq_true rfl, Nat.le_of_ble_eq_true rfl⟩ hP hD hS hA ⟨Nat.zero_le _, Nat.zero_le _⟩ 1 10 rfl rfl rfl (wr := []) [1, 2, 0] [] rfl rfl rfl rfl (by decide) (As := []) (rest := []) rfl hl.1 rfl (Nat.le_of_ble_eq_true rfl) dX10_readUnion_24 (fun H locs hP hD hS => ?_)
    refine W.eq (g2 := F0 m 27 ls [.int r24]) rfl ?_
    have hP : va_P (dC, dI) vwCl [(ad 0, .inr (10, oM ad m_undoCount m_thrown m_hasSnapshot a_m_fam m_rows m_lineLength m_formattedLength m_bufferLength m_limit m_next_20 m_beginsAt_20 m_token_20 m_error_24 m_errorAt_24 m_errorPosition m_nested m_codeCount)), ((ad 24), .inl (cI, 800, .inl m_buffer)), (a_m_fam, .inl (cJ, 130, .inr (.inl m_fam)))] H := hP
    have hD : va_D A [(ad 0, .inr (10, oM ad m_undoCount m_thrown m_hasSnapshot a_m_fam m_rows m_lineLength m_formattedLength m_bufferLength m_limit m_next_20 m_beginsAt_20 m_token_20 m_error_24 m_errorAt_24 m_errorPosition m_nested m_codeCount)), ((ad 24), .inl (cI, 800, .inl m_buffer)), (a_m_fam, .inl (cJ, 130, .inr (.inl m_fam)))] := hD
    refine lv_istore_n (lv' := [(1, .int r24), (0, .ref (ad 0))]) hx hb dX10_readUnion_27 rfl hl (by decide) rfl (fun ls hl => ?_)
    refine lv_aload_n hx hb dX10_readUnion_28 rfl (lv_at hl 1 rfl) ?_
    obtain ⟨⟨m_beginsAt_29, m_next_29, m_token_29⟩, h9, hf⟩ := ob_s hf
    have hf := uc3_e hf
    refine gcV (index := 419) S hE (c_X10_advance ad a_m_fam m_undoCount m_thrown m_hasSnapshot m_rows m_lineLength m_formattedLength m_bufferLength m_limit m_next_20 m_beginsAt_20 m_token_20 m_error_24 m_errorAt_24 m_errorPosition m_nested m_codeCount m_buffer m_beginsAt_29 m_next_29 m_token_29 h9) mX10_advance tw1976 ⟨Nat.le_of_ble_eq_true rfl, Nat.le_of_ble_eq_true rfl⟩ hP hD hS hA ⟨Nat.zero_le _, Nat.zero_le _⟩ 0 10 rfl rfl rfl (wr := [(a_m_fam, .inl (cJ, 130, .inr (.inl m_fam)))]) [0, 1] [2] rfl rfl rfl rfl (by decide) (As := []) (rest := []) rfl hl.1 rfl (Nat.le_of_ble_eq_true rfl) dX10_readUnion_29 (fun H locs hP hD hS => ?_)
    refine W.eq (g2 := F0 m 32 ls []) rfl ?_
    have hP : va_P (dC, dI) vwCl [(a_m_fam, .inl (cJ, 130, .inr (.inl m_fam))), (ad 0, .inr (10, oM ad m_undoCount m_thrown m_hasSnapshot a_m_fam m_rows m_lineLength m_formattedLength m_bufferLength m_limit m_next_29 m_beginsAt_29 m_token_29 m_error_24 m_errorAt_24 m_errorPosition m_nested m_codeCount)), ((ad 24), .inl (cI, 800, .inl m_buffer))] H := hP
    have hD : va_D A [(a_m_fam, .inl (cJ, 130, .inr (.inl m_fam))), (ad 0, .inr (10, oM ad m_undoCount m_thrown m_hasSnapshot a_m_fam m_rows m_lineLength m_formattedLength m_bufferLength m_limit m_next_29 m_beginsAt_29 m_token_29 m_error_24 m_errorAt_24 m_errorPosition m_nested m_codeCount)), ((ad 24), .inl (cI, 800, .inl m_buffer))] := hD
    refine lv_aload_n hx hb dX10_readUnion_32 rfl (lv_at hl 1 rfl) ?_
    obtain ⟨⟨r33, m_error_33, m_errorAt_33⟩, h9, hf⟩ := ob_s hf
    have hf := uc3_e hf
    refine gcV (index := 444) S hE (c_X10_readName ad a_m_fam m_undoCount m_thrown m_hasSnapshot m_rows m_lineLength m_formattedLength m_bufferLength m_limit m_next_29 m_beginsAt_29 m_token_29 m_error_24 m_errorAt_24 m_errorPosition m_nested m_codeCount m_buffer m_fam r33 m_error_33 m_errorAt_33 h9) mX10_readName tw2004 ⟨Nat.le_of_ble_eq_true rfl, Nat.le_of_ble_eq_true rfl⟩ hP hD hS hA ⟨Nat.zero_le _, Nat.zero_le _⟩ 1 10 rfl rfl rfl (wr := []) [1, 2, 0] [] rfl rfl rfl rfl (by decide) (As := []) (rest := []) rfl hl.1 rfl (Nat.le_of_ble_eq_true rfl) dX10_readUnion_33 (fun H locs hP hD hS => ?_)
    refine W.eq (g2 := F0 m 36 ls [.int r33]) rfl ?_
    have hP : va_P (dC, dI) vwCl [(ad 0, .inr (10, oM ad m_undoCount m_thrown m_hasSnapshot a_m_fam m_rows m_lineLength m_formattedLength m_bufferLength m_limit m_next_29 m_beginsAt_29 m_token_29 m_error_33 m_errorAt_33 m_errorPosition m_nested m_codeCount)), ((ad 24), .inl (cI, 800, .inl m_buffer)), (a_m_fam, .inl (cJ, 130, .inr (.inl m_fam)))] H := hP
    have hD : va_D A [(ad 0, .inr (10, oM ad m_undoCount m_thrown m_hasSnapshot a_m_fam m_rows m_lineLength m_formattedLength m_bufferLength m_limit m_next_29 m_beginsAt_29 m_token_29 m_error_33 m_errorAt_33 m_errorPosition m_nested m_codeCount)), ((ad 24), .inl (cI, 800, .inl m_buffer)), (a_m_fam, .inl (cJ, 130, .inr (.inl m_fam)))] := hD
    refine lv_istore_n (lv' := [(2, .int r33), (1, .int r24), (0, .ref (ad 0))]) hx hb dX10_readUnion_36 rfl hl (by decide) rfl (fun ls hl => ?_)
    refine lv_aload_n hx hb dX10_readUnion_37 rfl (lv_at hl 2 rfl) ?_
    refine lv_aload_n hx hb dX10_readUnion_38 rfl (lv_at hl 2 rfl) ?_
    refine va_get (D := (dC, dI)) (ci := 10) (v := .int m_error_33) (C := RX10) (T := TX10) (N := 37) hx hb htg inX10 hown hE.1 hP 0 rfl rfl 29 (by decide) (htg _ tw1411) (fun _ h9 => h9) rfl dX10_readUnion_39 ?_
    refine lv_if_ne (tgt := 60) hx hb dX10_readUnion_42 (by decide) (fun h9 => ?_) (fun h9 => ?_)
    · have hf := itf h9 hf
      refine lv_iconst (v := 1) hx hb dX10_readUnion_60 (by decide) ?_
      refine lv_goto (tgt := 65) hx hb dX10_readUnion_61 (by decide) ?_
      refine lv_iconst (v := 5) hx hb dX10_readUnion_65 (by decide) ?_
      obtain ⟨m_error_66, m_errorAt_66, h9⟩ : ∃ m_error_66 m_errorAt_66, p10_check m_beginsAt_29 m_error_33 m_errorAt_33 true (5 : Int32) = (m_error_66, m_errorAt_66) := ⟨_, _, rfl⟩
      have hf := uc2_e (lb_e h9.symm hf)
      refine gcV (index := 415) S hE (c_X10_check ad a_m_fam m_undoCount m_thrown m_hasSnapshot m_rows m_lineLength m_formattedLength m_bufferLength m_limit m_next_29 m_beginsAt_29 m_token_29 m_error_33 m_errorAt_33 m_errorPosition m_nested m_codeCount true (5 : Int32) m_error_66 m_errorAt_66 h9) mX10_check tw1968 ⟨Nat.le_of_ble_eq_true rfl, Nat.le_of_ble_eq_true rfl⟩ hP hD hS hA ⟨Nat.zero_le _, Nat.zero_le _⟩ 0 10 rfl rfl rfl (wr := [((ad 24), .inl (cI, 800, .inl m_buffer)), (a_m_fam, .inl (cJ, 130, .inr (.inl m_fam)))]) [0] [1, 2] rfl rfl rfl rfl (by decide) (As := [.int (bI true), .int (5 : Int32)]) (rest := []) rfl hl.1 rfl (Nat.le_of_ble_eq_true rfl) dX10_readUnion_66 (fun H locs hP hD hS => ?_)
      refine W.eq (g2 := F0 m 69 ls []) rfl ?_
      have hP : va_P (dC, dI) vwCl [((ad 24), .inl (cI, 800, .inl m_buffer)), (a_m_fam, .inl (cJ, 130, .inr (.inl m_fam))), (ad 0, .inr (10, oM ad m_undoCount m_thrown m_hasSnapshot a_m_fam m_rows m_lineLength m_formattedLength m_bufferLength m_limit m_next_29 m_beginsAt_29 m_token_29 m_error_66 m_errorAt_66 m_errorPosition m_nested m_codeCount))] H := hP
      have hD : va_D A [((ad 24), .inl (cI, 800, .inl m_buffer)), (a_m_fam, .inl (cJ, 130, .inr (.inl m_fam))), (ad 0, .inr (10, oM ad m_undoCount m_thrown m_hasSnapshot a_m_fam m_rows m_lineLength m_formattedLength m_bufferLength m_limit m_next_29 m_beginsAt_29 m_token_29 m_error_66 m_errorAt_66 m_errorPosition m_nested m_codeCount))] := hD
      exact J69 r24 r33 m_next_29 m_beginsAt_29 m_token_29 m_error_66 m_errorAt_66 H locs ls hf (hP.sub [2, 0, 1] rfl) (hD.sub [2, 0, 1] (by decide) rfl) hS (lv_sub hl [2, 1, 0] rfl)
    · have hf := itt h9 hf
      refine lv_iload_n hx hb dX10_readUnion_45 rfl (lv_at hl 1 rfl) ?_
      refine lv_iload_n hx hb dX10_readUnion_46 rfl (lv_at hl 0 rfl) ?_
      refine lv_icmp_eq (tgt := 64) hx hb dX10_readUnion_47 (by decide) (fun h9 => ?_) (fun h9 => ?_)
      · have hf := itt h9 hf
        refine lv_iconst (v := 0) hx hb dX10_readUnion_64 (by decide) ?_
        refine lv_iconst (v := 5) hx hb dX10_readUnion_65 (by decide) ?_
        obtain ⟨m_error_66, m_errorAt_66, h9⟩ : ∃ m_error_66 m_errorAt_66, p10_check m_beginsAt_29 m_error_33 m_errorAt_33 false (5 : Int32) = (m_error_66, m_errorAt_66) := ⟨_, _, rfl⟩
        have hf := uc2_e (lb_e h9.symm hf)
        refine gcV (index := 415) S hE (c_X10_check ad a_m_fam m_undoCount m_thrown m_hasSnapshot m_rows m_lineLength m_formattedLength m_bufferLength m_limit m_next_29 m_beginsAt_29 m_token_29 m_error_33 m_errorAt_33 m_errorPosition m_nested m_codeCount false (5 : Int32) m_error_66 m_errorAt_66 h9) mX10_check tw1968 ⟨Nat.le_of_ble_eq_true rfl, Nat.le_of_ble_eq_true rfl⟩ hP hD hS hA ⟨Nat.zero_le _, Nat.zero_le _⟩ 0 10 rfl rfl rfl (wr := [((ad 24), .inl (cI, 800, .inl m_buffer)), (a_m_fam, .inl (cJ, 130, .inr (.inl m_fam)))]) [0] [1, 2] rfl rfl rfl rfl (by decide) (As := [.int (bI false), .int (5 : Int32)]) (rest := []) rfl hl.1 rfl (Nat.le_of_ble_eq_true rfl) dX10_readUnion_66 (fun H locs hP hD hS => ?_)
        refine W.eq (g2 := F0 m 69 ls []) rfl ?_
        have hP : va_P (dC, dI) vwCl [((ad 24), .inl (cI, 800, .inl m_buffer)), (a_m_fam, .inl (cJ, 130, .inr (.inl m_fam))), (ad 0, .inr (10, oM ad m_undoCount m_thrown m_hasSnapshot a_m_fam m_rows m_lineLength m_formattedLength m_bufferLength m_limit m_next_29 m_beginsAt_29 m_token_29 m_error_66 m_errorAt_66 m_errorPosition m_nested m_codeCount))] H := hP
        have hD : va_D A [((ad 24), .inl (cI, 800, .inl m_buffer)), (a_m_fam, .inl (cJ, 130, .inr (.inl m_fam))), (ad 0, .inr (10, oM ad m_undoCount m_thrown m_hasSnapshot a_m_fam m_rows m_lineLength m_formattedLength m_bufferLength m_limit m_next_29 m_beginsAt_29 m_token_29 m_error_66 m_errorAt_66 m_errorPosition m_nested m_codeCount))] := hD
        exact J69 r24 r33 m_next_29 m_beginsAt_29 m_token_29 m_error_66 m_errorAt_66 H locs ls hf (hP.sub [2, 0, 1] rfl) (hD.sub [2, 0, 1] (by decide) rfl) hS (lv_sub hl [2, 1, 0] rfl)
      · have hf := itf h9 hf
        refine lv_aload_n hx hb dX10_readUnion_50 rfl (lv_at hl 2 rfl) ?_
        refine lv_iload_n hx hb dX10_readUnion_51 rfl (lv_at hl 1 rfl) ?_
        refine lv_iload_n hx hb dX10_readUnion_52 rfl (lv_at hl 0 rfl) ?_
        obtain ⟨r53, h9, hf⟩ := ob_s hf
        refine gcV (index := 324) S hE (c_X10_unionOf ad a_m_fam m_undoCount m_thrown m_hasSnapshot m_rows m_lineLength m_formattedLength m_bufferLength m_limit m_next_29 m_beginsAt_29 m_token_29 m_error_33 m_errorAt_33 m_errorPosition m_nested m_codeCount m_fam r24 r33 r53 h9) mX10_unionOf tw1842 ⟨Nat.le_of_ble_eq_true rfl, Nat.le_of_ble_eq_true rfl⟩ hP hD hS hA ⟨Nat.zero_le _, Nat.zero_le _⟩ 0 10 rfl rfl rfl (wr := [((ad 24), .inl (cI, 800, .inl m_buffer))]) [0, 2] [1] rfl rfl rfl rfl (by decide) (As := [.int r24, .int r33]) (rest := [.ref (ad 0)]) rfl hl.1 rfl (Nat.le_of_ble_eq_true rfl) dX10_readUnion_53 (fun H locs hP hD hS => ?_)
        refine W.eq (g2 := F0 m 56 ls [.int r53, .ref (ad 0)]) rfl ?_
        have hP : va_P (dC, dI) vwCl [((ad 24), .inl (cI, 800, .inl m_buffer)), (ad 0, .inr (10, oM ad m_undoCount m_thrown m_hasSnapshot a_m_fam m_rows m_lineLength m_formattedLength m_bufferLength m_limit m_next_29 m_beginsAt_29 m_token_29 m_error_33 m_errorAt_33 m_errorPosition m_nested m_codeCount)), (a_m_fam, .inl (cJ, 130, .inr (.inl m_fam)))] H := hP
        have hD : va_D A [((ad 24), .inl (cI, 800, .inl m_buffer)), (ad 0, .inr (10, oM ad m_undoCount m_thrown m_hasSnapshot a_m_fam m_rows m_lineLength m_formattedLength m_bufferLength m_limit m_next_29 m_beginsAt_29 m_token_29 m_error_33 m_errorAt_33 m_errorPosition m_nested m_codeCount)), (a_m_fam, .inl (cJ, 130, .inr (.inl m_fam)))] := hD
        refine lv_iconst (v := -1) hx hb dX10_readUnion_56 (by decide) ?_
        refine lv_icmp_ne (tgt := 64) hx hb dX10_readUnion_57 (by decide) (fun h9 => ?_) (fun h9 => ?_)
        · have hf := itf h9 hf
          refine lv_iconst (v := 0) hx hb dX10_readUnion_64 (by decide) ?_
          refine lv_iconst (v := 5) hx hb dX10_readUnion_65 (by decide) ?_
          obtain ⟨m_error_66, m_errorAt_66, h9⟩ : ∃ m_error_66 m_errorAt_66, p10_check m_beginsAt_29 m_error_33 m_errorAt_33 false (5 : Int32) = (m_error_66, m_errorAt_66) := ⟨_, _, rfl⟩
          have hf := uc2_e (lb_e h9.symm hf)
          refine gcV (index := 415) S hE (c_X10_check ad a_m_fam m_undoCount m_thrown m_hasSnapshot m_rows m_lineLength m_formattedLength m_bufferLength m_limit m_next_29 m_beginsAt_29 m_token_29 m_error_33 m_errorAt_33 m_errorPosition m_nested m_codeCount false (5 : Int32) m_error_66 m_errorAt_66 h9) mX10_check tw1968 ⟨Nat.le_of_ble_eq_true rfl, Nat.le_of_ble_eq_true rfl⟩ hP hD hS hA ⟨Nat.zero_le _, Nat.zero_le _⟩ 1 10 rfl rfl rfl (wr := [((ad 24), .inl (cI, 800, .inl m_buffer)), (a_m_fam, .inl (cJ, 130, .inr (.inl m_fam)))]) [1] [0, 2] rfl rfl rfl rfl (by decide) (As := [.int (bI false), .int (5 : Int32)]) (rest := []) rfl hl.1 rfl (Nat.le_of_ble_eq_true rfl) dX10_readUnion_66 (fun H locs hP hD hS => ?_)
          refine W.eq (g2 := F0 m 69 ls []) rfl ?_
          have hP : va_P (dC, dI) vwCl [((ad 24), .inl (cI, 800, .inl m_buffer)), (a_m_fam, .inl (cJ, 130, .inr (.inl m_fam))), (ad 0, .inr (10, oM ad m_undoCount m_thrown m_hasSnapshot a_m_fam m_rows m_lineLength m_formattedLength m_bufferLength m_limit m_next_29 m_beginsAt_29 m_token_29 m_error_66 m_errorAt_66 m_errorPosition m_nested m_codeCount))] H := hP
          have hD : va_D A [((ad 24), .inl (cI, 800, .inl m_buffer)), (a_m_fam, .inl (cJ, 130, .inr (.inl m_fam))), (ad 0, .inr (10, oM ad m_undoCount m_thrown m_hasSnapshot a_m_fam m_rows m_lineLength m_formattedLength m_bufferLength m_limit m_next_29 m_beginsAt_29 m_token_29 m_error_66 m_errorAt_66 m_errorPosition m_nested m_codeCount))] := hD
          exact J69 r24 r33 m_next_29 m_beginsAt_29 m_token_29 m_error_66 m_errorAt_66 H locs ls hf (hP.sub [2, 0, 1] rfl) (hD.sub [2, 0, 1] (by decide) rfl) hS (lv_sub hl [2, 1, 0] rfl)
        · have hf := itt h9 hf
          refine lv_iconst (v := 1) hx hb dX10_readUnion_60 (by decide) ?_
          refine lv_goto (tgt := 65) hx hb dX10_readUnion_61 (by decide) ?_
          refine lv_iconst (v := 5) hx hb dX10_readUnion_65 (by decide) ?_
          obtain ⟨m_error_66, m_errorAt_66, h9⟩ : ∃ m_error_66 m_errorAt_66, p10_check m_beginsAt_29 m_error_33 m_errorAt_33 true (5 : Int32) = (m_error_66, m_errorAt_66) := ⟨_, _, rfl⟩
          have hf := uc2_e (lb_e h9.symm hf)
          refine gcV (index := 415) S hE (c_X10_check ad a_m_fam m_undoCount m_thrown m_hasSnapshot m_rows m_lineLength m_formattedLength m_bufferLength m_limit m_next_29 m_beginsAt_29 m_token_29 m_error_33 m_errorAt_33 m_errorPosition m_nested m_codeCount true (5 : Int32) m_error_66 m_errorAt_66 h9) mX10_check tw1968 ⟨Nat.le_of_ble_eq_true rfl, Nat.le_of_ble_eq_true rfl⟩ hP hD hS hA ⟨Nat.zero_le _, Nat.zero_le _⟩ 1 10 rfl rfl rfl (wr := [((ad 24), .inl (cI, 800, .inl m_buffer)), (a_m_fam, .inl (cJ, 130, .inr (.inl m_fam)))]) [1] [0, 2] rfl rfl rfl rfl (by decide) (As := [.int (bI true), .int (5 : Int32)]) (rest := []) rfl hl.1 rfl (Nat.le_of_ble_eq_true rfl) dX10_readUnion_66 (fun H locs hP hD hS => ?_)
          refine W.eq (g2 := F0 m 69 ls []) rfl ?_
          have hP : va_P (dC, dI) vwCl [((ad 24), .inl (cI, 800, .inl m_buffer)), (a_m_fam, .inl (cJ, 130, .inr (.inl m_fam))), (ad 0, .inr (10, oM ad m_undoCount m_thrown m_hasSnapshot a_m_fam m_rows m_lineLength m_formattedLength m_bufferLength m_limit m_next_29 m_beginsAt_29 m_token_29 m_error_66 m_errorAt_66 m_errorPosition m_nested m_codeCount))] H := hP
          have hD : va_D A [((ad 24), .inl (cI, 800, .inl m_buffer)), (a_m_fam, .inl (cJ, 130, .inr (.inl m_fam))), (ad 0, .inr (10, oM ad m_undoCount m_thrown m_hasSnapshot a_m_fam m_rows m_lineLength m_formattedLength m_bufferLength m_limit m_next_29 m_beginsAt_29 m_token_29 m_error_66 m_errorAt_66 m_errorPosition m_nested m_codeCount))] := hD
          exact J69 r24 r33 m_next_29 m_beginsAt_29 m_token_29 m_error_66 m_errorAt_66 H locs ls hf (hP.sub [2, 0, 1] rfl) (hD.sub [2, 0, 1] (by decide) rfl) hS (lv_sub hl [2, 1, 0] rfl)
  refine lv_aload_n hx hb dX10_readUnion_0 rfl (lv_at hl 0 rfl) ?_
  refine lv_aload_n hx hb dX10_readUnion_1 rfl (lv_at hl 0 rfl) ?_
  obtain ⟨r2, h9, hf⟩ := ob_s hf
  refine gcV (index := 110) S hE (c_X10_unions ad a_m_fam m_undoCount m_thrown m_hasSnapshot m_rows m_lineLength m_formattedLength m_bufferLength m_limit m_next m_beginsAt m_token m_error m_errorAt m_errorPosition m_nested m_codeCount m_fam r2 h9) mX10_unions tw1532 ⟨Nat.le_of_ble_eq_true rfl, Nat.le_of_ble_eq_true rfl⟩ hP hD hS hA ⟨Nat.zero_le _, Nat.zero_le _⟩ 0 10 rfl rfl rfl (wr := [((ad 24), .inl (cI, 800, .inl m_buffer))]) [0, 2] [1] rfl rfl rfl rfl (by decide) (As := []) (rest := [.ref (ad 0)]) rfl hl.1 rfl (Nat.le_of_ble_eq_true rfl) dX10_readUnion_2 (fun H locs hP hD hS => ?_)
  refine W.eq (g2 := F0 m 5 ls [.int r2, .ref (ad 0)]) rfl ?_
  have hP : va_P (dC, dI) vwCl [((ad 24), .inl (cI, 800, .inl m_buffer)), (ad 0, .inr (10, oM ad m_undoCount m_thrown m_hasSnapshot a_m_fam m_rows m_lineLength m_formattedLength m_bufferLength m_limit m_next m_beginsAt m_token m_error m_errorAt m_errorPosition m_nested m_codeCount)), (a_m_fam, .inl (cJ, 130, .inr (.inl m_fam)))] H := hP
  have hD : va_D A [((ad 24), .inl (cI, 800, .inl m_buffer)), (ad 0, .inr (10, oM ad m_undoCount m_thrown m_hasSnapshot a_m_fam m_rows m_lineLength m_formattedLength m_bufferLength m_limit m_next m_beginsAt m_token m_error m_errorAt m_errorPosition m_nested m_codeCount)), (a_m_fam, .inl (cJ, 130, .inr (.inl m_fam)))] := hD
  refine lv_bipush (v := 12) hx hb dX10_readUnion_5 (by decide) ?_
  refine lv_icmp_ge (tgt := 14) hx hb dX10_readUnion_7 (by decide) (fun h9 => ?_) (fun h9 => ?_)
  · have hf := itt h9 hf
    refine lv_iconst (v := 0) hx hb dX10_readUnion_14 (by decide) ?_
    refine lv_iconst (v := 3) hx hb dX10_readUnion_15 (by decide) ?_
    obtain ⟨m_error_16, m_errorAt_16, h9⟩ : ∃ m_error_16 m_errorAt_16, p10_check m_beginsAt m_error m_errorAt false (3 : Int32) = (m_error_16, m_errorAt_16) := ⟨_, _, rfl⟩
    have hf := uc2_e (lb_e h9.symm hf)
    refine gcV (index := 415) S hE (c_X10_check ad a_m_fam m_undoCount m_thrown m_hasSnapshot m_rows m_lineLength m_formattedLength m_bufferLength m_limit m_next m_beginsAt m_token m_error m_errorAt m_errorPosition m_nested m_codeCount false (3 : Int32) m_error_16 m_errorAt_16 h9) mX10_check tw1968 ⟨Nat.le_of_ble_eq_true rfl, Nat.le_of_ble_eq_true rfl⟩ hP hD hS hA ⟨Nat.zero_le _, Nat.zero_le _⟩ 1 10 rfl rfl rfl (wr := [((ad 24), .inl (cI, 800, .inl m_buffer)), (a_m_fam, .inl (cJ, 130, .inr (.inl m_fam)))]) [1] [0, 2] rfl rfl rfl rfl (by decide) (As := [.int (bI false), .int (3 : Int32)]) (rest := []) rfl hl.1 rfl (Nat.le_of_ble_eq_true rfl) dX10_readUnion_16 (fun H locs hP hD hS => ?_)
    refine W.eq (g2 := F0 m 19 ls []) rfl ?_
    have hP : va_P (dC, dI) vwCl [((ad 24), .inl (cI, 800, .inl m_buffer)), (a_m_fam, .inl (cJ, 130, .inr (.inl m_fam))), (ad 0, .inr (10, oM ad m_undoCount m_thrown m_hasSnapshot a_m_fam m_rows m_lineLength m_formattedLength m_bufferLength m_limit m_next m_beginsAt m_token m_error_16 m_errorAt_16 m_errorPosition m_nested m_codeCount))] H := hP
    have hD : va_D A [((ad 24), .inl (cI, 800, .inl m_buffer)), (a_m_fam, .inl (cJ, 130, .inr (.inl m_fam))), (ad 0, .inr (10, oM ad m_undoCount m_thrown m_hasSnapshot a_m_fam m_rows m_lineLength m_formattedLength m_bufferLength m_limit m_next m_beginsAt m_token m_error_16 m_errorAt_16 m_errorPosition m_nested m_codeCount))] := hD
    exact J19 m_error_16 m_errorAt_16 H locs ls hf (hP.sub [2, 0, 1] rfl) (hD.sub [2, 0, 1] (by decide) rfl) hS (lv_sub hl [0] rfl)
  · have hf := itf h9 hf
    refine lv_iconst (v := 1) hx hb dX10_readUnion_10 (by decide) ?_
    refine lv_goto (tgt := 15) hx hb dX10_readUnion_11 (by decide) ?_
    refine lv_iconst (v := 3) hx hb dX10_readUnion_15 (by decide) ?_
    obtain ⟨m_error_16, m_errorAt_16, h9⟩ : ∃ m_error_16 m_errorAt_16, p10_check m_beginsAt m_error m_errorAt true (3 : Int32) = (m_error_16, m_errorAt_16) := ⟨_, _, rfl⟩
    have hf := uc2_e (lb_e h9.symm hf)
    refine gcV (index := 415) S hE (c_X10_check ad a_m_fam m_undoCount m_thrown m_hasSnapshot m_rows m_lineLength m_formattedLength m_bufferLength m_limit m_next m_beginsAt m_token m_error m_errorAt m_errorPosition m_nested m_codeCount true (3 : Int32) m_error_16 m_errorAt_16 h9) mX10_check tw1968 ⟨Nat.le_of_ble_eq_true rfl, Nat.le_of_ble_eq_true rfl⟩ hP hD hS hA ⟨Nat.zero_le _, Nat.zero_le _⟩ 1 10 rfl rfl rfl (wr := [((ad 24), .inl (cI, 800, .inl m_buffer)), (a_m_fam, .inl (cJ, 130, .inr (.inl m_fam)))]) [1] [0, 2] rfl rfl rfl rfl (by decide) (As := [.int (bI true), .int (3 : Int32)]) (rest := []) rfl hl.1 rfl (Nat.le_of_ble_eq_true rfl) dX10_readUnion_16 (fun H locs hP hD hS => ?_)
    refine W.eq (g2 := F0 m 19 ls []) rfl ?_
    have hP : va_P (dC, dI) vwCl [((ad 24), .inl (cI, 800, .inl m_buffer)), (a_m_fam, .inl (cJ, 130, .inr (.inl m_fam))), (ad 0, .inr (10, oM ad m_undoCount m_thrown m_hasSnapshot a_m_fam m_rows m_lineLength m_formattedLength m_bufferLength m_limit m_next m_beginsAt m_token m_error_16 m_errorAt_16 m_errorPosition m_nested m_codeCount))] H := hP
    have hD : va_D A [((ad 24), .inl (cI, 800, .inl m_buffer)), (a_m_fam, .inl (cJ, 130, .inr (.inl m_fam))), (ad 0, .inr (10, oM ad m_undoCount m_thrown m_hasSnapshot a_m_fam m_rows m_lineLength m_formattedLength m_bufferLength m_limit m_next m_beginsAt m_token m_error_16 m_errorAt_16 m_errorPosition m_nested m_codeCount))] := hD
    exact J19 m_error_16 m_errorAt_16 H locs ls hf (hP.sub [2, 0, 1] rfl) (hD.sub [2, 0, 1] (by decide) rfl) hS (lv_sub hl [0] rfl)
def p10_emit (m_error : Int32) (m_codeCount : Int32) (m_codes : Nat → Int32) (v1 : Int32) : Option (Int32 × (Nat → Int32)) := (if m_error = (0 : Int32) then gd m_codeCount 200 (lb (upd m_codes m_codeCount.toNatClampNeg v1) (fun g16 => lb (m_codeCount + (1 : Int32)) (fun t24 => some (t24, g16)))) else some (m_codeCount, m_codes))
set_option maxHeartbeats 4000000 in
set_option maxRecDepth 100000 in
theorem c_X10_emit (ad : Nat → Nat) (a_m_fam : Nat) (m_undoCount : Int32) (m_thrown : Int32) (m_hasSnapshot : Bool) (m_rows : Int32) (m_lineLength : Int32) (m_formattedLength : Int32) (m_bufferLength : Int32) (m_limit : Int32) (m_next : Int32) (m_beginsAt : Int32) (m_token : Int32) (m_error : Int32) (m_errorAt : Int32) (m_errorPosition : Int32) (m_nested : Int32) (m_codeCount : Int32) (m_codes : Nat → Int32) (v1 : Int32) (m_codeCount_9 : Int32) (m_codes_9 : Nat → Int32) (hf : p10_emit m_error m_codeCount m_codes v1 = some (m_codeCount_9, m_codes_9)) : gM l dC dI cI cJ cZ yX10_emit cX10_emit 2 none 0 0 [.ref (ad 0), .int v1] [(ad 0, .inr (10, oM ad m_undoCount m_thrown m_hasSnapshot a_m_fam m_rows m_lineLength m_formattedLength m_bufferLength m_limit m_next m_beginsAt m_token m_error m_errorAt m_errorPosition m_nested m_codeCount)), ((ad 35), .inl (cI, 200, .inl m_codes))] [(ad 0, .inr (10, oM ad m_undoCount m_thrown m_hasSnapshot a_m_fam m_rows m_lineLength m_formattedLength m_bufferLength m_limit m_next m_beginsAt m_token m_error m_errorAt m_errorPosition m_nested m_codeCount_9)), ((ad 35), .inl (cI, 200, .inl m_codes_9))] none := by
  refine g_start (own := RX10) (by decide +kernel) rfl (Nat.le_of_ble_eq_true rfl) ?_
  intro p e s m below meth c A ls S hr hlocks hE hP hD hS hA hl hin
  have hx := S.1
  have hb := S.2.1
  have hml := S.2.2.1
  have hown := S.2.2.2.1
  have htg : ∀ w ∈ gw, w.before ([.ref (ad 0), .int v1] : List Value).toArray s = true := fun w h => S.2.2.2.2 w (List.mem_cons_of_mem _ h)
  have hl : lv_has ls 2 [(0, .ref (ad 0)), (1, .int v1)] := hl
  have hS0 := hS
  obtain ⟨H, hH⟩ : ∃ H, H = s.heap := ⟨_, rfl⟩
  obtain ⟨locs, hlc⟩ : ∃ locs : List Loc, locs = [] := ⟨_, rfl⟩
  have hS : va_S A s.heap H locs := by rw [hH, hlc]; exact hS0
  have hP : va_P (dC, dI) vwCl [(ad 0, .inr (10, oM ad m_undoCount m_thrown m_hasSnapshot a_m_fam m_rows m_lineLength m_formattedLength m_bufferLength m_limit m_next m_beginsAt m_token m_error m_errorAt m_errorPosition m_nested m_codeCount)), ((ad 35), .inl (cI, 200, .inl m_codes))] H := by rw [hH]; exact hP
  suffices hgo : W p l e ({ frames := 0, cells := 0, slots := 0, locals := 0 }) s m ([.ref (ad 0), .int v1] : List Value).toArray below meth c H locs 0 0 (MQ below (gQ dC dI none A [(ad 0, .inr (10, oM ad m_undoCount m_thrown m_hasSnapshot a_m_fam m_rows m_lineLength m_formattedLength m_bufferLength m_limit m_next m_beginsAt m_token m_error m_errorAt m_errorPosition m_nested m_codeCount_9)), ((ad 35), .inl (cI, 200, .inl m_codes_9))]) ([.ref (ad 0), .int v1] : List Value).toArray s 0 0 A) (F0 m 0 ls []) by rw [hH, hlc] at hgo; exact hgo
  rw [p10_emit] at hf
  refine lv_aload_n hx hb dX10_emit_0 rfl (lv_at hl 0 rfl) ?_
  refine va_get (D := (dC, dI)) (ci := 10) (v := .int m_error) (C := RX10) (T := TX10) (N := 37) hx hb htg inX10 hown hE.1 hP 0 rfl rfl 29 (by decide) (htg _ tw1411) (fun _ h9 => h9) rfl dX10_emit_1 ?_
  refine lv_if_ne (tgt := 27) hx hb dX10_emit_4 (by decide) (fun h9 => ?_) (fun h9 => ?_)
  · have hf := itf h9 hf
    cases hf
    exact g_vret S hr hlocks hP hD hS dX10_emit_27
  · have hf := itt h9 hf
    refine lv_aload_n hx hb dX10_emit_7 rfl (lv_at hl 0 rfl) ?_
    refine va_get (D := (dC, dI)) (ci := 10) (v := .ref (ad 35)) (C := RX10) (T := TX10) (N := 37) hx hb htg inX10 hown hE.1 hP 0 rfl rfl 34 (by decide) (htg _ tw1416) (fun _ h9 => h9) rfl dX10_emit_8 ?_
    refine lv_aload_n hx hb dX10_emit_11 rfl (lv_at hl 0 rfl) ?_
    refine va_get (D := (dC, dI)) (ci := 10) (v := .int m_codeCount) (C := RX10) (T := TX10) (N := 37) hx hb htg inX10 hown hE.1 hP 0 rfl rfl 36 (by decide) (htg _ tw1418) (fun _ h9 => h9) rfl dX10_emit_12 ?_
    refine lv_iload_n hx hb dX10_emit_15 rfl (lv_at hl 1 rfl) ?_
    obtain ⟨h9, hf⟩ := gd_s hf
    refine va_iast hx hb hE.1 hP hD hS 1 0 rfl rfl h9 dX10_emit_16 (fun H locs hP hD hS => ?_)
    obtain ⟨g16, h9⟩ : ∃ z, z = (upd m_codes m_codeCount.toNatClampNeg v1) := ⟨_, rfl⟩
    have hf := lb_e h9 hf
    have hP : va_P (dC, dI) vwCl [(ad 0, .inr (10, oM ad m_undoCount m_thrown m_hasSnapshot a_m_fam m_rows m_lineLength m_formattedLength m_bufferLength m_limit m_next m_beginsAt m_token m_error m_errorAt m_errorPosition m_nested m_codeCount)), ((ad 35), .inl (cI, 200, .inl g16))] H := by rw [h9]; exact hP
    have hD : va_D A [(ad 0, .inr (10, oM ad m_undoCount m_thrown m_hasSnapshot a_m_fam m_rows m_lineLength m_formattedLength m_bufferLength m_limit m_next m_beginsAt m_token m_error m_errorAt m_errorPosition m_nested m_codeCount)), ((ad 35), .inl (cI, 200, .inl g16))] := by rw [h9]; exact hD
    refine lv_aload_n hx hb dX10_emit_17 rfl (lv_at hl 0 rfl) ?_
    refine lv_dup hx hb dX10_emit_18 rfl ?_
    refine va_get (D := (dC, dI)) (ci := 10) (v := .int m_codeCount) (C := RX10) (T := TX10) (N := 37) hx hb htg inX10 hown hE.1 hP 0 rfl rfl 36 (by decide) (htg _ tw1418) (fun _ h9 => h9) rfl dX10_emit_19 ?_
    refine lv_iconst (v := 1) hx hb dX10_emit_22 (by decide) ?_
    refine lv_iadd hx hb dX10_emit_23 ?_
    refine lv_topi (fun t24 h9 => ?_)
    have hf := lb_e h9 hf
    refine va_put (D := (dC, dI)) (ci := 10) (v := .int t24) (ty := .int) (C := RX10) (T := TX10) (N := 37) hx hb htg inX10 tyX10 tyX10_ok nmX10 hown hE.1 hP hD hS 0 rfl rfl 36 (by decide) (htg _ tw1418) (fun _ h9 => h9) rfl (by decide +kernel) rfl rfl (Nat.le_of_ble_eq_true rfl) dX10_emit_24 (fun H locs hP hD hS => ?_)
    have hP : va_P (dC, dI) vwCl [(ad 0, .inr (10, oM ad m_undoCount m_thrown m_hasSnapshot a_m_fam m_rows m_lineLength m_formattedLength m_bufferLength m_limit m_next m_beginsAt m_token m_error m_errorAt m_errorPosition m_nested t24)), ((ad 35), .inl (cI, 200, .inl g16))] H := hP
    have hD : va_D A [(ad 0, .inr (10, oM ad m_undoCount m_thrown m_hasSnapshot a_m_fam m_rows m_lineLength m_formattedLength m_bufferLength m_limit m_next m_beginsAt m_token m_error m_errorAt m_errorPosition m_nested t24)), ((ad 35), .inl (cI, 200, .inl g16))] := hD
    cases hf
    exact g_vret S hr hlocks hP hD hS dX10_emit_27
def p10_enter_J19 (m_beginsAt : Int32) (m_buffer : Nat → Int32) (m_limit : Int32) (m_nested : Int32) (m_next : Int32) (m_token : Int32) (m_error_19 : Int32) (m_errorAt_19 : Int32) : Option (Int32 × Int32 × Int32 × Int32 × Int32 × Int32) := lb (m_nested + (1 : Int32)) (fun t26 => ob (p10_advance m_limit m_next m_beginsAt m_token m_error_19 m_buffer) (uc3 fun m_beginsAt_30 m_next_30 m_token_30 => some (m_beginsAt_30, m_error_19, m_errorAt_19, t26, m_next_30, m_token_30)))
def p10_enter (m_limit : Int32) (m_next : Int32) (m_beginsAt : Int32) (m_token : Int32) (m_error : Int32) (m_errorAt : Int32) (m_nested : Int32) (m_buffer : Nat → Int32) : Option (Int32 × Int32 × Int32 × Int32 × Int32 × Int32) := (if (6 : Int32) ≤ m_nested then lb (p10_check m_beginsAt m_error m_errorAt false (3 : Int32)) (uc2 fun m_error_16 m_errorAt_16 => (p10_enter_J19 m_beginsAt m_buffer m_limit m_nested m_next m_token m_error_16 m_errorAt_16)) else lb (p10_check m_beginsAt m_error m_errorAt true (3 : Int32)) (uc2 fun m_error_16 m_errorAt_16 => (p10_enter_J19 m_beginsAt m_buffer m_limit m_nested m_next m_token m_error_16 m_errorAt_16)))
set_option maxHeartbeats 4000000 in
set_option maxRecDepth 100000 in
theorem c_X10_enter (ad : Nat → Nat) (a_m_fam : Nat) (m_undoCount : Int32) (m_thrown : Int32) (m_hasSnapshot : Bool) (m_rows : Int32) (m_lineLength : Int32) (m_formattedLength : Int32) (m_bufferLength : Int32) (m_limit : Int32) (m_next : Int32) (m_beginsAt : Int32) (m_token : Int32) (m_error : Int32) (m_errorAt : Int32) (m_errorPosition : Int32) (m_nested : Int32) (m_codeCount : Int32) (m_buffer : Nat → Int32) (m_beginsAt_9 : Int32) (m_error_9 : Int32) (m_errorAt_9 : Int32) (m_nested_9 : Int32) (m_next_9 : Int32) (m_token_9 : Int32) (hf : p10_enter m_limit m_next m_beginsAt m_token m_error m_errorAt m_nested m_buffer = some (m_beginsAt_9, m_error_9, m_errorAt_9, m_nested_9, m_next_9, m_token_9)) : gM l dC dI cI cJ cZ yX10_enter cX10_enter 1 none 4 82 [.ref (ad 0)] [(ad 0, .inr (10, oM ad m_undoCount m_thrown m_hasSnapshot a_m_fam m_rows m_lineLength m_formattedLength m_bufferLength m_limit m_next m_beginsAt m_token m_error m_errorAt m_errorPosition m_nested m_codeCount)), ((ad 24), .inl (cI, 800, .inl m_buffer))] [(ad 0, .inr (10, oM ad m_undoCount m_thrown m_hasSnapshot a_m_fam m_rows m_lineLength m_formattedLength m_bufferLength m_limit m_next_9 m_beginsAt_9 m_token_9 m_error_9 m_errorAt_9 m_errorPosition m_nested_9 m_codeCount)), ((ad 24), .inl (cI, 800, .inl m_buffer))] none := by
  refine g_start (own := RX10) (by decide +kernel) rfl (Nat.le_of_ble_eq_true rfl) ?_
  intro p e s m below meth c A ls S hr hlocks hE hP hD hS hA hl hin
  have hx := S.1
  have hb := S.2.1
  have hml := S.2.2.1
  have hown := S.2.2.2.1
  have htg : ∀ w ∈ gw, w.before ([.ref (ad 0)] : List Value).toArray s = true := fun w h => S.2.2.2.2 w (List.mem_cons_of_mem _ h)
  have hl : lv_has ls 1 [(0, .ref (ad 0))] := hl
  have hS0 := hS
  obtain ⟨H, hH⟩ : ∃ H, H = s.heap := ⟨_, rfl⟩
  obtain ⟨locs, hlc⟩ : ∃ locs : List Loc, locs = [] := ⟨_, rfl⟩
  have hS : va_S A s.heap H locs := by rw [hH, hlc]; exact hS0
  have hP : va_P (dC, dI) vwCl [(ad 0, .inr (10, oM ad m_undoCount m_thrown m_hasSnapshot a_m_fam m_rows m_lineLength m_formattedLength m_bufferLength m_limit m_next m_beginsAt m_token m_error m_errorAt m_errorPosition m_nested m_codeCount)), ((ad 24), .inl (cI, 800, .inl m_buffer))] H := by rw [hH]; exact hP
  suffices hgo : W p l e ({ frames := 4, cells := 0, slots := 0, locals := 82 }) s m ([.ref (ad 0)] : List Value).toArray below meth c H locs 0 0 (MQ below (gQ dC dI none A [(ad 0, .inr (10, oM ad m_undoCount m_thrown m_hasSnapshot a_m_fam m_rows m_lineLength m_formattedLength m_bufferLength m_limit m_next_9 m_beginsAt_9 m_token_9 m_error_9 m_errorAt_9 m_errorPosition m_nested_9 m_codeCount)), ((ad 24), .inl (cI, 800, .inl m_buffer))]) ([.ref (ad 0)] : List Value).toArray s 0 0 A) (F0 m 0 ls []) by rw [hH, hlc] at hgo; exact hgo
  rw [p10_enter] at hf
  have J19 : ∀ (m_error_19 : Int32) (m_errorAt_19 : Int32) (H : Heap) (locs : List Loc) (ls : Array Slot), p10_enter_J19 m_beginsAt m_buffer m_limit m_nested m_next m_token m_error_19 m_errorAt_19 = some (m_beginsAt_9, m_error_9, m_errorAt_9, m_nested_9, m_next_9, m_token_9) → va_P (dC, dI) vwCl [(ad 0, .inr (10, oM ad m_undoCount m_thrown m_hasSnapshot a_m_fam m_rows m_lineLength m_formattedLength m_bufferLength m_limit m_next m_beginsAt m_token m_error_19 m_errorAt_19 m_errorPosition m_nested m_codeCount)), ((ad 24), .inl (cI, 800, .inl m_buffer))] H → va_D A [(ad 0, .inr (10, oM ad m_undoCount m_thrown m_hasSnapshot a_m_fam m_rows m_lineLength m_formattedLength m_bufferLength m_limit m_next m_beginsAt m_token m_error_19 m_errorAt_19 m_errorPosition m_nested m_codeCount)), ((ad 24), .inl (cI, 800, .inl m_buffer))] → va_S A s.heap H locs → lv_has ls 1 [(0, .ref (ad 0))] → W p l e ({ frames := 4, cells := 0, slots := 0, locals := 82 }) s m ([.ref (ad 0)] : List Value).toArray below meth c H locs 0 0 (MQ below (gQ dC dI none A [(ad 0, .inr (10, oM ad m_undoCount m_thrown m_hasSnapshot a_m_fam m_rows m_lineLength m_formattedLength m_bufferLength m_limit m_next_9 m_beginsAt_9 m_token_9 m_error_9 m_errorAt_9 m_errorPosition m_nested_9 m_codeCount)), ((ad 24), .inl (cI, 800, .inl m_buffer))]) ([.ref (ad 0)] : List Value).toArray s 0 0 A) (F0 m 19 ls []) := by
    intro m_error_19 m_errorAt_19 H locs ls hf hP hD hS hl
    rw [p10_enter_J19] at hf
    refine lv_aload_n hx hb dX10_enter_19 rfl (lv_at hl 0 rfl) ?_
    refine lv_dup hx hb dX10_enter_20 rfl ?_
    refine va_get (D := (dC, dI)) (ci := 10) (v := .int m_nested) (C := RX10) (T := TX10) (N := 37) hx hb htg inX10 hown hE.1 hP 0 rfl rfl 32 (by decide) (htg _ tw1414) (fun _ h9 => h9) rfl dX10_enter_21 ?_
    refine lv_iconst (v := 1) hx hb dX10_enter_24 (by decide) ?_
    refine lv_iadd hx hb dX10_enter_25 ?_
    refine lv_topi (fun t26 h9 => ?_)
    have hf := lb_e h9 hf
    refine va_put (D := (dC, dI)) (ci := 10) (v := .int t26) (ty := .int) (C := RX10) (T := TX10) (N := 37) hx hb htg inX10 tyX10 tyX10_ok nmX10 hown hE.1 hP hD hS 0 rfl rfl 32 (by decide) (htg _ tw1414) (fun _ h9 => h9) rfl (by decide +kernel) rfl rfl (Nat.le_of_ble_eq_true rfl) dX10_enter_26 (fun H locs hP hD hS => ?_)
    have hP : va_P (dC, dI) vwCl [(ad 0, .inr (10, oM ad m_undoCount m_thrown m_hasSnapshot a_m_fam m_rows m_lineLength m_formattedLength m_bufferLength m_limit m_next m_beginsAt m_token m_error_19 m_errorAt_19 m_errorPosition t26 m_codeCount)), ((ad 24), .inl (cI, 800, .inl m_buffer))] H := hP
    have hD : va_D A [(ad 0, .inr (10, oM ad m_undoCount m_thrown m_hasSnapshot a_m_fam m_rows m_lineLength m_formattedLength m_bufferLength m_limit m_next m_beginsAt m_token m_error_19 m_errorAt_19 m_errorPosition t26 m_codeCount)), ((ad 24), .inl (cI, 800, .inl m_buffer))] := hD
    refine lv_aload_n hx hb dX10_enter_29 rfl (lv_at hl 0 rfl) ?_
    obtain ⟨⟨m_beginsAt_30, m_next_30, m_token_30⟩, h9, hf⟩ := ob_s hf
    have hf := uc3_e hf
    refine gcV (index := 419) S hE (c_X10_advance ad a_m_fam m_undoCount m_thrown m_hasSnapshot m_rows m_lineLength m_formattedLength m_bufferLength m_limit m_next m_beginsAt m_token m_error_19 m_errorAt_19 m_errorPosition t26 m_codeCount m_buffer m_beginsAt_30 m_next_30 m_token_30 h9) mX10_advance tw1976 ⟨Nat.le_of_ble_eq_true rfl, Nat.le_of_ble_eq_true rfl⟩ hP hD hS hA ⟨Nat.zero_le _, Nat.zero_le _⟩ 0 10 rfl rfl rfl (wr := []) [0, 1] [] rfl rfl rfl rfl (by decide) (As := []) (rest := []) rfl hl.1 rfl (Nat.le_of_ble_eq_true rfl) dX10_enter_30 (fun H locs hP hD hS => ?_)
    refine W.eq (g2 := F0 m 33 ls []) rfl ?_
    have hP : va_P (dC, dI) vwCl [(ad 0, .inr (10, oM ad m_undoCount m_thrown m_hasSnapshot a_m_fam m_rows m_lineLength m_formattedLength m_bufferLength m_limit m_next_30 m_beginsAt_30 m_token_30 m_error_19 m_errorAt_19 m_errorPosition t26 m_codeCount)), ((ad 24), .inl (cI, 800, .inl m_buffer))] H := hP
    have hD : va_D A [(ad 0, .inr (10, oM ad m_undoCount m_thrown m_hasSnapshot a_m_fam m_rows m_lineLength m_formattedLength m_bufferLength m_limit m_next_30 m_beginsAt_30 m_token_30 m_error_19 m_errorAt_19 m_errorPosition t26 m_codeCount)), ((ad 24), .inl (cI, 800, .inl m_buffer))] := hD
    cases hf
    exact g_vret S hr hlocks hP hD hS dX10_enter_33
  refine lv_aload_n hx hb dX10_enter_0 rfl (lv_at hl 0 rfl) ?_
  refine lv_aload_n hx hb dX10_enter_1 rfl (lv_at hl 0 rfl) ?_
  refine va_get (D := (dC, dI)) (ci := 10) (v := .int m_nested) (C := RX10) (T := TX10) (N := 37) hx hb htg inX10 hown hE.1 hP 0 rfl rfl 32 (by decide) (htg _ tw1414) (fun _ h9 => h9) rfl dX10_enter_2 ?_
  refine lv_bipush (v := 6) hx hb dX10_enter_5 (by decide) ?_
  refine lv_icmp_ge (tgt := 14) hx hb dX10_enter_7 (by decide) (fun h9 => ?_) (fun h9 => ?_)
  · have hf := itt h9 hf
    refine lv_iconst (v := 0) hx hb dX10_enter_14 (by decide) ?_
    refine lv_iconst (v := 3) hx hb dX10_enter_15 (by decide) ?_
    obtain ⟨m_error_16, m_errorAt_16, h9⟩ : ∃ m_error_16 m_errorAt_16, p10_check m_beginsAt m_error m_errorAt false (3 : Int32) = (m_error_16, m_errorAt_16) := ⟨_, _, rfl⟩
    have hf := uc2_e (lb_e h9.symm hf)
    refine gcV (index := 415) S hE (c_X10_check ad a_m_fam m_undoCount m_thrown m_hasSnapshot m_rows m_lineLength m_formattedLength m_bufferLength m_limit m_next m_beginsAt m_token m_error m_errorAt m_errorPosition m_nested m_codeCount false (3 : Int32) m_error_16 m_errorAt_16 h9) mX10_check tw1968 ⟨Nat.le_of_ble_eq_true rfl, Nat.le_of_ble_eq_true rfl⟩ hP hD hS hA ⟨Nat.zero_le _, Nat.zero_le _⟩ 0 10 rfl rfl rfl (wr := [((ad 24), .inl (cI, 800, .inl m_buffer))]) [0] [1] rfl rfl rfl rfl (by decide) (As := [.int (bI false), .int (3 : Int32)]) (rest := []) rfl hl.1 rfl (Nat.le_of_ble_eq_true rfl) dX10_enter_16 (fun H locs hP hD hS => ?_)
    refine W.eq (g2 := F0 m 19 ls []) rfl ?_
    have hP : va_P (dC, dI) vwCl [((ad 24), .inl (cI, 800, .inl m_buffer)), (ad 0, .inr (10, oM ad m_undoCount m_thrown m_hasSnapshot a_m_fam m_rows m_lineLength m_formattedLength m_bufferLength m_limit m_next m_beginsAt m_token m_error_16 m_errorAt_16 m_errorPosition m_nested m_codeCount))] H := hP
    have hD : va_D A [((ad 24), .inl (cI, 800, .inl m_buffer)), (ad 0, .inr (10, oM ad m_undoCount m_thrown m_hasSnapshot a_m_fam m_rows m_lineLength m_formattedLength m_bufferLength m_limit m_next m_beginsAt m_token m_error_16 m_errorAt_16 m_errorPosition m_nested m_codeCount))] := hD
    exact J19 m_error_16 m_errorAt_16 H locs ls hf (hP.sub [1, 0] rfl) (hD.sub [1, 0] (by decide) rfl) hS (lv_sub hl [0] rfl)
  · have hf := itf h9 hf
    refine lv_iconst (v := 1) hx hb dX10_enter_10 (by decide) ?_
    refine lv_goto (tgt := 15) hx hb dX10_enter_11 (by decide) ?_
    refine lv_iconst (v := 3) hx hb dX10_enter_15 (by decide) ?_
    obtain ⟨m_error_16, m_errorAt_16, h9⟩ : ∃ m_error_16 m_errorAt_16, p10_check m_beginsAt m_error m_errorAt true (3 : Int32) = (m_error_16, m_errorAt_16) := ⟨_, _, rfl⟩
    have hf := uc2_e (lb_e h9.symm hf)
    refine gcV (index := 415) S hE (c_X10_check ad a_m_fam m_undoCount m_thrown m_hasSnapshot m_rows m_lineLength m_formattedLength m_bufferLength m_limit m_next m_beginsAt m_token m_error m_errorAt m_errorPosition m_nested m_codeCount true (3 : Int32) m_error_16 m_errorAt_16 h9) mX10_check tw1968 ⟨Nat.le_of_ble_eq_true rfl, Nat.le_of_ble_eq_true rfl⟩ hP hD hS hA ⟨Nat.zero_le _, Nat.zero_le _⟩ 0 10 rfl rfl rfl (wr := [((ad 24), .inl (cI, 800, .inl m_buffer))]) [0] [1] rfl rfl rfl rfl (by decide) (As := [.int (bI true), .int (3 : Int32)]) (rest := []) rfl hl.1 rfl (Nat.le_of_ble_eq_true rfl) dX10_enter_16 (fun H locs hP hD hS => ?_)
    refine W.eq (g2 := F0 m 19 ls []) rfl ?_
    have hP : va_P (dC, dI) vwCl [((ad 24), .inl (cI, 800, .inl m_buffer)), (ad 0, .inr (10, oM ad m_undoCount m_thrown m_hasSnapshot a_m_fam m_rows m_lineLength m_formattedLength m_bufferLength m_limit m_next m_beginsAt m_token m_error_16 m_errorAt_16 m_errorPosition m_nested m_codeCount))] H := hP
    have hD : va_D A [((ad 24), .inl (cI, 800, .inl m_buffer)), (ad 0, .inr (10, oM ad m_undoCount m_thrown m_hasSnapshot a_m_fam m_rows m_lineLength m_formattedLength m_bufferLength m_limit m_next m_beginsAt m_token m_error_16 m_errorAt_16 m_errorPosition m_nested m_codeCount))] := hD
    exact J19 m_error_16 m_errorAt_16 H locs ls hf (hP.sub [1, 0] rfl) (hD.sub [1, 0] (by decide) rfl) hS (lv_sub hl [0] rfl)
def p10_operate (v0 : Int32) (v1 : Int64) (v3 : Int64) : Int64 := (if v0 = (-24 : Int32) then (v1 &&& v3) else (if v0 = (-23 : Int32) then (v1 ||| v3) else (if v0 = (-22 : Int32) then (if v1 ≤ v3 then (0 : Int64) else (1 : Int64)) else (if v0 = (-21 : Int32) then (if v1 = v3 then (1 : Int64) else (0 : Int64)) else (if v0 = (-20 : Int32) then (if v3 ≤ v1 then (0 : Int64) else (1 : Int64)) else (v1 ||| v3))))))
set_option maxHeartbeats 4000000 in
set_option maxRecDepth 100000 in
theorem c_X10_operate (v0 : Int32) (v1 : Int64) (v3 : Int64) (r9 : Int64) (hf : p10_operate v0 v1 v3 = r9) : gM l dC dI cI cJ cZ yX10_operate cX10_operate 5 (some .long) 0 0 [.int v0, .long v1, .long v3] [] [] (some (.long r9)) := by
  refine g_start (own := RX10) (by decide +kernel) rfl (Nat.le_of_ble_eq_true rfl) ?_
  intro p e s m below meth c A ls S hr hlocks hE hP hD hS hA hl hin
  have hx := S.1
  have hb := S.2.1
  have hml := S.2.2.1
  have hown := S.2.2.2.1
  have htg : ∀ w ∈ gw, w.before ([.int v0, .long v1, .long v3] : List Value).toArray s = true := fun w h => S.2.2.2.2 w (List.mem_cons_of_mem _ h)
  have hl : lv_has ls 5 [(0, .int v0), (1, .long v1), (3, .long v3)] := hl
  have hS0 := hS
  obtain ⟨H, hH⟩ : ∃ H, H = s.heap := ⟨_, rfl⟩
  obtain ⟨locs, hlc⟩ : ∃ locs : List Loc, locs = [] := ⟨_, rfl⟩
  have hS : va_S A s.heap H locs := by rw [hH, hlc]; exact hS0
  have hP : va_P (dC, dI) vwCl [] H := by rw [hH]; exact hP
  suffices hgo : W p l e ({ frames := 0, cells := 0, slots := 0, locals := 0 }) s m ([.int v0, .long v1, .long v3] : List Value).toArray below meth c H locs 0 0 (MQ below (gQ dC dI (some (.long r9)) A []) ([.int v0, .long v1, .long v3] : List Value).toArray s 0 0 A) (F0 m 0 ls []) by rw [hH, hlc] at hgo; exact hgo
  rw [p10_operate] at hf
  refine lv_iload_n hx hb dX10_operate_0 rfl (lv_at hl 0 rfl) ?_
  by_cases h9 : v0 = (-24 : Int32)
  · have hf := itt h9 hf
    have q9 : (v0).toInt = -24 := by rw [h9]; decide
    refine lv_tableIn (tgt := 72) hx hb dX10_operate_1 (by omega) (by omega) (by first | (rw [q9]; rfl) | rw [q9]) (by decide) ?_
    refine lv_lload_n hx hb dX10_operate_72 rfl (lv_at hl 1 rfl) ?_
    refine lv_lload_n hx hb dX10_operate_73 rfl (lv_at hl 2 rfl) ?_
    refine lv_land hx hb dX10_operate_74 ?_
    cases hf
    exact g_lret S hr hlocks hP hD hS dX10_operate_75
  · have hf := itf h9 hf
    have q76 : (v0).toInt ≠ -24 := fun q => h9 (Int32.toInt_inj.mp (by rw [q]; decide))
    by_cases h9 : v0 = (-23 : Int32)
    · have hf := itt h9 hf
      have q9 : (v0).toInt = -23 := by rw [h9]; decide
      refine lv_tableIn (tgt := 76) hx hb dX10_operate_1 (by omega) (by omega) (by first | (rw [q9]; rfl) | rw [q9]) (by decide) ?_
      refine lv_lload_n hx hb dX10_operate_76 rfl (lv_at hl 1 rfl) ?_
      refine lv_lload_n hx hb dX10_operate_77 rfl (lv_at hl 2 rfl) ?_
      refine lv_lor hx hb dX10_operate_78 ?_
      cases hf
      exact g_lret S hr hlocks hP hD hS dX10_operate_79
    · have hf := itf h9 hf
      have q77 : (v0).toInt ≠ -23 := fun q => h9 (Int32.toInt_inj.mp (by rw [q]; decide))
      by_cases h9 : v0 = (-22 : Int32)
      · have hf := itt h9 hf
        have q9 : (v0).toInt = -22 := by rw [h9]; decide
        refine lv_tableIn (tgt := 60) hx hb dX10_operate_1 (by omega) (by omega) (by first | (rw [q9]; rfl) | rw [q9]) (by decide) ?_
        refine lv_lload_n hx hb dX10_operate_60 rfl (lv_at hl 1 rfl) ?_
        refine lv_lload_n hx hb dX10_operate_61 rfl (lv_at hl 2 rfl) ?_
        refine W.lcmp hx hb dX10_operate_62 ?_
        refine lv_if_le (tgt := 70) hx hb dX10_operate_63 (by decide) (fun h9 => ?_) (fun h9 => ?_)
        · have h9 := (lg_cmp_le _ _).mp h9
          have hf := itt h9 hf
          refine lv_lconst (v := 0) hx hb dX10_operate_70 (by decide) ?_
          cases hf
          exact g_lret S hr hlocks hP hD hS dX10_operate_71
        · have h9 := fun q => h9 ((lg_cmp_le _ _).mpr q)
          have hf := itf h9 hf
          refine lv_lconst (v := 1) hx hb dX10_operate_66 (by decide) ?_
          refine lv_goto (tgt := 71) hx hb dX10_operate_67 (by decide) ?_
          cases hf
          exact g_lret S hr hlocks hP hD hS dX10_operate_71
      · have hf := itf h9 hf
        have q78 : (v0).toInt ≠ -22 := fun q => h9 (Int32.toInt_inj.mp (by rw [q]; decide))
        by_cases h9 : v0 = (-21 : Int32)
        · have hf := itt h9 hf
          have q9 : (v0).toInt = -21 := by rw [h9]; decide
          refine lv_tableIn (tgt := 48) hx hb dX10_operate_1 (by omega) (by omega) (by first | (rw [q9]; rfl) | rw [q9]) (by decide) ?_
          refine lv_lload_n hx hb dX10_operate_48 rfl (lv_at hl 1 rfl) ?_
          refine lv_lload_n hx hb dX10_operate_49 rfl (lv_at hl 2 rfl) ?_
          refine W.lcmp hx hb dX10_operate_50 ?_
          refine lv_if_ne (tgt := 58) hx hb dX10_operate_51 (by decide) (fun h9 => ?_) (fun h9 => ?_)
          · have h9 := fun q => h9 ((lg_cmp_eq _ _).mpr q)
            have hf := itf h9 hf
            refine lv_lconst (v := 0) hx hb dX10_operate_58 (by decide) ?_
            cases hf
            exact g_lret S hr hlocks hP hD hS dX10_operate_59
          · have h9 := (lg_cmp_eq _ _).mp h9
            have hf := itt h9 hf
            refine lv_lconst (v := 1) hx hb dX10_operate_54 (by decide) ?_
            refine lv_goto (tgt := 59) hx hb dX10_operate_55 (by decide) ?_
            cases hf
            exact g_lret S hr hlocks hP hD hS dX10_operate_59
        · have hf := itf h9 hf
          have q79 : (v0).toInt ≠ -21 := fun q => h9 (Int32.toInt_inj.mp (by rw [q]; decide))
          by_cases h9 : v0 = (-20 : Int32)
          · have hf := itt h9 hf
            have q9 : (v0).toInt = -20 := by rw [h9]; decide
            refine lv_tableIn (tgt := 36) hx hb dX10_operate_1 (by omega) (by omega) (by first | (rw [q9]; rfl) | rw [q9]) (by decide) ?_
            refine lv_lload_n hx hb dX10_operate_36 rfl (lv_at hl 1 rfl) ?_
            refine lv_lload_n hx hb dX10_operate_37 rfl (lv_at hl 2 rfl) ?_
            refine W.lcmp hx hb dX10_operate_38 ?_
            refine lv_if_ge (tgt := 46) hx hb dX10_operate_39 (by decide) (fun h9 => ?_) (fun h9 => ?_)
            · have h9 := (lg_cmp_ge _ _).mp h9
              have hf := itt h9 hf
              refine lv_lconst (v := 0) hx hb dX10_operate_46 (by decide) ?_
              cases hf
              exact g_lret S hr hlocks hP hD hS dX10_operate_47
            · have h9 := fun q => h9 ((lg_cmp_ge _ _).mpr q)
              have hf := itf h9 hf
              refine lv_lconst (v := 1) hx hb dX10_operate_42 (by decide) ?_
              refine lv_goto (tgt := 47) hx hb dX10_operate_43 (by decide) ?_
              cases hf
              exact g_lret S hr hlocks hP hD hS dX10_operate_47
          · have hf := itf h9 hf
            have q80 : (v0).toInt ≠ -20 := fun q => h9 (Int32.toInt_inj.mp (by rw [q]; decide))
            refine lv_tableOut (tgt := 76) hx hb dX10_operate_1 (by omega) (by decide) ?_
            refine lv_lload_n hx hb dX10_operate_76 rfl (lv_at hl 1 rfl) ?_
            refine lv_lload_n hx hb dX10_operate_77 rfl (lv_at hl 2 rfl) ?_
            refine lv_lor hx hb dX10_operate_78 ?_
            cases hf
            exact g_lret S hr hlocks hP hD hS dX10_operate_79
def p10_property (m_fam : Nat → Int64) (m_generation : Nat → Int32) (v1 : Int32) (v2 : Int32) : Option (Int64) := (if v2 = (0 : Int32) then some v1.toInt64 else (if v2 = (1 : Int32) then ob (p10_ofPerson m_fam v1 (0 : Int32)) (fun r46 => some r46) else (if v2 = (2 : Int32) then gd v1 16 (some ((m_generation v1.toNatClampNeg).toInt64)) else (if v2 = (3 : Int32) then ob (p10_unionsOf m_fam v1) (fun r60 => some r60.toInt64) else (if v2 = (4 : Int32) then ob (p10_childrenOf m_fam v1) (fun r67 => ob (p10_members r67) (fun r70 => some r70.toInt64)) else (if v2 = (5 : Int32) then ob (p10_ancestorMask m_fam v1) (fun r77 => ob (p10_members r77) (fun r80 => some r80.toInt64)) else ob (p10_descendantMask m_fam v1) (fun r87 => ob (p10_members r87) (fun r90 => some r90.toInt64))))))))
set_option maxHeartbeats 4000000 in
set_option maxRecDepth 100000 in
theorem c_X10_property (ad : Nat → Nat) (a_m_fam : Nat) (m_undoCount : Int32) (m_thrown : Int32) (m_hasSnapshot : Bool) (m_rows : Int32) (m_lineLength : Int32) (m_formattedLength : Int32) (m_bufferLength : Int32) (m_limit : Int32) (m_next : Int32) (m_beginsAt : Int32) (m_token : Int32) (m_error : Int32) (m_errorAt : Int32) (m_errorPosition : Int32) (m_nested : Int32) (m_codeCount : Int32) (m_fam : Nat → Int64) (m_generation : Nat → Int32) (v1 : Int32) (v2 : Int32) (r9 : Int64) (hf : p10_property m_fam m_generation v1 v2 = some r9) : gM l dC dI cI cJ cZ yX10_property cX10_property 3 (some .long) 4 93 [.ref (ad 0), .int v1, .int v2] [(ad 0, .inr (10, oM ad m_undoCount m_thrown m_hasSnapshot a_m_fam m_rows m_lineLength m_formattedLength m_bufferLength m_limit m_next m_beginsAt m_token m_error m_errorAt m_errorPosition m_nested m_codeCount)), (a_m_fam, .inl (cJ, 130, .inr (.inl m_fam))), ((ad 9), .inl (cI, 16, .inl m_generation))] [(ad 0, .inr (10, oM ad m_undoCount m_thrown m_hasSnapshot a_m_fam m_rows m_lineLength m_formattedLength m_bufferLength m_limit m_next m_beginsAt m_token m_error m_errorAt m_errorPosition m_nested m_codeCount)), (a_m_fam, .inl (cJ, 130, .inr (.inl m_fam))), ((ad 9), .inl (cI, 16, .inl m_generation))] (some (.long r9)) := by
  refine g_start (own := RX10) (by decide +kernel) rfl (Nat.le_of_ble_eq_true rfl) ?_
  intro p e s m below meth c A ls S hr hlocks hE hP hD hS hA hl hin
  have hx := S.1
  have hb := S.2.1
  have hml := S.2.2.1
  have hown := S.2.2.2.1
  have htg : ∀ w ∈ gw, w.before ([.ref (ad 0), .int v1, .int v2] : List Value).toArray s = true := fun w h => S.2.2.2.2 w (List.mem_cons_of_mem _ h)
  have hl : lv_has ls 3 [(0, .ref (ad 0)), (1, .int v1), (2, .int v2)] := hl
  have hS0 := hS
  obtain ⟨H, hH⟩ : ∃ H, H = s.heap := ⟨_, rfl⟩
  obtain ⟨locs, hlc⟩ : ∃ locs : List Loc, locs = [] := ⟨_, rfl⟩
  have hS : va_S A s.heap H locs := by rw [hH, hlc]; exact hS0
  have hP : va_P (dC, dI) vwCl [(ad 0, .inr (10, oM ad m_undoCount m_thrown m_hasSnapshot a_m_fam m_rows m_lineLength m_formattedLength m_bufferLength m_limit m_next m_beginsAt m_token m_error m_errorAt m_errorPosition m_nested m_codeCount)), (a_m_fam, .inl (cJ, 130, .inr (.inl m_fam))), ((ad 9), .inl (cI, 16, .inl m_generation))] H := by rw [hH]; exact hP
  suffices hgo : W p l e ({ frames := 4, cells := 0, slots := 0, locals := 93 }) s m ([.ref (ad 0), .int v1, .int v2] : List Value).toArray below meth c H locs 0 0 (MQ below (gQ dC dI (some (.long r9)) A [(ad 0, .inr (10, oM ad m_undoCount m_thrown m_hasSnapshot a_m_fam m_rows m_lineLength m_formattedLength m_bufferLength m_limit m_next m_beginsAt m_token m_error m_errorAt m_errorPosition m_nested m_codeCount)), (a_m_fam, .inl (cJ, 130, .inr (.inl m_fam))), ((ad 9), .inl (cI, 16, .inl m_generation))]) ([.ref (ad 0), .int v1, .int v2] : List Value).toArray s 0 0 A) (F0 m 0 ls []) by rw [hH, hlc] at hgo; exact hgo
  rw [p10_property] at hf
  refine lv_iload_n hx hb dX10_property_0 rfl (lv_at hl 2 rfl) ?_
  by_cases h9 : v2 = (0 : Int32)
  · have hf := itt h9 hf
    have q9 : (v2).toInt = 0 := by rw [h9]; decide
    refine lv_tableIn (tgt := 40) hx hb dX10_property_1 (by omega) (by omega) (by first | (rw [q9]; rfl) | rw [q9]) (by decide) ?_
    refine lv_iload_n hx hb dX10_property_40 rfl (lv_at hl 1 rfl) ?_
    refine lv_i2l hx hb dX10_property_41 rfl ?_
    cases hf
    exact g_lret S hr hlocks hP hD hS dX10_property_42
  · have hf := itf h9 hf
    have q100 : (v2).toInt ≠ 0 := fun q => h9 (Int32.toInt_inj.mp (by rw [q]; decide))
    by_cases h9 : v2 = (1 : Int32)
    · have hf := itt h9 hf
      have q9 : (v2).toInt = 1 := by rw [h9]; decide
      refine lv_tableIn (tgt := 43) hx hb dX10_property_1 (by omega) (by omega) (by first | (rw [q9]; rfl) | rw [q9]) (by decide) ?_
      refine lv_aload_n hx hb dX10_property_43 rfl (lv_at hl 0 rfl) ?_
      refine lv_iload_n hx hb dX10_property_44 rfl (lv_at hl 1 rfl) ?_
      refine lv_iconst (v := 0) hx hb dX10_property_45 (by decide) ?_
      obtain ⟨r46, h9, hf⟩ := ob_s hf
      refine gcV (index := 98) S hE (c_X10_ofPerson ad a_m_fam m_undoCount m_thrown m_hasSnapshot m_rows m_lineLength m_formattedLength m_bufferLength m_limit m_next m_beginsAt m_token m_error m_errorAt m_errorPosition m_nested m_codeCount m_fam v1 (0 : Int32) r46 h9) mX10_ofPerson tw1519 ⟨Nat.le_of_ble_eq_true rfl, Nat.le_of_ble_eq_true rfl⟩ hP hD hS hA ⟨Nat.zero_le _, Nat.zero_le _⟩ 0 10 rfl rfl rfl (wr := [((ad 9), .inl (cI, 16, .inl m_generation))]) [0, 1] [2] rfl rfl rfl rfl (by decide) (As := [.int v1, .int (0 : Int32)]) (rest := []) rfl hl.1 rfl (Nat.le_of_ble_eq_true rfl) dX10_property_46 (fun H locs hP hD hS => ?_)
      refine W.eq (g2 := F0 m 49 ls [.long r46]) rfl ?_
      have hP : va_P (dC, dI) vwCl [((ad 9), .inl (cI, 16, .inl m_generation)), (ad 0, .inr (10, oM ad m_undoCount m_thrown m_hasSnapshot a_m_fam m_rows m_lineLength m_formattedLength m_bufferLength m_limit m_next m_beginsAt m_token m_error m_errorAt m_errorPosition m_nested m_codeCount)), (a_m_fam, .inl (cJ, 130, .inr (.inl m_fam)))] H := hP
      have hD : va_D A [((ad 9), .inl (cI, 16, .inl m_generation)), (ad 0, .inr (10, oM ad m_undoCount m_thrown m_hasSnapshot a_m_fam m_rows m_lineLength m_formattedLength m_bufferLength m_limit m_next m_beginsAt m_token m_error m_errorAt m_errorPosition m_nested m_codeCount)), (a_m_fam, .inl (cJ, 130, .inr (.inl m_fam)))] := hD
      cases hf
      exact g_lret S hr hlocks (hP.sub [1, 2, 0] rfl) (hD.sub [1, 2, 0] (by decide) rfl) hS dX10_property_49
    · have hf := itf h9 hf
      have q101 : (v2).toInt ≠ 1 := fun q => h9 (Int32.toInt_inj.mp (by rw [q]; decide))
      by_cases h9 : v2 = (2 : Int32)
      · have hf := itt h9 hf
        have q9 : (v2).toInt = 2 := by rw [h9]; decide
        refine lv_tableIn (tgt := 50) hx hb dX10_property_1 (by omega) (by omega) (by first | (rw [q9]; rfl) | rw [q9]) (by decide) ?_
        refine lv_aload_n hx hb dX10_property_50 rfl (lv_at hl 0 rfl) ?_
        refine va_get (D := (dC, dI)) (ci := 10) (v := .ref (ad 9)) (C := RX10) (T := TX10) (N := 37) hx hb htg inX10 hown hE.1 hP 0 rfl rfl 8 (by decide) (htg _ tw1390) (fun _ h9 => h9) rfl dX10_property_51 ?_
        refine lv_iload_n hx hb dX10_property_54 rfl (lv_at hl 1 rfl) ?_
        obtain ⟨h9, hf⟩ := gd_s hf
        refine va_iald hx hb hE.1 hP 2 0 rfl rfl h9 dX10_property_55 ?_
        refine lv_i2l hx hb dX10_property_56 rfl ?_
        cases hf
        exact g_lret S hr hlocks hP hD hS dX10_property_57
      · have hf := itf h9 hf
        have q102 : (v2).toInt ≠ 2 := fun q => h9 (Int32.toInt_inj.mp (by rw [q]; decide))
        by_cases h9 : v2 = (3 : Int32)
        · have hf := itt h9 hf
          have q9 : (v2).toInt = 3 := by rw [h9]; decide
          refine lv_tableIn (tgt := 58) hx hb dX10_property_1 (by omega) (by omega) (by first | (rw [q9]; rfl) | rw [q9]) (by decide) ?_
          refine lv_aload_n hx hb dX10_property_58 rfl (lv_at hl 0 rfl) ?_
          refine lv_iload_n hx hb dX10_property_59 rfl (lv_at hl 1 rfl) ?_
          obtain ⟨r60, h9, hf⟩ := ob_s hf
          refine gcV (index := 243) S hE (c_X10_unionsOf ad a_m_fam m_undoCount m_thrown m_hasSnapshot m_rows m_lineLength m_formattedLength m_bufferLength m_limit m_next m_beginsAt m_token m_error m_errorAt m_errorPosition m_nested m_codeCount m_fam v1 r60 h9) mX10_unionsOf tw1588 ⟨Nat.le_of_ble_eq_true rfl, Nat.le_of_ble_eq_true rfl⟩ hP hD hS hA ⟨Nat.zero_le _, Nat.zero_le _⟩ 0 10 rfl rfl rfl (wr := [((ad 9), .inl (cI, 16, .inl m_generation))]) [0, 1] [2] rfl rfl rfl rfl (by decide) (As := [.int v1]) (rest := []) rfl hl.1 rfl (Nat.le_of_ble_eq_true rfl) dX10_property_60 (fun H locs hP hD hS => ?_)
          refine W.eq (g2 := F0 m 63 ls [.int r60]) rfl ?_
          have hP : va_P (dC, dI) vwCl [((ad 9), .inl (cI, 16, .inl m_generation)), (ad 0, .inr (10, oM ad m_undoCount m_thrown m_hasSnapshot a_m_fam m_rows m_lineLength m_formattedLength m_bufferLength m_limit m_next m_beginsAt m_token m_error m_errorAt m_errorPosition m_nested m_codeCount)), (a_m_fam, .inl (cJ, 130, .inr (.inl m_fam)))] H := hP
          have hD : va_D A [((ad 9), .inl (cI, 16, .inl m_generation)), (ad 0, .inr (10, oM ad m_undoCount m_thrown m_hasSnapshot a_m_fam m_rows m_lineLength m_formattedLength m_bufferLength m_limit m_next m_beginsAt m_token m_error m_errorAt m_errorPosition m_nested m_codeCount)), (a_m_fam, .inl (cJ, 130, .inr (.inl m_fam)))] := hD
          refine lv_i2l hx hb dX10_property_63 rfl ?_
          cases hf
          exact g_lret S hr hlocks (hP.sub [1, 2, 0] rfl) (hD.sub [1, 2, 0] (by decide) rfl) hS dX10_property_64
        · have hf := itf h9 hf
          have q103 : (v2).toInt ≠ 3 := fun q => h9 (Int32.toInt_inj.mp (by rw [q]; decide))
          by_cases h9 : v2 = (4 : Int32)
          · have hf := itt h9 hf
            have q9 : (v2).toInt = 4 := by rw [h9]; decide
            refine lv_tableIn (tgt := 65) hx hb dX10_property_1 (by omega) (by omega) (by first | (rw [q9]; rfl) | rw [q9]) (by decide) ?_
            refine lv_aload_n hx hb dX10_property_65 rfl (lv_at hl 0 rfl) ?_
            refine lv_iload_n hx hb dX10_property_66 rfl (lv_at hl 1 rfl) ?_
            obtain ⟨r67, h9, hf⟩ := ob_s hf
            refine gcV (index := 224) S hE (c_X10_childrenOf ad a_m_fam m_undoCount m_thrown m_hasSnapshot m_rows m_lineLength m_formattedLength m_bufferLength m_limit m_next m_beginsAt m_token m_error m_errorAt m_errorPosition m_nested m_codeCount m_fam v1 r67 h9) mX10_childrenOf tw1560 ⟨Nat.le_of_ble_eq_true rfl, Nat.le_of_ble_eq_true rfl⟩ hP hD hS hA ⟨Nat.zero_le _, Nat.zero_le _⟩ 0 10 rfl rfl rfl (wr := [((ad 9), .inl (cI, 16, .inl m_generation))]) [0, 1] [2] rfl rfl rfl rfl (by decide) (As := [.int v1]) (rest := []) rfl hl.1 rfl (Nat.le_of_ble_eq_true rfl) dX10_property_67 (fun H locs hP hD hS => ?_)
            refine W.eq (g2 := F0 m 70 ls [.int r67]) rfl ?_
            have hP : va_P (dC, dI) vwCl [((ad 9), .inl (cI, 16, .inl m_generation)), (ad 0, .inr (10, oM ad m_undoCount m_thrown m_hasSnapshot a_m_fam m_rows m_lineLength m_formattedLength m_bufferLength m_limit m_next m_beginsAt m_token m_error m_errorAt m_errorPosition m_nested m_codeCount)), (a_m_fam, .inl (cJ, 130, .inr (.inl m_fam)))] H := hP
            have hD : va_D A [((ad 9), .inl (cI, 16, .inl m_generation)), (ad 0, .inr (10, oM ad m_undoCount m_thrown m_hasSnapshot a_m_fam m_rows m_lineLength m_formattedLength m_bufferLength m_limit m_next m_beginsAt m_token m_error m_errorAt m_errorPosition m_nested m_codeCount)), (a_m_fam, .inl (cJ, 130, .inr (.inl m_fam)))] := hD
            obtain ⟨r70, h9, hf⟩ := ob_s hf
            refine gcS (index := 251) S hE (c_X10_members r67 r70 h9) mX10_members tw1633 ⟨Nat.le_of_ble_eq_true rfl, Nat.le_of_ble_eq_true rfl⟩ hP hD hS hA ⟨Nat.zero_le _, Nat.zero_le _⟩ (wr := [((ad 9), .inl (cI, 16, .inl m_generation)), (ad 0, .inr (10, oM ad m_undoCount m_thrown m_hasSnapshot a_m_fam m_rows m_lineLength m_formattedLength m_bufferLength m_limit m_next m_beginsAt m_token m_error m_errorAt m_errorPosition m_nested m_codeCount)), (a_m_fam, .inl (cJ, 130, .inr (.inl m_fam)))]) [] [0, 1, 2] rfl rfl rfl rfl (by decide) (As := [.int r67]) (rest := []) rfl hl.1 rfl (Nat.le_of_ble_eq_true rfl) dX10_property_70 (fun H locs hP hD hS => ?_)
            refine W.eq (g2 := F0 m 73 ls [.int r70]) rfl ?_
            have hP : va_P (dC, dI) vwCl [((ad 9), .inl (cI, 16, .inl m_generation)), (ad 0, .inr (10, oM ad m_undoCount m_thrown m_hasSnapshot a_m_fam m_rows m_lineLength m_formattedLength m_bufferLength m_limit m_next m_beginsAt m_token m_error m_errorAt m_errorPosition m_nested m_codeCount)), (a_m_fam, .inl (cJ, 130, .inr (.inl m_fam)))] H := hP
            have hD : va_D A [((ad 9), .inl (cI, 16, .inl m_generation)), (ad 0, .inr (10, oM ad m_undoCount m_thrown m_hasSnapshot a_m_fam m_rows m_lineLength m_formattedLength m_bufferLength m_limit m_next m_beginsAt m_token m_error m_errorAt m_errorPosition m_nested m_codeCount)), (a_m_fam, .inl (cJ, 130, .inr (.inl m_fam)))] := hD
            refine lv_i2l hx hb dX10_property_73 rfl ?_
            cases hf
            exact g_lret S hr hlocks (hP.sub [1, 2, 0] rfl) (hD.sub [1, 2, 0] (by decide) rfl) hS dX10_property_74
          · have hf := itf h9 hf
            have q104 : (v2).toInt ≠ 4 := fun q => h9 (Int32.toInt_inj.mp (by rw [q]; decide))
            by_cases h9 : v2 = (5 : Int32)
            · have hf := itt h9 hf
              have q9 : (v2).toInt = 5 := by rw [h9]; decide
              refine lv_tableIn (tgt := 75) hx hb dX10_property_1 (by omega) (by omega) (by first | (rw [q9]; rfl) | rw [q9]) (by decide) ?_
              refine lv_aload_n hx hb dX10_property_75 rfl (lv_at hl 0 rfl) ?_
              refine lv_iload_n hx hb dX10_property_76 rfl (lv_at hl 1 rfl) ?_
              obtain ⟨r77, h9, hf⟩ := ob_s hf
              refine gcV (index := 254) S hE (c_X10_ancestorMask ad a_m_fam m_undoCount m_thrown m_hasSnapshot m_rows m_lineLength m_formattedLength m_bufferLength m_limit m_next m_beginsAt m_token m_error m_errorAt m_errorPosition m_nested m_codeCount m_fam v1 r77 h9) mX10_ancestorMask tw1648 ⟨Nat.le_of_ble_eq_true rfl, Nat.le_of_ble_eq_true rfl⟩ hP hD hS hA ⟨Nat.zero_le _, Nat.zero_le _⟩ 0 10 rfl rfl rfl (wr := [((ad 9), .inl (cI, 16, .inl m_generation))]) [0, 1] [2] rfl rfl rfl rfl (by decide) (As := [.int v1]) (rest := []) rfl hl.1 rfl (Nat.le_of_ble_eq_true rfl) dX10_property_77 (fun H locs hP hD hS => ?_)
              refine W.eq (g2 := F0 m 80 ls [.int r77]) rfl ?_
              have hP : va_P (dC, dI) vwCl [((ad 9), .inl (cI, 16, .inl m_generation)), (ad 0, .inr (10, oM ad m_undoCount m_thrown m_hasSnapshot a_m_fam m_rows m_lineLength m_formattedLength m_bufferLength m_limit m_next m_beginsAt m_token m_error m_errorAt m_errorPosition m_nested m_codeCount)), (a_m_fam, .inl (cJ, 130, .inr (.inl m_fam)))] H := hP
              have hD : va_D A [((ad 9), .inl (cI, 16, .inl m_generation)), (ad 0, .inr (10, oM ad m_undoCount m_thrown m_hasSnapshot a_m_fam m_rows m_lineLength m_formattedLength m_bufferLength m_limit m_next m_beginsAt m_token m_error m_errorAt m_errorPosition m_nested m_codeCount)), (a_m_fam, .inl (cJ, 130, .inr (.inl m_fam)))] := hD
              obtain ⟨r80, h9, hf⟩ := ob_s hf
              refine gcS (index := 251) S hE (c_X10_members r77 r80 h9) mX10_members tw1633 ⟨Nat.le_of_ble_eq_true rfl, Nat.le_of_ble_eq_true rfl⟩ hP hD hS hA ⟨Nat.zero_le _, Nat.zero_le _⟩ (wr := [((ad 9), .inl (cI, 16, .inl m_generation)), (ad 0, .inr (10, oM ad m_undoCount m_thrown m_hasSnapshot a_m_fam m_rows m_lineLength m_formattedLength m_bufferLength m_limit m_next m_beginsAt m_token m_error m_errorAt m_errorPosition m_nested m_codeCount)), (a_m_fam, .inl (cJ, 130, .inr (.inl m_fam)))]) [] [0, 1, 2] rfl rfl rfl rfl (by decide) (As := [.int r77]) (rest := []) rfl hl.1 rfl (Nat.le_of_ble_eq_true rfl) dX10_property_80 (fun H locs hP hD hS => ?_)
              refine W.eq (g2 := F0 m 83 ls [.int r80]) rfl ?_
              have hP : va_P (dC, dI) vwCl [((ad 9), .inl (cI, 16, .inl m_generation)), (ad 0, .inr (10, oM ad m_undoCount m_thrown m_hasSnapshot a_m_fam m_rows m_lineLength m_formattedLength m_bufferLength m_limit m_next m_beginsAt m_token m_error m_errorAt m_errorPosition m_nested m_codeCount)), (a_m_fam, .inl (cJ, 130, .inr (.inl m_fam)))] H := hP
              have hD : va_D A [((ad 9), .inl (cI, 16, .inl m_generation)), (ad 0, .inr (10, oM ad m_undoCount m_thrown m_hasSnapshot a_m_fam m_rows m_lineLength m_formattedLength m_bufferLength m_limit m_next m_beginsAt m_token m_error m_errorAt m_errorPosition m_nested m_codeCount)), (a_m_fam, .inl (cJ, 130, .inr (.inl m_fam)))] := hD
              refine lv_i2l hx hb dX10_property_83 rfl ?_
              cases hf
              exact g_lret S hr hlocks (hP.sub [1, 2, 0] rfl) (hD.sub [1, 2, 0] (by decide) rfl) hS dX10_property_84
            · have hf := itf h9 hf
              have q105 : (v2).toInt ≠ 5 := fun q => h9 (Int32.toInt_inj.mp (by rw [q]; decide))
              refine lv_tableOut (tgt := 85) hx hb dX10_property_1 (by omega) (by decide) ?_
              refine lv_aload_n hx hb dX10_property_85 rfl (lv_at hl 0 rfl) ?_
              refine lv_iload_n hx hb dX10_property_86 rfl (lv_at hl 1 rfl) ?_
              obtain ⟨r87, h9, hf⟩ := ob_s hf
              refine gcV (index := 257) S hE (c_X10_descendantMask ad a_m_fam m_undoCount m_thrown m_hasSnapshot m_rows m_lineLength m_formattedLength m_bufferLength m_limit m_next m_beginsAt m_token m_error m_errorAt m_errorPosition m_nested m_codeCount m_fam v1 r87 h9) mX10_descendantMask tw1656 ⟨Nat.le_of_ble_eq_true rfl, Nat.le_of_ble_eq_true rfl⟩ hP hD hS hA ⟨Nat.zero_le _, Nat.zero_le _⟩ 0 10 rfl rfl rfl (wr := [((ad 9), .inl (cI, 16, .inl m_generation))]) [0, 1] [2] rfl rfl rfl rfl (by decide) (As := [.int v1]) (rest := []) rfl hl.1 rfl (Nat.le_of_ble_eq_true rfl) dX10_property_87 (fun H locs hP hD hS => ?_)
              refine W.eq (g2 := F0 m 90 ls [.int r87]) rfl ?_
              have hP : va_P (dC, dI) vwCl [((ad 9), .inl (cI, 16, .inl m_generation)), (ad 0, .inr (10, oM ad m_undoCount m_thrown m_hasSnapshot a_m_fam m_rows m_lineLength m_formattedLength m_bufferLength m_limit m_next m_beginsAt m_token m_error m_errorAt m_errorPosition m_nested m_codeCount)), (a_m_fam, .inl (cJ, 130, .inr (.inl m_fam)))] H := hP
              have hD : va_D A [((ad 9), .inl (cI, 16, .inl m_generation)), (ad 0, .inr (10, oM ad m_undoCount m_thrown m_hasSnapshot a_m_fam m_rows m_lineLength m_formattedLength m_bufferLength m_limit m_next m_beginsAt m_token m_error m_errorAt m_errorPosition m_nested m_codeCount)), (a_m_fam, .inl (cJ, 130, .inr (.inl m_fam)))] := hD
              obtain ⟨r90, h9, hf⟩ := ob_s hf
              refine gcS (index := 251) S hE (c_X10_members r87 r90 h9) mX10_members tw1633 ⟨Nat.le_of_ble_eq_true rfl, Nat.le_of_ble_eq_true rfl⟩ hP hD hS hA ⟨Nat.zero_le _, Nat.zero_le _⟩ (wr := [((ad 9), .inl (cI, 16, .inl m_generation)), (ad 0, .inr (10, oM ad m_undoCount m_thrown m_hasSnapshot a_m_fam m_rows m_lineLength m_formattedLength m_bufferLength m_limit m_next m_beginsAt m_token m_error m_errorAt m_errorPosition m_nested m_codeCount)), (a_m_fam, .inl (cJ, 130, .inr (.inl m_fam)))]) [] [0, 1, 2] rfl rfl rfl rfl (by decide) (As := [.int r87]) (rest := []) rfl hl.1 rfl (Nat.le_of_ble_eq_true rfl) dX10_property_90 (fun H locs hP hD hS => ?_)
              refine W.eq (g2 := F0 m 93 ls [.int r90]) rfl ?_
              have hP : va_P (dC, dI) vwCl [((ad 9), .inl (cI, 16, .inl m_generation)), (ad 0, .inr (10, oM ad m_undoCount m_thrown m_hasSnapshot a_m_fam m_rows m_lineLength m_formattedLength m_bufferLength m_limit m_next m_beginsAt m_token m_error m_errorAt m_errorPosition m_nested m_codeCount)), (a_m_fam, .inl (cJ, 130, .inr (.inl m_fam)))] H := hP
              have hD : va_D A [((ad 9), .inl (cI, 16, .inl m_generation)), (ad 0, .inr (10, oM ad m_undoCount m_thrown m_hasSnapshot a_m_fam m_rows m_lineLength m_formattedLength m_bufferLength m_limit m_next m_beginsAt m_token m_error m_errorAt m_errorPosition m_nested m_codeCount)), (a_m_fam, .inl (cJ, 130, .inr (.inl m_fam)))] := hD
              refine lv_i2l hx hb dX10_property_93 rfl ?_
              cases hf
              exact g_lret S hr hlocks (hP.sub [1, 2, 0] rfl) (hD.sub [1, 2, 0] (by decide) rfl) hS dX10_property_94
def p10_holdsFor_J123 (m_stack_123 : Nat → Int64) : Option (Bool × (Nat → Int64)) := gd (0 : Int32) 200 ((if (m_stack_123 (0 : Int32).toNatClampNeg) = (1 : Int64) then some (true, m_stack_123) else some (false, m_stack_123)))
def p10_holdsFor_L4_B (m_codeCount : Int32) (m_codes : Nat → Int32) (m_fam : Nat → Int64) (m_generation : Nat → Int32) (v1 : Int32) (k4 : Int32 → Int32 → (Nat → Int64) → Option ((Nat → Int64))) (v2_4 : Int32) (v3_4 : Int32) (m_stack_4 : Nat → Int64) : Option ((Nat → Int64)) := (if m_codeCount ≤ v3_4 then some m_stack_4 else gd v3_4 200 (lb (m_codes v3_4.toNatClampNeg) (fun t18 => (if t18 = (-23 : Int32) then gd (v2_4 - (1 : Int32)) 200 (gd (v2_4 - (1 : Int32)) 200 (lb (vp_updL m_stack_4 (v2_4 - (1 : Int32)).toNatClampNeg ((1 : Int64) - (m_stack_4 (v2_4 - (1 : Int32)).toNatClampNeg))) (fun g44 => lb (v3_4 + (1 : Int32)) (fun t117 => (k4 v2_4 t117 g44))))) else (if t18 ≤ (-20 : Int32) then lb (v2_4 + (-1 : Int32)) (fun t87 => gd (t87 - (1 : Int32)) 200 (gd t87 200 (gd (t87 - (1 : Int32)) 200 (lb (vp_updL m_stack_4 (t87 - (1 : Int32)).toNatClampNeg (p10_operate t18 (m_stack_4 (t87 - (1 : Int32)).toNatClampNeg) (m_stack_4 t87.toNatClampNeg))) (fun g116 => lb (v3_4 + (1 : Int32)) (fun t117 => (k4 t87 t117 g116))))))) else (if t18 < (0 : Int32) then ob (p10_property m_fam m_generation v1 ((-1 : Int32) - t18)) (fun r77 => gd v2_4 200 (lb (vp_updL m_stack_4 v2_4.toNatClampNeg r77) (fun g80 => lb (v2_4 + (1 : Int32)) (fun t81 => lb (v3_4 + (1 : Int32)) (fun t117 => (k4 t81 t117 g80)))))) else gd v2_4 200 (lb (vp_updL m_stack_4 v2_4.toNatClampNeg t18.toInt64) (fun g80 => lb (v2_4 + (1 : Int32)) (fun t81 => lb (v3_4 + (1 : Int32)) (fun t117 => (k4 t81 t117 g80)))))))))))
def p10_holdsFor_L4 (m_codeCount : Int32) (m_codes : Nat → Int32) (m_fam : Nat → Int64) (m_generation : Nat → Int32) (v1 : Int32) : Nat → Int32 → Int32 → (Nat → Int64) → Option ((Nat → Int64))
  | 0, _, _, _ => none
  | n+1, v2_4, v3_4, m_stack_4 => p10_holdsFor_L4_B m_codeCount m_codes m_fam m_generation v1 (p10_holdsFor_L4 m_codeCount m_codes m_fam m_generation v1 n) v2_4 v3_4 m_stack_4
def p10_holdsFor (m_codeCount : Int32) (m_codes : Nat → Int32) (m_fam : Nat → Int64) (m_generation : Nat → Int32) (m_stack : Nat → Int64) (v1 : Int32) : Option (Bool × (Nat → Int64)) := (ob (p10_holdsFor_L4 m_codeCount m_codes m_fam m_generation v1 FU (0 : Int32) (0 : Int32) m_stack) (fun m_stack_x4 => p10_holdsFor_J123 m_stack_x4))
set_option maxHeartbeats 4000000 in
set_option maxRecDepth 100000 in
theorem c_X10_holdsFor (ad : Nat → Nat) (a_m_fam : Nat) (m_undoCount : Int32) (m_thrown : Int32) (m_hasSnapshot : Bool) (m_rows : Int32) (m_lineLength : Int32) (m_formattedLength : Int32) (m_bufferLength : Int32) (m_limit : Int32) (m_next : Int32) (m_beginsAt : Int32) (m_token : Int32) (m_error : Int32) (m_errorAt : Int32) (m_errorPosition : Int32) (m_nested : Int32) (m_codeCount : Int32) (m_codes : Nat → Int32) (m_fam : Nat → Int64) (m_generation : Nat → Int32) (m_stack : Nat → Int64) (v1 : Int32) (r9 : Bool) (m_stack_9 : Nat → Int64) (hf : p10_holdsFor m_codeCount m_codes m_fam m_generation m_stack v1 = some (r9, m_stack_9)) : gM l dC dI cI cJ cZ yX10_holdsFor cX10_holdsFor 5 (some .boolean) 5 115 [.ref (ad 0), .int v1] [(ad 0, .inr (10, oM ad m_undoCount m_thrown m_hasSnapshot a_m_fam m_rows m_lineLength m_formattedLength m_bufferLength m_limit m_next m_beginsAt m_token m_error m_errorAt m_errorPosition m_nested m_codeCount)), ((ad 35), .inl (cI, 200, .inl m_codes)), (a_m_fam, .inl (cJ, 130, .inr (.inl m_fam))), ((ad 9), .inl (cI, 16, .inl m_generation)), ((ad 36), .inl (cJ, 200, .inr (.inl m_stack)))] [(ad 0, .inr (10, oM ad m_undoCount m_thrown m_hasSnapshot a_m_fam m_rows m_lineLength m_formattedLength m_bufferLength m_limit m_next m_beginsAt m_token m_error m_errorAt m_errorPosition m_nested m_codeCount)), ((ad 35), .inl (cI, 200, .inl m_codes)), (a_m_fam, .inl (cJ, 130, .inr (.inl m_fam))), ((ad 9), .inl (cI, 16, .inl m_generation)), ((ad 36), .inl (cJ, 200, .inr (.inl m_stack_9)))] (some (.int (bI r9))) := by
  refine g_start (own := RX10) (by decide +kernel) rfl (Nat.le_of_ble_eq_true rfl) ?_
  intro p e s m below meth c A ls S hr hlocks hE hP hD hS hA hl hin
  have hx := S.1
  have hb := S.2.1
  have hml := S.2.2.1
  have hown := S.2.2.2.1
  have htg : ∀ w ∈ gw, w.before ([.ref (ad 0), .int v1] : List Value).toArray s = true := fun w h => S.2.2.2.2 w (List.mem_cons_of_mem _ h)
  have hl : lv_has ls 5 [(0, .ref (ad 0)), (1, .int v1)] := hl
  have hS0 := hS
  obtain ⟨H, hH⟩ : ∃ H, H = s.heap := ⟨_, rfl⟩
  obtain ⟨locs, hlc⟩ : ∃ locs : List Loc, locs = [] := ⟨_, rfl⟩
  have hS : va_S A s.heap H locs := by rw [hH, hlc]; exact hS0
  have hP : va_P (dC, dI) vwCl [(ad 0, .inr (10, oM ad m_undoCount m_thrown m_hasSnapshot a_m_fam m_rows m_lineLength m_formattedLength m_bufferLength m_limit m_next m_beginsAt m_token m_error m_errorAt m_errorPosition m_nested m_codeCount)), ((ad 35), .inl (cI, 200, .inl m_codes)), (a_m_fam, .inl (cJ, 130, .inr (.inl m_fam))), ((ad 9), .inl (cI, 16, .inl m_generation)), ((ad 36), .inl (cJ, 200, .inr (.inl m_stack)))] H := by rw [hH]; exact hP
  suffices hgo : W p l e ({ frames := 5, cells := 0, slots := 0, locals := 115 }) s m ([.ref (ad 0), .int v1] : List Value).toArray below meth c H locs 0 0 (MQ below (gQ dC dI (some (.int (bI r9))) A [(ad 0, .inr (10, oM ad m_undoCount m_thrown m_hasSnapshot a_m_fam m_rows m_lineLength m_formattedLength m_bufferLength m_limit m_next m_beginsAt m_token m_error m_errorAt m_errorPosition m_nested m_codeCount)), ((ad 35), .inl (cI, 200, .inl m_codes)), (a_m_fam, .inl (cJ, 130, .inr (.inl m_fam))), ((ad 9), .inl (cI, 16, .inl m_generation)), ((ad 36), .inl (cJ, 200, .inr (.inl m_stack_9)))]) ([.ref (ad 0), .int v1] : List Value).toArray s 0 0 A) (F0 m 0 ls []) by rw [hH, hlc] at hgo; exact hgo
  rw [p10_holdsFor] at hf
  have J123 : ∀ (m_stack_123 : Nat → Int64) (H : Heap) (locs : List Loc) (ls : Array Slot), p10_holdsFor_J123 m_stack_123 = some (r9, m_stack_9) → va_P (dC, dI) vwCl [(ad 0, .inr (10, oM ad m_undoCount m_thrown m_hasSnapshot a_m_fam m_rows m_lineLength m_formattedLength m_bufferLength m_limit m_next m_beginsAt m_token m_error m_errorAt m_errorPosition m_nested m_codeCount)), ((ad 35), .inl (cI, 200, .inl m_codes)), (a_m_fam, .inl (cJ, 130, .inr (.inl m_fam))), ((ad 9), .inl (cI, 16, .inl m_generation)), ((ad 36), .inl (cJ, 200, .inr (.inl m_stack_123)))] H → va_D A [(ad 0, .inr (10, oM ad m_undoCount m_thrown m_hasSnapshot a_m_fam m_rows m_lineLength m_formattedLength m_bufferLength m_limit m_next m_beginsAt m_token m_error m_errorAt m_errorPosition m_nested m_codeCount)), ((ad 35), .inl (cI, 200, .inl m_codes)), (a_m_fam, .inl (cJ, 130, .inr (.inl m_fam))), ((ad 9), .inl (cI, 16, .inl m_generation)), ((ad 36), .inl (cJ, 200, .inr (.inl m_stack_123)))] → va_S A s.heap H locs → lv_has ls 5 [(0, .ref (ad 0))] → W p l e ({ frames := 5, cells := 0, slots := 0, locals := 115 }) s m ([.ref (ad 0), .int v1] : List Value).toArray below meth c H locs 0 0 (MQ below (gQ dC dI (some (.int (bI r9))) A [(ad 0, .inr (10, oM ad m_undoCount m_thrown m_hasSnapshot a_m_fam m_rows m_lineLength m_formattedLength m_bufferLength m_limit m_next m_beginsAt m_token m_error m_errorAt m_errorPosition m_nested m_codeCount)), ((ad 35), .inl (cI, 200, .inl m_codes)), (a_m_fam, .inl (cJ, 130, .inr (.inl m_fam))), ((ad 9), .inl (cI, 16, .inl m_generation)), ((ad 36), .inl (cJ, 200, .inr (.inl m_stack_9)))]) ([.ref (ad 0), .int v1] : List Value).toArray s 0 0 A) (F0 m 123 ls []) := by
    intro m_stack_123 H locs ls hf hP hD hS hl
    rw [p10_holdsFor_J123] at hf
    refine lv_aload_n hx hb dX10_holdsFor_123 rfl (lv_at hl 0 rfl) ?_
    refine va_get (D := (dC, dI)) (ci := 10) (v := .ref (ad 36)) (C := RX10) (T := TX10) (N := 37) hx hb htg inX10 hown hE.1 hP 0 rfl rfl 35 (by decide) (htg _ tw1417) (fun _ h9 => h9) rfl dX10_holdsFor_124 ?_
    refine lv_iconst (v := 0) hx hb dX10_holdsFor_127 (by decide) ?_
    obtain ⟨h9, hf⟩ := gd_s hf
    refine va_lald hx hb hE.1 hP 4 1 rfl rfl h9 dX10_holdsFor_128 ?_
    refine lv_lconst (v := 1) hx hb dX10_holdsFor_129 (by decide) ?_
    refine W.lcmp hx hb dX10_holdsFor_130 ?_
    refine lv_if_ne (tgt := 138) hx hb dX10_holdsFor_131 (by decide) (fun h9 => ?_) (fun h9 => ?_)
    · have h9 := fun q => h9 ((lg_cmp_eq _ _).mpr q)
      have hf := itf h9 hf
      refine lv_iconst (v := 0) hx hb dX10_holdsFor_138 (by decide) ?_
      cases hf
      exact g_zret S hr (nar_bI false) hlocks hP hD hS dX10_holdsFor_139
    · have h9 := (lg_cmp_eq _ _).mp h9
      have hf := itt h9 hf
      refine lv_iconst (v := 1) hx hb dX10_holdsFor_134 (by decide) ?_
      refine lv_goto (tgt := 139) hx hb dX10_holdsFor_135 (by decide) ?_
      cases hf
      exact g_zret S hr (nar_bI true) hlocks hP hD hS dX10_holdsFor_139
  refine lv_iconst (v := 0) hx hb dX10_holdsFor_0 (by decide) ?_
  refine lv_istore_n (lv' := [(2, .int (0 : Int32)), (0, .ref (ad 0)), (1, .int v1)]) hx hb dX10_holdsFor_1 rfl hl (by decide) rfl (fun ls hl => ?_)
  refine lv_iconst (v := 0) hx hb dX10_holdsFor_2 (by decide) ?_
  refine lv_istore_n (lv' := [(3, .int (0 : Int32)), (2, .int (0 : Int32)), (0, .ref (ad 0)), (1, .int v1)]) hx hb dX10_holdsFor_3 rfl hl (by decide) rfl (fun ls hl => ?_)
  have K4 : ∀ (n4 : Nat) (v2_4 : Int32) (v3_4 : Int32) (m_stack_4 : Nat → Int64) (ex4 : (Nat → Int64)) (H : Heap) (locs : List Loc) (ls : Array Slot), p10_holdsFor_L4 m_codeCount m_codes m_fam m_generation v1 n4 v2_4 v3_4 m_stack_4 = some ex4 → (fun m_stack_x4 => p10_holdsFor_J123 m_stack_x4) ex4 = some (r9, m_stack_9) → va_P (dC, dI) vwCl [(ad 0, .inr (10, oM ad m_undoCount m_thrown m_hasSnapshot a_m_fam m_rows m_lineLength m_formattedLength m_bufferLength m_limit m_next m_beginsAt m_token m_error m_errorAt m_errorPosition m_nested m_codeCount)), ((ad 35), .inl (cI, 200, .inl m_codes)), (a_m_fam, .inl (cJ, 130, .inr (.inl m_fam))), ((ad 9), .inl (cI, 16, .inl m_generation)), ((ad 36), .inl (cJ, 200, .inr (.inl m_stack_4)))] H → va_D A [(ad 0, .inr (10, oM ad m_undoCount m_thrown m_hasSnapshot a_m_fam m_rows m_lineLength m_formattedLength m_bufferLength m_limit m_next m_beginsAt m_token m_error m_errorAt m_errorPosition m_nested m_codeCount)), ((ad 35), .inl (cI, 200, .inl m_codes)), (a_m_fam, .inl (cJ, 130, .inr (.inl m_fam))), ((ad 9), .inl (cI, 16, .inl m_generation)), ((ad 36), .inl (cJ, 200, .inr (.inl m_stack_4)))] → va_S A s.heap H locs → lv_has ls 5 [(0, .ref (ad 0)), (1, .int v1), (2, .int v2_4), (3, .int v3_4)] → W p l e ({ frames := 5, cells := 0, slots := 0, locals := 115 }) s m ([.ref (ad 0), .int v1] : List Value).toArray below meth c H locs 0 0 (MQ below (gQ dC dI (some (.int (bI r9))) A [(ad 0, .inr (10, oM ad m_undoCount m_thrown m_hasSnapshot a_m_fam m_rows m_lineLength m_formattedLength m_bufferLength m_limit m_next m_beginsAt m_token m_error m_errorAt m_errorPosition m_nested m_codeCount)), ((ad 35), .inl (cI, 200, .inl m_codes)), (a_m_fam, .inl (cJ, 130, .inr (.inl m_fam))), ((ad 9), .inl (cI, 16, .inl m_generation)), ((ad 36), .inl (cJ, 200, .inr (.inl m_stack_9)))]) ([.ref (ad 0), .int v1] : List Value).toArray s 0 0 A) (F0 m 4 ls []) := by
    intro n4
    induction n4 with
    | zero => intro v2_4 v3_4 m_stack_4 ex4 H locs ls hf; rw [p10_holdsFor_L4] at hf; cases hf
    | succ n4 ih4 =>
      intro v2_4 v3_4 m_stack_4 ex4 H locs ls hf hk4 hP hD hS hl
      rw [p10_holdsFor_L4, p10_holdsFor_L4_B] at hf
      refine lv_iload_n hx hb dX10_holdsFor_4 rfl (lv_at hl 3 rfl) ?_
      refine lv_aload_n hx hb dX10_holdsFor_5 rfl (lv_at hl 0 rfl) ?_
      refine va_get (D := (dC, dI)) (ci := 10) (v := .int m_codeCount) (C := RX10) (T := TX10) (N := 37) hx hb htg inX10 hown hE.1 hP 0 rfl rfl 36 (by decide) (htg _ tw1418) (fun _ h9 => h9) rfl dX10_holdsFor_6 ?_
      refine lv_icmp_ge (tgt := 123) hx hb dX10_holdsFor_9 (by decide) (fun h9 => ?_) (fun h9 => ?_)
      · have hf := itt h9 hf
        cases hf
        have hf := hk4
        exact J123 m_stack_4 H locs ls hf hP hD hS (lv_sub hl [0] rfl)
      · have hf := itf h9 hf
        refine lv_aload_n hx hb dX10_holdsFor_12 rfl (lv_at hl 0 rfl) ?_
        refine va_get (D := (dC, dI)) (ci := 10) (v := .ref (ad 35)) (C := RX10) (T := TX10) (N := 37) hx hb htg inX10 hown hE.1 hP 0 rfl rfl 34 (by decide) (htg _ tw1416) (fun _ h9 => h9) rfl dX10_holdsFor_13 ?_
        refine lv_iload_n hx hb dX10_holdsFor_16 rfl (lv_at hl 3 rfl) ?_
        obtain ⟨h9, hf⟩ := gd_s hf
        refine va_iald hx hb hE.1 hP 1 0 rfl rfl h9 dX10_holdsFor_17 ?_
        refine lv_topi (fun t18 h9 => ?_)
        have hf := lb_e h9 hf
        refine lv_istore (lv' := [(4, .int t18), (0, .ref (ad 0)), (1, .int v1), (2, .int v2_4), (3, .int v3_4)]) hx hb dX10_holdsFor_18 hl (by decide) rfl (fun ls hl => ?_)
        refine lv_iload hx hb dX10_holdsFor_20 (lv_at hl 0 rfl) ?_
        refine lv_bipush (v := -23) hx hb dX10_holdsFor_22 (by decide) ?_
        refine lv_icmp_ne (tgt := 48) hx hb dX10_holdsFor_24 (by decide) (fun h9 => ?_) (fun h9 => ?_)
        · have hf := itf h9 hf
          refine lv_iload hx hb dX10_holdsFor_48 (lv_at hl 0 rfl) ?_
          refine lv_bipush (v := -20) hx hb dX10_holdsFor_50 (by decide) ?_
          refine lv_icmp_le (tgt := 87) hx hb dX10_holdsFor_52 (by decide) (fun h9 => ?_) (fun h9 => ?_)
          · have hf := itt h9 hf
            obtain ⟨t87, h9⟩ : ∃ z : Int32, z = (v2_4 + (-1 : Int32)) := ⟨_, rfl⟩
            have hf := lb_e h9 hf
            refine lv_iinc (v := t87) (lv' := [(2, .int t87), (4, .int t18), (0, .ref (ad 0)), (1, .int v1), (3, .int v3_4)]) hx hb dX10_holdsFor_87 hl (k := 3) rfl (by rw [h9]; rfl) (by decide) rfl (fun ls hl => ?_)
            refine lv_aload_n hx hb dX10_holdsFor_90 rfl (lv_at hl 2 rfl) ?_
            refine va_get (D := (dC, dI)) (ci := 10) (v := .ref (ad 36)) (C := RX10) (T := TX10) (N := 37) hx hb htg inX10 hown hE.1 hP 0 rfl rfl 35 (by decide) (htg _ tw1417) (fun _ h9 => h9) rfl dX10_holdsFor_91 ?_
            refine lv_iload_n hx hb dX10_holdsFor_94 rfl (lv_at hl 0 rfl) ?_
            refine lv_iconst (v := 1) hx hb dX10_holdsFor_95 (by decide) ?_
            refine lv_isub hx hb dX10_holdsFor_96 ?_
            refine lv_iload hx hb dX10_holdsFor_97 (lv_at hl 1 rfl) ?_
            refine lv_aload_n hx hb dX10_holdsFor_99 rfl (lv_at hl 2 rfl) ?_
            refine va_get (D := (dC, dI)) (ci := 10) (v := .ref (ad 36)) (C := RX10) (T := TX10) (N := 37) hx hb htg inX10 hown hE.1 hP 0 rfl rfl 35 (by decide) (htg _ tw1417) (fun _ h9 => h9) rfl dX10_holdsFor_100 ?_
            refine lv_iload_n hx hb dX10_holdsFor_103 rfl (lv_at hl 0 rfl) ?_
            refine lv_iconst (v := 1) hx hb dX10_holdsFor_104 (by decide) ?_
            refine lv_isub hx hb dX10_holdsFor_105 ?_
            obtain ⟨h9, hf⟩ := gd_s hf
            refine va_lald hx hb hE.1 hP 4 1 rfl rfl h9 dX10_holdsFor_106 ?_
            refine lv_aload_n hx hb dX10_holdsFor_107 rfl (lv_at hl 2 rfl) ?_
            refine va_get (D := (dC, dI)) (ci := 10) (v := .ref (ad 36)) (C := RX10) (T := TX10) (N := 37) hx hb htg inX10 hown hE.1 hP 0 rfl rfl 35 (by decide) (htg _ tw1417) (fun _ h9 => h9) rfl dX10_holdsFor_108 ?_
            refine lv_iload_n hx hb dX10_holdsFor_111 rfl (lv_at hl 0 rfl) ?_
            obtain ⟨h9, hf⟩ := gd_s hf
            refine va_lald hx hb hE.1 hP 4 1 rfl rfl h9 dX10_holdsFor_112 ?_
            refine gcS (index := 504) S hE (c_X10_operate t18 (m_stack_4 (t87 - (1 : Int32)).toNatClampNeg) (m_stack_4 t87.toNatClampNeg) (p10_operate t18 (m_stack_4 (t87 - (1 : Int32)).toNatClampNeg) (m_stack_4 t87.toNatClampNeg)) rfl) mX10_operate tw2071 ⟨Nat.le_of_ble_eq_true rfl, Nat.le_of_ble_eq_true rfl⟩ hP hD hS hA ⟨Nat.zero_le _, Nat.zero_le _⟩ (wr := [(ad 0, .inr (10, oM ad m_undoCount m_thrown m_hasSnapshot a_m_fam m_rows m_lineLength m_formattedLength m_bufferLength m_limit m_next m_beginsAt m_token m_error m_errorAt m_errorPosition m_nested m_codeCount)), ((ad 35), .inl (cI, 200, .inl m_codes)), (a_m_fam, .inl (cJ, 130, .inr (.inl m_fam))), ((ad 9), .inl (cI, 16, .inl m_generation)), ((ad 36), .inl (cJ, 200, .inr (.inl m_stack_4)))]) [] [0, 1, 2, 3, 4] rfl rfl rfl rfl (by decide) (As := [.int t18, .long (m_stack_4 (t87 - (1 : Int32)).toNatClampNeg), .long (m_stack_4 t87.toNatClampNeg)]) (rest := [.int (t87 - (1 : Int32)), .ref (ad 36)]) rfl hl.1 rfl (Nat.le_of_ble_eq_true rfl) dX10_holdsFor_113 (fun H locs hP hD hS => ?_)
            refine W.eq (g2 := F0 m 116 ls [.long (p10_operate t18 (m_stack_4 (t87 - (1 : Int32)).toNatClampNeg) (m_stack_4 t87.toNatClampNeg)), .int (t87 - (1 : Int32)), .ref (ad 36)]) rfl ?_
            have hP : va_P (dC, dI) vwCl [(ad 0, .inr (10, oM ad m_undoCount m_thrown m_hasSnapshot a_m_fam m_rows m_lineLength m_formattedLength m_bufferLength m_limit m_next m_beginsAt m_token m_error m_errorAt m_errorPosition m_nested m_codeCount)), ((ad 35), .inl (cI, 200, .inl m_codes)), (a_m_fam, .inl (cJ, 130, .inr (.inl m_fam))), ((ad 9), .inl (cI, 16, .inl m_generation)), ((ad 36), .inl (cJ, 200, .inr (.inl m_stack_4)))] H := hP
            have hD : va_D A [(ad 0, .inr (10, oM ad m_undoCount m_thrown m_hasSnapshot a_m_fam m_rows m_lineLength m_formattedLength m_bufferLength m_limit m_next m_beginsAt m_token m_error m_errorAt m_errorPosition m_nested m_codeCount)), ((ad 35), .inl (cI, 200, .inl m_codes)), (a_m_fam, .inl (cJ, 130, .inr (.inl m_fam))), ((ad 9), .inl (cI, 16, .inl m_generation)), ((ad 36), .inl (cJ, 200, .inr (.inl m_stack_4)))] := hD
            obtain ⟨h9, hf⟩ := gd_s hf
            refine va_last hx hb hE.1 hP hD hS 4 1 rfl rfl h9 dX10_holdsFor_116 (fun H locs hP hD hS => ?_)
            obtain ⟨g116, h9⟩ : ∃ z, z = (vp_updL m_stack_4 (t87 - (1 : Int32)).toNatClampNeg (p10_operate t18 (m_stack_4 (t87 - (1 : Int32)).toNatClampNeg) (m_stack_4 t87.toNatClampNeg))) := ⟨_, rfl⟩
            have hf := lb_e h9 hf
            have hP : va_P (dC, dI) vwCl [(ad 0, .inr (10, oM ad m_undoCount m_thrown m_hasSnapshot a_m_fam m_rows m_lineLength m_formattedLength m_bufferLength m_limit m_next m_beginsAt m_token m_error m_errorAt m_errorPosition m_nested m_codeCount)), ((ad 35), .inl (cI, 200, .inl m_codes)), (a_m_fam, .inl (cJ, 130, .inr (.inl m_fam))), ((ad 9), .inl (cI, 16, .inl m_generation)), ((ad 36), .inl (cJ, 200, .inr (.inl g116)))] H := by rw [h9]; exact hP
            have hD : va_D A [(ad 0, .inr (10, oM ad m_undoCount m_thrown m_hasSnapshot a_m_fam m_rows m_lineLength m_formattedLength m_bufferLength m_limit m_next m_beginsAt m_token m_error m_errorAt m_errorPosition m_nested m_codeCount)), ((ad 35), .inl (cI, 200, .inl m_codes)), (a_m_fam, .inl (cJ, 130, .inr (.inl m_fam))), ((ad 9), .inl (cI, 16, .inl m_generation)), ((ad 36), .inl (cJ, 200, .inr (.inl g116)))] := by rw [h9]; exact hD
            obtain ⟨t117, h9⟩ : ∃ z : Int32, z = (v3_4 + (1 : Int32)) := ⟨_, rfl⟩
            have hf := lb_e h9 hf
            refine lv_iinc (v := t117) (lv' := [(3, .int t117), (2, .int t87), (4, .int t18), (0, .ref (ad 0)), (1, .int v1)]) hx hb dX10_holdsFor_117 hl (k := 4) rfl (by rw [h9]; rfl) (by decide) rfl (fun ls hl => ?_)
            refine lv_goto (tgt := 4) hx hb dX10_holdsFor_120 (by decide) ?_
            exact ih4 t87 t117 g116 ex4 H locs ls hf hk4 hP hD hS (lv_sub hl [3, 4, 1, 0] rfl)
          · have hf := itf h9 hf
            refine lv_aload_n hx hb dX10_holdsFor_55 rfl (lv_at hl 1 rfl) ?_
            refine va_get (D := (dC, dI)) (ci := 10) (v := .ref (ad 36)) (C := RX10) (T := TX10) (N := 37) hx hb htg inX10 hown hE.1 hP 0 rfl rfl 35 (by decide) (htg _ tw1417) (fun _ h9 => h9) rfl dX10_holdsFor_56 ?_
            refine lv_iload_n hx hb dX10_holdsFor_59 rfl (lv_at hl 3 rfl) ?_
            refine lv_iload hx hb dX10_holdsFor_60 (lv_at hl 0 rfl) ?_
            refine lv_if_lt (tgt := 71) hx hb dX10_holdsFor_62 (by decide) (fun h9 => ?_) (fun h9 => ?_)
            · have hf := itt h9 hf
              refine lv_aload_n hx hb dX10_holdsFor_71 rfl (lv_at hl 1 rfl) ?_
              refine lv_iload_n hx hb dX10_holdsFor_72 rfl (lv_at hl 2 rfl) ?_
              refine lv_iconst (v := -1) hx hb dX10_holdsFor_73 (by decide) ?_
              refine lv_iload hx hb dX10_holdsFor_74 (lv_at hl 0 rfl) ?_
              refine lv_isub hx hb dX10_holdsFor_76 ?_
              obtain ⟨r77, h9, hf⟩ := ob_s hf
              refine gcV (index := 501) S hE (c_X10_property ad a_m_fam m_undoCount m_thrown m_hasSnapshot m_rows m_lineLength m_formattedLength m_bufferLength m_limit m_next m_beginsAt m_token m_error m_errorAt m_errorPosition m_nested m_codeCount m_fam m_generation v1 ((-1 : Int32) - t18) r77 h9) mX10_property tw2067 ⟨Nat.le_of_ble_eq_true rfl, Nat.le_of_ble_eq_true rfl⟩ hP hD hS hA ⟨Nat.zero_le _, Nat.zero_le _⟩ 0 10 rfl rfl rfl (wr := [((ad 35), .inl (cI, 200, .inl m_codes)), ((ad 36), .inl (cJ, 200, .inr (.inl m_stack_4)))]) [0, 2, 3] [1, 4] rfl rfl rfl rfl (by decide) (As := [.int v1, .int ((-1 : Int32) - t18)]) (rest := [.int v2_4, .ref (ad 36)]) rfl hl.1 rfl (Nat.le_of_ble_eq_true rfl) dX10_holdsFor_77 (fun H locs hP hD hS => ?_)
              refine W.eq (g2 := F0 m 80 ls [.long r77, .int v2_4, .ref (ad 36)]) rfl ?_
              have hP : va_P (dC, dI) vwCl [((ad 35), .inl (cI, 200, .inl m_codes)), ((ad 36), .inl (cJ, 200, .inr (.inl m_stack_4))), (ad 0, .inr (10, oM ad m_undoCount m_thrown m_hasSnapshot a_m_fam m_rows m_lineLength m_formattedLength m_bufferLength m_limit m_next m_beginsAt m_token m_error m_errorAt m_errorPosition m_nested m_codeCount)), (a_m_fam, .inl (cJ, 130, .inr (.inl m_fam))), ((ad 9), .inl (cI, 16, .inl m_generation))] H := hP
              have hD : va_D A [((ad 35), .inl (cI, 200, .inl m_codes)), ((ad 36), .inl (cJ, 200, .inr (.inl m_stack_4))), (ad 0, .inr (10, oM ad m_undoCount m_thrown m_hasSnapshot a_m_fam m_rows m_lineLength m_formattedLength m_bufferLength m_limit m_next m_beginsAt m_token m_error m_errorAt m_errorPosition m_nested m_codeCount)), (a_m_fam, .inl (cJ, 130, .inr (.inl m_fam))), ((ad 9), .inl (cI, 16, .inl m_generation))] := hD
              obtain ⟨h9, hf⟩ := gd_s hf
              refine va_last hx hb hE.1 hP hD hS 1 1 rfl rfl h9 dX10_holdsFor_80 (fun H locs hP hD hS => ?_)
              obtain ⟨g80, h9⟩ : ∃ z, z = (vp_updL m_stack_4 v2_4.toNatClampNeg r77) := ⟨_, rfl⟩
              have hf := lb_e h9 hf
              have hP : va_P (dC, dI) vwCl [((ad 35), .inl (cI, 200, .inl m_codes)), ((ad 36), .inl (cJ, 200, .inr (.inl g80))), (ad 0, .inr (10, oM ad m_undoCount m_thrown m_hasSnapshot a_m_fam m_rows m_lineLength m_formattedLength m_bufferLength m_limit m_next m_beginsAt m_token m_error m_errorAt m_errorPosition m_nested m_codeCount)), (a_m_fam, .inl (cJ, 130, .inr (.inl m_fam))), ((ad 9), .inl (cI, 16, .inl m_generation))] H := by rw [h9]; exact hP
              have hD : va_D A [((ad 35), .inl (cI, 200, .inl m_codes)), ((ad 36), .inl (cJ, 200, .inr (.inl g80))), (ad 0, .inr (10, oM ad m_undoCount m_thrown m_hasSnapshot a_m_fam m_rows m_lineLength m_formattedLength m_bufferLength m_limit m_next m_beginsAt m_token m_error m_errorAt m_errorPosition m_nested m_codeCount)), (a_m_fam, .inl (cJ, 130, .inr (.inl m_fam))), ((ad 9), .inl (cI, 16, .inl m_generation))] := by rw [h9]; exact hD
              obtain ⟨t81, h9⟩ : ∃ z : Int32, z = (v2_4 + (1 : Int32)) := ⟨_, rfl⟩
              have hf := lb_e h9 hf
              refine lv_iinc (v := t81) (lv' := [(2, .int t81), (4, .int t18), (0, .ref (ad 0)), (1, .int v1), (3, .int v3_4)]) hx hb dX10_holdsFor_81 hl (k := 3) rfl (by rw [h9]; rfl) (by decide) rfl (fun ls hl => ?_)
              refine lv_goto (tgt := 117) hx hb dX10_holdsFor_84 (by decide) ?_
              obtain ⟨t117, h9⟩ : ∃ z : Int32, z = (v3_4 + (1 : Int32)) := ⟨_, rfl⟩
              have hf := lb_e h9 hf
              refine lv_iinc (v := t117) (lv' := [(3, .int t117), (2, .int t81), (4, .int t18), (0, .ref (ad 0)), (1, .int v1)]) hx hb dX10_holdsFor_117 hl (k := 4) rfl (by rw [h9]; rfl) (by decide) rfl (fun ls hl => ?_)
              refine lv_goto (tgt := 4) hx hb dX10_holdsFor_120 (by decide) ?_
              exact ih4 t81 t117 g80 ex4 H locs ls hf hk4 (hP.sub [2, 0, 3, 4, 1] rfl) (hD.sub [2, 0, 3, 4, 1] (by decide) rfl) hS (lv_sub hl [3, 4, 1, 0] rfl)
            · have hf := itf h9 hf
              refine lv_iload hx hb dX10_holdsFor_65 (lv_at hl 0 rfl) ?_
              refine lv_i2l hx hb dX10_holdsFor_67 rfl ?_
              refine lv_goto (tgt := 80) hx hb dX10_holdsFor_68 (by decide) ?_
              obtain ⟨h9, hf⟩ := gd_s hf
              refine va_last hx hb hE.1 hP hD hS 4 1 rfl rfl h9 dX10_holdsFor_80 (fun H locs hP hD hS => ?_)
              obtain ⟨g80, h9⟩ : ∃ z, z = (vp_updL m_stack_4 v2_4.toNatClampNeg t18.toInt64) := ⟨_, rfl⟩
              have hf := lb_e h9 hf
              have hP : va_P (dC, dI) vwCl [(ad 0, .inr (10, oM ad m_undoCount m_thrown m_hasSnapshot a_m_fam m_rows m_lineLength m_formattedLength m_bufferLength m_limit m_next m_beginsAt m_token m_error m_errorAt m_errorPosition m_nested m_codeCount)), ((ad 35), .inl (cI, 200, .inl m_codes)), (a_m_fam, .inl (cJ, 130, .inr (.inl m_fam))), ((ad 9), .inl (cI, 16, .inl m_generation)), ((ad 36), .inl (cJ, 200, .inr (.inl g80)))] H := by rw [h9]; exact hP
              have hD : va_D A [(ad 0, .inr (10, oM ad m_undoCount m_thrown m_hasSnapshot a_m_fam m_rows m_lineLength m_formattedLength m_bufferLength m_limit m_next m_beginsAt m_token m_error m_errorAt m_errorPosition m_nested m_codeCount)), ((ad 35), .inl (cI, 200, .inl m_codes)), (a_m_fam, .inl (cJ, 130, .inr (.inl m_fam))), ((ad 9), .inl (cI, 16, .inl m_generation)), ((ad 36), .inl (cJ, 200, .inr (.inl g80)))] := by rw [h9]; exact hD
              obtain ⟨t81, h9⟩ : ∃ z : Int32, z = (v2_4 + (1 : Int32)) := ⟨_, rfl⟩
              have hf := lb_e h9 hf
              refine lv_iinc (v := t81) (lv' := [(2, .int t81), (4, .int t18), (0, .ref (ad 0)), (1, .int v1), (3, .int v3_4)]) hx hb dX10_holdsFor_81 hl (k := 3) rfl (by rw [h9]; rfl) (by decide) rfl (fun ls hl => ?_)
              refine lv_goto (tgt := 117) hx hb dX10_holdsFor_84 (by decide) ?_
              obtain ⟨t117, h9⟩ : ∃ z : Int32, z = (v3_4 + (1 : Int32)) := ⟨_, rfl⟩
              have hf := lb_e h9 hf
              refine lv_iinc (v := t117) (lv' := [(3, .int t117), (2, .int t81), (4, .int t18), (0, .ref (ad 0)), (1, .int v1)]) hx hb dX10_holdsFor_117 hl (k := 4) rfl (by rw [h9]; rfl) (by decide) rfl (fun ls hl => ?_)
              refine lv_goto (tgt := 4) hx hb dX10_holdsFor_120 (by decide) ?_
              exact ih4 t81 t117 g80 ex4 H locs ls hf hk4 hP hD hS (lv_sub hl [3, 4, 1, 0] rfl)
        · have hf := itt h9 hf
          refine lv_aload_n hx hb dX10_holdsFor_27 rfl (lv_at hl 1 rfl) ?_
          refine va_get (D := (dC, dI)) (ci := 10) (v := .ref (ad 36)) (C := RX10) (T := TX10) (N := 37) hx hb htg inX10 hown hE.1 hP 0 rfl rfl 35 (by decide) (htg _ tw1417) (fun _ h9 => h9) rfl dX10_holdsFor_28 ?_
          refine lv_iload_n hx hb dX10_holdsFor_31 rfl (lv_at hl 3 rfl) ?_
          refine lv_iconst (v := 1) hx hb dX10_holdsFor_32 (by decide) ?_
          refine lv_isub hx hb dX10_holdsFor_33 ?_
          refine lv_lconst (v := 1) hx hb dX10_holdsFor_34 (by decide) ?_
          refine lv_aload_n hx hb dX10_holdsFor_35 rfl (lv_at hl 1 rfl) ?_
          refine va_get (D := (dC, dI)) (ci := 10) (v := .ref (ad 36)) (C := RX10) (T := TX10) (N := 37) hx hb htg inX10 hown hE.1 hP 0 rfl rfl 35 (by decide) (htg _ tw1417) (fun _ h9 => h9) rfl dX10_holdsFor_36 ?_
          refine lv_iload_n hx hb dX10_holdsFor_39 rfl (lv_at hl 3 rfl) ?_
          refine lv_iconst (v := 1) hx hb dX10_holdsFor_40 (by decide) ?_
          refine lv_isub hx hb dX10_holdsFor_41 ?_
          obtain ⟨h9, hf⟩ := gd_s hf
          refine va_lald hx hb hE.1 hP 4 1 rfl rfl h9 dX10_holdsFor_42 ?_
          refine lv_lsub hx hb dX10_holdsFor_43 ?_
          obtain ⟨h9, hf⟩ := gd_s hf
          refine va_last hx hb hE.1 hP hD hS 4 1 rfl rfl h9 dX10_holdsFor_44 (fun H locs hP hD hS => ?_)
          obtain ⟨g44, h9⟩ : ∃ z, z = (vp_updL m_stack_4 (v2_4 - (1 : Int32)).toNatClampNeg ((1 : Int64) - (m_stack_4 (v2_4 - (1 : Int32)).toNatClampNeg))) := ⟨_, rfl⟩
          have hf := lb_e h9 hf
          have hP : va_P (dC, dI) vwCl [(ad 0, .inr (10, oM ad m_undoCount m_thrown m_hasSnapshot a_m_fam m_rows m_lineLength m_formattedLength m_bufferLength m_limit m_next m_beginsAt m_token m_error m_errorAt m_errorPosition m_nested m_codeCount)), ((ad 35), .inl (cI, 200, .inl m_codes)), (a_m_fam, .inl (cJ, 130, .inr (.inl m_fam))), ((ad 9), .inl (cI, 16, .inl m_generation)), ((ad 36), .inl (cJ, 200, .inr (.inl g44)))] H := by rw [h9]; exact hP
          have hD : va_D A [(ad 0, .inr (10, oM ad m_undoCount m_thrown m_hasSnapshot a_m_fam m_rows m_lineLength m_formattedLength m_bufferLength m_limit m_next m_beginsAt m_token m_error m_errorAt m_errorPosition m_nested m_codeCount)), ((ad 35), .inl (cI, 200, .inl m_codes)), (a_m_fam, .inl (cJ, 130, .inr (.inl m_fam))), ((ad 9), .inl (cI, 16, .inl m_generation)), ((ad 36), .inl (cJ, 200, .inr (.inl g44)))] := by rw [h9]; exact hD
          refine lv_goto (tgt := 117) hx hb dX10_holdsFor_45 (by decide) ?_
          obtain ⟨t117, h9⟩ : ∃ z : Int32, z = (v3_4 + (1 : Int32)) := ⟨_, rfl⟩
          have hf := lb_e h9 hf
          refine lv_iinc (v := t117) (lv' := [(3, .int t117), (4, .int t18), (0, .ref (ad 0)), (1, .int v1), (2, .int v2_4)]) hx hb dX10_holdsFor_117 hl (k := 4) rfl (by rw [h9]; rfl) (by decide) rfl (fun ls hl => ?_)
          refine lv_goto (tgt := 4) hx hb dX10_holdsFor_120 (by decide) ?_
          exact ih4 v2_4 t117 g44 ex4 H locs ls hf hk4 hP hD hS (lv_sub hl [2, 3, 4, 0] rfl)
  obtain ⟨ex, h9, hf⟩ := ob_s hf
  exact K4 FU (0 : Int32) (0 : Int32) m_stack ex H locs ls h9 hf hP hD hS (lv_sub hl [2, 3, 1, 0] rfl)
def p10_layPlaces_J44 (m_boxAt_44 : Nat → Int32) : Option ((Nat → Int32)) := some m_boxAt_44
def p10_layPlaces_L2_B (m_fam : Nat → Int64) (m_isThere : Nat → Bool) (m_rowOf : Nat → Int32) (k2 : Int32 → (Nat → Int32) → Option ((Nat → Int32))) (v1_2 : Int32) (m_boxAt_2 : Nat → Int32) : Option ((Nat → Int32)) := (if (28 : Int32) ≤ v1_2 then some m_boxAt_2 else gd v1_2 28 ((cond ((m_isThere v1_2.toNatClampNeg)) (gd v1_2 28 (ob (p10_placeOf m_fam v1_2) (fun r32 => gd (((28 : Int32) * (m_rowOf v1_2.toNatClampNeg)) + r32) 448 (lb (upd m_boxAt_2 (((28 : Int32) * (m_rowOf v1_2.toNatClampNeg)) + r32).toNatClampNeg v1_2) (fun g37 => lb (v1_2 + (1 : Int32)) (fun t38 => (k2 t38 g37))))))) (lb (v1_2 + (1 : Int32)) (fun t38 => (k2 t38 m_boxAt_2))))))
def p10_layPlaces_L2 (m_fam : Nat → Int64) (m_isThere : Nat → Bool) (m_rowOf : Nat → Int32) : Nat → Int32 → (Nat → Int32) → Option ((Nat → Int32))
  | 0, _, _ => none
  | n+1, v1_2, m_boxAt_2 => p10_layPlaces_L2_B m_fam m_isThere m_rowOf (p10_layPlaces_L2 m_fam m_isThere m_rowOf n) v1_2 m_boxAt_2
def p10_layPlaces (m_boxAt : Nat → Int32) (m_fam : Nat → Int64) (m_isThere : Nat → Bool) (m_rowOf : Nat → Int32) : Option ((Nat → Int32)) := (ob (p10_layPlaces_L2 m_fam m_isThere m_rowOf FU (0 : Int32) m_boxAt) (fun m_boxAt_x2 => p10_layPlaces_J44 m_boxAt_x2))
set_option maxHeartbeats 4000000 in
set_option maxRecDepth 100000 in
theorem c_X10_layPlaces (ad : Nat → Nat) (a_m_fam : Nat) (m_undoCount : Int32) (m_thrown : Int32) (m_hasSnapshot : Bool) (m_rows : Int32) (m_lineLength : Int32) (m_formattedLength : Int32) (m_bufferLength : Int32) (m_limit : Int32) (m_next : Int32) (m_beginsAt : Int32) (m_token : Int32) (m_error : Int32) (m_errorAt : Int32) (m_errorPosition : Int32) (m_nested : Int32) (m_codeCount : Int32) (m_boxAt : Nat → Int32) (m_fam : Nat → Int64) (m_isThere : Nat → Bool) (m_rowOf : Nat → Int32) (m_boxAt_9 : Nat → Int32) (hf : p10_layPlaces m_boxAt m_fam m_isThere m_rowOf = some m_boxAt_9) : gM l dC dI cI cJ cZ yX10_layPlaces cX10_layPlaces 2 none 1 21 [.ref (ad 0)] [(ad 0, .inr (10, oM ad m_undoCount m_thrown m_hasSnapshot a_m_fam m_rows m_lineLength m_formattedLength m_bufferLength m_limit m_next m_beginsAt m_token m_error m_errorAt m_errorPosition m_nested m_codeCount)), ((ad 14), .inl (cI, 448, .inl m_boxAt)), (a_m_fam, .inl (cJ, 130, .inr (.inl m_fam))), ((ad 13), .inl (cZ, 28, .inl (bF m_isThere))), ((ad 12), .inl (cI, 28, .inl m_rowOf))] [(ad 0, .inr (10, oM ad m_undoCount m_thrown m_hasSnapshot a_m_fam m_rows m_lineLength m_formattedLength m_bufferLength m_limit m_next m_beginsAt m_token m_error m_errorAt m_errorPosition m_nested m_codeCount)), ((ad 14), .inl (cI, 448, .inl m_boxAt_9)), (a_m_fam, .inl (cJ, 130, .inr (.inl m_fam))), ((ad 13), .inl (cZ, 28, .inl (bF m_isThere))), ((ad 12), .inl (cI, 28, .inl m_rowOf))] none := by
  refine g_start (own := RX10) (by decide +kernel) rfl (Nat.le_of_ble_eq_true rfl) ?_
  intro p e s m below meth c A ls S hr hlocks hE hP hD hS hA hl hin
  have hx := S.1
  have hb := S.2.1
  have hml := S.2.2.1
  have hown := S.2.2.2.1
  have htg : ∀ w ∈ gw, w.before ([.ref (ad 0)] : List Value).toArray s = true := fun w h => S.2.2.2.2 w (List.mem_cons_of_mem _ h)
  have hl : lv_has ls 2 [(0, .ref (ad 0))] := hl
  have hS0 := hS
  obtain ⟨H, hH⟩ : ∃ H, H = s.heap := ⟨_, rfl⟩
  obtain ⟨locs, hlc⟩ : ∃ locs : List Loc, locs = [] := ⟨_, rfl⟩
  have hS : va_S A s.heap H locs := by rw [hH, hlc]; exact hS0
  have hP : va_P (dC, dI) vwCl [(ad 0, .inr (10, oM ad m_undoCount m_thrown m_hasSnapshot a_m_fam m_rows m_lineLength m_formattedLength m_bufferLength m_limit m_next m_beginsAt m_token m_error m_errorAt m_errorPosition m_nested m_codeCount)), ((ad 14), .inl (cI, 448, .inl m_boxAt)), (a_m_fam, .inl (cJ, 130, .inr (.inl m_fam))), ((ad 13), .inl (cZ, 28, .inl (bF m_isThere))), ((ad 12), .inl (cI, 28, .inl m_rowOf))] H := by rw [hH]; exact hP
  suffices hgo : W p l e ({ frames := 1, cells := 0, slots := 0, locals := 21 }) s m ([.ref (ad 0)] : List Value).toArray below meth c H locs 0 0 (MQ below (gQ dC dI none A [(ad 0, .inr (10, oM ad m_undoCount m_thrown m_hasSnapshot a_m_fam m_rows m_lineLength m_formattedLength m_bufferLength m_limit m_next m_beginsAt m_token m_error m_errorAt m_errorPosition m_nested m_codeCount)), ((ad 14), .inl (cI, 448, .inl m_boxAt_9)), (a_m_fam, .inl (cJ, 130, .inr (.inl m_fam))), ((ad 13), .inl (cZ, 28, .inl (bF m_isThere))), ((ad 12), .inl (cI, 28, .inl m_rowOf))]) ([.ref (ad 0)] : List Value).toArray s 0 0 A) (F0 m 0 ls []) by rw [hH, hlc] at hgo; exact hgo
  rw [p10_layPlaces] at hf
  have J44 : ∀ (m_boxAt_44 : Nat → Int32) (H : Heap) (locs : List Loc) (ls : Array Slot), p10_layPlaces_J44 m_boxAt_44 = some m_boxAt_9 → va_P (dC, dI) vwCl [(ad 0, .inr (10, oM ad m_undoCount m_thrown m_hasSnapshot a_m_fam m_rows m_lineLength m_formattedLength m_bufferLength m_limit m_next m_beginsAt m_token m_error m_errorAt m_errorPosition m_nested m_codeCount)), ((ad 14), .inl (cI, 448, .inl m_boxAt_44)), (a_m_fam, .inl (cJ, 130, .inr (.inl m_fam))), ((ad 13), .inl (cZ, 28, .inl (bF m_isThere))), ((ad 12), .inl (cI, 28, .inl m_rowOf))] H → va_D A [(ad 0, .inr (10, oM ad m_undoCount m_thrown m_hasSnapshot a_m_fam m_rows m_lineLength m_formattedLength m_bufferLength m_limit m_next m_beginsAt m_token m_error m_errorAt m_errorPosition m_nested m_codeCount)), ((ad 14), .inl (cI, 448, .inl m_boxAt_44)), (a_m_fam, .inl (cJ, 130, .inr (.inl m_fam))), ((ad 13), .inl (cZ, 28, .inl (bF m_isThere))), ((ad 12), .inl (cI, 28, .inl m_rowOf))] → va_S A s.heap H locs → lv_has ls 2 [] → W p l e ({ frames := 1, cells := 0, slots := 0, locals := 21 }) s m ([.ref (ad 0)] : List Value).toArray below meth c H locs 0 0 (MQ below (gQ dC dI none A [(ad 0, .inr (10, oM ad m_undoCount m_thrown m_hasSnapshot a_m_fam m_rows m_lineLength m_formattedLength m_bufferLength m_limit m_next m_beginsAt m_token m_error m_errorAt m_errorPosition m_nested m_codeCount)), ((ad 14), .inl (cI, 448, .inl m_boxAt_9)), (a_m_fam, .inl (cJ, 130, .inr (.inl m_fam))), ((ad 13), .inl (cZ, 28, .inl (bF m_isThere))), ((ad 12), .inl (cI, 28, .inl m_rowOf))]) ([.ref (ad 0)] : List Value).toArray s 0 0 A) (F0 m 44 ls []) := by
    intro m_boxAt_44 H locs ls hf hP hD hS hl
    rw [p10_layPlaces_J44] at hf
    cases hf
    exact g_vret S hr hlocks hP hD hS dX10_layPlaces_44
  refine lv_iconst (v := 0) hx hb dX10_layPlaces_0 (by decide) ?_
  refine lv_istore_n (lv' := [(1, .int (0 : Int32)), (0, .ref (ad 0))]) hx hb dX10_layPlaces_1 rfl hl (by decide) rfl (fun ls hl => ?_)
  have K2 : ∀ (n2 : Nat) (v1_2 : Int32) (m_boxAt_2 : Nat → Int32) (ex2 : (Nat → Int32)) (H : Heap) (locs : List Loc) (ls : Array Slot), p10_layPlaces_L2 m_fam m_isThere m_rowOf n2 v1_2 m_boxAt_2 = some ex2 → (fun m_boxAt_x2 => p10_layPlaces_J44 m_boxAt_x2) ex2 = some m_boxAt_9 → va_P (dC, dI) vwCl [(ad 0, .inr (10, oM ad m_undoCount m_thrown m_hasSnapshot a_m_fam m_rows m_lineLength m_formattedLength m_bufferLength m_limit m_next m_beginsAt m_token m_error m_errorAt m_errorPosition m_nested m_codeCount)), ((ad 14), .inl (cI, 448, .inl m_boxAt_2)), (a_m_fam, .inl (cJ, 130, .inr (.inl m_fam))), ((ad 13), .inl (cZ, 28, .inl (bF m_isThere))), ((ad 12), .inl (cI, 28, .inl m_rowOf))] H → va_D A [(ad 0, .inr (10, oM ad m_undoCount m_thrown m_hasSnapshot a_m_fam m_rows m_lineLength m_formattedLength m_bufferLength m_limit m_next m_beginsAt m_token m_error m_errorAt m_errorPosition m_nested m_codeCount)), ((ad 14), .inl (cI, 448, .inl m_boxAt_2)), (a_m_fam, .inl (cJ, 130, .inr (.inl m_fam))), ((ad 13), .inl (cZ, 28, .inl (bF m_isThere))), ((ad 12), .inl (cI, 28, .inl m_rowOf))] → va_S A s.heap H locs → lv_has ls 2 [(0, .ref (ad 0)), (1, .int v1_2)] → W p l e ({ frames := 1, cells := 0, slots := 0, locals := 21 }) s m ([.ref (ad 0)] : List Value).toArray below meth c H locs 0 0 (MQ below (gQ dC dI none A [(ad 0, .inr (10, oM ad m_undoCount m_thrown m_hasSnapshot a_m_fam m_rows m_lineLength m_formattedLength m_bufferLength m_limit m_next m_beginsAt m_token m_error m_errorAt m_errorPosition m_nested m_codeCount)), ((ad 14), .inl (cI, 448, .inl m_boxAt_9)), (a_m_fam, .inl (cJ, 130, .inr (.inl m_fam))), ((ad 13), .inl (cZ, 28, .inl (bF m_isThere))), ((ad 12), .inl (cI, 28, .inl m_rowOf))]) ([.ref (ad 0)] : List Value).toArray s 0 0 A) (F0 m 2 ls []) := by
    intro n2
    induction n2 with
    | zero => intro v1_2 m_boxAt_2 ex2 H locs ls hf; rw [p10_layPlaces_L2] at hf; cases hf
    | succ n2 ih2 =>
      intro v1_2 m_boxAt_2 ex2 H locs ls hf hk2 hP hD hS hl
      rw [p10_layPlaces_L2, p10_layPlaces_L2_B] at hf
      refine lv_iload_n hx hb dX10_layPlaces_2 rfl (lv_at hl 1 rfl) ?_
      refine lv_bipush (v := 28) hx hb dX10_layPlaces_3 (by decide) ?_
      refine lv_icmp_ge (tgt := 44) hx hb dX10_layPlaces_5 (by decide) (fun h9 => ?_) (fun h9 => ?_)
      · have hf := itt h9 hf
        cases hf
        have hf := hk2
        exact J44 m_boxAt_2 H locs ls hf hP hD hS (lv_sub hl [] rfl)
      · have hf := itf h9 hf
        refine lv_aload_n hx hb dX10_layPlaces_8 rfl (lv_at hl 0 rfl) ?_
        refine va_get (D := (dC, dI)) (ci := 10) (v := .ref (ad 13)) (C := RX10) (T := TX10) (N := 37) hx hb htg inX10 hown hE.1 hP 0 rfl rfl 12 (by decide) (htg _ tw1394) (fun _ h9 => h9) rfl dX10_layPlaces_9 ?_
        refine lv_iload_n hx hb dX10_layPlaces_12 rfl (lv_at hl 1 rfl) ?_
        obtain ⟨h9, hf⟩ := gd_s hf
        refine va_zald hx hb hE.1 hP 3 2 rfl rfl h9 dX10_layPlaces_13 ?_
        refine W.eq (g2 := F0 m 14 ls [.int (bI (m_isThere v1_2.toNatClampNeg))]) rfl ?_
        refine lv_if_eq (tgt := 38) hx hb dX10_layPlaces_14 (by decide) (fun h9 => ?_) (fun h9 => ?_)
        · have hf := ctf (bI_0 h9) hf
          obtain ⟨t38, h9⟩ : ∃ z : Int32, z = (v1_2 + (1 : Int32)) := ⟨_, rfl⟩
          have hf := lb_e h9 hf
          refine lv_iinc (v := t38) (lv' := [(1, .int t38), (0, .ref (ad 0))]) hx hb dX10_layPlaces_38 hl (k := 1) rfl (by rw [h9]; rfl) (by decide) rfl (fun ls hl => ?_)
          refine lv_goto (tgt := 2) hx hb dX10_layPlaces_41 (by decide) ?_
          exact ih2 t38 m_boxAt_2 ex2 H locs ls hf hk2 hP hD hS (lv_sub hl [1, 0] rfl)
        · have hf := ctt (bI_1 h9) hf
          refine lv_aload_n hx hb dX10_layPlaces_17 rfl (lv_at hl 0 rfl) ?_
          refine va_get (D := (dC, dI)) (ci := 10) (v := .ref (ad 14)) (C := RX10) (T := TX10) (N := 37) hx hb htg inX10 hown hE.1 hP 0 rfl rfl 13 (by decide) (htg _ tw1395) (fun _ h9 => h9) rfl dX10_layPlaces_18 ?_
          refine lv_bipush (v := 28) hx hb dX10_layPlaces_21 (by decide) ?_
          refine lv_aload_n hx hb dX10_layPlaces_23 rfl (lv_at hl 0 rfl) ?_
          refine va_get (D := (dC, dI)) (ci := 10) (v := .ref (ad 12)) (C := RX10) (T := TX10) (N := 37) hx hb htg inX10 hown hE.1 hP 0 rfl rfl 11 (by decide) (htg _ tw1393) (fun _ h9 => h9) rfl dX10_layPlaces_24 ?_
          refine lv_iload_n hx hb dX10_layPlaces_27 rfl (lv_at hl 1 rfl) ?_
          obtain ⟨h9, hf⟩ := gd_s hf
          refine va_iald hx hb hE.1 hP 4 0 rfl rfl h9 dX10_layPlaces_28 ?_
          refine lv_imul hx hb dX10_layPlaces_29 ?_
          refine lv_aload_n hx hb dX10_layPlaces_30 rfl (lv_at hl 0 rfl) ?_
          refine lv_iload_n hx hb dX10_layPlaces_31 rfl (lv_at hl 1 rfl) ?_
          obtain ⟨r32, h9, hf⟩ := ob_s hf
          refine gcV (index := 147) S hE (c_X10_placeOf ad a_m_fam m_undoCount m_thrown m_hasSnapshot m_rows m_lineLength m_formattedLength m_bufferLength m_limit m_next m_beginsAt m_token m_error m_errorAt m_errorPosition m_nested m_codeCount m_fam v1_2 r32 h9) mX10_placeOf tw1548 ⟨Nat.le_of_ble_eq_true rfl, Nat.le_of_ble_eq_true rfl⟩ hP hD hS hA ⟨Nat.zero_le _, Nat.zero_le _⟩ 0 10 rfl rfl rfl (wr := [((ad 14), .inl (cI, 448, .inl m_boxAt_2)), ((ad 13), .inl (cZ, 28, .inl (bF m_isThere))), ((ad 12), .inl (cI, 28, .inl m_rowOf))]) [0, 2] [1, 3, 4] rfl rfl rfl rfl (by decide) (As := [.int v1_2]) (rest := [.int ((28 : Int32) * (m_rowOf v1_2.toNatClampNeg)), .ref (ad 14)]) rfl hl.1 rfl (Nat.le_of_ble_eq_true rfl) dX10_layPlaces_32 (fun H locs hP hD hS => ?_)
          refine W.eq (g2 := F0 m 35 ls [.int r32, .int ((28 : Int32) * (m_rowOf v1_2.toNatClampNeg)), .ref (ad 14)]) rfl ?_
          have hP : va_P (dC, dI) vwCl [((ad 14), .inl (cI, 448, .inl m_boxAt_2)), ((ad 13), .inl (cZ, 28, .inl (bF m_isThere))), ((ad 12), .inl (cI, 28, .inl m_rowOf)), (ad 0, .inr (10, oM ad m_undoCount m_thrown m_hasSnapshot a_m_fam m_rows m_lineLength m_formattedLength m_bufferLength m_limit m_next m_beginsAt m_token m_error m_errorAt m_errorPosition m_nested m_codeCount)), (a_m_fam, .inl (cJ, 130, .inr (.inl m_fam)))] H := hP
          have hD : va_D A [((ad 14), .inl (cI, 448, .inl m_boxAt_2)), ((ad 13), .inl (cZ, 28, .inl (bF m_isThere))), ((ad 12), .inl (cI, 28, .inl m_rowOf)), (ad 0, .inr (10, oM ad m_undoCount m_thrown m_hasSnapshot a_m_fam m_rows m_lineLength m_formattedLength m_bufferLength m_limit m_next m_beginsAt m_token m_error m_errorAt m_errorPosition m_nested m_codeCount)), (a_m_fam, .inl (cJ, 130, .inr (.inl m_fam)))] := hD
          refine lv_iadd hx hb dX10_layPlaces_35 ?_
          refine lv_iload_n hx hb dX10_layPlaces_36 rfl (lv_at hl 1 rfl) ?_
          obtain ⟨h9, hf⟩ := gd_s hf
          refine va_iast hx hb hE.1 hP hD hS 0 0 rfl rfl h9 dX10_layPlaces_37 (fun H locs hP hD hS => ?_)
          obtain ⟨g37, h9⟩ : ∃ z, z = (upd m_boxAt_2 (((28 : Int32) * (m_rowOf v1_2.toNatClampNeg)) + r32).toNatClampNeg v1_2) := ⟨_, rfl⟩
          have hf := lb_e h9 hf
          have hP : va_P (dC, dI) vwCl [((ad 14), .inl (cI, 448, .inl g37)), ((ad 13), .inl (cZ, 28, .inl (bF m_isThere))), ((ad 12), .inl (cI, 28, .inl m_rowOf)), (ad 0, .inr (10, oM ad m_undoCount m_thrown m_hasSnapshot a_m_fam m_rows m_lineLength m_formattedLength m_bufferLength m_limit m_next m_beginsAt m_token m_error m_errorAt m_errorPosition m_nested m_codeCount)), (a_m_fam, .inl (cJ, 130, .inr (.inl m_fam)))] H := by rw [h9]; exact hP
          have hD : va_D A [((ad 14), .inl (cI, 448, .inl g37)), ((ad 13), .inl (cZ, 28, .inl (bF m_isThere))), ((ad 12), .inl (cI, 28, .inl m_rowOf)), (ad 0, .inr (10, oM ad m_undoCount m_thrown m_hasSnapshot a_m_fam m_rows m_lineLength m_formattedLength m_bufferLength m_limit m_next m_beginsAt m_token m_error m_errorAt m_errorPosition m_nested m_codeCount)), (a_m_fam, .inl (cJ, 130, .inr (.inl m_fam)))] := by rw [h9]; exact hD
          obtain ⟨t38, h9⟩ : ∃ z : Int32, z = (v1_2 + (1 : Int32)) := ⟨_, rfl⟩
          have hf := lb_e h9 hf
          refine lv_iinc (v := t38) (lv' := [(1, .int t38), (0, .ref (ad 0))]) hx hb dX10_layPlaces_38 hl (k := 1) rfl (by rw [h9]; rfl) (by decide) rfl (fun ls hl => ?_)
          refine lv_goto (tgt := 2) hx hb dX10_layPlaces_41 (by decide) ?_
          exact ih2 t38 g37 ex2 H locs ls hf hk2 (hP.sub [3, 0, 4, 1, 2] rfl) (hD.sub [3, 0, 4, 1, 2] (by decide) rfl) hS (lv_sub hl [1, 0] rfl)
  obtain ⟨ex, h9, hf⟩ := ob_s hf
  exact K2 FU (0 : Int32) m_boxAt ex H locs ls h9 hf hP hD hS (lv_sub hl [1, 0] rfl)
def p10_makePlain_J73 (m_boxAt : Nat → Int32) (m_rows_73 : Int32) (m_fam_73 : Nat → Int64) (m_generation_73 : Nat → Int32) (m_isThere_73 : Nat → Bool) (m_level_73 : Nat → Int32) (m_rowOf_73 : Nat → Int32) (m_rowSize_73 : Nat → Int32) : Option ((Nat → Int32) × (Nat → Int64) × (Nat → Int32) × (Nat → Bool) × (Nat → Int32) × (Nat → Int32) × (Nat → Int32) × Int32) := ob (p10_layPlaces m_boxAt m_fam_73 m_isThere_73 m_rowOf_73) (fun m_boxAt_74 => some (m_boxAt_74, m_fam_73, m_generation_73, m_isThere_73, m_level_73, m_rowOf_73, m_rowSize_73, m_rows_73))
def p10_makePlain_J67 (k10 : Int32 → (Nat → Int64) → Option ((Nat → Int64))) (v1_10 : Int32) (m_fam_67 : Nat → Int64) : Option ((Nat → Int64)) := lb (v1_10 + (1 : Int32)) (fun t67 => (k10 t67 m_fam_67))
def p10_makePlain_L22_B (m_isThere_5 : Nat → Bool) (m_rowOf_5 : Nat → Int32) (v1_10 : Int32) (k22 : Int32 → Int32 → (Nat → Int64) → Option ((Nat → Int64))) (v2_22 : Int32) (v3_22 : Int32) (m_fam_22 : Nat → Int64) : Option ((Nat → Int64)) := (if (28 : Int32) ≤ v3_22 then some m_fam_22 else gd v3_22 28 ((cond ((m_isThere_5 v3_22.toNatClampNeg)) (gd v3_22 28 ((if (m_rowOf_5 v3_22.toNatClampNeg) = v1_10 then gd ((102 : Int32) + v3_22) 130 (lb (vp_updL m_fam_22 ((102 : Int32) + v3_22).toNatClampNeg v2_22.toInt64) (fun g57 => lb (v2_22 + (1 : Int32)) (fun t58 => lb (v3_22 + (1 : Int32)) (fun t61 => (k22 t58 t61 g57))))) else lb (v3_22 + (1 : Int32)) (fun t61 => (k22 v2_22 t61 m_fam_22))))) (lb (v3_22 + (1 : Int32)) (fun t61 => (k22 v2_22 t61 m_fam_22))))))
def p10_makePlain_L22 (m_isThere_5 : Nat → Bool) (m_rowOf_5 : Nat → Int32) (v1_10 : Int32) : Nat → Int32 → Int32 → (Nat → Int64) → Option ((Nat → Int64))
  | 0, _, _, _ => none
  | n+1, v2_22, v3_22, m_fam_22 => p10_makePlain_L22_B m_isThere_5 m_rowOf_5 v1_10 (p10_makePlain_L22 m_isThere_5 m_rowOf_5 v1_10 n) v2_22 v3_22 m_fam_22
def p10_makePlain_L10_B (m_isThere_5 : Nat → Bool) (m_rowOf_5 : Nat → Int32) (m_rows_1 : Int32) (k10 : Int32 → (Nat → Int64) → Option ((Nat → Int64))) (v1_10 : Int32) (m_fam_10 : Nat → Int64) : Option ((Nat → Int64)) := (if m_rows_1 ≤ v1_10 then some m_fam_10 else (ob (p10_makePlain_L22 m_isThere_5 m_rowOf_5 v1_10 FU (0 : Int32) (0 : Int32) m_fam_10) (fun m_fam_x22 => p10_makePlain_J67 k10 v1_10 m_fam_x22)))
def p10_makePlain_L10 (m_isThere_5 : Nat → Bool) (m_rowOf_5 : Nat → Int32) (m_rows_1 : Int32) : Nat → Int32 → (Nat → Int64) → Option ((Nat → Int64))
  | 0, _, _ => none
  | n+1, v1_10, m_fam_10 => p10_makePlain_L10_B m_isThere_5 m_rowOf_5 m_rows_1 (p10_makePlain_L10 m_isThere_5 m_rowOf_5 m_rows_1 n) v1_10 m_fam_10
def p10_makePlain (m_boxAt : Nat → Int32) (m_fam : Nat → Int64) (m_generation : Nat → Int32) (m_isThere : Nat → Bool) (m_level : Nat → Int32) (m_rowOf : Nat → Int32) (m_rowSize : Nat → Int32) : Option ((Nat → Int32) × (Nat → Int64) × (Nat → Int32) × (Nat → Bool) × (Nat → Int32) × (Nat → Int32) × (Nat → Int32) × Int32) := ob (p10_layGenerations m_fam m_generation m_level) (uc3 fun m_generation_1 m_level_1 m_rows_1 => ob (p10_layBoxes m_fam m_generation_1 m_isThere m_level_1 m_rowOf m_rowSize) (uc3 fun m_isThere_5 m_rowOf_5 m_rowSize_5 => (ob (p10_makePlain_L10 m_isThere_5 m_rowOf_5 m_rows_1 FU (0 : Int32) m_fam) (fun m_fam_x10 => p10_makePlain_J73 m_boxAt m_rows_1 m_fam_x10 m_generation_1 m_isThere_5 m_level_1 m_rowOf_5 m_rowSize_5))))
set_option maxHeartbeats 4000000 in
set_option maxRecDepth 100000 in
theorem c_X10_makePlain (ad : Nat → Nat) (a_m_fam : Nat) (m_undoCount : Int32) (m_thrown : Int32) (m_hasSnapshot : Bool) (m_rows : Int32) (m_lineLength : Int32) (m_formattedLength : Int32) (m_bufferLength : Int32) (m_limit : Int32) (m_next : Int32) (m_beginsAt : Int32) (m_token : Int32) (m_error : Int32) (m_errorAt : Int32) (m_errorPosition : Int32) (m_nested : Int32) (m_codeCount : Int32) (m_boxAt : Nat → Int32) (m_fam : Nat → Int64) (m_generation : Nat → Int32) (m_isThere : Nat → Bool) (m_level : Nat → Int32) (m_rowOf : Nat → Int32) (m_rowSize : Nat → Int32) (m_boxAt_9 : Nat → Int32) (m_fam_9 : Nat → Int64) (m_generation_9 : Nat → Int32) (m_isThere_9 : Nat → Bool) (m_level_9 : Nat → Int32) (m_rowOf_9 : Nat → Int32) (m_rowSize_9 : Nat → Int32) (m_rows_9 : Int32) (hf : p10_makePlain m_boxAt m_fam m_generation m_isThere m_level m_rowOf m_rowSize = some (m_boxAt_9, m_fam_9, m_generation_9, m_isThere_9, m_level_9, m_rowOf_9, m_rowSize_9, m_rows_9)) : gM l dC dI cI cJ cZ yX10_makePlain cX10_makePlain 4 none 3 67 [.ref (ad 0)] [(ad 0, .inr (10, oM ad m_undoCount m_thrown m_hasSnapshot a_m_fam m_rows m_lineLength m_formattedLength m_bufferLength m_limit m_next m_beginsAt m_token m_error m_errorAt m_errorPosition m_nested m_codeCount)), ((ad 14), .inl (cI, 448, .inl m_boxAt)), (a_m_fam, .inl (cJ, 130, .inr (.inl m_fam))), ((ad 9), .inl (cI, 16, .inl m_generation)), ((ad 13), .inl (cZ, 28, .inl (bF m_isThere))), ((ad 10), .inl (cI, 12, .inl m_level)), ((ad 12), .inl (cI, 28, .inl m_rowOf)), ((ad 11), .inl (cI, 16, .inl m_rowSize))] [(ad 0, .inr (10, oM ad m_undoCount m_thrown m_hasSnapshot a_m_fam m_rows_9 m_lineLength m_formattedLength m_bufferLength m_limit m_next m_beginsAt m_token m_error m_errorAt m_errorPosition m_nested m_codeCount)), ((ad 14), .inl (cI, 448, .inl m_boxAt_9)), (a_m_fam, .inl (cJ, 130, .inr (.inl m_fam_9))), ((ad 9), .inl (cI, 16, .inl m_generation_9)), ((ad 13), .inl (cZ, 28, .inl (bF m_isThere_9))), ((ad 10), .inl (cI, 12, .inl m_level_9)), ((ad 12), .inl (cI, 28, .inl m_rowOf_9)), ((ad 11), .inl (cI, 16, .inl m_rowSize_9))] none := by
  refine g_start (own := RX10) (by decide +kernel) rfl (Nat.le_of_ble_eq_true rfl) ?_
  intro p e s m below meth c A ls S hr hlocks hE hP hD hS hA hl hin
  have hx := S.1
  have hb := S.2.1
  have hml := S.2.2.1
  have hown := S.2.2.2.1
  have htg : ∀ w ∈ gw, w.before ([.ref (ad 0)] : List Value).toArray s = true := fun w h => S.2.2.2.2 w (List.mem_cons_of_mem _ h)
  have hl : lv_has ls 4 [(0, .ref (ad 0))] := hl
  have hS0 := hS
  obtain ⟨H, hH⟩ : ∃ H, H = s.heap := ⟨_, rfl⟩
  obtain ⟨locs, hlc⟩ : ∃ locs : List Loc, locs = [] := ⟨_, rfl⟩
  have hS : va_S A s.heap H locs := by rw [hH, hlc]; exact hS0
  have hP : va_P (dC, dI) vwCl [(ad 0, .inr (10, oM ad m_undoCount m_thrown m_hasSnapshot a_m_fam m_rows m_lineLength m_formattedLength m_bufferLength m_limit m_next m_beginsAt m_token m_error m_errorAt m_errorPosition m_nested m_codeCount)), ((ad 14), .inl (cI, 448, .inl m_boxAt)), (a_m_fam, .inl (cJ, 130, .inr (.inl m_fam))), ((ad 9), .inl (cI, 16, .inl m_generation)), ((ad 13), .inl (cZ, 28, .inl (bF m_isThere))), ((ad 10), .inl (cI, 12, .inl m_level)), ((ad 12), .inl (cI, 28, .inl m_rowOf)), ((ad 11), .inl (cI, 16, .inl m_rowSize))] H := by rw [hH]; exact hP
  suffices hgo : W p l e ({ frames := 3, cells := 0, slots := 0, locals := 67 }) s m ([.ref (ad 0)] : List Value).toArray below meth c H locs 0 0 (MQ below (gQ dC dI none A [(ad 0, .inr (10, oM ad m_undoCount m_thrown m_hasSnapshot a_m_fam m_rows_9 m_lineLength m_formattedLength m_bufferLength m_limit m_next m_beginsAt m_token m_error m_errorAt m_errorPosition m_nested m_codeCount)), ((ad 14), .inl (cI, 448, .inl m_boxAt_9)), (a_m_fam, .inl (cJ, 130, .inr (.inl m_fam_9))), ((ad 9), .inl (cI, 16, .inl m_generation_9)), ((ad 13), .inl (cZ, 28, .inl (bF m_isThere_9))), ((ad 10), .inl (cI, 12, .inl m_level_9)), ((ad 12), .inl (cI, 28, .inl m_rowOf_9)), ((ad 11), .inl (cI, 16, .inl m_rowSize_9))]) ([.ref (ad 0)] : List Value).toArray s 0 0 A) (F0 m 0 ls []) by rw [hH, hlc] at hgo; exact hgo
  rw [p10_makePlain] at hf
  have J73 : ∀ (m_rows_73 : Int32) (m_fam_73 : Nat → Int64) (m_generation_73 : Nat → Int32) (m_isThere_73 : Nat → Bool) (m_level_73 : Nat → Int32) (m_rowOf_73 : Nat → Int32) (m_rowSize_73 : Nat → Int32) (H : Heap) (locs : List Loc) (ls : Array Slot), p10_makePlain_J73 m_boxAt m_rows_73 m_fam_73 m_generation_73 m_isThere_73 m_level_73 m_rowOf_73 m_rowSize_73 = some (m_boxAt_9, m_fam_9, m_generation_9, m_isThere_9, m_level_9, m_rowOf_9, m_rowSize_9, m_rows_9) → va_P (dC, dI) vwCl [(ad 0, .inr (10, oM ad m_undoCount m_thrown m_hasSnapshot a_m_fam m_rows_73 m_lineLength m_formattedLength m_bufferLength m_limit m_next m_beginsAt m_token m_error m_errorAt m_errorPosition m_nested m_codeCount)), ((ad 14), .inl (cI, 448, .inl m_boxAt)), (a_m_fam, .inl (cJ, 130, .inr (.inl m_fam_73))), ((ad 9), .inl (cI, 16, .inl m_generation_73)), ((ad 13), .inl (cZ, 28, .inl (bF m_isThere_73))), ((ad 10), .inl (cI, 12, .inl m_level_73)), ((ad 12), .inl (cI, 28, .inl m_rowOf_73)), ((ad 11), .inl (cI, 16, .inl m_rowSize_73))] H → va_D A [(ad 0, .inr (10, oM ad m_undoCount m_thrown m_hasSnapshot a_m_fam m_rows_73 m_lineLength m_formattedLength m_bufferLength m_limit m_next m_beginsAt m_token m_error m_errorAt m_errorPosition m_nested m_codeCount)), ((ad 14), .inl (cI, 448, .inl m_boxAt)), (a_m_fam, .inl (cJ, 130, .inr (.inl m_fam_73))), ((ad 9), .inl (cI, 16, .inl m_generation_73)), ((ad 13), .inl (cZ, 28, .inl (bF m_isThere_73))), ((ad 10), .inl (cI, 12, .inl m_level_73)), ((ad 12), .inl (cI, 28, .inl m_rowOf_73)), ((ad 11), .inl (cI, 16, .inl m_rowSize_73))] → va_S A s.heap H locs → lv_has ls 4 [(0, .ref (ad 0))] → W p l e ({ frames := 3, cells := 0, slots := 0, locals := 67 }) s m ([.ref (ad 0)] : List Value).toArray below meth c H locs 0 0 (MQ below (gQ dC dI none A [(ad 0, .inr (10, oM ad m_undoCount m_thrown m_hasSnapshot a_m_fam m_rows_9 m_lineLength m_formattedLength m_bufferLength m_limit m_next m_beginsAt m_token m_error m_errorAt m_errorPosition m_nested m_codeCount)), ((ad 14), .inl (cI, 448, .inl m_boxAt_9)), (a_m_fam, .inl (cJ, 130, .inr (.inl m_fam_9))), ((ad 9), .inl (cI, 16, .inl m_generation_9)), ((ad 13), .inl (cZ, 28, .inl (bF m_isThere_9))), ((ad 10), .inl (cI, 12, .inl m_level_9)), ((ad 12), .inl (cI, 28, .inl m_rowOf_9)), ((ad 11), .inl (cI, 16, .inl m_rowSize_9))]) ([.ref (ad 0)] : List Value).toArray s 0 0 A) (F0 m 73 ls []) := by
    intro m_rows_73 m_fam_73 m_generation_73 m_isThere_73 m_level_73 m_rowOf_73 m_rowSize_73 H locs ls hf hP hD hS hl
    rw [p10_makePlain_J73] at hf
    refine lv_aload_n hx hb dX10_makePlain_73 rfl (lv_at hl 0 rfl) ?_
    obtain ⟨m_boxAt_74, h9, hf⟩ := ob_s hf
    refine gcV (index := 144) S hE (c_X10_layPlaces ad a_m_fam m_undoCount m_thrown m_hasSnapshot m_rows_73 m_lineLength m_formattedLength m_bufferLength m_limit m_next m_beginsAt m_token m_error m_errorAt m_errorPosition m_nested m_codeCount m_boxAt m_fam_73 m_isThere_73 m_rowOf_73 m_boxAt_74 h9) mX10_layPlaces tw1544 ⟨Nat.le_of_ble_eq_true rfl, Nat.le_of_ble_eq_true rfl⟩ hP hD hS hA ⟨Nat.zero_le _, Nat.zero_le _⟩ 0 10 rfl rfl rfl (wr := [((ad 9), .inl (cI, 16, .inl m_generation_73)), ((ad 10), .inl (cI, 12, .inl m_level_73)), ((ad 11), .inl (cI, 16, .inl m_rowSize_73))]) [0, 1, 2, 4, 6] [3, 5, 7] rfl rfl rfl rfl (by decide) (As := []) (rest := []) rfl hl.1 rfl (Nat.le_of_ble_eq_true rfl) dX10_makePlain_74 (fun H locs hP hD hS => ?_)
    refine W.eq (g2 := F0 m 77 ls []) rfl ?_
    have hP : va_P (dC, dI) vwCl [((ad 9), .inl (cI, 16, .inl m_generation_73)), ((ad 10), .inl (cI, 12, .inl m_level_73)), ((ad 11), .inl (cI, 16, .inl m_rowSize_73)), (ad 0, .inr (10, oM ad m_undoCount m_thrown m_hasSnapshot a_m_fam m_rows_73 m_lineLength m_formattedLength m_bufferLength m_limit m_next m_beginsAt m_token m_error m_errorAt m_errorPosition m_nested m_codeCount)), ((ad 14), .inl (cI, 448, .inl m_boxAt_74)), (a_m_fam, .inl (cJ, 130, .inr (.inl m_fam_73))), ((ad 13), .inl (cZ, 28, .inl (bF m_isThere_73))), ((ad 12), .inl (cI, 28, .inl m_rowOf_73))] H := hP
    have hD : va_D A [((ad 9), .inl (cI, 16, .inl m_generation_73)), ((ad 10), .inl (cI, 12, .inl m_level_73)), ((ad 11), .inl (cI, 16, .inl m_rowSize_73)), (ad 0, .inr (10, oM ad m_undoCount m_thrown m_hasSnapshot a_m_fam m_rows_73 m_lineLength m_formattedLength m_bufferLength m_limit m_next m_beginsAt m_token m_error m_errorAt m_errorPosition m_nested m_codeCount)), ((ad 14), .inl (cI, 448, .inl m_boxAt_74)), (a_m_fam, .inl (cJ, 130, .inr (.inl m_fam_73))), ((ad 13), .inl (cZ, 28, .inl (bF m_isThere_73))), ((ad 12), .inl (cI, 28, .inl m_rowOf_73))] := hD
    cases hf
    exact g_vret S hr hlocks (hP.sub [3, 4, 5, 0, 6, 1, 7, 2] rfl) (hD.sub [3, 4, 5, 0, 6, 1, 7, 2] (by decide) rfl) hS dX10_makePlain_77
  refine lv_aload_n hx hb dX10_makePlain_0 rfl (lv_at hl 0 rfl) ?_
  obtain ⟨⟨m_generation_1, m_level_1, m_rows_1⟩, h9, hf⟩ := ob_s hf
  have hf := uc3_e hf
  refine gcV (index := 138) S hE (c_X10_layGenerations ad a_m_fam m_undoCount m_thrown m_hasSnapshot m_rows m_lineLength m_formattedLength m_bufferLength m_limit m_next m_beginsAt m_token m_error m_errorAt m_errorPosition m_nested m_codeCount m_fam m_generation m_level m_generation_1 m_level_1 m_rows_1 h9) mX10_layGenerations tw1507 ⟨Nat.le_of_ble_eq_true rfl, Nat.le_of_ble_eq_true rfl⟩ hP hD hS hA ⟨Nat.zero_le _, Nat.zero_le _⟩ 0 10 rfl rfl rfl (wr := [((ad 14), .inl (cI, 448, .inl m_boxAt)), ((ad 13), .inl (cZ, 28, .inl (bF m_isThere))), ((ad 12), .inl (cI, 28, .inl m_rowOf)), ((ad 11), .inl (cI, 16, .inl m_rowSize))]) [0, 2, 3, 5] [1, 4, 6, 7] rfl rfl rfl rfl (by decide) (As := []) (rest := []) rfl hl.1 rfl (Nat.le_of_ble_eq_true rfl) dX10_makePlain_1 (fun H locs hP hD hS => ?_)
  refine W.eq (g2 := F0 m 4 ls []) rfl ?_
  have hP : va_P (dC, dI) vwCl [((ad 14), .inl (cI, 448, .inl m_boxAt)), ((ad 13), .inl (cZ, 28, .inl (bF m_isThere))), ((ad 12), .inl (cI, 28, .inl m_rowOf)), ((ad 11), .inl (cI, 16, .inl m_rowSize)), (ad 0, .inr (10, oM ad m_undoCount m_thrown m_hasSnapshot a_m_fam m_rows_1 m_lineLength m_formattedLength m_bufferLength m_limit m_next m_beginsAt m_token m_error m_errorAt m_errorPosition m_nested m_codeCount)), (a_m_fam, .inl (cJ, 130, .inr (.inl m_fam))), ((ad 9), .inl (cI, 16, .inl m_generation_1)), ((ad 10), .inl (cI, 12, .inl m_level_1))] H := hP
  have hD : va_D A [((ad 14), .inl (cI, 448, .inl m_boxAt)), ((ad 13), .inl (cZ, 28, .inl (bF m_isThere))), ((ad 12), .inl (cI, 28, .inl m_rowOf)), ((ad 11), .inl (cI, 16, .inl m_rowSize)), (ad 0, .inr (10, oM ad m_undoCount m_thrown m_hasSnapshot a_m_fam m_rows_1 m_lineLength m_formattedLength m_bufferLength m_limit m_next m_beginsAt m_token m_error m_errorAt m_errorPosition m_nested m_codeCount)), (a_m_fam, .inl (cJ, 130, .inr (.inl m_fam))), ((ad 9), .inl (cI, 16, .inl m_generation_1)), ((ad 10), .inl (cI, 12, .inl m_level_1))] := hD
  refine lv_aload_n hx hb dX10_makePlain_4 rfl (lv_at hl 0 rfl) ?_
  obtain ⟨⟨m_isThere_5, m_rowOf_5, m_rowSize_5⟩, h9, hf⟩ := ob_s hf
  have hf := uc3_e hf
  refine gcV (index := 141) S hE (c_X10_layBoxes ad a_m_fam m_undoCount m_thrown m_hasSnapshot m_rows_1 m_lineLength m_formattedLength m_bufferLength m_limit m_next m_beginsAt m_token m_error m_errorAt m_errorPosition m_nested m_codeCount m_fam m_generation_1 m_isThere m_level_1 m_rowOf m_rowSize m_isThere_5 m_rowOf_5 m_rowSize_5 h9) mX10_layBoxes tw1536 ⟨Nat.le_of_ble_eq_true rfl, Nat.le_of_ble_eq_true rfl⟩ hP hD hS hA ⟨Nat.zero_le _, Nat.zero_le _⟩ 4 10 rfl rfl rfl (wr := [((ad 14), .inl (cI, 448, .inl m_boxAt))]) [4, 5, 6, 1, 7, 2, 3] [0] rfl rfl rfl rfl (by decide) (As := []) (rest := []) rfl hl.1 rfl (Nat.le_of_ble_eq_true rfl) dX10_makePlain_5 (fun H locs hP hD hS => ?_)
  refine W.eq (g2 := F0 m 8 ls []) rfl ?_
  have hP : va_P (dC, dI) vwCl [((ad 14), .inl (cI, 448, .inl m_boxAt)), (ad 0, .inr (10, oM ad m_undoCount m_thrown m_hasSnapshot a_m_fam m_rows_1 m_lineLength m_formattedLength m_bufferLength m_limit m_next m_beginsAt m_token m_error m_errorAt m_errorPosition m_nested m_codeCount)), (a_m_fam, .inl (cJ, 130, .inr (.inl m_fam))), ((ad 9), .inl (cI, 16, .inl m_generation_1)), ((ad 13), .inl (cZ, 28, .inl (bF m_isThere_5))), ((ad 10), .inl (cI, 12, .inl m_level_1)), ((ad 12), .inl (cI, 28, .inl m_rowOf_5)), ((ad 11), .inl (cI, 16, .inl m_rowSize_5))] H := hP
  have hD : va_D A [((ad 14), .inl (cI, 448, .inl m_boxAt)), (ad 0, .inr (10, oM ad m_undoCount m_thrown m_hasSnapshot a_m_fam m_rows_1 m_lineLength m_formattedLength m_bufferLength m_limit m_next m_beginsAt m_token m_error m_errorAt m_errorPosition m_nested m_codeCount)), (a_m_fam, .inl (cJ, 130, .inr (.inl m_fam))), ((ad 9), .inl (cI, 16, .inl m_generation_1)), ((ad 13), .inl (cZ, 28, .inl (bF m_isThere_5))), ((ad 10), .inl (cI, 12, .inl m_level_1)), ((ad 12), .inl (cI, 28, .inl m_rowOf_5)), ((ad 11), .inl (cI, 16, .inl m_rowSize_5))] := hD
  refine lv_iconst (v := 0) hx hb dX10_makePlain_8 (by decide) ?_
  refine lv_istore_n (lv' := [(1, .int (0 : Int32)), (0, .ref (ad 0))]) hx hb dX10_makePlain_9 rfl hl (by decide) rfl (fun ls hl => ?_)
  have K10 : ∀ (n10 : Nat) (v1_10 : Int32) (m_fam_10 : Nat → Int64) (ex10 : (Nat → Int64)) (H : Heap) (locs : List Loc) (ls : Array Slot), p10_makePlain_L10 m_isThere_5 m_rowOf_5 m_rows_1 n10 v1_10 m_fam_10 = some ex10 → (fun m_fam_x10 => p10_makePlain_J73 m_boxAt m_rows_1 m_fam_x10 m_generation_1 m_isThere_5 m_level_1 m_rowOf_5 m_rowSize_5) ex10 = some (m_boxAt_9, m_fam_9, m_generation_9, m_isThere_9, m_level_9, m_rowOf_9, m_rowSize_9, m_rows_9) → va_P (dC, dI) vwCl [(ad 0, .inr (10, oM ad m_undoCount m_thrown m_hasSnapshot a_m_fam m_rows_1 m_lineLength m_formattedLength m_bufferLength m_limit m_next m_beginsAt m_token m_error m_errorAt m_errorPosition m_nested m_codeCount)), ((ad 14), .inl (cI, 448, .inl m_boxAt)), (a_m_fam, .inl (cJ, 130, .inr (.inl m_fam_10))), ((ad 9), .inl (cI, 16, .inl m_generation_1)), ((ad 13), .inl (cZ, 28, .inl (bF m_isThere_5))), ((ad 10), .inl (cI, 12, .inl m_level_1)), ((ad 12), .inl (cI, 28, .inl m_rowOf_5)), ((ad 11), .inl (cI, 16, .inl m_rowSize_5))] H → va_D A [(ad 0, .inr (10, oM ad m_undoCount m_thrown m_hasSnapshot a_m_fam m_rows_1 m_lineLength m_formattedLength m_bufferLength m_limit m_next m_beginsAt m_token m_error m_errorAt m_errorPosition m_nested m_codeCount)), ((ad 14), .inl (cI, 448, .inl m_boxAt)), (a_m_fam, .inl (cJ, 130, .inr (.inl m_fam_10))), ((ad 9), .inl (cI, 16, .inl m_generation_1)), ((ad 13), .inl (cZ, 28, .inl (bF m_isThere_5))), ((ad 10), .inl (cI, 12, .inl m_level_1)), ((ad 12), .inl (cI, 28, .inl m_rowOf_5)), ((ad 11), .inl (cI, 16, .inl m_rowSize_5))] → va_S A s.heap H locs → lv_has ls 4 [(0, .ref (ad 0)), (1, .int v1_10)] → W p l e ({ frames := 3, cells := 0, slots := 0, locals := 67 }) s m ([.ref (ad 0)] : List Value).toArray below meth c H locs 0 0 (MQ below (gQ dC dI none A [(ad 0, .inr (10, oM ad m_undoCount m_thrown m_hasSnapshot a_m_fam m_rows_9 m_lineLength m_formattedLength m_bufferLength m_limit m_next m_beginsAt m_token m_error m_errorAt m_errorPosition m_nested m_codeCount)), ((ad 14), .inl (cI, 448, .inl m_boxAt_9)), (a_m_fam, .inl (cJ, 130, .inr (.inl m_fam_9))), ((ad 9), .inl (cI, 16, .inl m_generation_9)), ((ad 13), .inl (cZ, 28, .inl (bF m_isThere_9))), ((ad 10), .inl (cI, 12, .inl m_level_9)), ((ad 12), .inl (cI, 28, .inl m_rowOf_9)), ((ad 11), .inl (cI, 16, .inl m_rowSize_9))]) ([.ref (ad 0)] : List Value).toArray s 0 0 A) (F0 m 10 ls []) := by
    intro n10
    induction n10 with
    | zero => intro v1_10 m_fam_10 ex10 H locs ls hf; rw [p10_makePlain_L10] at hf; cases hf
    | succ n10 ih10 =>
      intro v1_10 m_fam_10 ex10 H locs ls hf hk10 hP hD hS hl
      rw [p10_makePlain_L10, p10_makePlain_L10_B] at hf
      have J67 : ∀ (m_fam_67 : Nat → Int64) (H : Heap) (locs : List Loc) (ls : Array Slot), p10_makePlain_J67 (p10_makePlain_L10 m_isThere_5 m_rowOf_5 m_rows_1 n10) v1_10 m_fam_67 = some ex10 → va_P (dC, dI) vwCl [(ad 0, .inr (10, oM ad m_undoCount m_thrown m_hasSnapshot a_m_fam m_rows_1 m_lineLength m_formattedLength m_bufferLength m_limit m_next m_beginsAt m_token m_error m_errorAt m_errorPosition m_nested m_codeCount)), ((ad 14), .inl (cI, 448, .inl m_boxAt)), (a_m_fam, .inl (cJ, 130, .inr (.inl m_fam_67))), ((ad 9), .inl (cI, 16, .inl m_generation_1)), ((ad 13), .inl (cZ, 28, .inl (bF m_isThere_5))), ((ad 10), .inl (cI, 12, .inl m_level_1)), ((ad 12), .inl (cI, 28, .inl m_rowOf_5)), ((ad 11), .inl (cI, 16, .inl m_rowSize_5))] H → va_D A [(ad 0, .inr (10, oM ad m_undoCount m_thrown m_hasSnapshot a_m_fam m_rows_1 m_lineLength m_formattedLength m_bufferLength m_limit m_next m_beginsAt m_token m_error m_errorAt m_errorPosition m_nested m_codeCount)), ((ad 14), .inl (cI, 448, .inl m_boxAt)), (a_m_fam, .inl (cJ, 130, .inr (.inl m_fam_67))), ((ad 9), .inl (cI, 16, .inl m_generation_1)), ((ad 13), .inl (cZ, 28, .inl (bF m_isThere_5))), ((ad 10), .inl (cI, 12, .inl m_level_1)), ((ad 12), .inl (cI, 28, .inl m_rowOf_5)), ((ad 11), .inl (cI, 16, .inl m_rowSize_5))] → va_S A s.heap H locs → lv_has ls 4 [(0, .ref (ad 0)), (1, .int v1_10)] → W p l e ({ frames := 3, cells := 0, slots := 0, locals := 67 }) s m ([.ref (ad 0)] : List Value).toArray below meth c H locs 0 0 (MQ below (gQ dC dI none A [(ad 0, .inr (10, oM ad m_undoCount m_thrown m_hasSnapshot a_m_fam m_rows_9 m_lineLength m_formattedLength m_bufferLength m_limit m_next m_beginsAt m_token m_error m_errorAt m_errorPosition m_nested m_codeCount)), ((ad 14), .inl (cI, 448, .inl m_boxAt_9)), (a_m_fam, .inl (cJ, 130, .inr (.inl m_fam_9))), ((ad 9), .inl (cI, 16, .inl m_generation_9)), ((ad 13), .inl (cZ, 28, .inl (bF m_isThere_9))), ((ad 10), .inl (cI, 12, .inl m_level_9)), ((ad 12), .inl (cI, 28, .inl m_rowOf_9)), ((ad 11), .inl (cI, 16, .inl m_rowSize_9))]) ([.ref (ad 0)] : List Value).toArray s 0 0 A) (F0 m 67 ls []) := by
        intro m_fam_67 H locs ls hf hP hD hS hl
        rw [p10_makePlain_J67] at hf
        obtain ⟨t67, h9⟩ : ∃ z : Int32, z = (v1_10 + (1 : Int32)) := ⟨_, rfl⟩
        have hf := lb_e h9 hf
        refine lv_iinc (v := t67) (lv' := [(1, .int t67), (0, .ref (ad 0))]) hx hb dX10_makePlain_67 hl (k := 1) rfl (by rw [h9]; rfl) (by decide) rfl (fun ls hl => ?_)
        refine lv_goto (tgt := 10) hx hb dX10_makePlain_70 (by decide) ?_
        exact ih10 t67 m_fam_67 ex10 H locs ls hf hk10 hP hD hS (lv_sub hl [1, 0] rfl)
      refine lv_iload_n hx hb dX10_makePlain_10 rfl (lv_at hl 1 rfl) ?_
      refine lv_aload_n hx hb dX10_makePlain_11 rfl (lv_at hl 0 rfl) ?_
      refine va_get (D := (dC, dI)) (ci := 10) (v := .int m_rows_1) (C := RX10) (T := TX10) (N := 37) hx hb htg inX10 hown hE.1 hP 0 rfl rfl 14 (by decide) (htg _ tw1396) (fun _ h9 => h9) rfl dX10_makePlain_12 ?_
      refine lv_icmp_ge (tgt := 73) hx hb dX10_makePlain_15 (by decide) (fun h9 => ?_) (fun h9 => ?_)
      · have hf := itt h9 hf
        cases hf
        have hf := hk10
        exact J73 m_rows_1 m_fam_10 m_generation_1 m_isThere_5 m_level_1 m_rowOf_5 m_rowSize_5 H locs ls hf hP hD hS (lv_sub hl [0] rfl)
      · have hf := itf h9 hf
        refine lv_iconst (v := 0) hx hb dX10_makePlain_18 (by decide) ?_
        refine lv_istore_n (lv' := [(2, .int (0 : Int32)), (0, .ref (ad 0)), (1, .int v1_10)]) hx hb dX10_makePlain_19 rfl hl (by decide) rfl (fun ls hl => ?_)
        refine lv_iconst (v := 0) hx hb dX10_makePlain_20 (by decide) ?_
        refine lv_istore_n (lv' := [(3, .int (0 : Int32)), (2, .int (0 : Int32)), (0, .ref (ad 0)), (1, .int v1_10)]) hx hb dX10_makePlain_21 rfl hl (by decide) rfl (fun ls hl => ?_)
        have K22 : ∀ (n22 : Nat) (v2_22 : Int32) (v3_22 : Int32) (m_fam_22 : Nat → Int64) (ex22 : (Nat → Int64)) (H : Heap) (locs : List Loc) (ls : Array Slot), p10_makePlain_L22 m_isThere_5 m_rowOf_5 v1_10 n22 v2_22 v3_22 m_fam_22 = some ex22 → (fun m_fam_x22 => p10_makePlain_J67 (p10_makePlain_L10 m_isThere_5 m_rowOf_5 m_rows_1 n10) v1_10 m_fam_x22) ex22 = some ex10 → va_P (dC, dI) vwCl [(ad 0, .inr (10, oM ad m_undoCount m_thrown m_hasSnapshot a_m_fam m_rows_1 m_lineLength m_formattedLength m_bufferLength m_limit m_next m_beginsAt m_token m_error m_errorAt m_errorPosition m_nested m_codeCount)), ((ad 14), .inl (cI, 448, .inl m_boxAt)), (a_m_fam, .inl (cJ, 130, .inr (.inl m_fam_22))), ((ad 9), .inl (cI, 16, .inl m_generation_1)), ((ad 13), .inl (cZ, 28, .inl (bF m_isThere_5))), ((ad 10), .inl (cI, 12, .inl m_level_1)), ((ad 12), .inl (cI, 28, .inl m_rowOf_5)), ((ad 11), .inl (cI, 16, .inl m_rowSize_5))] H → va_D A [(ad 0, .inr (10, oM ad m_undoCount m_thrown m_hasSnapshot a_m_fam m_rows_1 m_lineLength m_formattedLength m_bufferLength m_limit m_next m_beginsAt m_token m_error m_errorAt m_errorPosition m_nested m_codeCount)), ((ad 14), .inl (cI, 448, .inl m_boxAt)), (a_m_fam, .inl (cJ, 130, .inr (.inl m_fam_22))), ((ad 9), .inl (cI, 16, .inl m_generation_1)), ((ad 13), .inl (cZ, 28, .inl (bF m_isThere_5))), ((ad 10), .inl (cI, 12, .inl m_level_1)), ((ad 12), .inl (cI, 28, .inl m_rowOf_5)), ((ad 11), .inl (cI, 16, .inl m_rowSize_5))] → va_S A s.heap H locs → lv_has ls 4 [(0, .ref (ad 0)), (1, .int v1_10), (2, .int v2_22), (3, .int v3_22)] → W p l e ({ frames := 3, cells := 0, slots := 0, locals := 67 }) s m ([.ref (ad 0)] : List Value).toArray below meth c H locs 0 0 (MQ below (gQ dC dI none A [(ad 0, .inr (10, oM ad m_undoCount m_thrown m_hasSnapshot a_m_fam m_rows_9 m_lineLength m_formattedLength m_bufferLength m_limit m_next m_beginsAt m_token m_error m_errorAt m_errorPosition m_nested m_codeCount)), ((ad 14), .inl (cI, 448, .inl m_boxAt_9)), (a_m_fam, .inl (cJ, 130, .inr (.inl m_fam_9))), ((ad 9), .inl (cI, 16, .inl m_generation_9)), ((ad 13), .inl (cZ, 28, .inl (bF m_isThere_9))), ((ad 10), .inl (cI, 12, .inl m_level_9)), ((ad 12), .inl (cI, 28, .inl m_rowOf_9)), ((ad 11), .inl (cI, 16, .inl m_rowSize_9))]) ([.ref (ad 0)] : List Value).toArray s 0 0 A) (F0 m 22 ls []) := by
          intro n22
          induction n22 with
          | zero => intro v2_22 v3_22 m_fam_22 ex22 H locs ls hf; rw [p10_makePlain_L22] at hf; cases hf
          | succ n22 ih22 =>
            intro v2_22 v3_22 m_fam_22 ex22 H locs ls hf hk22 hP hD hS hl
            rw [p10_makePlain_L22, p10_makePlain_L22_B] at hf
            refine lv_iload_n hx hb dX10_makePlain_22 rfl (lv_at hl 3 rfl) ?_
            refine lv_bipush (v := 28) hx hb dX10_makePlain_23 (by decide) ?_
            refine lv_icmp_ge (tgt := 67) hx hb dX10_makePlain_25 (by decide) (fun h9 => ?_) (fun h9 => ?_)
            · have hf := itt h9 hf
              cases hf
              have hf := hk22
              exact J67 m_fam_22 H locs ls hf hP hD hS (lv_sub hl [0, 1] rfl)
            · have hf := itf h9 hf
              refine lv_aload_n hx hb dX10_makePlain_28 rfl (lv_at hl 0 rfl) ?_
              refine va_get (D := (dC, dI)) (ci := 10) (v := .ref (ad 13)) (C := RX10) (T := TX10) (N := 37) hx hb htg inX10 hown hE.1 hP 0 rfl rfl 12 (by decide) (htg _ tw1394) (fun _ h9 => h9) rfl dX10_makePlain_29 ?_
              refine lv_iload_n hx hb dX10_makePlain_32 rfl (lv_at hl 3 rfl) ?_
              obtain ⟨h9, hf⟩ := gd_s hf
              refine va_zald hx hb hE.1 hP 4 2 rfl rfl h9 dX10_makePlain_33 ?_
              refine W.eq (g2 := F0 m 34 ls [.int (bI (m_isThere_5 v3_22.toNatClampNeg))]) rfl ?_
              refine lv_if_eq (tgt := 61) hx hb dX10_makePlain_34 (by decide) (fun h9 => ?_) (fun h9 => ?_)
              · have hf := ctf (bI_0 h9) hf
                obtain ⟨t61, h9⟩ : ∃ z : Int32, z = (v3_22 + (1 : Int32)) := ⟨_, rfl⟩
                have hf := lb_e h9 hf
                refine lv_iinc (v := t61) (lv' := [(3, .int t61), (0, .ref (ad 0)), (1, .int v1_10), (2, .int v2_22)]) hx hb dX10_makePlain_61 hl (k := 3) rfl (by rw [h9]; rfl) (by decide) rfl (fun ls hl => ?_)
                refine lv_goto (tgt := 22) hx hb dX10_makePlain_64 (by decide) ?_
                exact ih22 v2_22 t61 m_fam_22 ex22 H locs ls hf hk22 hP hD hS (lv_sub hl [1, 2, 3, 0] rfl)
              · have hf := ctt (bI_1 h9) hf
                refine lv_aload_n hx hb dX10_makePlain_37 rfl (lv_at hl 0 rfl) ?_
                refine va_get (D := (dC, dI)) (ci := 10) (v := .ref (ad 12)) (C := RX10) (T := TX10) (N := 37) hx hb htg inX10 hown hE.1 hP 0 rfl rfl 11 (by decide) (htg _ tw1393) (fun _ h9 => h9) rfl dX10_makePlain_38 ?_
                refine lv_iload_n hx hb dX10_makePlain_41 rfl (lv_at hl 3 rfl) ?_
                obtain ⟨h9, hf⟩ := gd_s hf
                refine va_iald hx hb hE.1 hP 6 0 rfl rfl h9 dX10_makePlain_42 ?_
                refine lv_iload_n hx hb dX10_makePlain_43 rfl (lv_at hl 1 rfl) ?_
                refine lv_icmp_ne (tgt := 61) hx hb dX10_makePlain_44 (by decide) (fun h9 => ?_) (fun h9 => ?_)
                · have hf := itf h9 hf
                  obtain ⟨t61, h9⟩ : ∃ z : Int32, z = (v3_22 + (1 : Int32)) := ⟨_, rfl⟩
                  have hf := lb_e h9 hf
                  refine lv_iinc (v := t61) (lv' := [(3, .int t61), (0, .ref (ad 0)), (1, .int v1_10), (2, .int v2_22)]) hx hb dX10_makePlain_61 hl (k := 3) rfl (by rw [h9]; rfl) (by decide) rfl (fun ls hl => ?_)
                  refine lv_goto (tgt := 22) hx hb dX10_makePlain_64 (by decide) ?_
                  exact ih22 v2_22 t61 m_fam_22 ex22 H locs ls hf hk22 hP hD hS (lv_sub hl [1, 2, 3, 0] rfl)
                · have hf := itt h9 hf
                  refine lv_aload_n hx hb dX10_makePlain_47 rfl (lv_at hl 0 rfl) ?_
                  refine va_get (D := (dC, dI)) (ci := 10) (v := .ref a_m_fam) (C := RX10) (T := TX10) (N := 37) hx hb htg inX10 hown hE.1 hP 0 rfl rfl 7 (by decide) (htg _ tw1389) (fun _ h9 => h9) rfl dX10_makePlain_48 ?_
                  refine lv_bipush (v := 102) hx hb dX10_makePlain_51 (by decide) ?_
                  refine lv_iload_n hx hb dX10_makePlain_53 rfl (lv_at hl 3 rfl) ?_
                  refine lv_iadd hx hb dX10_makePlain_54 ?_
                  refine lv_iload_n hx hb dX10_makePlain_55 rfl (lv_at hl 2 rfl) ?_
                  refine lv_i2l hx hb dX10_makePlain_56 rfl ?_
                  obtain ⟨h9, hf⟩ := gd_s hf
                  refine va_last hx hb hE.1 hP hD hS 2 1 rfl rfl h9 dX10_makePlain_57 (fun H locs hP hD hS => ?_)
                  obtain ⟨g57, h9⟩ : ∃ z, z = (vp_updL m_fam_22 ((102 : Int32) + v3_22).toNatClampNeg v2_22.toInt64) := ⟨_, rfl⟩
                  have hf := lb_e h9 hf
                  have hP : va_P (dC, dI) vwCl [(ad 0, .inr (10, oM ad m_undoCount m_thrown m_hasSnapshot a_m_fam m_rows_1 m_lineLength m_formattedLength m_bufferLength m_limit m_next m_beginsAt m_token m_error m_errorAt m_errorPosition m_nested m_codeCount)), ((ad 14), .inl (cI, 448, .inl m_boxAt)), (a_m_fam, .inl (cJ, 130, .inr (.inl g57))), ((ad 9), .inl (cI, 16, .inl m_generation_1)), ((ad 13), .inl (cZ, 28, .inl (bF m_isThere_5))), ((ad 10), .inl (cI, 12, .inl m_level_1)), ((ad 12), .inl (cI, 28, .inl m_rowOf_5)), ((ad 11), .inl (cI, 16, .inl m_rowSize_5))] H := by rw [h9]; exact hP
                  have hD : va_D A [(ad 0, .inr (10, oM ad m_undoCount m_thrown m_hasSnapshot a_m_fam m_rows_1 m_lineLength m_formattedLength m_bufferLength m_limit m_next m_beginsAt m_token m_error m_errorAt m_errorPosition m_nested m_codeCount)), ((ad 14), .inl (cI, 448, .inl m_boxAt)), (a_m_fam, .inl (cJ, 130, .inr (.inl g57))), ((ad 9), .inl (cI, 16, .inl m_generation_1)), ((ad 13), .inl (cZ, 28, .inl (bF m_isThere_5))), ((ad 10), .inl (cI, 12, .inl m_level_1)), ((ad 12), .inl (cI, 28, .inl m_rowOf_5)), ((ad 11), .inl (cI, 16, .inl m_rowSize_5))] := by rw [h9]; exact hD
                  obtain ⟨t58, h9⟩ : ∃ z : Int32, z = (v2_22 + (1 : Int32)) := ⟨_, rfl⟩
                  have hf := lb_e h9 hf
                  refine lv_iinc (v := t58) (lv' := [(2, .int t58), (0, .ref (ad 0)), (1, .int v1_10), (3, .int v3_22)]) hx hb dX10_makePlain_58 hl (k := 2) rfl (by rw [h9]; rfl) (by decide) rfl (fun ls hl => ?_)
                  obtain ⟨t61, h9⟩ : ∃ z : Int32, z = (v3_22 + (1 : Int32)) := ⟨_, rfl⟩
                  have hf := lb_e h9 hf
                  refine lv_iinc (v := t61) (lv' := [(3, .int t61), (2, .int t58), (0, .ref (ad 0)), (1, .int v1_10)]) hx hb dX10_makePlain_61 hl (k := 3) rfl (by rw [h9]; rfl) (by decide) rfl (fun ls hl => ?_)
                  refine lv_goto (tgt := 22) hx hb dX10_makePlain_64 (by decide) ?_
                  exact ih22 t58 t61 g57 ex22 H locs ls hf hk22 hP hD hS (lv_sub hl [2, 3, 1, 0] rfl)
        obtain ⟨ex, h9, hf⟩ := ob_s hf
        exact K22 FU (0 : Int32) (0 : Int32) m_fam_10 ex H locs ls h9 hf hP hD hS (lv_sub hl [2, 3, 1, 0] rfl)
  obtain ⟨ex, h9, hf⟩ := ob_s hf
  exact K10 FU (0 : Int32) m_fam ex H locs ls h9 hf (hP.sub [1, 0, 2, 3, 4, 5, 6, 7] rfl) (hD.sub [1, 0, 2, 3, 4, 5, 6, 7] (by decide) rfl) hS (lv_sub hl [1, 0] rfl)
def p10_marry_J41 (m_boxAt : Nat → Int32) (m_generation : Nat → Int32) (m_history : Nat → Int64) (m_isThere : Nat → Bool) (m_level : Nat → Int32) (m_now : Nat → Int64) (m_rowOf : Nat → Int32) (m_rowSize : Nat → Int32) (m_rows : Int32) (m_undoCount : Int32) (v1 : Int32) (v2 : Int32) (v3 : Int32) (m_thrown_41 : Int32) : Option (Int32 × (Nat → Int32) × (Nat → Int32) × (Nat → Int64) × (Nat → Bool) × (Nat → Int32) × (Nat → Int64) × (Nat → Int32) × (Nat → Int32) × Int32 × Int32 × Int32) := (if m_thrown_41 = (0 : Int32) then (if v1 = v2 then some ((-2 : Int32), m_boxAt, m_generation, m_history, m_isThere, m_level, m_now, m_rowOf, m_rowSize, m_rows, m_thrown_41, m_undoCount) else ob (p10_unionOf m_now v1 v2) (fun r58 => (if r58 = (-1 : Int32) then ob (p10_unions m_now) (fun r69 => (if r69 = (12 : Int32) then some ((-3 : Int32), m_boxAt, m_generation, m_history, m_isThere, m_level, m_now, m_rowOf, m_rowSize, m_rows, m_thrown_41, m_undoCount) else ob (p10_record m_undoCount m_history m_now) (uc2 fun m_history_81 m_undoCount_81 => ob (p10_addUnion m_now v1 v2 v3) (fun m_now_88 => ob (p10_makePlain m_boxAt m_now_88 m_generation m_isThere m_level m_rowOf m_rowSize) (uc8 fun m_boxAt_92 m_now_92 m_generation_92 m_isThere_92 m_level_92 m_rowOf_92 m_rowSize_92 m_rows_92 => ob (p10_unions m_now_92) (fun r96 => some ((r96 - (1 : Int32)), m_boxAt_92, m_generation_92, m_history_81, m_isThere_92, m_level_92, m_now_92, m_rowOf_92, m_rowSize_92, m_rows_92, m_thrown_41, m_undoCount_81))))))) else some ((-2 : Int32), m_boxAt, m_generation, m_history, m_isThere, m_level, m_now, m_rowOf, m_rowSize, m_rows, m_thrown_41, m_undoCount)))) else some ((0 : Int32), m_boxAt, m_generation, m_history, m_isThere, m_level, m_now, m_rowOf, m_rowSize, m_rows, m_thrown_41, m_undoCount))
def p10_marry (m_undoCount : Int32) (m_rows : Int32) (m_boxAt : Nat → Int32) (m_generation : Nat → Int32) (m_history : Nat → Int64) (m_isThere : Nat → Bool) (m_level : Nat → Int32) (m_now : Nat → Int64) (m_rowOf : Nat → Int32) (m_rowSize : Nat → Int32) (v1 : Int32) (v2 : Int32) (v3 : Int32) : Option (Int32 × (Nat → Int32) × (Nat → Int32) × (Nat → Int64) × (Nat → Bool) × (Nat → Int32) × (Nat → Int64) × (Nat → Int32) × (Nat → Int32) × Int32 × Int32 × Int32) := ob (p10_isPerson m_now v1) (fun r3 => (cond r3 (ob (p10_isPerson m_now v2) (fun r11 => (cond r11 (cond ((p10_inRange v3.toInt64 (0 : Int64) (2100 : Int64))) (p10_marry_J41 m_boxAt m_generation m_history m_isThere m_level m_now m_rowOf m_rowSize m_rows m_undoCount v1 v2 v3 (0 : Int32)) (p10_marry_J41 m_boxAt m_generation m_history m_isThere m_level m_now m_rowOf m_rowSize m_rows m_undoCount v1 v2 v3 (2 : Int32))) (p10_marry_J41 m_boxAt m_generation m_history m_isThere m_level m_now m_rowOf m_rowSize m_rows m_undoCount v1 v2 v3 (1 : Int32))))) (p10_marry_J41 m_boxAt m_generation m_history m_isThere m_level m_now m_rowOf m_rowSize m_rows m_undoCount v1 v2 v3 (1 : Int32))))
set_option maxHeartbeats 4000000 in
set_option maxRecDepth 100000 in
theorem c_X10_marry (ad : Nat → Nat) (m_undoCount : Int32) (m_thrown : Int32) (m_hasSnapshot : Bool) (m_rows : Int32) (m_lineLength : Int32) (m_formattedLength : Int32) (m_bufferLength : Int32) (m_limit : Int32) (m_next : Int32) (m_beginsAt : Int32) (m_token : Int32) (m_error : Int32) (m_errorAt : Int32) (m_errorPosition : Int32) (m_nested : Int32) (m_codeCount : Int32) (m_boxAt : Nat → Int32) (m_generation : Nat → Int32) (m_history : Nat → Int64) (m_isThere : Nat → Bool) (m_level : Nat → Int32) (m_now : Nat → Int64) (m_rowOf : Nat → Int32) (m_rowSize : Nat → Int32) (v1 : Int32) (v2 : Int32) (v3 : Int32) (r9 : Int32) (m_boxAt_9 : Nat → Int32) (m_generation_9 : Nat → Int32) (m_history_9 : Nat → Int64) (m_isThere_9 : Nat → Bool) (m_level_9 : Nat → Int32) (m_now_9 : Nat → Int64) (m_rowOf_9 : Nat → Int32) (m_rowSize_9 : Nat → Int32) (m_rows_9 : Int32) (m_thrown_9 : Int32) (m_undoCount_9 : Int32) (hf : p10_marry m_undoCount m_rows m_boxAt m_generation m_history m_isThere m_level m_now m_rowOf m_rowSize v1 v2 v3 = some (r9, m_boxAt_9, m_generation_9, m_history_9, m_isThere_9, m_level_9, m_now_9, m_rowOf_9, m_rowSize_9, m_rows_9, m_thrown_9, m_undoCount_9)) : gM l dC dI cI cJ cZ yX10_marry cX10_marry 4 (some .int) 4 90 [.ref (ad 0), .int v1, .int v2, .int v3] [(ad 0, .inr (10, oM ad m_undoCount m_thrown m_hasSnapshot (ad 1) m_rows m_lineLength m_formattedLength m_bufferLength m_limit m_next m_beginsAt m_token m_error m_errorAt m_errorPosition m_nested m_codeCount)), ((ad 14), .inl (cI, 448, .inl m_boxAt)), ((ad 9), .inl (cI, 16, .inl m_generation)), ((ad 4), .inl (cJ, 1300, .inr (.inl m_history))), ((ad 13), .inl (cZ, 28, .inl (bF m_isThere))), ((ad 10), .inl (cI, 12, .inl m_level)), ((ad 1), .inl (cJ, 130, .inr (.inl m_now))), ((ad 12), .inl (cI, 28, .inl m_rowOf)), ((ad 11), .inl (cI, 16, .inl m_rowSize))] [(ad 0, .inr (10, oM ad m_undoCount_9 m_thrown_9 m_hasSnapshot (ad 1) m_rows_9 m_lineLength m_formattedLength m_bufferLength m_limit m_next m_beginsAt m_token m_error m_errorAt m_errorPosition m_nested m_codeCount)), ((ad 14), .inl (cI, 448, .inl m_boxAt_9)), ((ad 9), .inl (cI, 16, .inl m_generation_9)), ((ad 4), .inl (cJ, 1300, .inr (.inl m_history_9))), ((ad 13), .inl (cZ, 28, .inl (bF m_isThere_9))), ((ad 10), .inl (cI, 12, .inl m_level_9)), ((ad 1), .inl (cJ, 130, .inr (.inl m_now_9))), ((ad 12), .inl (cI, 28, .inl m_rowOf_9)), ((ad 11), .inl (cI, 16, .inl m_rowSize_9))] (some (.int r9)) := by
  refine g_start (own := RX10) (by decide +kernel) rfl (Nat.le_of_ble_eq_true rfl) ?_
  intro p e s m below meth c A ls S hr hlocks hE hP hD hS hA hl hin
  have hx := S.1
  have hb := S.2.1
  have hml := S.2.2.1
  have hown := S.2.2.2.1
  have htg : ∀ w ∈ gw, w.before ([.ref (ad 0), .int v1, .int v2, .int v3] : List Value).toArray s = true := fun w h => S.2.2.2.2 w (List.mem_cons_of_mem _ h)
  have hl : lv_has ls 4 [(0, .ref (ad 0)), (1, .int v1), (2, .int v2), (3, .int v3)] := hl
  have hS0 := hS
  obtain ⟨H, hH⟩ : ∃ H, H = s.heap := ⟨_, rfl⟩
  obtain ⟨locs, hlc⟩ : ∃ locs : List Loc, locs = [] := ⟨_, rfl⟩
  have hS : va_S A s.heap H locs := by rw [hH, hlc]; exact hS0
  have hP : va_P (dC, dI) vwCl [(ad 0, .inr (10, oM ad m_undoCount m_thrown m_hasSnapshot (ad 1) m_rows m_lineLength m_formattedLength m_bufferLength m_limit m_next m_beginsAt m_token m_error m_errorAt m_errorPosition m_nested m_codeCount)), ((ad 14), .inl (cI, 448, .inl m_boxAt)), ((ad 9), .inl (cI, 16, .inl m_generation)), ((ad 4), .inl (cJ, 1300, .inr (.inl m_history))), ((ad 13), .inl (cZ, 28, .inl (bF m_isThere))), ((ad 10), .inl (cI, 12, .inl m_level)), ((ad 1), .inl (cJ, 130, .inr (.inl m_now))), ((ad 12), .inl (cI, 28, .inl m_rowOf)), ((ad 11), .inl (cI, 16, .inl m_rowSize))] H := by rw [hH]; exact hP
  suffices hgo : W p l e ({ frames := 4, cells := 0, slots := 0, locals := 90 }) s m ([.ref (ad 0), .int v1, .int v2, .int v3] : List Value).toArray below meth c H locs 0 0 (MQ below (gQ dC dI (some (.int r9)) A [(ad 0, .inr (10, oM ad m_undoCount_9 m_thrown_9 m_hasSnapshot (ad 1) m_rows_9 m_lineLength m_formattedLength m_bufferLength m_limit m_next m_beginsAt m_token m_error m_errorAt m_errorPosition m_nested m_codeCount)), ((ad 14), .inl (cI, 448, .inl m_boxAt_9)), ((ad 9), .inl (cI, 16, .inl m_generation_9)), ((ad 4), .inl (cJ, 1300, .inr (.inl m_history_9))), ((ad 13), .inl (cZ, 28, .inl (bF m_isThere_9))), ((ad 10), .inl (cI, 12, .inl m_level_9)), ((ad 1), .inl (cJ, 130, .inr (.inl m_now_9))), ((ad 12), .inl (cI, 28, .inl m_rowOf_9)), ((ad 11), .inl (cI, 16, .inl m_rowSize_9))]) ([.ref (ad 0), .int v1, .int v2, .int v3] : List Value).toArray s 0 0 A) (F0 m 0 ls []) by rw [hH, hlc] at hgo; exact hgo
  rw [p10_marry] at hf
  have J41 : ∀ (m_thrown_41 : Int32) (H : Heap) (locs : List Loc) (ls : Array Slot), p10_marry_J41 m_boxAt m_generation m_history m_isThere m_level m_now m_rowOf m_rowSize m_rows m_undoCount v1 v2 v3 m_thrown_41 = some (r9, m_boxAt_9, m_generation_9, m_history_9, m_isThere_9, m_level_9, m_now_9, m_rowOf_9, m_rowSize_9, m_rows_9, m_thrown_9, m_undoCount_9) → va_P (dC, dI) vwCl [(ad 0, .inr (10, oM ad m_undoCount m_thrown_41 m_hasSnapshot (ad 1) m_rows m_lineLength m_formattedLength m_bufferLength m_limit m_next m_beginsAt m_token m_error m_errorAt m_errorPosition m_nested m_codeCount)), ((ad 14), .inl (cI, 448, .inl m_boxAt)), ((ad 9), .inl (cI, 16, .inl m_generation)), ((ad 4), .inl (cJ, 1300, .inr (.inl m_history))), ((ad 13), .inl (cZ, 28, .inl (bF m_isThere))), ((ad 10), .inl (cI, 12, .inl m_level)), ((ad 1), .inl (cJ, 130, .inr (.inl m_now))), ((ad 12), .inl (cI, 28, .inl m_rowOf)), ((ad 11), .inl (cI, 16, .inl m_rowSize))] H → va_D A [(ad 0, .inr (10, oM ad m_undoCount m_thrown_41 m_hasSnapshot (ad 1) m_rows m_lineLength m_formattedLength m_bufferLength m_limit m_next m_beginsAt m_token m_error m_errorAt m_errorPosition m_nested m_codeCount)), ((ad 14), .inl (cI, 448, .inl m_boxAt)), ((ad 9), .inl (cI, 16, .inl m_generation)), ((ad 4), .inl (cJ, 1300, .inr (.inl m_history))), ((ad 13), .inl (cZ, 28, .inl (bF m_isThere))), ((ad 10), .inl (cI, 12, .inl m_level)), ((ad 1), .inl (cJ, 130, .inr (.inl m_now))), ((ad 12), .inl (cI, 28, .inl m_rowOf)), ((ad 11), .inl (cI, 16, .inl m_rowSize))] → va_S A s.heap H locs → lv_has ls 4 [(0, .ref (ad 0)), (1, .int v1), (2, .int v2), (3, .int v3)] → W p l e ({ frames := 4, cells := 0, slots := 0, locals := 90 }) s m ([.ref (ad 0), .int v1, .int v2, .int v3] : List Value).toArray below meth c H locs 0 0 (MQ below (gQ dC dI (some (.int r9)) A [(ad 0, .inr (10, oM ad m_undoCount_9 m_thrown_9 m_hasSnapshot (ad 1) m_rows_9 m_lineLength m_formattedLength m_bufferLength m_limit m_next m_beginsAt m_token m_error m_errorAt m_errorPosition m_nested m_codeCount)), ((ad 14), .inl (cI, 448, .inl m_boxAt_9)), ((ad 9), .inl (cI, 16, .inl m_generation_9)), ((ad 4), .inl (cJ, 1300, .inr (.inl m_history_9))), ((ad 13), .inl (cZ, 28, .inl (bF m_isThere_9))), ((ad 10), .inl (cI, 12, .inl m_level_9)), ((ad 1), .inl (cJ, 130, .inr (.inl m_now_9))), ((ad 12), .inl (cI, 28, .inl m_rowOf_9)), ((ad 11), .inl (cI, 16, .inl m_rowSize_9))]) ([.ref (ad 0), .int v1, .int v2, .int v3] : List Value).toArray s 0 0 A) (F0 m 41 ls []) := by
    intro m_thrown_41 H locs ls hf hP hD hS hl
    rw [p10_marry_J41] at hf
    refine lv_aload_n hx hb dX10_marry_41 rfl (lv_at hl 0 rfl) ?_
    refine va_get (D := (dC, dI)) (ci := 10) (v := .int m_thrown_41) (C := RX10) (T := TX10) (N := 37) hx hb htg inX10 hown hE.1 hP 0 rfl rfl 5 (by decide) (htg _ tw1387) (fun _ h9 => h9) rfl dX10_marry_42 ?_
    refine lv_if_eq (tgt := 50) hx hb dX10_marry_45 (by decide) (fun h9 => ?_) (fun h9 => ?_)
    · have hf := itt h9 hf
      refine lv_iload_n hx hb dX10_marry_50 rfl (lv_at hl 1 rfl) ?_
      refine lv_iload_n hx hb dX10_marry_51 rfl (lv_at hl 2 rfl) ?_
      refine lv_icmp_eq (tgt := 65) hx hb dX10_marry_52 (by decide) (fun h9 => ?_) (fun h9 => ?_)
      · have hf := itt h9 hf
        refine lv_bipush (v := -2) hx hb dX10_marry_65 (by decide) ?_
        cases hf
        exact g_iret S hr hlocks hP hD hS dX10_marry_67
      · have hf := itf h9 hf
        refine lv_aload_n hx hb dX10_marry_55 rfl (lv_at hl 0 rfl) ?_
        refine lv_iload_n hx hb dX10_marry_56 rfl (lv_at hl 1 rfl) ?_
        refine lv_iload_n hx hb dX10_marry_57 rfl (lv_at hl 2 rfl) ?_
        obtain ⟨r58, h9, hf⟩ := ob_s hf
        refine gcV (index := 324) S hE (c_X10_unionOf ad (ad 1) m_undoCount m_thrown_41 m_hasSnapshot m_rows m_lineLength m_formattedLength m_bufferLength m_limit m_next m_beginsAt m_token m_error m_errorAt m_errorPosition m_nested m_codeCount m_now v1 v2 r58 h9) mX10_unionOf tw1842 ⟨Nat.le_of_ble_eq_true rfl, Nat.le_of_ble_eq_true rfl⟩ hP hD hS hA ⟨Nat.zero_le _, Nat.zero_le _⟩ 0 10 rfl rfl rfl (wr := [((ad 14), .inl (cI, 448, .inl m_boxAt)), ((ad 9), .inl (cI, 16, .inl m_generation)), ((ad 4), .inl (cJ, 1300, .inr (.inl m_history))), ((ad 13), .inl (cZ, 28, .inl (bF m_isThere))), ((ad 10), .inl (cI, 12, .inl m_level)), ((ad 12), .inl (cI, 28, .inl m_rowOf)), ((ad 11), .inl (cI, 16, .inl m_rowSize))]) [0, 6] [1, 2, 3, 4, 5, 7, 8] rfl rfl rfl rfl (by decide) (As := [.int v1, .int v2]) (rest := []) rfl hl.1 rfl (Nat.le_of_ble_eq_true rfl) dX10_marry_58 (fun H locs hP hD hS => ?_)
        refine W.eq (g2 := F0 m 61 ls [.int r58]) rfl ?_
        have hP : va_P (dC, dI) vwCl [((ad 14), .inl (cI, 448, .inl m_boxAt)), ((ad 9), .inl (cI, 16, .inl m_generation)), ((ad 4), .inl (cJ, 1300, .inr (.inl m_history))), ((ad 13), .inl (cZ, 28, .inl (bF m_isThere))), ((ad 10), .inl (cI, 12, .inl m_level)), ((ad 12), .inl (cI, 28, .inl m_rowOf)), ((ad 11), .inl (cI, 16, .inl m_rowSize)), (ad 0, .inr (10, oM ad m_undoCount m_thrown_41 m_hasSnapshot (ad 1) m_rows m_lineLength m_formattedLength m_bufferLength m_limit m_next m_beginsAt m_token m_error m_errorAt m_errorPosition m_nested m_codeCount)), ((ad 1), .inl (cJ, 130, .inr (.inl m_now)))] H := hP
        have hD : va_D A [((ad 14), .inl (cI, 448, .inl m_boxAt)), ((ad 9), .inl (cI, 16, .inl m_generation)), ((ad 4), .inl (cJ, 1300, .inr (.inl m_history))), ((ad 13), .inl (cZ, 28, .inl (bF m_isThere))), ((ad 10), .inl (cI, 12, .inl m_level)), ((ad 12), .inl (cI, 28, .inl m_rowOf)), ((ad 11), .inl (cI, 16, .inl m_rowSize)), (ad 0, .inr (10, oM ad m_undoCount m_thrown_41 m_hasSnapshot (ad 1) m_rows m_lineLength m_formattedLength m_bufferLength m_limit m_next m_beginsAt m_token m_error m_errorAt m_errorPosition m_nested m_codeCount)), ((ad 1), .inl (cJ, 130, .inr (.inl m_now)))] := hD
        refine lv_iconst (v := -1) hx hb dX10_marry_61 (by decide) ?_
        refine lv_icmp_eq (tgt := 68) hx hb dX10_marry_62 (by decide) (fun h9 => ?_) (fun h9 => ?_)
        · have hf := itt h9 hf
          refine lv_aload_n hx hb dX10_marry_68 rfl (lv_at hl 0 rfl) ?_
          obtain ⟨r69, h9, hf⟩ := ob_s hf
          refine gcV (index := 110) S hE (c_X10_unions ad (ad 1) m_undoCount m_thrown_41 m_hasSnapshot m_rows m_lineLength m_formattedLength m_bufferLength m_limit m_next m_beginsAt m_token m_error m_errorAt m_errorPosition m_nested m_codeCount m_now r69 h9) mX10_unions tw1532 ⟨Nat.le_of_ble_eq_true rfl, Nat.le_of_ble_eq_true rfl⟩ hP hD hS hA ⟨Nat.zero_le _, Nat.zero_le _⟩ 7 10 rfl rfl rfl (wr := [((ad 14), .inl (cI, 448, .inl m_boxAt)), ((ad 9), .inl (cI, 16, .inl m_generation)), ((ad 4), .inl (cJ, 1300, .inr (.inl m_history))), ((ad 13), .inl (cZ, 28, .inl (bF m_isThere))), ((ad 10), .inl (cI, 12, .inl m_level)), ((ad 12), .inl (cI, 28, .inl m_rowOf)), ((ad 11), .inl (cI, 16, .inl m_rowSize))]) [7, 8] [0, 1, 2, 3, 4, 5, 6] rfl rfl rfl rfl (by decide) (As := []) (rest := []) rfl hl.1 rfl (Nat.le_of_ble_eq_true rfl) dX10_marry_69 (fun H locs hP hD hS => ?_)
          refine W.eq (g2 := F0 m 72 ls [.int r69]) rfl ?_
          have hP : va_P (dC, dI) vwCl [((ad 14), .inl (cI, 448, .inl m_boxAt)), ((ad 9), .inl (cI, 16, .inl m_generation)), ((ad 4), .inl (cJ, 1300, .inr (.inl m_history))), ((ad 13), .inl (cZ, 28, .inl (bF m_isThere))), ((ad 10), .inl (cI, 12, .inl m_level)), ((ad 12), .inl (cI, 28, .inl m_rowOf)), ((ad 11), .inl (cI, 16, .inl m_rowSize)), (ad 0, .inr (10, oM ad m_undoCount m_thrown_41 m_hasSnapshot (ad 1) m_rows m_lineLength m_formattedLength m_bufferLength m_limit m_next m_beginsAt m_token m_error m_errorAt m_errorPosition m_nested m_codeCount)), ((ad 1), .inl (cJ, 130, .inr (.inl m_now)))] H := hP
          have hD : va_D A [((ad 14), .inl (cI, 448, .inl m_boxAt)), ((ad 9), .inl (cI, 16, .inl m_generation)), ((ad 4), .inl (cJ, 1300, .inr (.inl m_history))), ((ad 13), .inl (cZ, 28, .inl (bF m_isThere))), ((ad 10), .inl (cI, 12, .inl m_level)), ((ad 12), .inl (cI, 28, .inl m_rowOf)), ((ad 11), .inl (cI, 16, .inl m_rowSize)), (ad 0, .inr (10, oM ad m_undoCount m_thrown_41 m_hasSnapshot (ad 1) m_rows m_lineLength m_formattedLength m_bufferLength m_limit m_next m_beginsAt m_token m_error m_errorAt m_errorPosition m_nested m_codeCount)), ((ad 1), .inl (cJ, 130, .inr (.inl m_now)))] := hD
          refine lv_bipush (v := 12) hx hb dX10_marry_72 (by decide) ?_
          refine lv_icmp_ne (tgt := 80) hx hb dX10_marry_74 (by decide) (fun h9 => ?_) (fun h9 => ?_)
          · have hf := itf h9 hf
            refine lv_aload_n hx hb dX10_marry_80 rfl (lv_at hl 0 rfl) ?_
            obtain ⟨⟨m_history_81, m_undoCount_81⟩, h9, hf⟩ := ob_s hf
            have hf := uc2_e hf
            refine gcV (index := 327) S hE (c_X10_record ad m_undoCount m_thrown_41 m_hasSnapshot m_rows m_lineLength m_formattedLength m_bufferLength m_limit m_next m_beginsAt m_token m_error m_errorAt m_errorPosition m_nested m_codeCount m_history m_now m_history_81 m_undoCount_81 h9) mX10_record tw1846 ⟨Nat.le_of_ble_eq_true rfl, Nat.le_of_ble_eq_true rfl⟩ hP hD hS hA ⟨Nat.zero_le _, Nat.zero_le _⟩ 7 10 rfl rfl rfl (wr := [((ad 14), .inl (cI, 448, .inl m_boxAt)), ((ad 9), .inl (cI, 16, .inl m_generation)), ((ad 13), .inl (cZ, 28, .inl (bF m_isThere))), ((ad 10), .inl (cI, 12, .inl m_level)), ((ad 12), .inl (cI, 28, .inl m_rowOf)), ((ad 11), .inl (cI, 16, .inl m_rowSize))]) [7, 2, 8] [0, 1, 3, 4, 5, 6] rfl rfl rfl rfl (by decide) (As := []) (rest := []) rfl hl.1 rfl (Nat.le_of_ble_eq_true rfl) dX10_marry_81 (fun H locs hP hD hS => ?_)
            refine W.eq (g2 := F0 m 84 ls []) rfl ?_
            have hP : va_P (dC, dI) vwCl [((ad 14), .inl (cI, 448, .inl m_boxAt)), ((ad 9), .inl (cI, 16, .inl m_generation)), ((ad 13), .inl (cZ, 28, .inl (bF m_isThere))), ((ad 10), .inl (cI, 12, .inl m_level)), ((ad 12), .inl (cI, 28, .inl m_rowOf)), ((ad 11), .inl (cI, 16, .inl m_rowSize)), (ad 0, .inr (10, oM ad m_undoCount_81 m_thrown_41 m_hasSnapshot (ad 1) m_rows m_lineLength m_formattedLength m_bufferLength m_limit m_next m_beginsAt m_token m_error m_errorAt m_errorPosition m_nested m_codeCount)), ((ad 4), .inl (cJ, 1300, .inr (.inl m_history_81))), ((ad 1), .inl (cJ, 130, .inr (.inl m_now)))] H := hP
            have hD : va_D A [((ad 14), .inl (cI, 448, .inl m_boxAt)), ((ad 9), .inl (cI, 16, .inl m_generation)), ((ad 13), .inl (cZ, 28, .inl (bF m_isThere))), ((ad 10), .inl (cI, 12, .inl m_level)), ((ad 12), .inl (cI, 28, .inl m_rowOf)), ((ad 11), .inl (cI, 16, .inl m_rowSize)), (ad 0, .inr (10, oM ad m_undoCount_81 m_thrown_41 m_hasSnapshot (ad 1) m_rows m_lineLength m_formattedLength m_bufferLength m_limit m_next m_beginsAt m_token m_error m_errorAt m_errorPosition m_nested m_codeCount)), ((ad 4), .inl (cJ, 1300, .inr (.inl m_history_81))), ((ad 1), .inl (cJ, 130, .inr (.inl m_now)))] := hD
            refine lv_aload_n hx hb dX10_marry_84 rfl (lv_at hl 0 rfl) ?_
            refine lv_iload_n hx hb dX10_marry_85 rfl (lv_at hl 1 rfl) ?_
            refine lv_iload_n hx hb dX10_marry_86 rfl (lv_at hl 2 rfl) ?_
            refine lv_iload_n hx hb dX10_marry_87 rfl (lv_at hl 3 rfl) ?_
            obtain ⟨m_now_88, h9, hf⟩ := ob_s hf
            refine gcV (index := 330) S hE (c_X10_addUnion ad (ad 1) m_undoCount_81 m_thrown_41 m_hasSnapshot m_rows m_lineLength m_formattedLength m_bufferLength m_limit m_next m_beginsAt m_token m_error m_errorAt m_errorPosition m_nested m_codeCount m_now v1 v2 v3 m_now_88 h9) mX10_addUnion tw1853 ⟨Nat.le_of_ble_eq_true rfl, Nat.le_of_ble_eq_true rfl⟩ hP hD hS hA ⟨Nat.zero_le _, Nat.zero_le _⟩ 6 10 rfl rfl rfl (wr := [((ad 14), .inl (cI, 448, .inl m_boxAt)), ((ad 9), .inl (cI, 16, .inl m_generation)), ((ad 13), .inl (cZ, 28, .inl (bF m_isThere))), ((ad 10), .inl (cI, 12, .inl m_level)), ((ad 12), .inl (cI, 28, .inl m_rowOf)), ((ad 11), .inl (cI, 16, .inl m_rowSize)), ((ad 4), .inl (cJ, 1300, .inr (.inl m_history_81)))]) [6, 8] [0, 1, 2, 3, 4, 5, 7] rfl rfl rfl rfl (by decide) (As := [.int v1, .int v2, .int v3]) (rest := []) rfl hl.1 rfl (Nat.le_of_ble_eq_true rfl) dX10_marry_88 (fun H locs hP hD hS => ?_)
            refine W.eq (g2 := F0 m 91 ls []) rfl ?_
            have hP : va_P (dC, dI) vwCl [((ad 14), .inl (cI, 448, .inl m_boxAt)), ((ad 9), .inl (cI, 16, .inl m_generation)), ((ad 13), .inl (cZ, 28, .inl (bF m_isThere))), ((ad 10), .inl (cI, 12, .inl m_level)), ((ad 12), .inl (cI, 28, .inl m_rowOf)), ((ad 11), .inl (cI, 16, .inl m_rowSize)), ((ad 4), .inl (cJ, 1300, .inr (.inl m_history_81))), (ad 0, .inr (10, oM ad m_undoCount_81 m_thrown_41 m_hasSnapshot (ad 1) m_rows m_lineLength m_formattedLength m_bufferLength m_limit m_next m_beginsAt m_token m_error m_errorAt m_errorPosition m_nested m_codeCount)), ((ad 1), .inl (cJ, 130, .inr (.inl m_now_88)))] H := hP
            have hD : va_D A [((ad 14), .inl (cI, 448, .inl m_boxAt)), ((ad 9), .inl (cI, 16, .inl m_generation)), ((ad 13), .inl (cZ, 28, .inl (bF m_isThere))), ((ad 10), .inl (cI, 12, .inl m_level)), ((ad 12), .inl (cI, 28, .inl m_rowOf)), ((ad 11), .inl (cI, 16, .inl m_rowSize)), ((ad 4), .inl (cJ, 1300, .inr (.inl m_history_81))), (ad 0, .inr (10, oM ad m_undoCount_81 m_thrown_41 m_hasSnapshot (ad 1) m_rows m_lineLength m_formattedLength m_bufferLength m_limit m_next m_beginsAt m_token m_error m_errorAt m_errorPosition m_nested m_codeCount)), ((ad 1), .inl (cJ, 130, .inr (.inl m_now_88)))] := hD
            refine lv_aload_n hx hb dX10_marry_91 rfl (lv_at hl 0 rfl) ?_
            obtain ⟨⟨m_boxAt_92, m_now_92, m_generation_92, m_isThere_92, m_level_92, m_rowOf_92, m_rowSize_92, m_rows_92⟩, h9, hf⟩ := ob_s hf
            have hf := uc8_e hf
            refine gcV (index := 333) S hE (c_X10_makePlain ad (ad 1) m_undoCount_81 m_thrown_41 m_hasSnapshot m_rows m_lineLength m_formattedLength m_bufferLength m_limit m_next m_beginsAt m_token m_error m_errorAt m_errorPosition m_nested m_codeCount m_boxAt m_now_88 m_generation m_isThere m_level m_rowOf m_rowSize m_boxAt_92 m_now_92 m_generation_92 m_isThere_92 m_level_92 m_rowOf_92 m_rowSize_92 m_rows_92 h9) mX10_makePlain tw1857 ⟨Nat.le_of_ble_eq_true rfl, Nat.le_of_ble_eq_true rfl⟩ hP hD hS hA ⟨Nat.zero_le _, Nat.zero_le _⟩ 7 10 rfl rfl rfl (wr := [((ad 4), .inl (cJ, 1300, .inr (.inl m_history_81)))]) [7, 0, 8, 1, 2, 3, 4, 5] [6] rfl rfl rfl rfl (by decide) (As := []) (rest := []) rfl hl.1 rfl (Nat.le_of_ble_eq_true rfl) dX10_marry_92 (fun H locs hP hD hS => ?_)
            refine W.eq (g2 := F0 m 95 ls []) rfl ?_
            have hP : va_P (dC, dI) vwCl [((ad 4), .inl (cJ, 1300, .inr (.inl m_history_81))), (ad 0, .inr (10, oM ad m_undoCount_81 m_thrown_41 m_hasSnapshot (ad 1) m_rows_92 m_lineLength m_formattedLength m_bufferLength m_limit m_next m_beginsAt m_token m_error m_errorAt m_errorPosition m_nested m_codeCount)), ((ad 14), .inl (cI, 448, .inl m_boxAt_92)), ((ad 1), .inl (cJ, 130, .inr (.inl m_now_92))), ((ad 9), .inl (cI, 16, .inl m_generation_92)), ((ad 13), .inl (cZ, 28, .inl (bF m_isThere_92))), ((ad 10), .inl (cI, 12, .inl m_level_92)), ((ad 12), .inl (cI, 28, .inl m_rowOf_92)), ((ad 11), .inl (cI, 16, .inl m_rowSize_92))] H := hP
            have hD : va_D A [((ad 4), .inl (cJ, 1300, .inr (.inl m_history_81))), (ad 0, .inr (10, oM ad m_undoCount_81 m_thrown_41 m_hasSnapshot (ad 1) m_rows_92 m_lineLength m_formattedLength m_bufferLength m_limit m_next m_beginsAt m_token m_error m_errorAt m_errorPosition m_nested m_codeCount)), ((ad 14), .inl (cI, 448, .inl m_boxAt_92)), ((ad 1), .inl (cJ, 130, .inr (.inl m_now_92))), ((ad 9), .inl (cI, 16, .inl m_generation_92)), ((ad 13), .inl (cZ, 28, .inl (bF m_isThere_92))), ((ad 10), .inl (cI, 12, .inl m_level_92)), ((ad 12), .inl (cI, 28, .inl m_rowOf_92)), ((ad 11), .inl (cI, 16, .inl m_rowSize_92))] := hD
            refine lv_aload_n hx hb dX10_marry_95 rfl (lv_at hl 0 rfl) ?_
            obtain ⟨r96, h9, hf⟩ := ob_s hf
            refine gcV (index := 110) S hE (c_X10_unions ad (ad 1) m_undoCount_81 m_thrown_41 m_hasSnapshot m_rows_92 m_lineLength m_formattedLength m_bufferLength m_limit m_next m_beginsAt m_token m_error m_errorAt m_errorPosition m_nested m_codeCount m_now_92 r96 h9) mX10_unions tw1532 ⟨Nat.le_of_ble_eq_true rfl, Nat.le_of_ble_eq_true rfl⟩ hP hD hS hA ⟨Nat.zero_le _, Nat.zero_le _⟩ 1 10 rfl rfl rfl (wr := [((ad 4), .inl (cJ, 1300, .inr (.inl m_history_81))), ((ad 14), .inl (cI, 448, .inl m_boxAt_92)), ((ad 9), .inl (cI, 16, .inl m_generation_92)), ((ad 13), .inl (cZ, 28, .inl (bF m_isThere_92))), ((ad 10), .inl (cI, 12, .inl m_level_92)), ((ad 12), .inl (cI, 28, .inl m_rowOf_92)), ((ad 11), .inl (cI, 16, .inl m_rowSize_92))]) [1, 3] [0, 2, 4, 5, 6, 7, 8] rfl rfl rfl rfl (by decide) (As := []) (rest := []) rfl hl.1 rfl (Nat.le_of_ble_eq_true rfl) dX10_marry_96 (fun H locs hP hD hS => ?_)
            refine W.eq (g2 := F0 m 99 ls [.int r96]) rfl ?_
            have hP : va_P (dC, dI) vwCl [((ad 4), .inl (cJ, 1300, .inr (.inl m_history_81))), ((ad 14), .inl (cI, 448, .inl m_boxAt_92)), ((ad 9), .inl (cI, 16, .inl m_generation_92)), ((ad 13), .inl (cZ, 28, .inl (bF m_isThere_92))), ((ad 10), .inl (cI, 12, .inl m_level_92)), ((ad 12), .inl (cI, 28, .inl m_rowOf_92)), ((ad 11), .inl (cI, 16, .inl m_rowSize_92)), (ad 0, .inr (10, oM ad m_undoCount_81 m_thrown_41 m_hasSnapshot (ad 1) m_rows_92 m_lineLength m_formattedLength m_bufferLength m_limit m_next m_beginsAt m_token m_error m_errorAt m_errorPosition m_nested m_codeCount)), ((ad 1), .inl (cJ, 130, .inr (.inl m_now_92)))] H := hP
            have hD : va_D A [((ad 4), .inl (cJ, 1300, .inr (.inl m_history_81))), ((ad 14), .inl (cI, 448, .inl m_boxAt_92)), ((ad 9), .inl (cI, 16, .inl m_generation_92)), ((ad 13), .inl (cZ, 28, .inl (bF m_isThere_92))), ((ad 10), .inl (cI, 12, .inl m_level_92)), ((ad 12), .inl (cI, 28, .inl m_rowOf_92)), ((ad 11), .inl (cI, 16, .inl m_rowSize_92)), (ad 0, .inr (10, oM ad m_undoCount_81 m_thrown_41 m_hasSnapshot (ad 1) m_rows_92 m_lineLength m_formattedLength m_bufferLength m_limit m_next m_beginsAt m_token m_error m_errorAt m_errorPosition m_nested m_codeCount)), ((ad 1), .inl (cJ, 130, .inr (.inl m_now_92)))] := hD
            refine lv_iconst (v := 1) hx hb dX10_marry_99 (by decide) ?_
            refine lv_isub hx hb dX10_marry_100 ?_
            cases hf
            exact g_iret S hr hlocks (hP.sub [7, 1, 2, 0, 3, 4, 8, 5, 6] rfl) (hD.sub [7, 1, 2, 0, 3, 4, 8, 5, 6] (by decide) rfl) hS dX10_marry_101
          · have hf := itt h9 hf
            refine lv_bipush (v := -3) hx hb dX10_marry_77 (by decide) ?_
            cases hf
            exact g_iret S hr hlocks (hP.sub [7, 0, 1, 2, 3, 4, 8, 5, 6] rfl) (hD.sub [7, 0, 1, 2, 3, 4, 8, 5, 6] (by decide) rfl) hS dX10_marry_79
        · have hf := itf h9 hf
          refine lv_bipush (v := -2) hx hb dX10_marry_65 (by decide) ?_
          cases hf
          exact g_iret S hr hlocks (hP.sub [7, 0, 1, 2, 3, 4, 8, 5, 6] rfl) (hD.sub [7, 0, 1, 2, 3, 4, 8, 5, 6] (by decide) rfl) hS dX10_marry_67
    · have hf := itf h9 hf
      refine lv_iconst (v := 0) hx hb dX10_marry_48 (by decide) ?_
      cases hf
      exact g_iret S hr hlocks hP hD hS dX10_marry_49
  refine lv_aload_n hx hb dX10_marry_0 rfl (lv_at hl 0 rfl) ?_
  refine lv_aload_n hx hb dX10_marry_1 rfl (lv_at hl 0 rfl) ?_
  refine lv_iload_n hx hb dX10_marry_2 rfl (lv_at hl 1 rfl) ?_
  obtain ⟨r3, h9, hf⟩ := ob_s hf
  refine gcV (index := 234) S hE (c_X10_isPerson ad (ad 1) m_undoCount m_thrown m_hasSnapshot m_rows m_lineLength m_formattedLength m_bufferLength m_limit m_next m_beginsAt m_token m_error m_errorAt m_errorPosition m_nested m_codeCount m_now v1 r3 h9) mX10_isPerson tw1576 ⟨Nat.le_of_ble_eq_true rfl, Nat.le_of_ble_eq_true rfl⟩ hP hD hS hA ⟨Nat.zero_le _, Nat.zero_le _⟩ 0 10 rfl rfl rfl (wr := [((ad 14), .inl (cI, 448, .inl m_boxAt)), ((ad 9), .inl (cI, 16, .inl m_generation)), ((ad 4), .inl (cJ, 1300, .inr (.inl m_history))), ((ad 13), .inl (cZ, 28, .inl (bF m_isThere))), ((ad 10), .inl (cI, 12, .inl m_level)), ((ad 12), .inl (cI, 28, .inl m_rowOf)), ((ad 11), .inl (cI, 16, .inl m_rowSize))]) [0, 6] [1, 2, 3, 4, 5, 7, 8] rfl rfl rfl rfl (by decide) (As := [.int v1]) (rest := [.ref (ad 0)]) rfl hl.1 rfl (Nat.le_of_ble_eq_true rfl) dX10_marry_3 (fun H locs hP hD hS => ?_)
  refine W.eq (g2 := F0 m 6 ls [.int (bI r3), .ref (ad 0)]) rfl ?_
  have hP : va_P (dC, dI) vwCl [((ad 14), .inl (cI, 448, .inl m_boxAt)), ((ad 9), .inl (cI, 16, .inl m_generation)), ((ad 4), .inl (cJ, 1300, .inr (.inl m_history))), ((ad 13), .inl (cZ, 28, .inl (bF m_isThere))), ((ad 10), .inl (cI, 12, .inl m_level)), ((ad 12), .inl (cI, 28, .inl m_rowOf)), ((ad 11), .inl (cI, 16, .inl m_rowSize)), (ad 0, .inr (10, oM ad m_undoCount m_thrown m_hasSnapshot (ad 1) m_rows m_lineLength m_formattedLength m_bufferLength m_limit m_next m_beginsAt m_token m_error m_errorAt m_errorPosition m_nested m_codeCount)), ((ad 1), .inl (cJ, 130, .inr (.inl m_now)))] H := hP
  have hD : va_D A [((ad 14), .inl (cI, 448, .inl m_boxAt)), ((ad 9), .inl (cI, 16, .inl m_generation)), ((ad 4), .inl (cJ, 1300, .inr (.inl m_history))), ((ad 13), .inl (cZ, 28, .inl (bF m_isThere))), ((ad 10), .inl (cI, 12, .inl m_level)), ((ad 12), .inl (cI, 28, .inl m_rowOf)), ((ad 11), .inl (cI, 16, .inl m_rowSize)), (ad 0, .inr (10, oM ad m_undoCount m_thrown m_hasSnapshot (ad 1) m_rows m_lineLength m_formattedLength m_bufferLength m_limit m_next m_beginsAt m_token m_error m_errorAt m_errorPosition m_nested m_codeCount)), ((ad 1), .inl (cJ, 130, .inr (.inl m_now)))] := hD
  refine lv_if_eq (tgt := 17) hx hb dX10_marry_6 (by decide) (fun h9 => ?_) (fun h9 => ?_)
  · have hf := ctf (bI_0 h9) hf
    refine lv_iconst (v := 1) hx hb dX10_marry_17 (by decide) ?_
    refine lv_goto (tgt := 38) hx hb dX10_marry_18 (by decide) ?_
    refine va_put (D := (dC, dI)) (ci := 10) (v := .int (1 : Int32)) (ty := .int) (C := RX10) (T := TX10) (N := 37) hx hb htg inX10 tyX10 tyX10_ok nmX10 hown hE.1 hP hD hS 7 rfl rfl 5 (by decide) (htg _ tw1387) (fun _ h9 => h9) rfl (by decide +kernel) rfl rfl (Nat.le_of_ble_eq_true rfl) dX10_marry_38 (fun H locs hP hD hS => ?_)
    have hP : va_P (dC, dI) vwCl [((ad 14), .inl (cI, 448, .inl m_boxAt)), ((ad 9), .inl (cI, 16, .inl m_generation)), ((ad 4), .inl (cJ, 1300, .inr (.inl m_history))), ((ad 13), .inl (cZ, 28, .inl (bF m_isThere))), ((ad 10), .inl (cI, 12, .inl m_level)), ((ad 12), .inl (cI, 28, .inl m_rowOf)), ((ad 11), .inl (cI, 16, .inl m_rowSize)), (ad 0, .inr (10, oM ad m_undoCount (1 : Int32) m_hasSnapshot (ad 1) m_rows m_lineLength m_formattedLength m_bufferLength m_limit m_next m_beginsAt m_token m_error m_errorAt m_errorPosition m_nested m_codeCount)), ((ad 1), .inl (cJ, 130, .inr (.inl m_now)))] H := hP
    have hD : va_D A [((ad 14), .inl (cI, 448, .inl m_boxAt)), ((ad 9), .inl (cI, 16, .inl m_generation)), ((ad 4), .inl (cJ, 1300, .inr (.inl m_history))), ((ad 13), .inl (cZ, 28, .inl (bF m_isThere))), ((ad 10), .inl (cI, 12, .inl m_level)), ((ad 12), .inl (cI, 28, .inl m_rowOf)), ((ad 11), .inl (cI, 16, .inl m_rowSize)), (ad 0, .inr (10, oM ad m_undoCount (1 : Int32) m_hasSnapshot (ad 1) m_rows m_lineLength m_formattedLength m_bufferLength m_limit m_next m_beginsAt m_token m_error m_errorAt m_errorPosition m_nested m_codeCount)), ((ad 1), .inl (cJ, 130, .inr (.inl m_now)))] := hD
    exact J41 (1 : Int32) H locs ls hf (hP.sub [7, 0, 1, 2, 3, 4, 8, 5, 6] rfl) (hD.sub [7, 0, 1, 2, 3, 4, 8, 5, 6] (by decide) rfl) hS (lv_sub hl [0, 1, 2, 3] rfl)
  · have hf := ctt (bI_1 h9) hf
    refine lv_aload_n hx hb dX10_marry_9 rfl (lv_at hl 0 rfl) ?_
    refine lv_iload_n hx hb dX10_marry_10 rfl (lv_at hl 2 rfl) ?_
    obtain ⟨r11, h9, hf⟩ := ob_s hf
    refine gcV (index := 234) S hE (c_X10_isPerson ad (ad 1) m_undoCount m_thrown m_hasSnapshot m_rows m_lineLength m_formattedLength m_bufferLength m_limit m_next m_beginsAt m_token m_error m_errorAt m_errorPosition m_nested m_codeCount m_now v2 r11 h9) mX10_isPerson tw1576 ⟨Nat.le_of_ble_eq_true rfl, Nat.le_of_ble_eq_true rfl⟩ hP hD hS hA ⟨Nat.zero_le _, Nat.zero_le _⟩ 7 10 rfl rfl rfl (wr := [((ad 14), .inl (cI, 448, .inl m_boxAt)), ((ad 9), .inl (cI, 16, .inl m_generation)), ((ad 4), .inl (cJ, 1300, .inr (.inl m_history))), ((ad 13), .inl (cZ, 28, .inl (bF m_isThere))), ((ad 10), .inl (cI, 12, .inl m_level)), ((ad 12), .inl (cI, 28, .inl m_rowOf)), ((ad 11), .inl (cI, 16, .inl m_rowSize))]) [7, 8] [0, 1, 2, 3, 4, 5, 6] rfl rfl rfl rfl (by decide) (As := [.int v2]) (rest := [.ref (ad 0)]) rfl hl.1 rfl (Nat.le_of_ble_eq_true rfl) dX10_marry_11 (fun H locs hP hD hS => ?_)
    refine W.eq (g2 := F0 m 14 ls [.int (bI r11), .ref (ad 0)]) rfl ?_
    have hP : va_P (dC, dI) vwCl [((ad 14), .inl (cI, 448, .inl m_boxAt)), ((ad 9), .inl (cI, 16, .inl m_generation)), ((ad 4), .inl (cJ, 1300, .inr (.inl m_history))), ((ad 13), .inl (cZ, 28, .inl (bF m_isThere))), ((ad 10), .inl (cI, 12, .inl m_level)), ((ad 12), .inl (cI, 28, .inl m_rowOf)), ((ad 11), .inl (cI, 16, .inl m_rowSize)), (ad 0, .inr (10, oM ad m_undoCount m_thrown m_hasSnapshot (ad 1) m_rows m_lineLength m_formattedLength m_bufferLength m_limit m_next m_beginsAt m_token m_error m_errorAt m_errorPosition m_nested m_codeCount)), ((ad 1), .inl (cJ, 130, .inr (.inl m_now)))] H := hP
    have hD : va_D A [((ad 14), .inl (cI, 448, .inl m_boxAt)), ((ad 9), .inl (cI, 16, .inl m_generation)), ((ad 4), .inl (cJ, 1300, .inr (.inl m_history))), ((ad 13), .inl (cZ, 28, .inl (bF m_isThere))), ((ad 10), .inl (cI, 12, .inl m_level)), ((ad 12), .inl (cI, 28, .inl m_rowOf)), ((ad 11), .inl (cI, 16, .inl m_rowSize)), (ad 0, .inr (10, oM ad m_undoCount m_thrown m_hasSnapshot (ad 1) m_rows m_lineLength m_formattedLength m_bufferLength m_limit m_next m_beginsAt m_token m_error m_errorAt m_errorPosition m_nested m_codeCount)), ((ad 1), .inl (cJ, 130, .inr (.inl m_now)))] := hD
    refine lv_if_ne (tgt := 21) hx hb dX10_marry_14 (by decide) (fun h9 => ?_) (fun h9 => ?_)
    · have hf := ctt (bI_1 h9) hf
      refine lv_iload_n hx hb dX10_marry_21 rfl (lv_at hl 3 rfl) ?_
      refine lv_i2l hx hb dX10_marry_22 rfl ?_
      refine lv_lconst (v := 0) hx hb dX10_marry_23 (by decide) ?_
      refine lv_ldc2 (own := RX10) (v := 2100) hx hb hown (htg _ tw1841) dX10_marry_24 ?_
      refine gcS (index := 106) S hE (c_X10_inRange v3.toInt64 (0 : Int64) (2100 : Int64) (p10_inRange v3.toInt64 (0 : Int64) (2100 : Int64)) rfl) mX10_inRange tw1580 ⟨Nat.le_of_ble_eq_true rfl, Nat.le_of_ble_eq_true rfl⟩ hP hD hS hA ⟨Nat.zero_le _, Nat.zero_le _⟩ (wr := [((ad 14), .inl (cI, 448, .inl m_boxAt)), ((ad 9), .inl (cI, 16, .inl m_generation)), ((ad 4), .inl (cJ, 1300, .inr (.inl m_history))), ((ad 13), .inl (cZ, 28, .inl (bF m_isThere))), ((ad 10), .inl (cI, 12, .inl m_level)), ((ad 12), .inl (cI, 28, .inl m_rowOf)), ((ad 11), .inl (cI, 16, .inl m_rowSize)), (ad 0, .inr (10, oM ad m_undoCount m_thrown m_hasSnapshot (ad 1) m_rows m_lineLength m_formattedLength m_bufferLength m_limit m_next m_beginsAt m_token m_error m_errorAt m_errorPosition m_nested m_codeCount)), ((ad 1), .inl (cJ, 130, .inr (.inl m_now)))]) [] [0, 1, 2, 3, 4, 5, 6, 7, 8] rfl rfl rfl rfl (by decide) (As := [.long v3.toInt64, .long (0 : Int64), .long (2100 : Int64)]) (rest := [.ref (ad 0)]) rfl hl.1 rfl (Nat.le_of_ble_eq_true rfl) dX10_marry_27 (fun H locs hP hD hS => ?_)
      refine W.eq (g2 := F0 m 30 ls [.int (bI (p10_inRange v3.toInt64 (0 : Int64) (2100 : Int64))), .ref (ad 0)]) rfl ?_
      have hP : va_P (dC, dI) vwCl [((ad 14), .inl (cI, 448, .inl m_boxAt)), ((ad 9), .inl (cI, 16, .inl m_generation)), ((ad 4), .inl (cJ, 1300, .inr (.inl m_history))), ((ad 13), .inl (cZ, 28, .inl (bF m_isThere))), ((ad 10), .inl (cI, 12, .inl m_level)), ((ad 12), .inl (cI, 28, .inl m_rowOf)), ((ad 11), .inl (cI, 16, .inl m_rowSize)), (ad 0, .inr (10, oM ad m_undoCount m_thrown m_hasSnapshot (ad 1) m_rows m_lineLength m_formattedLength m_bufferLength m_limit m_next m_beginsAt m_token m_error m_errorAt m_errorPosition m_nested m_codeCount)), ((ad 1), .inl (cJ, 130, .inr (.inl m_now)))] H := hP
      have hD : va_D A [((ad 14), .inl (cI, 448, .inl m_boxAt)), ((ad 9), .inl (cI, 16, .inl m_generation)), ((ad 4), .inl (cJ, 1300, .inr (.inl m_history))), ((ad 13), .inl (cZ, 28, .inl (bF m_isThere))), ((ad 10), .inl (cI, 12, .inl m_level)), ((ad 12), .inl (cI, 28, .inl m_rowOf)), ((ad 11), .inl (cI, 16, .inl m_rowSize)), (ad 0, .inr (10, oM ad m_undoCount m_thrown m_hasSnapshot (ad 1) m_rows m_lineLength m_formattedLength m_bufferLength m_limit m_next m_beginsAt m_token m_error m_errorAt m_errorPosition m_nested m_codeCount)), ((ad 1), .inl (cJ, 130, .inr (.inl m_now)))] := hD
      refine lv_if_eq (tgt := 37) hx hb dX10_marry_30 (by decide) (fun h9 => ?_) (fun h9 => ?_)
      · have hf := ctf (bI_0 h9) hf
        refine lv_iconst (v := 2) hx hb dX10_marry_37 (by decide) ?_
        refine va_put (D := (dC, dI)) (ci := 10) (v := .int (2 : Int32)) (ty := .int) (C := RX10) (T := TX10) (N := 37) hx hb htg inX10 tyX10 tyX10_ok nmX10 hown hE.1 hP hD hS 7 rfl rfl 5 (by decide) (htg _ tw1387) (fun _ h9 => h9) rfl (by decide +kernel) rfl rfl (Nat.le_of_ble_eq_true rfl) dX10_marry_38 (fun H locs hP hD hS => ?_)
        have hP : va_P (dC, dI) vwCl [((ad 14), .inl (cI, 448, .inl m_boxAt)), ((ad 9), .inl (cI, 16, .inl m_generation)), ((ad 4), .inl (cJ, 1300, .inr (.inl m_history))), ((ad 13), .inl (cZ, 28, .inl (bF m_isThere))), ((ad 10), .inl (cI, 12, .inl m_level)), ((ad 12), .inl (cI, 28, .inl m_rowOf)), ((ad 11), .inl (cI, 16, .inl m_rowSize)), (ad 0, .inr (10, oM ad m_undoCount (2 : Int32) m_hasSnapshot (ad 1) m_rows m_lineLength m_formattedLength m_bufferLength m_limit m_next m_beginsAt m_token m_error m_errorAt m_errorPosition m_nested m_codeCount)), ((ad 1), .inl (cJ, 130, .inr (.inl m_now)))] H := hP
        have hD : va_D A [((ad 14), .inl (cI, 448, .inl m_boxAt)), ((ad 9), .inl (cI, 16, .inl m_generation)), ((ad 4), .inl (cJ, 1300, .inr (.inl m_history))), ((ad 13), .inl (cZ, 28, .inl (bF m_isThere))), ((ad 10), .inl (cI, 12, .inl m_level)), ((ad 12), .inl (cI, 28, .inl m_rowOf)), ((ad 11), .inl (cI, 16, .inl m_rowSize)), (ad 0, .inr (10, oM ad m_undoCount (2 : Int32) m_hasSnapshot (ad 1) m_rows m_lineLength m_formattedLength m_bufferLength m_limit m_next m_beginsAt m_token m_error m_errorAt m_errorPosition m_nested m_codeCount)), ((ad 1), .inl (cJ, 130, .inr (.inl m_now)))] := hD
        exact J41 (2 : Int32) H locs ls hf (hP.sub [7, 0, 1, 2, 3, 4, 8, 5, 6] rfl) (hD.sub [7, 0, 1, 2, 3, 4, 8, 5, 6] (by decide) rfl) hS (lv_sub hl [0, 1, 2, 3] rfl)
      · have hf := ctt (bI_1 h9) hf
        refine lv_iconst (v := 0) hx hb dX10_marry_33 (by decide) ?_
        refine lv_goto (tgt := 38) hx hb dX10_marry_34 (by decide) ?_
        refine va_put (D := (dC, dI)) (ci := 10) (v := .int (0 : Int32)) (ty := .int) (C := RX10) (T := TX10) (N := 37) hx hb htg inX10 tyX10 tyX10_ok nmX10 hown hE.1 hP hD hS 7 rfl rfl 5 (by decide) (htg _ tw1387) (fun _ h9 => h9) rfl (by decide +kernel) rfl rfl (Nat.le_of_ble_eq_true rfl) dX10_marry_38 (fun H locs hP hD hS => ?_)
        have hP : va_P (dC, dI) vwCl [((ad 14), .inl (cI, 448, .inl m_boxAt)), ((ad 9), .inl (cI, 16, .inl m_generation)), ((ad 4), .inl (cJ, 1300, .inr (.inl m_history))), ((ad 13), .inl (cZ, 28, .inl (bF m_isThere))), ((ad 10), .inl (cI, 12, .inl m_level)), ((ad 12), .inl (cI, 28, .inl m_rowOf)), ((ad 11), .inl (cI, 16, .inl m_rowSize)), (ad 0, .inr (10, oM ad m_undoCount (0 : Int32) m_hasSnapshot (ad 1) m_rows m_lineLength m_formattedLength m_bufferLength m_limit m_next m_beginsAt m_token m_error m_errorAt m_errorPosition m_nested m_codeCount)), ((ad 1), .inl (cJ, 130, .inr (.inl m_now)))] H := hP
        have hD : va_D A [((ad 14), .inl (cI, 448, .inl m_boxAt)), ((ad 9), .inl (cI, 16, .inl m_generation)), ((ad 4), .inl (cJ, 1300, .inr (.inl m_history))), ((ad 13), .inl (cZ, 28, .inl (bF m_isThere))), ((ad 10), .inl (cI, 12, .inl m_level)), ((ad 12), .inl (cI, 28, .inl m_rowOf)), ((ad 11), .inl (cI, 16, .inl m_rowSize)), (ad 0, .inr (10, oM ad m_undoCount (0 : Int32) m_hasSnapshot (ad 1) m_rows m_lineLength m_formattedLength m_bufferLength m_limit m_next m_beginsAt m_token m_error m_errorAt m_errorPosition m_nested m_codeCount)), ((ad 1), .inl (cJ, 130, .inr (.inl m_now)))] := hD
        exact J41 (0 : Int32) H locs ls hf (hP.sub [7, 0, 1, 2, 3, 4, 8, 5, 6] rfl) (hD.sub [7, 0, 1, 2, 3, 4, 8, 5, 6] (by decide) rfl) hS (lv_sub hl [0, 1, 2, 3] rfl)
    · have hf := ctf (bI_0 h9) hf
      refine lv_iconst (v := 1) hx hb dX10_marry_17 (by decide) ?_
      refine lv_goto (tgt := 38) hx hb dX10_marry_18 (by decide) ?_
      refine va_put (D := (dC, dI)) (ci := 10) (v := .int (1 : Int32)) (ty := .int) (C := RX10) (T := TX10) (N := 37) hx hb htg inX10 tyX10 tyX10_ok nmX10 hown hE.1 hP hD hS 7 rfl rfl 5 (by decide) (htg _ tw1387) (fun _ h9 => h9) rfl (by decide +kernel) rfl rfl (Nat.le_of_ble_eq_true rfl) dX10_marry_38 (fun H locs hP hD hS => ?_)
      have hP : va_P (dC, dI) vwCl [((ad 14), .inl (cI, 448, .inl m_boxAt)), ((ad 9), .inl (cI, 16, .inl m_generation)), ((ad 4), .inl (cJ, 1300, .inr (.inl m_history))), ((ad 13), .inl (cZ, 28, .inl (bF m_isThere))), ((ad 10), .inl (cI, 12, .inl m_level)), ((ad 12), .inl (cI, 28, .inl m_rowOf)), ((ad 11), .inl (cI, 16, .inl m_rowSize)), (ad 0, .inr (10, oM ad m_undoCount (1 : Int32) m_hasSnapshot (ad 1) m_rows m_lineLength m_formattedLength m_bufferLength m_limit m_next m_beginsAt m_token m_error m_errorAt m_errorPosition m_nested m_codeCount)), ((ad 1), .inl (cJ, 130, .inr (.inl m_now)))] H := hP
      have hD : va_D A [((ad 14), .inl (cI, 448, .inl m_boxAt)), ((ad 9), .inl (cI, 16, .inl m_generation)), ((ad 4), .inl (cJ, 1300, .inr (.inl m_history))), ((ad 13), .inl (cZ, 28, .inl (bF m_isThere))), ((ad 10), .inl (cI, 12, .inl m_level)), ((ad 12), .inl (cI, 28, .inl m_rowOf)), ((ad 11), .inl (cI, 16, .inl m_rowSize)), (ad 0, .inr (10, oM ad m_undoCount (1 : Int32) m_hasSnapshot (ad 1) m_rows m_lineLength m_formattedLength m_bufferLength m_limit m_next m_beginsAt m_token m_error m_errorAt m_errorPosition m_nested m_codeCount)), ((ad 1), .inl (cJ, 130, .inr (.inl m_now)))] := hD
      exact J41 (1 : Int32) H locs ls hf (hP.sub [7, 0, 1, 2, 3, 4, 8, 5, 6] rfl) (hD.sub [7, 0, 1, 2, 3, 4, 8, 5, 6] (by decide) rfl) hS (lv_sub hl [0, 1, 2, 3] rfl)
def p10_adopt_J52 (m_boxAt : Nat → Int32) (m_generation : Nat → Int32) (m_history : Nat → Int64) (m_isThere : Nat → Bool) (m_level : Nat → Int32) (m_now : Nat → Int64) (m_rowOf : Nat → Int32) (m_rowSize : Nat → Int32) (m_rows : Int32) (m_undoCount : Int32) (v2 : Int32) (m_thrown_52 : Int32) : Option (Int32 × (Nat → Int32) × (Nat → Int32) × (Nat → Int64) × (Nat → Bool) × (Nat → Int32) × (Nat → Int64) × (Nat → Int32) × (Nat → Int32) × Int32 × Int32 × Int32) := ob (p10_parentsOf m_now v2) (fun r54 => (if r54 = (-1 : Int32) then some ((-3 : Int32), m_boxAt, m_generation, m_history, m_isThere, m_level, m_now, m_rowOf, m_rowSize, m_rows, m_thrown_52, m_undoCount) else some ((-2 : Int32), m_boxAt, m_generation, m_history, m_isThere, m_level, m_now, m_rowOf, m_rowSize, m_rows, m_thrown_52, m_undoCount)))
def p10_adopt_J25 (m_boxAt : Nat → Int32) (m_generation : Nat → Int32) (m_history : Nat → Int64) (m_isThere : Nat → Bool) (m_level : Nat → Int32) (m_now : Nat → Int64) (m_rowOf : Nat → Int32) (m_rowSize : Nat → Int32) (m_rows : Int32) (m_undoCount : Int32) (v1 : Int32) (v2 : Int32) (m_thrown_25 : Int32) : Option (Int32 × (Nat → Int32) × (Nat → Int32) × (Nat → Int64) × (Nat → Bool) × (Nat → Int32) × (Nat → Int64) × (Nat → Int32) × (Nat → Int32) × Int32 × Int32 × Int32) := (if m_thrown_25 = (0 : Int32) then ob (p10_parentsOf m_now v2) (fun r36 => (if r36 = (-1 : Int32) then ob (p10_isAncestorOfBoth m_now v1 v2) (fun r46 => (cond r46 (p10_adopt_J52 m_boxAt m_generation m_history m_isThere m_level m_now m_rowOf m_rowSize m_rows m_undoCount v2 m_thrown_25) (ob (p10_record m_undoCount m_history m_now) (uc2 fun m_history_70 m_undoCount_70 => ob (p10_putPerson m_now v2 (1 : Int32) v1.toInt64) (fun m_now_78 => ob (p10_makePlain m_boxAt m_now_78 m_generation m_isThere m_level m_rowOf m_rowSize) (uc8 fun m_boxAt_82 m_now_82 m_generation_82 m_isThere_82 m_level_82 m_rowOf_82 m_rowSize_82 m_rows_82 => gd v2 16 (some ((m_generation_82 v2.toNatClampNeg), m_boxAt_82, m_generation_82, m_history_70, m_isThere_82, m_level_82, m_now_82, m_rowOf_82, m_rowSize_82, m_rows_82, m_thrown_25, m_undoCount_70)))))))) else (p10_adopt_J52 m_boxAt m_generation m_history m_isThere m_level m_now m_rowOf m_rowSize m_rows m_undoCount v2 m_thrown_25))) else some ((0 : Int32), m_boxAt, m_generation, m_history, m_isThere, m_level, m_now, m_rowOf, m_rowSize, m_rows, m_thrown_25, m_undoCount))
def p10_adopt (m_undoCount : Int32) (m_rows : Int32) (m_boxAt : Nat → Int32) (m_generation : Nat → Int32) (m_history : Nat → Int64) (m_isThere : Nat → Bool) (m_level : Nat → Int32) (m_now : Nat → Int64) (m_rowOf : Nat → Int32) (m_rowSize : Nat → Int32) (v1 : Int32) (v2 : Int32) : Option (Int32 × (Nat → Int32) × (Nat → Int32) × (Nat → Int64) × (Nat → Bool) × (Nat → Int32) × (Nat → Int64) × (Nat → Int32) × (Nat → Int32) × Int32 × Int32 × Int32) := ob (p10_isUnion m_now v1) (fun r3 => (cond r3 (ob (p10_isPerson m_now v2) (fun r11 => (cond r11 (p10_adopt_J25 m_boxAt m_generation m_history m_isThere m_level m_now m_rowOf m_rowSize m_rows m_undoCount v1 v2 (0 : Int32)) (p10_adopt_J25 m_boxAt m_generation m_history m_isThere m_level m_now m_rowOf m_rowSize m_rows m_undoCount v1 v2 (1 : Int32))))) (p10_adopt_J25 m_boxAt m_generation m_history m_isThere m_level m_now m_rowOf m_rowSize m_rows m_undoCount v1 v2 (1 : Int32))))
set_option maxHeartbeats 4000000 in
set_option maxRecDepth 100000 in
theorem c_X10_adopt (ad : Nat → Nat) (m_undoCount : Int32) (m_thrown : Int32) (m_hasSnapshot : Bool) (m_rows : Int32) (m_lineLength : Int32) (m_formattedLength : Int32) (m_bufferLength : Int32) (m_limit : Int32) (m_next : Int32) (m_beginsAt : Int32) (m_token : Int32) (m_error : Int32) (m_errorAt : Int32) (m_errorPosition : Int32) (m_nested : Int32) (m_codeCount : Int32) (m_boxAt : Nat → Int32) (m_generation : Nat → Int32) (m_history : Nat → Int64) (m_isThere : Nat → Bool) (m_level : Nat → Int32) (m_now : Nat → Int64) (m_rowOf : Nat → Int32) (m_rowSize : Nat → Int32) (v1 : Int32) (v2 : Int32) (r9 : Int32) (m_boxAt_9 : Nat → Int32) (m_generation_9 : Nat → Int32) (m_history_9 : Nat → Int64) (m_isThere_9 : Nat → Bool) (m_level_9 : Nat → Int32) (m_now_9 : Nat → Int64) (m_rowOf_9 : Nat → Int32) (m_rowSize_9 : Nat → Int32) (m_rows_9 : Int32) (m_thrown_9 : Int32) (m_undoCount_9 : Int32) (hf : p10_adopt m_undoCount m_rows m_boxAt m_generation m_history m_isThere m_level m_now m_rowOf m_rowSize v1 v2 = some (r9, m_boxAt_9, m_generation_9, m_history_9, m_isThere_9, m_level_9, m_now_9, m_rowOf_9, m_rowSize_9, m_rows_9, m_thrown_9, m_undoCount_9)) : gM l dC dI cI cJ cZ yX10_adopt cX10_adopt 3 (some .int) 4 93 [.ref (ad 0), .int v1, .int v2] [(ad 0, .inr (10, oM ad m_undoCount m_thrown m_hasSnapshot (ad 1) m_rows m_lineLength m_formattedLength m_bufferLength m_limit m_next m_beginsAt m_token m_error m_errorAt m_errorPosition m_nested m_codeCount)), ((ad 14), .inl (cI, 448, .inl m_boxAt)), ((ad 9), .inl (cI, 16, .inl m_generation)), ((ad 4), .inl (cJ, 1300, .inr (.inl m_history))), ((ad 13), .inl (cZ, 28, .inl (bF m_isThere))), ((ad 10), .inl (cI, 12, .inl m_level)), ((ad 1), .inl (cJ, 130, .inr (.inl m_now))), ((ad 12), .inl (cI, 28, .inl m_rowOf)), ((ad 11), .inl (cI, 16, .inl m_rowSize))] [(ad 0, .inr (10, oM ad m_undoCount_9 m_thrown_9 m_hasSnapshot (ad 1) m_rows_9 m_lineLength m_formattedLength m_bufferLength m_limit m_next m_beginsAt m_token m_error m_errorAt m_errorPosition m_nested m_codeCount)), ((ad 14), .inl (cI, 448, .inl m_boxAt_9)), ((ad 9), .inl (cI, 16, .inl m_generation_9)), ((ad 4), .inl (cJ, 1300, .inr (.inl m_history_9))), ((ad 13), .inl (cZ, 28, .inl (bF m_isThere_9))), ((ad 10), .inl (cI, 12, .inl m_level_9)), ((ad 1), .inl (cJ, 130, .inr (.inl m_now_9))), ((ad 12), .inl (cI, 28, .inl m_rowOf_9)), ((ad 11), .inl (cI, 16, .inl m_rowSize_9))] (some (.int r9)) := by
  refine g_start (own := RX10) (by decide +kernel) rfl (Nat.le_of_ble_eq_true rfl) ?_
  intro p e s m below meth c A ls S hr hlocks hE hP hD hS hA hl hin
  have hx := S.1
  have hb := S.2.1
  have hml := S.2.2.1
  have hown := S.2.2.2.1
  have htg : ∀ w ∈ gw, w.before ([.ref (ad 0), .int v1, .int v2] : List Value).toArray s = true := fun w h => S.2.2.2.2 w (List.mem_cons_of_mem _ h)
  have hl : lv_has ls 3 [(0, .ref (ad 0)), (1, .int v1), (2, .int v2)] := hl
  have hS0 := hS
  obtain ⟨H, hH⟩ : ∃ H, H = s.heap := ⟨_, rfl⟩
  obtain ⟨locs, hlc⟩ : ∃ locs : List Loc, locs = [] := ⟨_, rfl⟩
  have hS : va_S A s.heap H locs := by rw [hH, hlc]; exact hS0
  have hP : va_P (dC, dI) vwCl [(ad 0, .inr (10, oM ad m_undoCount m_thrown m_hasSnapshot (ad 1) m_rows m_lineLength m_formattedLength m_bufferLength m_limit m_next m_beginsAt m_token m_error m_errorAt m_errorPosition m_nested m_codeCount)), ((ad 14), .inl (cI, 448, .inl m_boxAt)), ((ad 9), .inl (cI, 16, .inl m_generation)), ((ad 4), .inl (cJ, 1300, .inr (.inl m_history))), ((ad 13), .inl (cZ, 28, .inl (bF m_isThere))), ((ad 10), .inl (cI, 12, .inl m_level)), ((ad 1), .inl (cJ, 130, .inr (.inl m_now))), ((ad 12), .inl (cI, 28, .inl m_rowOf)), ((ad 11), .inl (cI, 16, .inl m_rowSize))] H := by rw [hH]; exact hP
  suffices hgo : W p l e ({ frames := 4, cells := 0, slots := 0, locals := 93 }) s m ([.ref (ad 0), .int v1, .int v2] : List Value).toArray below meth c H locs 0 0 (MQ below (gQ dC dI (some (.int r9)) A [(ad 0, .inr (10, oM ad m_undoCount_9 m_thrown_9 m_hasSnapshot (ad 1) m_rows_9 m_lineLength m_formattedLength m_bufferLength m_limit m_next m_beginsAt m_token m_error m_errorAt m_errorPosition m_nested m_codeCount)), ((ad 14), .inl (cI, 448, .inl m_boxAt_9)), ((ad 9), .inl (cI, 16, .inl m_generation_9)), ((ad 4), .inl (cJ, 1300, .inr (.inl m_history_9))), ((ad 13), .inl (cZ, 28, .inl (bF m_isThere_9))), ((ad 10), .inl (cI, 12, .inl m_level_9)), ((ad 1), .inl (cJ, 130, .inr (.inl m_now_9))), ((ad 12), .inl (cI, 28, .inl m_rowOf_9)), ((ad 11), .inl (cI, 16, .inl m_rowSize_9))]) ([.ref (ad 0), .int v1, .int v2] : List Value).toArray s 0 0 A) (F0 m 0 ls []) by rw [hH, hlc] at hgo; exact hgo
  rw [p10_adopt] at hf
  have J52 : ∀ (m_thrown_52 : Int32) (H : Heap) (locs : List Loc) (ls : Array Slot), p10_adopt_J52 m_boxAt m_generation m_history m_isThere m_level m_now m_rowOf m_rowSize m_rows m_undoCount v2 m_thrown_52 = some (r9, m_boxAt_9, m_generation_9, m_history_9, m_isThere_9, m_level_9, m_now_9, m_rowOf_9, m_rowSize_9, m_rows_9, m_thrown_9, m_undoCount_9) → va_P (dC, dI) vwCl [(ad 0, .inr (10, oM ad m_undoCount m_thrown_52 m_hasSnapshot (ad 1) m_rows m_lineLength m_formattedLength m_bufferLength m_limit m_next m_beginsAt m_token m_error m_errorAt m_errorPosition m_nested m_codeCount)), ((ad 14), .inl (cI, 448, .inl m_boxAt)), ((ad 9), .inl (cI, 16, .inl m_generation)), ((ad 4), .inl (cJ, 1300, .inr (.inl m_history))), ((ad 13), .inl (cZ, 28, .inl (bF m_isThere))), ((ad 10), .inl (cI, 12, .inl m_level)), ((ad 1), .inl (cJ, 130, .inr (.inl m_now))), ((ad 12), .inl (cI, 28, .inl m_rowOf)), ((ad 11), .inl (cI, 16, .inl m_rowSize))] H → va_D A [(ad 0, .inr (10, oM ad m_undoCount m_thrown_52 m_hasSnapshot (ad 1) m_rows m_lineLength m_formattedLength m_bufferLength m_limit m_next m_beginsAt m_token m_error m_errorAt m_errorPosition m_nested m_codeCount)), ((ad 14), .inl (cI, 448, .inl m_boxAt)), ((ad 9), .inl (cI, 16, .inl m_generation)), ((ad 4), .inl (cJ, 1300, .inr (.inl m_history))), ((ad 13), .inl (cZ, 28, .inl (bF m_isThere))), ((ad 10), .inl (cI, 12, .inl m_level)), ((ad 1), .inl (cJ, 130, .inr (.inl m_now))), ((ad 12), .inl (cI, 28, .inl m_rowOf)), ((ad 11), .inl (cI, 16, .inl m_rowSize))] → va_S A s.heap H locs → lv_has ls 3 [(0, .ref (ad 0)), (2, .int v2)] → W p l e ({ frames := 4, cells := 0, slots := 0, locals := 93 }) s m ([.ref (ad 0), .int v1, .int v2] : List Value).toArray below meth c H locs 0 0 (MQ below (gQ dC dI (some (.int r9)) A [(ad 0, .inr (10, oM ad m_undoCount_9 m_thrown_9 m_hasSnapshot (ad 1) m_rows_9 m_lineLength m_formattedLength m_bufferLength m_limit m_next m_beginsAt m_token m_error m_errorAt m_errorPosition m_nested m_codeCount)), ((ad 14), .inl (cI, 448, .inl m_boxAt_9)), ((ad 9), .inl (cI, 16, .inl m_generation_9)), ((ad 4), .inl (cJ, 1300, .inr (.inl m_history_9))), ((ad 13), .inl (cZ, 28, .inl (bF m_isThere_9))), ((ad 10), .inl (cI, 12, .inl m_level_9)), ((ad 1), .inl (cJ, 130, .inr (.inl m_now_9))), ((ad 12), .inl (cI, 28, .inl m_rowOf_9)), ((ad 11), .inl (cI, 16, .inl m_rowSize_9))]) ([.ref (ad 0), .int v1, .int v2] : List Value).toArray s 0 0 A) (F0 m 52 ls []) := by
    intro m_thrown_52 H locs ls hf hP hD hS hl
    rw [p10_adopt_J52] at hf
    refine lv_aload_n hx hb dX10_adopt_52 rfl (lv_at hl 0 rfl) ?_
    refine lv_iload_n hx hb dX10_adopt_53 rfl (lv_at hl 1 rfl) ?_
    obtain ⟨r54, h9, hf⟩ := ob_s hf
    refine gcV (index := 117) S hE (c_X10_parentsOf ad (ad 1) m_undoCount m_thrown_52 m_hasSnapshot m_rows m_lineLength m_formattedLength m_bufferLength m_limit m_next m_beginsAt m_token m_error m_errorAt m_errorPosition m_nested m_codeCount m_now v2 r54 h9) mX10_parentsOf tw1515 ⟨Nat.le_of_ble_eq_true rfl, Nat.le_of_ble_eq_true rfl⟩ hP hD hS hA ⟨Nat.zero_le _, Nat.zero_le _⟩ 0 10 rfl rfl rfl (wr := [((ad 14), .inl (cI, 448, .inl m_boxAt)), ((ad 9), .inl (cI, 16, .inl m_generation)), ((ad 4), .inl (cJ, 1300, .inr (.inl m_history))), ((ad 13), .inl (cZ, 28, .inl (bF m_isThere))), ((ad 10), .inl (cI, 12, .inl m_level)), ((ad 12), .inl (cI, 28, .inl m_rowOf)), ((ad 11), .inl (cI, 16, .inl m_rowSize))]) [0, 6] [1, 2, 3, 4, 5, 7, 8] rfl rfl rfl rfl (by decide) (As := [.int v2]) (rest := []) rfl hl.1 rfl (Nat.le_of_ble_eq_true rfl) dX10_adopt_54 (fun H locs hP hD hS => ?_)
    refine W.eq (g2 := F0 m 57 ls [.int r54]) rfl ?_
    have hP : va_P (dC, dI) vwCl [((ad 14), .inl (cI, 448, .inl m_boxAt)), ((ad 9), .inl (cI, 16, .inl m_generation)), ((ad 4), .inl (cJ, 1300, .inr (.inl m_history))), ((ad 13), .inl (cZ, 28, .inl (bF m_isThere))), ((ad 10), .inl (cI, 12, .inl m_level)), ((ad 12), .inl (cI, 28, .inl m_rowOf)), ((ad 11), .inl (cI, 16, .inl m_rowSize)), (ad 0, .inr (10, oM ad m_undoCount m_thrown_52 m_hasSnapshot (ad 1) m_rows m_lineLength m_formattedLength m_bufferLength m_limit m_next m_beginsAt m_token m_error m_errorAt m_errorPosition m_nested m_codeCount)), ((ad 1), .inl (cJ, 130, .inr (.inl m_now)))] H := hP
    have hD : va_D A [((ad 14), .inl (cI, 448, .inl m_boxAt)), ((ad 9), .inl (cI, 16, .inl m_generation)), ((ad 4), .inl (cJ, 1300, .inr (.inl m_history))), ((ad 13), .inl (cZ, 28, .inl (bF m_isThere))), ((ad 10), .inl (cI, 12, .inl m_level)), ((ad 12), .inl (cI, 28, .inl m_rowOf)), ((ad 11), .inl (cI, 16, .inl m_rowSize)), (ad 0, .inr (10, oM ad m_undoCount m_thrown_52 m_hasSnapshot (ad 1) m_rows m_lineLength m_formattedLength m_bufferLength m_limit m_next m_beginsAt m_token m_error m_errorAt m_errorPosition m_nested m_codeCount)), ((ad 1), .inl (cJ, 130, .inr (.inl m_now)))] := hD
    refine lv_iconst (v := -1) hx hb dX10_adopt_57 (by decide) ?_
    refine lv_icmp_eq (tgt := 66) hx hb dX10_adopt_58 (by decide) (fun h9 => ?_) (fun h9 => ?_)
    · have hf := itt h9 hf
      refine lv_bipush (v := -3) hx hb dX10_adopt_66 (by decide) ?_
      cases hf
      exact g_iret S hr hlocks (hP.sub [7, 0, 1, 2, 3, 4, 8, 5, 6] rfl) (hD.sub [7, 0, 1, 2, 3, 4, 8, 5, 6] (by decide) rfl) hS dX10_adopt_68
    · have hf := itf h9 hf
      refine lv_bipush (v := -2) hx hb dX10_adopt_61 (by decide) ?_
      refine lv_goto (tgt := 68) hx hb dX10_adopt_63 (by decide) ?_
      cases hf
      exact g_iret S hr hlocks (hP.sub [7, 0, 1, 2, 3, 4, 8, 5, 6] rfl) (hD.sub [7, 0, 1, 2, 3, 4, 8, 5, 6] (by decide) rfl) hS dX10_adopt_68
  have J25 : ∀ (m_thrown_25 : Int32) (H : Heap) (locs : List Loc) (ls : Array Slot), p10_adopt_J25 m_boxAt m_generation m_history m_isThere m_level m_now m_rowOf m_rowSize m_rows m_undoCount v1 v2 m_thrown_25 = some (r9, m_boxAt_9, m_generation_9, m_history_9, m_isThere_9, m_level_9, m_now_9, m_rowOf_9, m_rowSize_9, m_rows_9, m_thrown_9, m_undoCount_9) → va_P (dC, dI) vwCl [(ad 0, .inr (10, oM ad m_undoCount m_thrown_25 m_hasSnapshot (ad 1) m_rows m_lineLength m_formattedLength m_bufferLength m_limit m_next m_beginsAt m_token m_error m_errorAt m_errorPosition m_nested m_codeCount)), ((ad 14), .inl (cI, 448, .inl m_boxAt)), ((ad 9), .inl (cI, 16, .inl m_generation)), ((ad 4), .inl (cJ, 1300, .inr (.inl m_history))), ((ad 13), .inl (cZ, 28, .inl (bF m_isThere))), ((ad 10), .inl (cI, 12, .inl m_level)), ((ad 1), .inl (cJ, 130, .inr (.inl m_now))), ((ad 12), .inl (cI, 28, .inl m_rowOf)), ((ad 11), .inl (cI, 16, .inl m_rowSize))] H → va_D A [(ad 0, .inr (10, oM ad m_undoCount m_thrown_25 m_hasSnapshot (ad 1) m_rows m_lineLength m_formattedLength m_bufferLength m_limit m_next m_beginsAt m_token m_error m_errorAt m_errorPosition m_nested m_codeCount)), ((ad 14), .inl (cI, 448, .inl m_boxAt)), ((ad 9), .inl (cI, 16, .inl m_generation)), ((ad 4), .inl (cJ, 1300, .inr (.inl m_history))), ((ad 13), .inl (cZ, 28, .inl (bF m_isThere))), ((ad 10), .inl (cI, 12, .inl m_level)), ((ad 1), .inl (cJ, 130, .inr (.inl m_now))), ((ad 12), .inl (cI, 28, .inl m_rowOf)), ((ad 11), .inl (cI, 16, .inl m_rowSize))] → va_S A s.heap H locs → lv_has ls 3 [(0, .ref (ad 0)), (1, .int v1), (2, .int v2)] → W p l e ({ frames := 4, cells := 0, slots := 0, locals := 93 }) s m ([.ref (ad 0), .int v1, .int v2] : List Value).toArray below meth c H locs 0 0 (MQ below (gQ dC dI (some (.int r9)) A [(ad 0, .inr (10, oM ad m_undoCount_9 m_thrown_9 m_hasSnapshot (ad 1) m_rows_9 m_lineLength m_formattedLength m_bufferLength m_limit m_next m_beginsAt m_token m_error m_errorAt m_errorPosition m_nested m_codeCount)), ((ad 14), .inl (cI, 448, .inl m_boxAt_9)), ((ad 9), .inl (cI, 16, .inl m_generation_9)), ((ad 4), .inl (cJ, 1300, .inr (.inl m_history_9))), ((ad 13), .inl (cZ, 28, .inl (bF m_isThere_9))), ((ad 10), .inl (cI, 12, .inl m_level_9)), ((ad 1), .inl (cJ, 130, .inr (.inl m_now_9))), ((ad 12), .inl (cI, 28, .inl m_rowOf_9)), ((ad 11), .inl (cI, 16, .inl m_rowSize_9))]) ([.ref (ad 0), .int v1, .int v2] : List Value).toArray s 0 0 A) (F0 m 25 ls []) := by
    intro m_thrown_25 H locs ls hf hP hD hS hl
    rw [p10_adopt_J25] at hf
    refine lv_aload_n hx hb dX10_adopt_25 rfl (lv_at hl 0 rfl) ?_
    refine va_get (D := (dC, dI)) (ci := 10) (v := .int m_thrown_25) (C := RX10) (T := TX10) (N := 37) hx hb htg inX10 hown hE.1 hP 0 rfl rfl 5 (by decide) (htg _ tw1387) (fun _ h9 => h9) rfl dX10_adopt_26 ?_
    refine lv_if_eq (tgt := 34) hx hb dX10_adopt_29 (by decide) (fun h9 => ?_) (fun h9 => ?_)
    · have hf := itt h9 hf
      refine lv_aload_n hx hb dX10_adopt_34 rfl (lv_at hl 0 rfl) ?_
      refine lv_iload_n hx hb dX10_adopt_35 rfl (lv_at hl 2 rfl) ?_
      obtain ⟨r36, h9, hf⟩ := ob_s hf
      refine gcV (index := 117) S hE (c_X10_parentsOf ad (ad 1) m_undoCount m_thrown_25 m_hasSnapshot m_rows m_lineLength m_formattedLength m_bufferLength m_limit m_next m_beginsAt m_token m_error m_errorAt m_errorPosition m_nested m_codeCount m_now v2 r36 h9) mX10_parentsOf tw1515 ⟨Nat.le_of_ble_eq_true rfl, Nat.le_of_ble_eq_true rfl⟩ hP hD hS hA ⟨Nat.zero_le _, Nat.zero_le _⟩ 0 10 rfl rfl rfl (wr := [((ad 14), .inl (cI, 448, .inl m_boxAt)), ((ad 9), .inl (cI, 16, .inl m_generation)), ((ad 4), .inl (cJ, 1300, .inr (.inl m_history))), ((ad 13), .inl (cZ, 28, .inl (bF m_isThere))), ((ad 10), .inl (cI, 12, .inl m_level)), ((ad 12), .inl (cI, 28, .inl m_rowOf)), ((ad 11), .inl (cI, 16, .inl m_rowSize))]) [0, 6] [1, 2, 3, 4, 5, 7, 8] rfl rfl rfl rfl (by decide) (As := [.int v2]) (rest := []) rfl hl.1 rfl (Nat.le_of_ble_eq_true rfl) dX10_adopt_36 (fun H locs hP hD hS => ?_)
      refine W.eq (g2 := F0 m 39 ls [.int r36]) rfl ?_
      have hP : va_P (dC, dI) vwCl [((ad 14), .inl (cI, 448, .inl m_boxAt)), ((ad 9), .inl (cI, 16, .inl m_generation)), ((ad 4), .inl (cJ, 1300, .inr (.inl m_history))), ((ad 13), .inl (cZ, 28, .inl (bF m_isThere))), ((ad 10), .inl (cI, 12, .inl m_level)), ((ad 12), .inl (cI, 28, .inl m_rowOf)), ((ad 11), .inl (cI, 16, .inl m_rowSize)), (ad 0, .inr (10, oM ad m_undoCount m_thrown_25 m_hasSnapshot (ad 1) m_rows m_lineLength m_formattedLength m_bufferLength m_limit m_next m_beginsAt m_token m_error m_errorAt m_errorPosition m_nested m_codeCount)), ((ad 1), .inl (cJ, 130, .inr (.inl m_now)))] H := hP
      have hD : va_D A [((ad 14), .inl (cI, 448, .inl m_boxAt)), ((ad 9), .inl (cI, 16, .inl m_generation)), ((ad 4), .inl (cJ, 1300, .inr (.inl m_history))), ((ad 13), .inl (cZ, 28, .inl (bF m_isThere))), ((ad 10), .inl (cI, 12, .inl m_level)), ((ad 12), .inl (cI, 28, .inl m_rowOf)), ((ad 11), .inl (cI, 16, .inl m_rowSize)), (ad 0, .inr (10, oM ad m_undoCount m_thrown_25 m_hasSnapshot (ad 1) m_rows m_lineLength m_formattedLength m_bufferLength m_limit m_next m_beginsAt m_token m_error m_errorAt m_errorPosition m_nested m_codeCount)), ((ad 1), .inl (cJ, 130, .inr (.inl m_now)))] := hD
      refine lv_iconst (v := -1) hx hb dX10_adopt_39 (by decide) ?_
      refine lv_icmp_ne (tgt := 52) hx hb dX10_adopt_40 (by decide) (fun h9 => ?_) (fun h9 => ?_)
      · have hf := itf h9 hf
        exact J52 m_thrown_25 H locs ls hf (hP.sub [7, 0, 1, 2, 3, 4, 8, 5, 6] rfl) (hD.sub [7, 0, 1, 2, 3, 4, 8, 5, 6] (by decide) rfl) hS (lv_sub hl [0, 2] rfl)
      · have hf := itt h9 hf
        refine lv_aload_n hx hb dX10_adopt_43 rfl (lv_at hl 0 rfl) ?_
        refine lv_iload_n hx hb dX10_adopt_44 rfl (lv_at hl 1 rfl) ?_
        refine lv_iload_n hx hb dX10_adopt_45 rfl (lv_at hl 2 rfl) ?_
        obtain ⟨r46, h9, hf⟩ := ob_s hf
        refine gcV (index := 336) S hE (c_X10_isAncestorOfBoth ad (ad 1) m_undoCount m_thrown_25 m_hasSnapshot m_rows m_lineLength m_formattedLength m_bufferLength m_limit m_next m_beginsAt m_token m_error m_errorAt m_errorPosition m_nested m_codeCount m_now v1 v2 r46 h9) mX10_isAncestorOfBoth tw1865 ⟨Nat.le_of_ble_eq_true rfl, Nat.le_of_ble_eq_true rfl⟩ hP hD hS hA ⟨Nat.zero_le _, Nat.zero_le _⟩ 7 10 rfl rfl rfl (wr := [((ad 14), .inl (cI, 448, .inl m_boxAt)), ((ad 9), .inl (cI, 16, .inl m_generation)), ((ad 4), .inl (cJ, 1300, .inr (.inl m_history))), ((ad 13), .inl (cZ, 28, .inl (bF m_isThere))), ((ad 10), .inl (cI, 12, .inl m_level)), ((ad 12), .inl (cI, 28, .inl m_rowOf)), ((ad 11), .inl (cI, 16, .inl m_rowSize))]) [7, 8] [0, 1, 2, 3, 4, 5, 6] rfl rfl rfl rfl (by decide) (As := [.int v1, .int v2]) (rest := []) rfl hl.1 rfl (Nat.le_of_ble_eq_true rfl) dX10_adopt_46 (fun H locs hP hD hS => ?_)
        refine W.eq (g2 := F0 m 49 ls [.int (bI r46)]) rfl ?_
        have hP : va_P (dC, dI) vwCl [((ad 14), .inl (cI, 448, .inl m_boxAt)), ((ad 9), .inl (cI, 16, .inl m_generation)), ((ad 4), .inl (cJ, 1300, .inr (.inl m_history))), ((ad 13), .inl (cZ, 28, .inl (bF m_isThere))), ((ad 10), .inl (cI, 12, .inl m_level)), ((ad 12), .inl (cI, 28, .inl m_rowOf)), ((ad 11), .inl (cI, 16, .inl m_rowSize)), (ad 0, .inr (10, oM ad m_undoCount m_thrown_25 m_hasSnapshot (ad 1) m_rows m_lineLength m_formattedLength m_bufferLength m_limit m_next m_beginsAt m_token m_error m_errorAt m_errorPosition m_nested m_codeCount)), ((ad 1), .inl (cJ, 130, .inr (.inl m_now)))] H := hP
        have hD : va_D A [((ad 14), .inl (cI, 448, .inl m_boxAt)), ((ad 9), .inl (cI, 16, .inl m_generation)), ((ad 4), .inl (cJ, 1300, .inr (.inl m_history))), ((ad 13), .inl (cZ, 28, .inl (bF m_isThere))), ((ad 10), .inl (cI, 12, .inl m_level)), ((ad 12), .inl (cI, 28, .inl m_rowOf)), ((ad 11), .inl (cI, 16, .inl m_rowSize)), (ad 0, .inr (10, oM ad m_undoCount m_thrown_25 m_hasSnapshot (ad 1) m_rows m_lineLength m_formattedLength m_bufferLength m_limit m_next m_beginsAt m_token m_error m_errorAt m_errorPosition m_nested m_codeCount)), ((ad 1), .inl (cJ, 130, .inr (.inl m_now)))] := hD
        refine lv_if_eq (tgt := 69) hx hb dX10_adopt_49 (by decide) (fun h9 => ?_) (fun h9 => ?_)
        · have hf := ctf (bI_0 h9) hf
          refine lv_aload_n hx hb dX10_adopt_69 rfl (lv_at hl 0 rfl) ?_
          obtain ⟨⟨m_history_70, m_undoCount_70⟩, h9, hf⟩ := ob_s hf
          have hf := uc2_e hf
          refine gcV (index := 327) S hE (c_X10_record ad m_undoCount m_thrown_25 m_hasSnapshot m_rows m_lineLength m_formattedLength m_bufferLength m_limit m_next m_beginsAt m_token m_error m_errorAt m_errorPosition m_nested m_codeCount m_history m_now m_history_70 m_undoCount_70 h9) mX10_record tw1846 ⟨Nat.le_of_ble_eq_true rfl, Nat.le_of_ble_eq_true rfl⟩ hP hD hS hA ⟨Nat.zero_le _, Nat.zero_le _⟩ 7 10 rfl rfl rfl (wr := [((ad 14), .inl (cI, 448, .inl m_boxAt)), ((ad 9), .inl (cI, 16, .inl m_generation)), ((ad 13), .inl (cZ, 28, .inl (bF m_isThere))), ((ad 10), .inl (cI, 12, .inl m_level)), ((ad 12), .inl (cI, 28, .inl m_rowOf)), ((ad 11), .inl (cI, 16, .inl m_rowSize))]) [7, 2, 8] [0, 1, 3, 4, 5, 6] rfl rfl rfl rfl (by decide) (As := []) (rest := []) rfl hl.1 rfl (Nat.le_of_ble_eq_true rfl) dX10_adopt_70 (fun H locs hP hD hS => ?_)
          refine W.eq (g2 := F0 m 73 ls []) rfl ?_
          have hP : va_P (dC, dI) vwCl [((ad 14), .inl (cI, 448, .inl m_boxAt)), ((ad 9), .inl (cI, 16, .inl m_generation)), ((ad 13), .inl (cZ, 28, .inl (bF m_isThere))), ((ad 10), .inl (cI, 12, .inl m_level)), ((ad 12), .inl (cI, 28, .inl m_rowOf)), ((ad 11), .inl (cI, 16, .inl m_rowSize)), (ad 0, .inr (10, oM ad m_undoCount_70 m_thrown_25 m_hasSnapshot (ad 1) m_rows m_lineLength m_formattedLength m_bufferLength m_limit m_next m_beginsAt m_token m_error m_errorAt m_errorPosition m_nested m_codeCount)), ((ad 4), .inl (cJ, 1300, .inr (.inl m_history_70))), ((ad 1), .inl (cJ, 130, .inr (.inl m_now)))] H := hP
          have hD : va_D A [((ad 14), .inl (cI, 448, .inl m_boxAt)), ((ad 9), .inl (cI, 16, .inl m_generation)), ((ad 13), .inl (cZ, 28, .inl (bF m_isThere))), ((ad 10), .inl (cI, 12, .inl m_level)), ((ad 12), .inl (cI, 28, .inl m_rowOf)), ((ad 11), .inl (cI, 16, .inl m_rowSize)), (ad 0, .inr (10, oM ad m_undoCount_70 m_thrown_25 m_hasSnapshot (ad 1) m_rows m_lineLength m_formattedLength m_bufferLength m_limit m_next m_beginsAt m_token m_error m_errorAt m_errorPosition m_nested m_codeCount)), ((ad 4), .inl (cJ, 1300, .inr (.inl m_history_70))), ((ad 1), .inl (cJ, 130, .inr (.inl m_now)))] := hD
          refine lv_aload_n hx hb dX10_adopt_73 rfl (lv_at hl 0 rfl) ?_
          refine lv_iload_n hx hb dX10_adopt_74 rfl (lv_at hl 2 rfl) ?_
          refine lv_iconst (v := 1) hx hb dX10_adopt_75 (by decide) ?_
          refine lv_iload_n hx hb dX10_adopt_76 rfl (lv_at hl 1 rfl) ?_
          refine lv_i2l hx hb dX10_adopt_77 rfl ?_
          obtain ⟨m_now_78, h9, hf⟩ := ob_s hf
          refine gcV (index := 339) S hE (c_X10_putPerson ad (ad 1) m_undoCount_70 m_thrown_25 m_hasSnapshot m_rows m_lineLength m_formattedLength m_bufferLength m_limit m_next m_beginsAt m_token m_error m_errorAt m_errorPosition m_nested m_codeCount m_now v2 (1 : Int32) v1.toInt64 m_now_78 h9) mX10_putPerson tw1869 ⟨Nat.le_of_ble_eq_true rfl, Nat.le_of_ble_eq_true rfl⟩ hP hD hS hA ⟨Nat.zero_le _, Nat.zero_le _⟩ 6 10 rfl rfl rfl (wr := [((ad 14), .inl (cI, 448, .inl m_boxAt)), ((ad 9), .inl (cI, 16, .inl m_generation)), ((ad 13), .inl (cZ, 28, .inl (bF m_isThere))), ((ad 10), .inl (cI, 12, .inl m_level)), ((ad 12), .inl (cI, 28, .inl m_rowOf)), ((ad 11), .inl (cI, 16, .inl m_rowSize)), ((ad 4), .inl (cJ, 1300, .inr (.inl m_history_70)))]) [6, 8] [0, 1, 2, 3, 4, 5, 7] rfl rfl rfl rfl (by decide) (As := [.int v2, .int (1 : Int32), .long v1.toInt64]) (rest := []) rfl hl.1 rfl (Nat.le_of_ble_eq_true rfl) dX10_adopt_78 (fun H locs hP hD hS => ?_)
          refine W.eq (g2 := F0 m 81 ls []) rfl ?_
          have hP : va_P (dC, dI) vwCl [((ad 14), .inl (cI, 448, .inl m_boxAt)), ((ad 9), .inl (cI, 16, .inl m_generation)), ((ad 13), .inl (cZ, 28, .inl (bF m_isThere))), ((ad 10), .inl (cI, 12, .inl m_level)), ((ad 12), .inl (cI, 28, .inl m_rowOf)), ((ad 11), .inl (cI, 16, .inl m_rowSize)), ((ad 4), .inl (cJ, 1300, .inr (.inl m_history_70))), (ad 0, .inr (10, oM ad m_undoCount_70 m_thrown_25 m_hasSnapshot (ad 1) m_rows m_lineLength m_formattedLength m_bufferLength m_limit m_next m_beginsAt m_token m_error m_errorAt m_errorPosition m_nested m_codeCount)), ((ad 1), .inl (cJ, 130, .inr (.inl m_now_78)))] H := hP
          have hD : va_D A [((ad 14), .inl (cI, 448, .inl m_boxAt)), ((ad 9), .inl (cI, 16, .inl m_generation)), ((ad 13), .inl (cZ, 28, .inl (bF m_isThere))), ((ad 10), .inl (cI, 12, .inl m_level)), ((ad 12), .inl (cI, 28, .inl m_rowOf)), ((ad 11), .inl (cI, 16, .inl m_rowSize)), ((ad 4), .inl (cJ, 1300, .inr (.inl m_history_70))), (ad 0, .inr (10, oM ad m_undoCount_70 m_thrown_25 m_hasSnapshot (ad 1) m_rows m_lineLength m_formattedLength m_bufferLength m_limit m_next m_beginsAt m_token m_error m_errorAt m_errorPosition m_nested m_codeCount)), ((ad 1), .inl (cJ, 130, .inr (.inl m_now_78)))] := hD
          refine lv_aload_n hx hb dX10_adopt_81 rfl (lv_at hl 0 rfl) ?_
          obtain ⟨⟨m_boxAt_82, m_now_82, m_generation_82, m_isThere_82, m_level_82, m_rowOf_82, m_rowSize_82, m_rows_82⟩, h9, hf⟩ := ob_s hf
          have hf := uc8_e hf
          refine gcV (index := 333) S hE (c_X10_makePlain ad (ad 1) m_undoCount_70 m_thrown_25 m_hasSnapshot m_rows m_lineLength m_formattedLength m_bufferLength m_limit m_next m_beginsAt m_token m_error m_errorAt m_errorPosition m_nested m_codeCount m_boxAt m_now_78 m_generation m_isThere m_level m_rowOf m_rowSize m_boxAt_82 m_now_82 m_generation_82 m_isThere_82 m_level_82 m_rowOf_82 m_rowSize_82 m_rows_82 h9) mX10_makePlain tw1857 ⟨Nat.le_of_ble_eq_true rfl, Nat.le_of_ble_eq_true rfl⟩ hP hD hS hA ⟨Nat.zero_le _, Nat.zero_le _⟩ 7 10 rfl rfl rfl (wr := [((ad 4), .inl (cJ, 1300, .inr (.inl m_history_70)))]) [7, 0, 8, 1, 2, 3, 4, 5] [6] rfl rfl rfl rfl (by decide) (As := []) (rest := []) rfl hl.1 rfl (Nat.le_of_ble_eq_true rfl) dX10_adopt_82 (fun H locs hP hD hS => ?_)
          refine W.eq (g2 := F0 m 85 ls []) rfl ?_
          have hP : va_P (dC, dI) vwCl [((ad 4), .inl (cJ, 1300, .inr (.inl m_history_70))), (ad 0, .inr (10, oM ad m_undoCount_70 m_thrown_25 m_hasSnapshot (ad 1) m_rows_82 m_lineLength m_formattedLength m_bufferLength m_limit m_next m_beginsAt m_token m_error m_errorAt m_errorPosition m_nested m_codeCount)), ((ad 14), .inl (cI, 448, .inl m_boxAt_82)), ((ad 1), .inl (cJ, 130, .inr (.inl m_now_82))), ((ad 9), .inl (cI, 16, .inl m_generation_82)), ((ad 13), .inl (cZ, 28, .inl (bF m_isThere_82))), ((ad 10), .inl (cI, 12, .inl m_level_82)), ((ad 12), .inl (cI, 28, .inl m_rowOf_82)), ((ad 11), .inl (cI, 16, .inl m_rowSize_82))] H := hP
          have hD : va_D A [((ad 4), .inl (cJ, 1300, .inr (.inl m_history_70))), (ad 0, .inr (10, oM ad m_undoCount_70 m_thrown_25 m_hasSnapshot (ad 1) m_rows_82 m_lineLength m_formattedLength m_bufferLength m_limit m_next m_beginsAt m_token m_error m_errorAt m_errorPosition m_nested m_codeCount)), ((ad 14), .inl (cI, 448, .inl m_boxAt_82)), ((ad 1), .inl (cJ, 130, .inr (.inl m_now_82))), ((ad 9), .inl (cI, 16, .inl m_generation_82)), ((ad 13), .inl (cZ, 28, .inl (bF m_isThere_82))), ((ad 10), .inl (cI, 12, .inl m_level_82)), ((ad 12), .inl (cI, 28, .inl m_rowOf_82)), ((ad 11), .inl (cI, 16, .inl m_rowSize_82))] := hD
          refine lv_aload_n hx hb dX10_adopt_85 rfl (lv_at hl 0 rfl) ?_
          refine va_get (D := (dC, dI)) (ci := 10) (v := .ref (ad 9)) (C := RX10) (T := TX10) (N := 37) hx hb htg inX10 hown hE.1 hP 1 rfl rfl 8 (by decide) (htg _ tw1390) (fun _ h9 => h9) rfl dX10_adopt_86 ?_
          refine lv_iload_n hx hb dX10_adopt_89 rfl (lv_at hl 2 rfl) ?_
          obtain ⟨h9, hf⟩ := gd_s hf
          refine va_iald hx hb hE.1 hP 4 0 rfl rfl h9 dX10_adopt_90 ?_
          cases hf
          exact g_iret S hr hlocks (hP.sub [1, 2, 4, 0, 5, 6, 3, 7, 8] rfl) (hD.sub [1, 2, 4, 0, 5, 6, 3, 7, 8] (by decide) rfl) hS dX10_adopt_91
        · have hf := ctt (bI_1 h9) hf
          exact J52 m_thrown_25 H locs ls hf (hP.sub [7, 0, 1, 2, 3, 4, 8, 5, 6] rfl) (hD.sub [7, 0, 1, 2, 3, 4, 8, 5, 6] (by decide) rfl) hS (lv_sub hl [0, 2] rfl)
    · have hf := itf h9 hf
      refine lv_iconst (v := 0) hx hb dX10_adopt_32 (by decide) ?_
      cases hf
      exact g_iret S hr hlocks hP hD hS dX10_adopt_33
  refine lv_aload_n hx hb dX10_adopt_0 rfl (lv_at hl 0 rfl) ?_
  refine lv_aload_n hx hb dX10_adopt_1 rfl (lv_at hl 0 rfl) ?_
  refine lv_iload_n hx hb dX10_adopt_2 rfl (lv_at hl 1 rfl) ?_
  obtain ⟨r3, h9, hf⟩ := ob_s hf
  refine gcV (index := 246) S hE (c_X10_isUnion ad (ad 1) m_undoCount m_thrown m_hasSnapshot m_rows m_lineLength m_formattedLength m_bufferLength m_limit m_next m_beginsAt m_token m_error m_errorAt m_errorPosition m_nested m_codeCount m_now v1 r3 h9) mX10_isUnion tw1596 ⟨Nat.le_of_ble_eq_true rfl, Nat.le_of_ble_eq_true rfl⟩ hP hD hS hA ⟨Nat.zero_le _, Nat.zero_le _⟩ 0 10 rfl rfl rfl (wr := [((ad 14), .inl (cI, 448, .inl m_boxAt)), ((ad 9), .inl (cI, 16, .inl m_generation)), ((ad 4), .inl (cJ, 1300, .inr (.inl m_history))), ((ad 13), .inl (cZ, 28, .inl (bF m_isThere))), ((ad 10), .inl (cI, 12, .inl m_level)), ((ad 12), .inl (cI, 28, .inl m_rowOf)), ((ad 11), .inl (cI, 16, .inl m_rowSize))]) [0, 6] [1, 2, 3, 4, 5, 7, 8] rfl rfl rfl rfl (by decide) (As := [.int v1]) (rest := [.ref (ad 0)]) rfl hl.1 rfl (Nat.le_of_ble_eq_true rfl) dX10_adopt_3 (fun H locs hP hD hS => ?_)
  refine W.eq (g2 := F0 m 6 ls [.int (bI r3), .ref (ad 0)]) rfl ?_
  have hP : va_P (dC, dI) vwCl [((ad 14), .inl (cI, 448, .inl m_boxAt)), ((ad 9), .inl (cI, 16, .inl m_generation)), ((ad 4), .inl (cJ, 1300, .inr (.inl m_history))), ((ad 13), .inl (cZ, 28, .inl (bF m_isThere))), ((ad 10), .inl (cI, 12, .inl m_level)), ((ad 12), .inl (cI, 28, .inl m_rowOf)), ((ad 11), .inl (cI, 16, .inl m_rowSize)), (ad 0, .inr (10, oM ad m_undoCount m_thrown m_hasSnapshot (ad 1) m_rows m_lineLength m_formattedLength m_bufferLength m_limit m_next m_beginsAt m_token m_error m_errorAt m_errorPosition m_nested m_codeCount)), ((ad 1), .inl (cJ, 130, .inr (.inl m_now)))] H := hP
  have hD : va_D A [((ad 14), .inl (cI, 448, .inl m_boxAt)), ((ad 9), .inl (cI, 16, .inl m_generation)), ((ad 4), .inl (cJ, 1300, .inr (.inl m_history))), ((ad 13), .inl (cZ, 28, .inl (bF m_isThere))), ((ad 10), .inl (cI, 12, .inl m_level)), ((ad 12), .inl (cI, 28, .inl m_rowOf)), ((ad 11), .inl (cI, 16, .inl m_rowSize)), (ad 0, .inr (10, oM ad m_undoCount m_thrown m_hasSnapshot (ad 1) m_rows m_lineLength m_formattedLength m_bufferLength m_limit m_next m_beginsAt m_token m_error m_errorAt m_errorPosition m_nested m_codeCount)), ((ad 1), .inl (cJ, 130, .inr (.inl m_now)))] := hD
  refine lv_if_eq (tgt := 21) hx hb dX10_adopt_6 (by decide) (fun h9 => ?_) (fun h9 => ?_)
  · have hf := ctf (bI_0 h9) hf
    refine lv_iconst (v := 1) hx hb dX10_adopt_21 (by decide) ?_
    refine va_put (D := (dC, dI)) (ci := 10) (v := .int (1 : Int32)) (ty := .int) (C := RX10) (T := TX10) (N := 37) hx hb htg inX10 tyX10 tyX10_ok nmX10 hown hE.1 hP hD hS 7 rfl rfl 5 (by decide) (htg _ tw1387) (fun _ h9 => h9) rfl (by decide +kernel) rfl rfl (Nat.le_of_ble_eq_true rfl) dX10_adopt_22 (fun H locs hP hD hS => ?_)
    have hP : va_P (dC, dI) vwCl [((ad 14), .inl (cI, 448, .inl m_boxAt)), ((ad 9), .inl (cI, 16, .inl m_generation)), ((ad 4), .inl (cJ, 1300, .inr (.inl m_history))), ((ad 13), .inl (cZ, 28, .inl (bF m_isThere))), ((ad 10), .inl (cI, 12, .inl m_level)), ((ad 12), .inl (cI, 28, .inl m_rowOf)), ((ad 11), .inl (cI, 16, .inl m_rowSize)), (ad 0, .inr (10, oM ad m_undoCount (1 : Int32) m_hasSnapshot (ad 1) m_rows m_lineLength m_formattedLength m_bufferLength m_limit m_next m_beginsAt m_token m_error m_errorAt m_errorPosition m_nested m_codeCount)), ((ad 1), .inl (cJ, 130, .inr (.inl m_now)))] H := hP
    have hD : va_D A [((ad 14), .inl (cI, 448, .inl m_boxAt)), ((ad 9), .inl (cI, 16, .inl m_generation)), ((ad 4), .inl (cJ, 1300, .inr (.inl m_history))), ((ad 13), .inl (cZ, 28, .inl (bF m_isThere))), ((ad 10), .inl (cI, 12, .inl m_level)), ((ad 12), .inl (cI, 28, .inl m_rowOf)), ((ad 11), .inl (cI, 16, .inl m_rowSize)), (ad 0, .inr (10, oM ad m_undoCount (1 : Int32) m_hasSnapshot (ad 1) m_rows m_lineLength m_formattedLength m_bufferLength m_limit m_next m_beginsAt m_token m_error m_errorAt m_errorPosition m_nested m_codeCount)), ((ad 1), .inl (cJ, 130, .inr (.inl m_now)))] := hD
    exact J25 (1 : Int32) H locs ls hf (hP.sub [7, 0, 1, 2, 3, 4, 8, 5, 6] rfl) (hD.sub [7, 0, 1, 2, 3, 4, 8, 5, 6] (by decide) rfl) hS (lv_sub hl [0, 1, 2] rfl)
  · have hf := ctt (bI_1 h9) hf
    refine lv_aload_n hx hb dX10_adopt_9 rfl (lv_at hl 0 rfl) ?_
    refine lv_iload_n hx hb dX10_adopt_10 rfl (lv_at hl 2 rfl) ?_
    obtain ⟨r11, h9, hf⟩ := ob_s hf
    refine gcV (index := 234) S hE (c_X10_isPerson ad (ad 1) m_undoCount m_thrown m_hasSnapshot m_rows m_lineLength m_formattedLength m_bufferLength m_limit m_next m_beginsAt m_token m_error m_errorAt m_errorPosition m_nested m_codeCount m_now v2 r11 h9) mX10_isPerson tw1576 ⟨Nat.le_of_ble_eq_true rfl, Nat.le_of_ble_eq_true rfl⟩ hP hD hS hA ⟨Nat.zero_le _, Nat.zero_le _⟩ 7 10 rfl rfl rfl (wr := [((ad 14), .inl (cI, 448, .inl m_boxAt)), ((ad 9), .inl (cI, 16, .inl m_generation)), ((ad 4), .inl (cJ, 1300, .inr (.inl m_history))), ((ad 13), .inl (cZ, 28, .inl (bF m_isThere))), ((ad 10), .inl (cI, 12, .inl m_level)), ((ad 12), .inl (cI, 28, .inl m_rowOf)), ((ad 11), .inl (cI, 16, .inl m_rowSize))]) [7, 8] [0, 1, 2, 3, 4, 5, 6] rfl rfl rfl rfl (by decide) (As := [.int v2]) (rest := [.ref (ad 0)]) rfl hl.1 rfl (Nat.le_of_ble_eq_true rfl) dX10_adopt_11 (fun H locs hP hD hS => ?_)
    refine W.eq (g2 := F0 m 14 ls [.int (bI r11), .ref (ad 0)]) rfl ?_
    have hP : va_P (dC, dI) vwCl [((ad 14), .inl (cI, 448, .inl m_boxAt)), ((ad 9), .inl (cI, 16, .inl m_generation)), ((ad 4), .inl (cJ, 1300, .inr (.inl m_history))), ((ad 13), .inl (cZ, 28, .inl (bF m_isThere))), ((ad 10), .inl (cI, 12, .inl m_level)), ((ad 12), .inl (cI, 28, .inl m_rowOf)), ((ad 11), .inl (cI, 16, .inl m_rowSize)), (ad 0, .inr (10, oM ad m_undoCount m_thrown m_hasSnapshot (ad 1) m_rows m_lineLength m_formattedLength m_bufferLength m_limit m_next m_beginsAt m_token m_error m_errorAt m_errorPosition m_nested m_codeCount)), ((ad 1), .inl (cJ, 130, .inr (.inl m_now)))] H := hP
    have hD : va_D A [((ad 14), .inl (cI, 448, .inl m_boxAt)), ((ad 9), .inl (cI, 16, .inl m_generation)), ((ad 4), .inl (cJ, 1300, .inr (.inl m_history))), ((ad 13), .inl (cZ, 28, .inl (bF m_isThere))), ((ad 10), .inl (cI, 12, .inl m_level)), ((ad 12), .inl (cI, 28, .inl m_rowOf)), ((ad 11), .inl (cI, 16, .inl m_rowSize)), (ad 0, .inr (10, oM ad m_undoCount m_thrown m_hasSnapshot (ad 1) m_rows m_lineLength m_formattedLength m_bufferLength m_limit m_next m_beginsAt m_token m_error m_errorAt m_errorPosition m_nested m_codeCount)), ((ad 1), .inl (cJ, 130, .inr (.inl m_now)))] := hD
    refine lv_if_eq (tgt := 21) hx hb dX10_adopt_14 (by decide) (fun h9 => ?_) (fun h9 => ?_)
    · have hf := ctf (bI_0 h9) hf
      refine lv_iconst (v := 1) hx hb dX10_adopt_21 (by decide) ?_
      refine va_put (D := (dC, dI)) (ci := 10) (v := .int (1 : Int32)) (ty := .int) (C := RX10) (T := TX10) (N := 37) hx hb htg inX10 tyX10 tyX10_ok nmX10 hown hE.1 hP hD hS 7 rfl rfl 5 (by decide) (htg _ tw1387) (fun _ h9 => h9) rfl (by decide +kernel) rfl rfl (Nat.le_of_ble_eq_true rfl) dX10_adopt_22 (fun H locs hP hD hS => ?_)
      have hP : va_P (dC, dI) vwCl [((ad 14), .inl (cI, 448, .inl m_boxAt)), ((ad 9), .inl (cI, 16, .inl m_generation)), ((ad 4), .inl (cJ, 1300, .inr (.inl m_history))), ((ad 13), .inl (cZ, 28, .inl (bF m_isThere))), ((ad 10), .inl (cI, 12, .inl m_level)), ((ad 12), .inl (cI, 28, .inl m_rowOf)), ((ad 11), .inl (cI, 16, .inl m_rowSize)), (ad 0, .inr (10, oM ad m_undoCount (1 : Int32) m_hasSnapshot (ad 1) m_rows m_lineLength m_formattedLength m_bufferLength m_limit m_next m_beginsAt m_token m_error m_errorAt m_errorPosition m_nested m_codeCount)), ((ad 1), .inl (cJ, 130, .inr (.inl m_now)))] H := hP
      have hD : va_D A [((ad 14), .inl (cI, 448, .inl m_boxAt)), ((ad 9), .inl (cI, 16, .inl m_generation)), ((ad 4), .inl (cJ, 1300, .inr (.inl m_history))), ((ad 13), .inl (cZ, 28, .inl (bF m_isThere))), ((ad 10), .inl (cI, 12, .inl m_level)), ((ad 12), .inl (cI, 28, .inl m_rowOf)), ((ad 11), .inl (cI, 16, .inl m_rowSize)), (ad 0, .inr (10, oM ad m_undoCount (1 : Int32) m_hasSnapshot (ad 1) m_rows m_lineLength m_formattedLength m_bufferLength m_limit m_next m_beginsAt m_token m_error m_errorAt m_errorPosition m_nested m_codeCount)), ((ad 1), .inl (cJ, 130, .inr (.inl m_now)))] := hD
      exact J25 (1 : Int32) H locs ls hf (hP.sub [7, 0, 1, 2, 3, 4, 8, 5, 6] rfl) (hD.sub [7, 0, 1, 2, 3, 4, 8, 5, 6] (by decide) rfl) hS (lv_sub hl [0, 1, 2] rfl)
    · have hf := ctt (bI_1 h9) hf
      refine lv_iconst (v := 0) hx hb dX10_adopt_17 (by decide) ?_
      refine lv_goto (tgt := 22) hx hb dX10_adopt_18 (by decide) ?_
      refine va_put (D := (dC, dI)) (ci := 10) (v := .int (0 : Int32)) (ty := .int) (C := RX10) (T := TX10) (N := 37) hx hb htg inX10 tyX10 tyX10_ok nmX10 hown hE.1 hP hD hS 7 rfl rfl 5 (by decide) (htg _ tw1387) (fun _ h9 => h9) rfl (by decide +kernel) rfl rfl (Nat.le_of_ble_eq_true rfl) dX10_adopt_22 (fun H locs hP hD hS => ?_)
      have hP : va_P (dC, dI) vwCl [((ad 14), .inl (cI, 448, .inl m_boxAt)), ((ad 9), .inl (cI, 16, .inl m_generation)), ((ad 4), .inl (cJ, 1300, .inr (.inl m_history))), ((ad 13), .inl (cZ, 28, .inl (bF m_isThere))), ((ad 10), .inl (cI, 12, .inl m_level)), ((ad 12), .inl (cI, 28, .inl m_rowOf)), ((ad 11), .inl (cI, 16, .inl m_rowSize)), (ad 0, .inr (10, oM ad m_undoCount (0 : Int32) m_hasSnapshot (ad 1) m_rows m_lineLength m_formattedLength m_bufferLength m_limit m_next m_beginsAt m_token m_error m_errorAt m_errorPosition m_nested m_codeCount)), ((ad 1), .inl (cJ, 130, .inr (.inl m_now)))] H := hP
      have hD : va_D A [((ad 14), .inl (cI, 448, .inl m_boxAt)), ((ad 9), .inl (cI, 16, .inl m_generation)), ((ad 4), .inl (cJ, 1300, .inr (.inl m_history))), ((ad 13), .inl (cZ, 28, .inl (bF m_isThere))), ((ad 10), .inl (cI, 12, .inl m_level)), ((ad 12), .inl (cI, 28, .inl m_rowOf)), ((ad 11), .inl (cI, 16, .inl m_rowSize)), (ad 0, .inr (10, oM ad m_undoCount (0 : Int32) m_hasSnapshot (ad 1) m_rows m_lineLength m_formattedLength m_bufferLength m_limit m_next m_beginsAt m_token m_error m_errorAt m_errorPosition m_nested m_codeCount)), ((ad 1), .inl (cJ, 130, .inr (.inl m_now)))] := hD
      exact J25 (0 : Int32) H locs ls hf (hP.sub [7, 0, 1, 2, 3, 4, 8, 5, 6] rfl) (hD.sub [7, 0, 1, 2, 3, 4, 8, 5, 6] (by decide) rfl) hS (lv_sub hl [0, 1, 2] rfl)
def p10_release (m_undoCount : Int32) (m_rows : Int32) (m_boxAt : Nat → Int32) (m_generation : Nat → Int32) (m_history : Nat → Int64) (m_isThere : Nat → Bool) (m_level : Nat → Int32) (m_now : Nat → Int64) (m_rowOf : Nat → Int32) (m_rowSize : Nat → Int32) (v1 : Int32) : Option (Int32 × (Nat → Int32) × (Nat → Int32) × (Nat → Int64) × (Nat → Bool) × (Nat → Int32) × (Nat → Int64) × (Nat → Int32) × (Nat → Int32) × Int32 × Int32 × Int32) := ob (p10_isPerson m_now v1) (fun r7 => (cond r7 (ob (p10_parentsOf m_now v1) (fun r21 => (if r21 = (-1 : Int32) then some ((-2 : Int32), m_boxAt, m_generation, m_history, m_isThere, m_level, m_now, m_rowOf, m_rowSize, m_rows, (0 : Int32), m_undoCount) else ob (p10_record m_undoCount m_history m_now) (uc2 fun m_history_34 m_undoCount_34 => ob (p10_putPerson m_now v1 (1 : Int32) (-1 : Int64)) (fun m_now_43 => ob (p10_makePlain m_boxAt m_now_43 m_generation m_isThere m_level m_rowOf m_rowSize) (uc8 fun m_boxAt_47 m_now_47 m_generation_47 m_isThere_47 m_level_47 m_rowOf_47 m_rowSize_47 m_rows_47 => some (r21, m_boxAt_47, m_generation_47, m_history_34, m_isThere_47, m_level_47, m_now_47, m_rowOf_47, m_rowSize_47, m_rows_47, (0 : Int32), m_undoCount_34))))))) (lb (p10_raise (1 : Int32)) (uc2 fun r15 m_thrown_15 => some (r15, m_boxAt, m_generation, m_history, m_isThere, m_level, m_now, m_rowOf, m_rowSize, m_rows, m_thrown_15, m_undoCount)))))
set_option maxHeartbeats 4000000 in
set_option maxRecDepth 100000 in
theorem c_X10_release (ad : Nat → Nat) (m_undoCount : Int32) (m_thrown : Int32) (m_hasSnapshot : Bool) (m_rows : Int32) (m_lineLength : Int32) (m_formattedLength : Int32) (m_bufferLength : Int32) (m_limit : Int32) (m_next : Int32) (m_beginsAt : Int32) (m_token : Int32) (m_error : Int32) (m_errorAt : Int32) (m_errorPosition : Int32) (m_nested : Int32) (m_codeCount : Int32) (m_boxAt : Nat → Int32) (m_generation : Nat → Int32) (m_history : Nat → Int64) (m_isThere : Nat → Bool) (m_level : Nat → Int32) (m_now : Nat → Int64) (m_rowOf : Nat → Int32) (m_rowSize : Nat → Int32) (v1 : Int32) (r9 : Int32) (m_boxAt_9 : Nat → Int32) (m_generation_9 : Nat → Int32) (m_history_9 : Nat → Int64) (m_isThere_9 : Nat → Bool) (m_level_9 : Nat → Int32) (m_now_9 : Nat → Int64) (m_rowOf_9 : Nat → Int32) (m_rowSize_9 : Nat → Int32) (m_rows_9 : Int32) (m_thrown_9 : Int32) (m_undoCount_9 : Int32) (hf : p10_release m_undoCount m_rows m_boxAt m_generation m_history m_isThere m_level m_now m_rowOf m_rowSize v1 = some (r9, m_boxAt_9, m_generation_9, m_history_9, m_isThere_9, m_level_9, m_now_9, m_rowOf_9, m_rowSize_9, m_rows_9, m_thrown_9, m_undoCount_9)) : gM l dC dI cI cJ cZ yX10_release cX10_release 3 (some .int) 4 90 [.ref (ad 0), .int v1] [(ad 0, .inr (10, oM ad m_undoCount m_thrown m_hasSnapshot (ad 1) m_rows m_lineLength m_formattedLength m_bufferLength m_limit m_next m_beginsAt m_token m_error m_errorAt m_errorPosition m_nested m_codeCount)), ((ad 14), .inl (cI, 448, .inl m_boxAt)), ((ad 9), .inl (cI, 16, .inl m_generation)), ((ad 4), .inl (cJ, 1300, .inr (.inl m_history))), ((ad 13), .inl (cZ, 28, .inl (bF m_isThere))), ((ad 10), .inl (cI, 12, .inl m_level)), ((ad 1), .inl (cJ, 130, .inr (.inl m_now))), ((ad 12), .inl (cI, 28, .inl m_rowOf)), ((ad 11), .inl (cI, 16, .inl m_rowSize))] [(ad 0, .inr (10, oM ad m_undoCount_9 m_thrown_9 m_hasSnapshot (ad 1) m_rows_9 m_lineLength m_formattedLength m_bufferLength m_limit m_next m_beginsAt m_token m_error m_errorAt m_errorPosition m_nested m_codeCount)), ((ad 14), .inl (cI, 448, .inl m_boxAt_9)), ((ad 9), .inl (cI, 16, .inl m_generation_9)), ((ad 4), .inl (cJ, 1300, .inr (.inl m_history_9))), ((ad 13), .inl (cZ, 28, .inl (bF m_isThere_9))), ((ad 10), .inl (cI, 12, .inl m_level_9)), ((ad 1), .inl (cJ, 130, .inr (.inl m_now_9))), ((ad 12), .inl (cI, 28, .inl m_rowOf_9)), ((ad 11), .inl (cI, 16, .inl m_rowSize_9))] (some (.int r9)) := by
  refine g_start (own := RX10) (by decide +kernel) rfl (Nat.le_of_ble_eq_true rfl) ?_
  intro p e s m below meth c A ls S hr hlocks hE hP hD hS hA hl hin
  have hx := S.1
  have hb := S.2.1
  have hml := S.2.2.1
  have hown := S.2.2.2.1
  have htg : ∀ w ∈ gw, w.before ([.ref (ad 0), .int v1] : List Value).toArray s = true := fun w h => S.2.2.2.2 w (List.mem_cons_of_mem _ h)
  have hl : lv_has ls 3 [(0, .ref (ad 0)), (1, .int v1)] := hl
  have hS0 := hS
  obtain ⟨H, hH⟩ : ∃ H, H = s.heap := ⟨_, rfl⟩
  obtain ⟨locs, hlc⟩ : ∃ locs : List Loc, locs = [] := ⟨_, rfl⟩
  have hS : va_S A s.heap H locs := by rw [hH, hlc]; exact hS0
  have hP : va_P (dC, dI) vwCl [(ad 0, .inr (10, oM ad m_undoCount m_thrown m_hasSnapshot (ad 1) m_rows m_lineLength m_formattedLength m_bufferLength m_limit m_next m_beginsAt m_token m_error m_errorAt m_errorPosition m_nested m_codeCount)), ((ad 14), .inl (cI, 448, .inl m_boxAt)), ((ad 9), .inl (cI, 16, .inl m_generation)), ((ad 4), .inl (cJ, 1300, .inr (.inl m_history))), ((ad 13), .inl (cZ, 28, .inl (bF m_isThere))), ((ad 10), .inl (cI, 12, .inl m_level)), ((ad 1), .inl (cJ, 130, .inr (.inl m_now))), ((ad 12), .inl (cI, 28, .inl m_rowOf)), ((ad 11), .inl (cI, 16, .inl m_rowSize))] H := by rw [hH]; exact hP
  suffices hgo : W p l e ({ frames := 4, cells := 0, slots := 0, locals := 90 }) s m ([.ref (ad 0), .int v1] : List Value).toArray below meth c H locs 0 0 (MQ below (gQ dC dI (some (.int r9)) A [(ad 0, .inr (10, oM ad m_undoCount_9 m_thrown_9 m_hasSnapshot (ad 1) m_rows_9 m_lineLength m_formattedLength m_bufferLength m_limit m_next m_beginsAt m_token m_error m_errorAt m_errorPosition m_nested m_codeCount)), ((ad 14), .inl (cI, 448, .inl m_boxAt_9)), ((ad 9), .inl (cI, 16, .inl m_generation_9)), ((ad 4), .inl (cJ, 1300, .inr (.inl m_history_9))), ((ad 13), .inl (cZ, 28, .inl (bF m_isThere_9))), ((ad 10), .inl (cI, 12, .inl m_level_9)), ((ad 1), .inl (cJ, 130, .inr (.inl m_now_9))), ((ad 12), .inl (cI, 28, .inl m_rowOf_9)), ((ad 11), .inl (cI, 16, .inl m_rowSize_9))]) ([.ref (ad 0), .int v1] : List Value).toArray s 0 0 A) (F0 m 0 ls []) by rw [hH, hlc] at hgo; exact hgo
  rw [p10_release] at hf
  refine lv_aload_n hx hb dX10_release_0 rfl (lv_at hl 0 rfl) ?_
  refine lv_iconst (v := 0) hx hb dX10_release_1 (by decide) ?_
  refine va_put (D := (dC, dI)) (ci := 10) (v := .int (0 : Int32)) (ty := .int) (C := RX10) (T := TX10) (N := 37) hx hb htg inX10 tyX10 tyX10_ok nmX10 hown hE.1 hP hD hS 0 rfl rfl 5 (by decide) (htg _ tw1387) (fun _ h9 => h9) rfl (by decide +kernel) rfl rfl (Nat.le_of_ble_eq_true rfl) dX10_release_2 (fun H locs hP hD hS => ?_)
  have hP : va_P (dC, dI) vwCl [(ad 0, .inr (10, oM ad m_undoCount (0 : Int32) m_hasSnapshot (ad 1) m_rows m_lineLength m_formattedLength m_bufferLength m_limit m_next m_beginsAt m_token m_error m_errorAt m_errorPosition m_nested m_codeCount)), ((ad 14), .inl (cI, 448, .inl m_boxAt)), ((ad 9), .inl (cI, 16, .inl m_generation)), ((ad 4), .inl (cJ, 1300, .inr (.inl m_history))), ((ad 13), .inl (cZ, 28, .inl (bF m_isThere))), ((ad 10), .inl (cI, 12, .inl m_level)), ((ad 1), .inl (cJ, 130, .inr (.inl m_now))), ((ad 12), .inl (cI, 28, .inl m_rowOf)), ((ad 11), .inl (cI, 16, .inl m_rowSize))] H := hP
  have hD : va_D A [(ad 0, .inr (10, oM ad m_undoCount (0 : Int32) m_hasSnapshot (ad 1) m_rows m_lineLength m_formattedLength m_bufferLength m_limit m_next m_beginsAt m_token m_error m_errorAt m_errorPosition m_nested m_codeCount)), ((ad 14), .inl (cI, 448, .inl m_boxAt)), ((ad 9), .inl (cI, 16, .inl m_generation)), ((ad 4), .inl (cJ, 1300, .inr (.inl m_history))), ((ad 13), .inl (cZ, 28, .inl (bF m_isThere))), ((ad 10), .inl (cI, 12, .inl m_level)), ((ad 1), .inl (cJ, 130, .inr (.inl m_now))), ((ad 12), .inl (cI, 28, .inl m_rowOf)), ((ad 11), .inl (cI, 16, .inl m_rowSize))] := hD
  refine lv_aload_n hx hb dX10_release_5 rfl (lv_at hl 0 rfl) ?_
  refine lv_iload_n hx hb dX10_release_6 rfl (lv_at hl 1 rfl) ?_
  obtain ⟨r7, h9, hf⟩ := ob_s hf
  refine gcV (index := 234) S hE (c_X10_isPerson ad (ad 1) m_undoCount (0 : Int32) m_hasSnapshot m_rows m_lineLength m_formattedLength m_bufferLength m_limit m_next m_beginsAt m_token m_error m_errorAt m_errorPosition m_nested m_codeCount m_now v1 r7 h9) mX10_isPerson tw1576 ⟨Nat.le_of_ble_eq_true rfl, Nat.le_of_ble_eq_true rfl⟩ hP hD hS hA ⟨Nat.zero_le _, Nat.zero_le _⟩ 0 10 rfl rfl rfl (wr := [((ad 14), .inl (cI, 448, .inl m_boxAt)), ((ad 9), .inl (cI, 16, .inl m_generation)), ((ad 4), .inl (cJ, 1300, .inr (.inl m_history))), ((ad 13), .inl (cZ, 28, .inl (bF m_isThere))), ((ad 10), .inl (cI, 12, .inl m_level)), ((ad 12), .inl (cI, 28, .inl m_rowOf)), ((ad 11), .inl (cI, 16, .inl m_rowSize))]) [0, 6] [1, 2, 3, 4, 5, 7, 8] rfl rfl rfl rfl (by decide) (As := [.int v1]) (rest := []) rfl hl.1 rfl (Nat.le_of_ble_eq_true rfl) dX10_release_7 (fun H locs hP hD hS => ?_)
  refine W.eq (g2 := F0 m 10 ls [.int (bI r7)]) rfl ?_
  have hP : va_P (dC, dI) vwCl [((ad 14), .inl (cI, 448, .inl m_boxAt)), ((ad 9), .inl (cI, 16, .inl m_generation)), ((ad 4), .inl (cJ, 1300, .inr (.inl m_history))), ((ad 13), .inl (cZ, 28, .inl (bF m_isThere))), ((ad 10), .inl (cI, 12, .inl m_level)), ((ad 12), .inl (cI, 28, .inl m_rowOf)), ((ad 11), .inl (cI, 16, .inl m_rowSize)), (ad 0, .inr (10, oM ad m_undoCount (0 : Int32) m_hasSnapshot (ad 1) m_rows m_lineLength m_formattedLength m_bufferLength m_limit m_next m_beginsAt m_token m_error m_errorAt m_errorPosition m_nested m_codeCount)), ((ad 1), .inl (cJ, 130, .inr (.inl m_now)))] H := hP
  have hD : va_D A [((ad 14), .inl (cI, 448, .inl m_boxAt)), ((ad 9), .inl (cI, 16, .inl m_generation)), ((ad 4), .inl (cJ, 1300, .inr (.inl m_history))), ((ad 13), .inl (cZ, 28, .inl (bF m_isThere))), ((ad 10), .inl (cI, 12, .inl m_level)), ((ad 12), .inl (cI, 28, .inl m_rowOf)), ((ad 11), .inl (cI, 16, .inl m_rowSize)), (ad 0, .inr (10, oM ad m_undoCount (0 : Int32) m_hasSnapshot (ad 1) m_rows m_lineLength m_formattedLength m_bufferLength m_limit m_next m_beginsAt m_token m_error m_errorAt m_errorPosition m_nested m_codeCount)), ((ad 1), .inl (cJ, 130, .inr (.inl m_now)))] := hD
  refine lv_if_ne (tgt := 19) hx hb dX10_release_10 (by decide) (fun h9 => ?_) (fun h9 => ?_)
  · have hf := ctt (bI_1 h9) hf
    refine lv_aload_n hx hb dX10_release_19 rfl (lv_at hl 0 rfl) ?_
    refine lv_iload_n hx hb dX10_release_20 rfl (lv_at hl 1 rfl) ?_
    obtain ⟨r21, h9, hf⟩ := ob_s hf
    refine gcV (index := 117) S hE (c_X10_parentsOf ad (ad 1) m_undoCount (0 : Int32) m_hasSnapshot m_rows m_lineLength m_formattedLength m_bufferLength m_limit m_next m_beginsAt m_token m_error m_errorAt m_errorPosition m_nested m_codeCount m_now v1 r21 h9) mX10_parentsOf tw1515 ⟨Nat.le_of_ble_eq_true rfl, Nat.le_of_ble_eq_true rfl⟩ hP hD hS hA ⟨Nat.zero_le _, Nat.zero_le _⟩ 7 10 rfl rfl rfl (wr := [((ad 14), .inl (cI, 448, .inl m_boxAt)), ((ad 9), .inl (cI, 16, .inl m_generation)), ((ad 4), .inl (cJ, 1300, .inr (.inl m_history))), ((ad 13), .inl (cZ, 28, .inl (bF m_isThere))), ((ad 10), .inl (cI, 12, .inl m_level)), ((ad 12), .inl (cI, 28, .inl m_rowOf)), ((ad 11), .inl (cI, 16, .inl m_rowSize))]) [7, 8] [0, 1, 2, 3, 4, 5, 6] rfl rfl rfl rfl (by decide) (As := [.int v1]) (rest := []) rfl hl.1 rfl (Nat.le_of_ble_eq_true rfl) dX10_release_21 (fun H locs hP hD hS => ?_)
    refine W.eq (g2 := F0 m 24 ls [.int r21]) rfl ?_
    have hP : va_P (dC, dI) vwCl [((ad 14), .inl (cI, 448, .inl m_boxAt)), ((ad 9), .inl (cI, 16, .inl m_generation)), ((ad 4), .inl (cJ, 1300, .inr (.inl m_history))), ((ad 13), .inl (cZ, 28, .inl (bF m_isThere))), ((ad 10), .inl (cI, 12, .inl m_level)), ((ad 12), .inl (cI, 28, .inl m_rowOf)), ((ad 11), .inl (cI, 16, .inl m_rowSize)), (ad 0, .inr (10, oM ad m_undoCount (0 : Int32) m_hasSnapshot (ad 1) m_rows m_lineLength m_formattedLength m_bufferLength m_limit m_next m_beginsAt m_token m_error m_errorAt m_errorPosition m_nested m_codeCount)), ((ad 1), .inl (cJ, 130, .inr (.inl m_now)))] H := hP
    have hD : va_D A [((ad 14), .inl (cI, 448, .inl m_boxAt)), ((ad 9), .inl (cI, 16, .inl m_generation)), ((ad 4), .inl (cJ, 1300, .inr (.inl m_history))), ((ad 13), .inl (cZ, 28, .inl (bF m_isThere))), ((ad 10), .inl (cI, 12, .inl m_level)), ((ad 12), .inl (cI, 28, .inl m_rowOf)), ((ad 11), .inl (cI, 16, .inl m_rowSize)), (ad 0, .inr (10, oM ad m_undoCount (0 : Int32) m_hasSnapshot (ad 1) m_rows m_lineLength m_formattedLength m_bufferLength m_limit m_next m_beginsAt m_token m_error m_errorAt m_errorPosition m_nested m_codeCount)), ((ad 1), .inl (cJ, 130, .inr (.inl m_now)))] := hD
    refine lv_istore_n (lv' := [(2, .int r21), (0, .ref (ad 0)), (1, .int v1)]) hx hb dX10_release_24 rfl hl (by decide) rfl (fun ls hl => ?_)
    refine lv_iload_n hx hb dX10_release_25 rfl (lv_at hl 0 rfl) ?_
    refine lv_iconst (v := -1) hx hb dX10_release_26 (by decide) ?_
    refine lv_icmp_ne (tgt := 33) hx hb dX10_release_27 (by decide) (fun h9 => ?_) (fun h9 => ?_)
    · have hf := itf h9 hf
      refine lv_aload_n hx hb dX10_release_33 rfl (lv_at hl 1 rfl) ?_
      obtain ⟨⟨m_history_34, m_undoCount_34⟩, h9, hf⟩ := ob_s hf
      have hf := uc2_e hf
      refine gcV (index := 327) S hE (c_X10_record ad m_undoCount (0 : Int32) m_hasSnapshot m_rows m_lineLength m_formattedLength m_bufferLength m_limit m_next m_beginsAt m_token m_error m_errorAt m_errorPosition m_nested m_codeCount m_history m_now m_history_34 m_undoCount_34 h9) mX10_record tw1846 ⟨Nat.le_of_ble_eq_true rfl, Nat.le_of_ble_eq_true rfl⟩ hP hD hS hA ⟨Nat.zero_le _, Nat.zero_le _⟩ 7 10 rfl rfl rfl (wr := [((ad 14), .inl (cI, 448, .inl m_boxAt)), ((ad 9), .inl (cI, 16, .inl m_generation)), ((ad 13), .inl (cZ, 28, .inl (bF m_isThere))), ((ad 10), .inl (cI, 12, .inl m_level)), ((ad 12), .inl (cI, 28, .inl m_rowOf)), ((ad 11), .inl (cI, 16, .inl m_rowSize))]) [7, 2, 8] [0, 1, 3, 4, 5, 6] rfl rfl rfl rfl (by decide) (As := []) (rest := []) rfl hl.1 rfl (Nat.le_of_ble_eq_true rfl) dX10_release_34 (fun H locs hP hD hS => ?_)
      refine W.eq (g2 := F0 m 37 ls []) rfl ?_
      have hP : va_P (dC, dI) vwCl [((ad 14), .inl (cI, 448, .inl m_boxAt)), ((ad 9), .inl (cI, 16, .inl m_generation)), ((ad 13), .inl (cZ, 28, .inl (bF m_isThere))), ((ad 10), .inl (cI, 12, .inl m_level)), ((ad 12), .inl (cI, 28, .inl m_rowOf)), ((ad 11), .inl (cI, 16, .inl m_rowSize)), (ad 0, .inr (10, oM ad m_undoCount_34 (0 : Int32) m_hasSnapshot (ad 1) m_rows m_lineLength m_formattedLength m_bufferLength m_limit m_next m_beginsAt m_token m_error m_errorAt m_errorPosition m_nested m_codeCount)), ((ad 4), .inl (cJ, 1300, .inr (.inl m_history_34))), ((ad 1), .inl (cJ, 130, .inr (.inl m_now)))] H := hP
      have hD : va_D A [((ad 14), .inl (cI, 448, .inl m_boxAt)), ((ad 9), .inl (cI, 16, .inl m_generation)), ((ad 13), .inl (cZ, 28, .inl (bF m_isThere))), ((ad 10), .inl (cI, 12, .inl m_level)), ((ad 12), .inl (cI, 28, .inl m_rowOf)), ((ad 11), .inl (cI, 16, .inl m_rowSize)), (ad 0, .inr (10, oM ad m_undoCount_34 (0 : Int32) m_hasSnapshot (ad 1) m_rows m_lineLength m_formattedLength m_bufferLength m_limit m_next m_beginsAt m_token m_error m_errorAt m_errorPosition m_nested m_codeCount)), ((ad 4), .inl (cJ, 1300, .inr (.inl m_history_34))), ((ad 1), .inl (cJ, 130, .inr (.inl m_now)))] := hD
      refine lv_aload_n hx hb dX10_release_37 rfl (lv_at hl 1 rfl) ?_
      refine lv_iload_n hx hb dX10_release_38 rfl (lv_at hl 2 rfl) ?_
      refine lv_iconst (v := 1) hx hb dX10_release_39 (by decide) ?_
      refine lv_ldc2 (own := RX10) (v := -1) hx hb hown (htg _ tw1672) dX10_release_40 ?_
      obtain ⟨m_now_43, h9, hf⟩ := ob_s hf
      refine gcV (index := 339) S hE (c_X10_putPerson ad (ad 1) m_undoCount_34 (0 : Int32) m_hasSnapshot m_rows m_lineLength m_formattedLength m_bufferLength m_limit m_next m_beginsAt m_token m_error m_errorAt m_errorPosition m_nested m_codeCount m_now v1 (1 : Int32) (-1 : Int64) m_now_43 h9) mX10_putPerson tw1869 ⟨Nat.le_of_ble_eq_true rfl, Nat.le_of_ble_eq_true rfl⟩ hP hD hS hA ⟨Nat.zero_le _, Nat.zero_le _⟩ 6 10 rfl rfl rfl (wr := [((ad 14), .inl (cI, 448, .inl m_boxAt)), ((ad 9), .inl (cI, 16, .inl m_generation)), ((ad 13), .inl (cZ, 28, .inl (bF m_isThere))), ((ad 10), .inl (cI, 12, .inl m_level)), ((ad 12), .inl (cI, 28, .inl m_rowOf)), ((ad 11), .inl (cI, 16, .inl m_rowSize)), ((ad 4), .inl (cJ, 1300, .inr (.inl m_history_34)))]) [6, 8] [0, 1, 2, 3, 4, 5, 7] rfl rfl rfl rfl (by decide) (As := [.int v1, .int (1 : Int32), .long (-1 : Int64)]) (rest := []) rfl hl.1 rfl (Nat.le_of_ble_eq_true rfl) dX10_release_43 (fun H locs hP hD hS => ?_)
      refine W.eq (g2 := F0 m 46 ls []) rfl ?_
      have hP : va_P (dC, dI) vwCl [((ad 14), .inl (cI, 448, .inl m_boxAt)), ((ad 9), .inl (cI, 16, .inl m_generation)), ((ad 13), .inl (cZ, 28, .inl (bF m_isThere))), ((ad 10), .inl (cI, 12, .inl m_level)), ((ad 12), .inl (cI, 28, .inl m_rowOf)), ((ad 11), .inl (cI, 16, .inl m_rowSize)), ((ad 4), .inl (cJ, 1300, .inr (.inl m_history_34))), (ad 0, .inr (10, oM ad m_undoCount_34 (0 : Int32) m_hasSnapshot (ad 1) m_rows m_lineLength m_formattedLength m_bufferLength m_limit m_next m_beginsAt m_token m_error m_errorAt m_errorPosition m_nested m_codeCount)), ((ad 1), .inl (cJ, 130, .inr (.inl m_now_43)))] H := hP
      have hD : va_D A [((ad 14), .inl (cI, 448, .inl m_boxAt)), ((ad 9), .inl (cI, 16, .inl m_generation)), ((ad 13), .inl (cZ, 28, .inl (bF m_isThere))), ((ad 10), .inl (cI, 12, .inl m_level)), ((ad 12), .inl (cI, 28, .inl m_rowOf)), ((ad 11), .inl (cI, 16, .inl m_rowSize)), ((ad 4), .inl (cJ, 1300, .inr (.inl m_history_34))), (ad 0, .inr (10, oM ad m_undoCount_34 (0 : Int32) m_hasSnapshot (ad 1) m_rows m_lineLength m_formattedLength m_bufferLength m_limit m_next m_beginsAt m_token m_error m_errorAt m_errorPosition m_nested m_codeCount)), ((ad 1), .inl (cJ, 130, .inr (.inl m_now_43)))] := hD
      refine lv_aload_n hx hb dX10_release_46 rfl (lv_at hl 1 rfl) ?_
      obtain ⟨⟨m_boxAt_47, m_now_47, m_generation_47, m_isThere_47, m_level_47, m_rowOf_47, m_rowSize_47, m_rows_47⟩, h9, hf⟩ := ob_s hf
      have hf := uc8_e hf
      refine gcV (index := 333) S hE (c_X10_makePlain ad (ad 1) m_undoCount_34 (0 : Int32) m_hasSnapshot m_rows m_lineLength m_formattedLength m_bufferLength m_limit m_next m_beginsAt m_token m_error m_errorAt m_errorPosition m_nested m_codeCount m_boxAt m_now_43 m_generation m_isThere m_level m_rowOf m_rowSize m_boxAt_47 m_now_47 m_generation_47 m_isThere_47 m_level_47 m_rowOf_47 m_rowSize_47 m_rows_47 h9) mX10_makePlain tw1857 ⟨Nat.le_of_ble_eq_true rfl, Nat.le_of_ble_eq_true rfl⟩ hP hD hS hA ⟨Nat.zero_le _, Nat.zero_le _⟩ 7 10 rfl rfl rfl (wr := [((ad 4), .inl (cJ, 1300, .inr (.inl m_history_34)))]) [7, 0, 8, 1, 2, 3, 4, 5] [6] rfl rfl rfl rfl (by decide) (As := []) (rest := []) rfl hl.1 rfl (Nat.le_of_ble_eq_true rfl) dX10_release_47 (fun H locs hP hD hS => ?_)
      refine W.eq (g2 := F0 m 50 ls []) rfl ?_
      have hP : va_P (dC, dI) vwCl [((ad 4), .inl (cJ, 1300, .inr (.inl m_history_34))), (ad 0, .inr (10, oM ad m_undoCount_34 (0 : Int32) m_hasSnapshot (ad 1) m_rows_47 m_lineLength m_formattedLength m_bufferLength m_limit m_next m_beginsAt m_token m_error m_errorAt m_errorPosition m_nested m_codeCount)), ((ad 14), .inl (cI, 448, .inl m_boxAt_47)), ((ad 1), .inl (cJ, 130, .inr (.inl m_now_47))), ((ad 9), .inl (cI, 16, .inl m_generation_47)), ((ad 13), .inl (cZ, 28, .inl (bF m_isThere_47))), ((ad 10), .inl (cI, 12, .inl m_level_47)), ((ad 12), .inl (cI, 28, .inl m_rowOf_47)), ((ad 11), .inl (cI, 16, .inl m_rowSize_47))] H := hP
      have hD : va_D A [((ad 4), .inl (cJ, 1300, .inr (.inl m_history_34))), (ad 0, .inr (10, oM ad m_undoCount_34 (0 : Int32) m_hasSnapshot (ad 1) m_rows_47 m_lineLength m_formattedLength m_bufferLength m_limit m_next m_beginsAt m_token m_error m_errorAt m_errorPosition m_nested m_codeCount)), ((ad 14), .inl (cI, 448, .inl m_boxAt_47)), ((ad 1), .inl (cJ, 130, .inr (.inl m_now_47))), ((ad 9), .inl (cI, 16, .inl m_generation_47)), ((ad 13), .inl (cZ, 28, .inl (bF m_isThere_47))), ((ad 10), .inl (cI, 12, .inl m_level_47)), ((ad 12), .inl (cI, 28, .inl m_rowOf_47)), ((ad 11), .inl (cI, 16, .inl m_rowSize_47))] := hD
      refine lv_iload_n hx hb dX10_release_50 rfl (lv_at hl 0 rfl) ?_
      cases hf
      exact g_iret S hr hlocks (hP.sub [1, 2, 4, 0, 5, 6, 3, 7, 8] rfl) (hD.sub [1, 2, 4, 0, 5, 6, 3, 7, 8] (by decide) rfl) hS dX10_release_51
    · have hf := itt h9 hf
      refine lv_bipush (v := -2) hx hb dX10_release_30 (by decide) ?_
      cases hf
      exact g_iret S hr hlocks (hP.sub [7, 0, 1, 2, 3, 4, 8, 5, 6] rfl) (hD.sub [7, 0, 1, 2, 3, 4, 8, 5, 6] (by decide) rfl) hS dX10_release_32
  · have hf := ctf (bI_0 h9) hf
    refine lv_aload_n hx hb dX10_release_13 rfl (lv_at hl 0 rfl) ?_
    refine lv_iconst (v := 1) hx hb dX10_release_14 (by decide) ?_
    obtain ⟨r15, m_thrown_15, h9⟩ : ∃ r15 m_thrown_15, p10_raise (1 : Int32) = (r15, m_thrown_15) := ⟨_, _, rfl⟩
    have hf := uc2_e (lb_e h9.symm hf)
    refine gcV (index := 240) S hE (c_X10_raise ad (ad 1) m_undoCount (0 : Int32) m_hasSnapshot m_rows m_lineLength m_formattedLength m_bufferLength m_limit m_next m_beginsAt m_token m_error m_errorAt m_errorPosition m_nested m_codeCount (1 : Int32) r15 m_thrown_15 h9) mX10_raise tw1584 ⟨Nat.le_of_ble_eq_true rfl, Nat.le_of_ble_eq_true rfl⟩ hP hD hS hA ⟨Nat.zero_le _, Nat.zero_le _⟩ 7 10 rfl rfl rfl (wr := [((ad 14), .inl (cI, 448, .inl m_boxAt)), ((ad 9), .inl (cI, 16, .inl m_generation)), ((ad 4), .inl (cJ, 1300, .inr (.inl m_history))), ((ad 13), .inl (cZ, 28, .inl (bF m_isThere))), ((ad 10), .inl (cI, 12, .inl m_level)), ((ad 12), .inl (cI, 28, .inl m_rowOf)), ((ad 11), .inl (cI, 16, .inl m_rowSize)), ((ad 1), .inl (cJ, 130, .inr (.inl m_now)))]) [7] [0, 1, 2, 3, 4, 5, 6, 8] rfl rfl rfl rfl (by decide) (As := [.int (1 : Int32)]) (rest := []) rfl hl.1 rfl (Nat.le_of_ble_eq_true rfl) dX10_release_15 (fun H locs hP hD hS => ?_)
    refine W.eq (g2 := F0 m 18 ls [.int r15]) rfl ?_
    have hP : va_P (dC, dI) vwCl [((ad 14), .inl (cI, 448, .inl m_boxAt)), ((ad 9), .inl (cI, 16, .inl m_generation)), ((ad 4), .inl (cJ, 1300, .inr (.inl m_history))), ((ad 13), .inl (cZ, 28, .inl (bF m_isThere))), ((ad 10), .inl (cI, 12, .inl m_level)), ((ad 12), .inl (cI, 28, .inl m_rowOf)), ((ad 11), .inl (cI, 16, .inl m_rowSize)), ((ad 1), .inl (cJ, 130, .inr (.inl m_now))), (ad 0, .inr (10, oM ad m_undoCount m_thrown_15 m_hasSnapshot (ad 1) m_rows m_lineLength m_formattedLength m_bufferLength m_limit m_next m_beginsAt m_token m_error m_errorAt m_errorPosition m_nested m_codeCount))] H := hP
    have hD : va_D A [((ad 14), .inl (cI, 448, .inl m_boxAt)), ((ad 9), .inl (cI, 16, .inl m_generation)), ((ad 4), .inl (cJ, 1300, .inr (.inl m_history))), ((ad 13), .inl (cZ, 28, .inl (bF m_isThere))), ((ad 10), .inl (cI, 12, .inl m_level)), ((ad 12), .inl (cI, 28, .inl m_rowOf)), ((ad 11), .inl (cI, 16, .inl m_rowSize)), ((ad 1), .inl (cJ, 130, .inr (.inl m_now))), (ad 0, .inr (10, oM ad m_undoCount m_thrown_15 m_hasSnapshot (ad 1) m_rows m_lineLength m_formattedLength m_bufferLength m_limit m_next m_beginsAt m_token m_error m_errorAt m_errorPosition m_nested m_codeCount))] := hD
    cases hf
    exact g_iret S hr hlocks (hP.sub [8, 0, 1, 2, 3, 4, 7, 5, 6] rfl) (hD.sub [8, 0, 1, 2, 3, 4, 7, 5, 6] (by decide) rfl) hS dX10_release_18
end G_31_FamilyChartModel04
