section G_31_FamilyChartModel03
variable {l : Launch} {dC : Nat → ClassId} {dI : Nat → Nat → Nat} {cI cJ cZ : ClassId} {adK adV : Nat → Nat}
set_option maxHeartbeats 4000000 in
set_option maxRecDepth 100000 in
theorem c_X10_byteAt (ad : Nat → Nat) (a_m_fam : Nat) (m_undoCount : Int32) (m_thrown : Int32) (m_hasSnapshot : Bool) (m_rows : Int32) (m_lineLength : Int32) (m_formattedLength : Int32) (m_bufferLength : Int32) (m_limit : Int32) (m_next : Int32) (m_beginsAt : Int32) (m_token : Int32) (m_error : Int32) (m_errorAt : Int32) (m_errorPosition : Int32) (m_nested : Int32) (m_codeCount : Int32) (m_buffer : Nat → Int32) (v1 : Int32) (r9 : Int32) (hf : p10_byteAt m_limit m_buffer v1 = some r9) : gM l dC dI cI cJ cZ yX10_byteAt cX10_byteAt 2 (some .int) (0) (0) [.ref (ad 0), .int v1] [(ad 0, .inr (10, oM ad m_undoCount m_thrown m_hasSnapshot a_m_fam m_rows m_lineLength m_formattedLength m_bufferLength m_limit m_next m_beginsAt m_token m_error m_errorAt m_errorPosition m_nested m_codeCount)), ((ad 24), .inl (cI, 800, .inl m_buffer))] [(ad 0, .inr (10, oM ad m_undoCount m_thrown m_hasSnapshot a_m_fam m_rows m_lineLength m_formattedLength m_bufferLength m_limit m_next m_beginsAt m_token m_error m_errorAt m_errorPosition m_nested m_codeCount)), ((ad 24), .inl (cI, 800, .inl m_buffer))] (some (.int r9)) := by
  refine g_start (own := RX10) (by decide +kernel) rfl (Nat.le_of_ble_eq_true rfl) ?_
  intro p e s m below meth c A ls S hr hlocks hE hP hD hS hA hl hin
  have hx := S.1
  have hb := S.2.1
  have hml := S.2.2.1
  have hown := S.2.2.2.1
  have htg : ∀ z ∈ gw, z.before ([.ref (ad 0), .int v1] : List Value).toArray s = true := fun w h => S.2.2.2.2 w (List.mem_cons_of_mem _ h)
  have hl : lv_has ls 2 [(0, .ref (ad 0)), (1, .int v1)] := hl
  have hS0 := hS
  obtain ⟨H, hH⟩ : ∃ H, H = s.heap := ⟨_, rfl⟩
  obtain ⟨locs, hlc⟩ : ∃ locs : List Loc, locs = [] := ⟨_, rfl⟩
  have hS : va_S A s.heap H locs := by rw [hH, hlc]; exact hS0
  have hP : va_P (dC, dI) vwCl [(ad 0, .inr (10, oM ad m_undoCount m_thrown m_hasSnapshot a_m_fam m_rows m_lineLength m_formattedLength m_bufferLength m_limit m_next m_beginsAt m_token m_error m_errorAt m_errorPosition m_nested m_codeCount)), ((ad 24), .inl (cI, 800, .inl m_buffer))] H := by rw [hH]; exact hP
  suffices hgo : W p l e ({ frames := 0, cells := 0, slots := 0, locals := 0 }) s m ([.ref (ad 0), .int v1] : List Value).toArray below meth c H locs 0 0 (MQ below (gQ dC dI (some (.int r9)) A [(ad 0, .inr (10, oM ad m_undoCount m_thrown m_hasSnapshot a_m_fam m_rows m_lineLength m_formattedLength m_bufferLength m_limit m_next m_beginsAt m_token m_error m_errorAt m_errorPosition m_nested m_codeCount)), ((ad 24), .inl (cI, 800, .inl m_buffer))]) ([.ref (ad 0), .int v1] : List Value).toArray s 0 0 A) (F0 m 0 ls []) by rw [hH, hlc] at hgo; exact hgo
  rw [p10_byteAt] at hf
  refine lv_iload_n hx hb dX10_byteAt_0 rfl (lv_at hl 1 rfl) ?_
  refine lv_aload_n hx hb dX10_byteAt_1 rfl (lv_at hl 0 rfl) ?_
  refine va_get (D := (dC, dI)) (ci := 10) (v := .int m_limit) (C := RX10) (T := TX10) (N := 37) hx hb htg inX10 hown hE.1 hP 0 rfl rfl 25 (by decide) (htg _ tw1407) (fun _ h9 => h9) rfl dX10_byteAt_2 ?_
  refine lv_icmp_ge (tgt := 17) hx hb dX10_byteAt_5 (by decide) (fun h9 => ?_) (fun h9 => ?_)
  · have hf := itt h9 hf
    refine lv_iconst (v := -1) hx hb dX10_byteAt_17 (by decide) ?_
    cases hf
    exact g_iret S hr hlocks hP hD hS dX10_byteAt_18
  · have hf := itf h9 hf
    refine lv_aload_n hx hb dX10_byteAt_8 rfl (lv_at hl 0 rfl) ?_
    refine va_get (D := (dC, dI)) (ci := 10) (v := .ref (ad 24)) (C := RX10) (T := TX10) (N := 37) hx hb htg inX10 hown hE.1 hP 0 rfl rfl 23 (by decide) (htg _ tw1405) (fun _ h9 => h9) rfl dX10_byteAt_9 ?_
    refine lv_iload_n hx hb dX10_byteAt_12 rfl (lv_at hl 1 rfl) ?_
    obtain ⟨h9, hf⟩ := gd_s hf
    refine va_iald hx hb hE.1 hP 1 0 rfl rfl h9 dX10_byteAt_13 ?_
    refine lv_goto (tgt := 18) hx hb dX10_byteAt_14 (by decide) ?_
    cases hf
    exact g_iret S hr hlocks hP hD hS dX10_byteAt_18
set_option maxHeartbeats 4000000 in
set_option maxRecDepth 100000 in
theorem c_X10_isLetter (ad : Nat → Nat) (a_m_fam : Nat) (m_undoCount : Int32) (m_thrown : Int32) (m_hasSnapshot : Bool) (m_rows : Int32) (m_lineLength : Int32) (m_formattedLength : Int32) (m_bufferLength : Int32) (m_limit : Int32) (m_next : Int32) (m_beginsAt : Int32) (m_token : Int32) (m_error : Int32) (m_errorAt : Int32) (m_errorPosition : Int32) (m_nested : Int32) (m_codeCount : Int32) (m_buffer : Nat → Int32) (v1 : Int32) (r9 : Bool) (hf : p10_isLetter m_limit m_buffer v1 = some r9) : gM l dC dI cI cJ cZ yX10_isLetter cX10_isLetter 2 (some .boolean) (1) (21) [.ref (ad 0), .int v1] [(ad 0, .inr (10, oM ad m_undoCount m_thrown m_hasSnapshot a_m_fam m_rows m_lineLength m_formattedLength m_bufferLength m_limit m_next m_beginsAt m_token m_error m_errorAt m_errorPosition m_nested m_codeCount)), ((ad 24), .inl (cI, 800, .inl m_buffer))] [(ad 0, .inr (10, oM ad m_undoCount m_thrown m_hasSnapshot a_m_fam m_rows m_lineLength m_formattedLength m_bufferLength m_limit m_next m_beginsAt m_token m_error m_errorAt m_errorPosition m_nested m_codeCount)), ((ad 24), .inl (cI, 800, .inl m_buffer))] (some (.int (bI r9))) := by
  refine g_start (own := RX10) (by decide +kernel) rfl (Nat.le_of_ble_eq_true rfl) ?_
  intro p e s m below meth c A ls S hr hlocks hE hP hD hS hA hl hin
  have hx := S.1
  have hb := S.2.1
  have hml := S.2.2.1
  have hown := S.2.2.2.1
  have htg : ∀ z ∈ gw, z.before ([.ref (ad 0), .int v1] : List Value).toArray s = true := fun w h => S.2.2.2.2 w (List.mem_cons_of_mem _ h)
  have hl : lv_has ls 2 [(0, .ref (ad 0)), (1, .int v1)] := hl
  have hS0 := hS
  obtain ⟨H, hH⟩ : ∃ H, H = s.heap := ⟨_, rfl⟩
  obtain ⟨locs, hlc⟩ : ∃ locs : List Loc, locs = [] := ⟨_, rfl⟩
  have hS : va_S A s.heap H locs := by rw [hH, hlc]; exact hS0
  have hP : va_P (dC, dI) vwCl [(ad 0, .inr (10, oM ad m_undoCount m_thrown m_hasSnapshot a_m_fam m_rows m_lineLength m_formattedLength m_bufferLength m_limit m_next m_beginsAt m_token m_error m_errorAt m_errorPosition m_nested m_codeCount)), ((ad 24), .inl (cI, 800, .inl m_buffer))] H := by rw [hH]; exact hP
  suffices hgo : W p l e ({ frames := 1, cells := 0, slots := 0, locals := 21 }) s m ([.ref (ad 0), .int v1] : List Value).toArray below meth c H locs 0 0 (MQ below (gQ dC dI (some (.int (bI r9))) A [(ad 0, .inr (10, oM ad m_undoCount m_thrown m_hasSnapshot a_m_fam m_rows m_lineLength m_formattedLength m_bufferLength m_limit m_next m_beginsAt m_token m_error m_errorAt m_errorPosition m_nested m_codeCount)), ((ad 24), .inl (cI, 800, .inl m_buffer))]) ([.ref (ad 0), .int v1] : List Value).toArray s 0 0 A) (F0 m 0 ls []) by rw [hH, hlc] at hgo; exact hgo
  rw [p10_isLetter] at hf
  refine lv_aload_n hx hb dX10_isLetter_0 rfl (lv_at hl 0 rfl) ?_
  refine lv_iload_n hx hb dX10_isLetter_1 rfl (lv_at hl 1 rfl) ?_
  obtain ⟨r2, h9, hf⟩ := ob_s hf
  refine gcV (index := 371) S hE (c_X10_byteAt ad a_m_fam m_undoCount m_thrown m_hasSnapshot m_rows m_lineLength m_formattedLength m_bufferLength m_limit m_next m_beginsAt m_token m_error m_errorAt m_errorPosition m_nested m_codeCount m_buffer v1 r2 h9) mX10_byteAt tw1942 ⟨Nat.le_of_ble_eq_true rfl, Nat.le_of_ble_eq_true rfl⟩ hP hD hS hA ⟨Nat.zero_le _, Nat.zero_le _⟩ 0 10 rfl rfl rfl (wr := []) [0, 1] [] rfl rfl rfl rfl (by decide) (As := [.int v1]) (rest := []) rfl hl.1 rfl (Nat.le_of_ble_eq_true rfl) dX10_isLetter_2 (fun H locs hP hD hS => ?_)
  refine W.eq (g2 := F0 m 5 ls [.int r2]) rfl ?_
  have hP : va_P (dC, dI) vwCl [(ad 0, .inr (10, oM ad m_undoCount m_thrown m_hasSnapshot a_m_fam m_rows m_lineLength m_formattedLength m_bufferLength m_limit m_next m_beginsAt m_token m_error m_errorAt m_errorPosition m_nested m_codeCount)), ((ad 24), .inl (cI, 800, .inl m_buffer))] H := hP
  have hD : va_D A [(ad 0, .inr (10, oM ad m_undoCount m_thrown m_hasSnapshot a_m_fam m_rows m_lineLength m_formattedLength m_bufferLength m_limit m_next m_beginsAt m_token m_error m_errorAt m_errorPosition m_nested m_codeCount)), ((ad 24), .inl (cI, 800, .inl m_buffer))] := hD
  refine lv_bipush (v := 97) hx hb dX10_isLetter_5 (by decide) ?_
  refine lv_icmp_lt (tgt := 24) hx hb dX10_isLetter_7 (by decide) (fun h9 => ?_) (fun h9 => ?_)
  · have hf := itt h9 hf
    refine lv_iconst (v := 0) hx hb dX10_isLetter_24 (by decide) ?_
    cases hf
    exact g_zret S hr (nar_bI false) hlocks hP hD hS dX10_isLetter_25
  · have hf := itf h9 hf
    refine lv_aload_n hx hb dX10_isLetter_10 rfl (lv_at hl 0 rfl) ?_
    refine lv_iload_n hx hb dX10_isLetter_11 rfl (lv_at hl 1 rfl) ?_
    obtain ⟨r12, h9, hf⟩ := ob_s hf
    refine gcV (index := 371) S hE (c_X10_byteAt ad a_m_fam m_undoCount m_thrown m_hasSnapshot m_rows m_lineLength m_formattedLength m_bufferLength m_limit m_next m_beginsAt m_token m_error m_errorAt m_errorPosition m_nested m_codeCount m_buffer v1 r12 h9) mX10_byteAt tw1942 ⟨Nat.le_of_ble_eq_true rfl, Nat.le_of_ble_eq_true rfl⟩ hP hD hS hA ⟨Nat.zero_le _, Nat.zero_le _⟩ 0 10 rfl rfl rfl (wr := []) [0, 1] [] rfl rfl rfl rfl (by decide) (As := [.int v1]) (rest := []) rfl hl.1 rfl (Nat.le_of_ble_eq_true rfl) dX10_isLetter_12 (fun H locs hP hD hS => ?_)
    refine W.eq (g2 := F0 m 15 ls [.int r12]) rfl ?_
    have hP : va_P (dC, dI) vwCl [(ad 0, .inr (10, oM ad m_undoCount m_thrown m_hasSnapshot a_m_fam m_rows m_lineLength m_formattedLength m_bufferLength m_limit m_next m_beginsAt m_token m_error m_errorAt m_errorPosition m_nested m_codeCount)), ((ad 24), .inl (cI, 800, .inl m_buffer))] H := hP
    have hD : va_D A [(ad 0, .inr (10, oM ad m_undoCount m_thrown m_hasSnapshot a_m_fam m_rows m_lineLength m_formattedLength m_bufferLength m_limit m_next m_beginsAt m_token m_error m_errorAt m_errorPosition m_nested m_codeCount)), ((ad 24), .inl (cI, 800, .inl m_buffer))] := hD
    refine lv_bipush (v := 122) hx hb dX10_isLetter_15 (by decide) ?_
    refine lv_icmp_gt (tgt := 24) hx hb dX10_isLetter_17 (by decide) (fun h9 => ?_) (fun h9 => ?_)
    · have hf := itt h9 hf
      refine lv_iconst (v := 0) hx hb dX10_isLetter_24 (by decide) ?_
      cases hf
      exact g_zret S hr (nar_bI false) hlocks hP hD hS dX10_isLetter_25
    · have hf := itf h9 hf
      refine lv_iconst (v := 1) hx hb dX10_isLetter_20 (by decide) ?_
      refine lv_goto (tgt := 25) hx hb dX10_isLetter_21 (by decide) ?_
      cases hf
      exact g_zret S hr (nar_bI true) hlocks hP hD hS dX10_isLetter_25
set_option maxHeartbeats 4000000 in
set_option maxRecDepth 100000 in
theorem c_X10_isDigit (ad : Nat → Nat) (a_m_fam : Nat) (m_undoCount : Int32) (m_thrown : Int32) (m_hasSnapshot : Bool) (m_rows : Int32) (m_lineLength : Int32) (m_formattedLength : Int32) (m_bufferLength : Int32) (m_limit : Int32) (m_next : Int32) (m_beginsAt : Int32) (m_token : Int32) (m_error : Int32) (m_errorAt : Int32) (m_errorPosition : Int32) (m_nested : Int32) (m_codeCount : Int32) (m_buffer : Nat → Int32) (v1 : Int32) (r9 : Bool) (hf : p10_isDigit m_limit m_buffer v1 = some r9) : gM l dC dI cI cJ cZ yX10_isDigit cX10_isDigit 2 (some .boolean) (1) (21) [.ref (ad 0), .int v1] [(ad 0, .inr (10, oM ad m_undoCount m_thrown m_hasSnapshot a_m_fam m_rows m_lineLength m_formattedLength m_bufferLength m_limit m_next m_beginsAt m_token m_error m_errorAt m_errorPosition m_nested m_codeCount)), ((ad 24), .inl (cI, 800, .inl m_buffer))] [(ad 0, .inr (10, oM ad m_undoCount m_thrown m_hasSnapshot a_m_fam m_rows m_lineLength m_formattedLength m_bufferLength m_limit m_next m_beginsAt m_token m_error m_errorAt m_errorPosition m_nested m_codeCount)), ((ad 24), .inl (cI, 800, .inl m_buffer))] (some (.int (bI r9))) := by
  refine g_start (own := RX10) (by decide +kernel) rfl (Nat.le_of_ble_eq_true rfl) ?_
  intro p e s m below meth c A ls S hr hlocks hE hP hD hS hA hl hin
  have hx := S.1
  have hb := S.2.1
  have hml := S.2.2.1
  have hown := S.2.2.2.1
  have htg : ∀ z ∈ gw, z.before ([.ref (ad 0), .int v1] : List Value).toArray s = true := fun w h => S.2.2.2.2 w (List.mem_cons_of_mem _ h)
  have hl : lv_has ls 2 [(0, .ref (ad 0)), (1, .int v1)] := hl
  have hS0 := hS
  obtain ⟨H, hH⟩ : ∃ H, H = s.heap := ⟨_, rfl⟩
  obtain ⟨locs, hlc⟩ : ∃ locs : List Loc, locs = [] := ⟨_, rfl⟩
  have hS : va_S A s.heap H locs := by rw [hH, hlc]; exact hS0
  have hP : va_P (dC, dI) vwCl [(ad 0, .inr (10, oM ad m_undoCount m_thrown m_hasSnapshot a_m_fam m_rows m_lineLength m_formattedLength m_bufferLength m_limit m_next m_beginsAt m_token m_error m_errorAt m_errorPosition m_nested m_codeCount)), ((ad 24), .inl (cI, 800, .inl m_buffer))] H := by rw [hH]; exact hP
  suffices hgo : W p l e ({ frames := 1, cells := 0, slots := 0, locals := 21 }) s m ([.ref (ad 0), .int v1] : List Value).toArray below meth c H locs 0 0 (MQ below (gQ dC dI (some (.int (bI r9))) A [(ad 0, .inr (10, oM ad m_undoCount m_thrown m_hasSnapshot a_m_fam m_rows m_lineLength m_formattedLength m_bufferLength m_limit m_next m_beginsAt m_token m_error m_errorAt m_errorPosition m_nested m_codeCount)), ((ad 24), .inl (cI, 800, .inl m_buffer))]) ([.ref (ad 0), .int v1] : List Value).toArray s 0 0 A) (F0 m 0 ls []) by rw [hH, hlc] at hgo; exact hgo
  rw [p10_isDigit] at hf
  refine lv_aload_n hx hb dX10_isDigit_0 rfl (lv_at hl 0 rfl) ?_
  refine lv_iload_n hx hb dX10_isDigit_1 rfl (lv_at hl 1 rfl) ?_
  obtain ⟨r2, h9, hf⟩ := ob_s hf
  refine gcV (index := 371) S hE (c_X10_byteAt ad a_m_fam m_undoCount m_thrown m_hasSnapshot m_rows m_lineLength m_formattedLength m_bufferLength m_limit m_next m_beginsAt m_token m_error m_errorAt m_errorPosition m_nested m_codeCount m_buffer v1 r2 h9) mX10_byteAt tw1942 ⟨Nat.le_of_ble_eq_true rfl, Nat.le_of_ble_eq_true rfl⟩ hP hD hS hA ⟨Nat.zero_le _, Nat.zero_le _⟩ 0 10 rfl rfl rfl (wr := []) [0, 1] [] rfl rfl rfl rfl (by decide) (As := [.int v1]) (rest := []) rfl hl.1 rfl (Nat.le_of_ble_eq_true rfl) dX10_isDigit_2 (fun H locs hP hD hS => ?_)
  refine W.eq (g2 := F0 m 5 ls [.int r2]) rfl ?_
  have hP : va_P (dC, dI) vwCl [(ad 0, .inr (10, oM ad m_undoCount m_thrown m_hasSnapshot a_m_fam m_rows m_lineLength m_formattedLength m_bufferLength m_limit m_next m_beginsAt m_token m_error m_errorAt m_errorPosition m_nested m_codeCount)), ((ad 24), .inl (cI, 800, .inl m_buffer))] H := hP
  have hD : va_D A [(ad 0, .inr (10, oM ad m_undoCount m_thrown m_hasSnapshot a_m_fam m_rows m_lineLength m_formattedLength m_bufferLength m_limit m_next m_beginsAt m_token m_error m_errorAt m_errorPosition m_nested m_codeCount)), ((ad 24), .inl (cI, 800, .inl m_buffer))] := hD
  refine lv_bipush (v := 48) hx hb dX10_isDigit_5 (by decide) ?_
  refine lv_icmp_lt (tgt := 24) hx hb dX10_isDigit_7 (by decide) (fun h9 => ?_) (fun h9 => ?_)
  · have hf := itt h9 hf
    refine lv_iconst (v := 0) hx hb dX10_isDigit_24 (by decide) ?_
    cases hf
    exact g_zret S hr (nar_bI false) hlocks hP hD hS dX10_isDigit_25
  · have hf := itf h9 hf
    refine lv_aload_n hx hb dX10_isDigit_10 rfl (lv_at hl 0 rfl) ?_
    refine lv_iload_n hx hb dX10_isDigit_11 rfl (lv_at hl 1 rfl) ?_
    obtain ⟨r12, h9, hf⟩ := ob_s hf
    refine gcV (index := 371) S hE (c_X10_byteAt ad a_m_fam m_undoCount m_thrown m_hasSnapshot m_rows m_lineLength m_formattedLength m_bufferLength m_limit m_next m_beginsAt m_token m_error m_errorAt m_errorPosition m_nested m_codeCount m_buffer v1 r12 h9) mX10_byteAt tw1942 ⟨Nat.le_of_ble_eq_true rfl, Nat.le_of_ble_eq_true rfl⟩ hP hD hS hA ⟨Nat.zero_le _, Nat.zero_le _⟩ 0 10 rfl rfl rfl (wr := []) [0, 1] [] rfl rfl rfl rfl (by decide) (As := [.int v1]) (rest := []) rfl hl.1 rfl (Nat.le_of_ble_eq_true rfl) dX10_isDigit_12 (fun H locs hP hD hS => ?_)
    refine W.eq (g2 := F0 m 15 ls [.int r12]) rfl ?_
    have hP : va_P (dC, dI) vwCl [(ad 0, .inr (10, oM ad m_undoCount m_thrown m_hasSnapshot a_m_fam m_rows m_lineLength m_formattedLength m_bufferLength m_limit m_next m_beginsAt m_token m_error m_errorAt m_errorPosition m_nested m_codeCount)), ((ad 24), .inl (cI, 800, .inl m_buffer))] H := hP
    have hD : va_D A [(ad 0, .inr (10, oM ad m_undoCount m_thrown m_hasSnapshot a_m_fam m_rows m_lineLength m_formattedLength m_bufferLength m_limit m_next m_beginsAt m_token m_error m_errorAt m_errorPosition m_nested m_codeCount)), ((ad 24), .inl (cI, 800, .inl m_buffer))] := hD
    refine lv_bipush (v := 57) hx hb dX10_isDigit_15 (by decide) ?_
    refine lv_icmp_gt (tgt := 24) hx hb dX10_isDigit_17 (by decide) (fun h9 => ?_) (fun h9 => ?_)
    · have hf := itt h9 hf
      refine lv_iconst (v := 0) hx hb dX10_isDigit_24 (by decide) ?_
      cases hf
      exact g_zret S hr (nar_bI false) hlocks hP hD hS dX10_isDigit_25
    · have hf := itf h9 hf
      refine lv_iconst (v := 1) hx hb dX10_isDigit_20 (by decide) ?_
      refine lv_goto (tgt := 25) hx hb dX10_isDigit_21 (by decide) ?_
      cases hf
      exact g_zret S hr (nar_bI true) hlocks hP hD hS dX10_isDigit_25
set_option maxHeartbeats 4000000 in
set_option maxRecDepth 100000 in
theorem c_X10_scan (ad : Nat → Nat) (a_m_fam : Nat) (m_undoCount : Int32) (m_thrown : Int32) (m_hasSnapshot : Bool) (m_rows : Int32) (m_lineLength : Int32) (m_formattedLength : Int32) (m_bufferLength : Int32) (m_limit : Int32) (m_next : Int32) (m_beginsAt : Int32) (m_token : Int32) (m_error : Int32) (m_errorAt : Int32) (m_errorPosition : Int32) (m_nested : Int32) (m_codeCount : Int32) (m_buffer : Nat → Int32) (m_beginsAt_9 : Int32) (m_next_9 : Int32) (m_token_9 : Int32) (hf : p10_scan m_limit m_next m_buffer = some (m_beginsAt_9, m_next_9, m_token_9)) : gM l dC dI cI cJ cZ yX10_scan cX10_scan 1 none (2) (42) [.ref (ad 0)] [(ad 0, .inr (10, oM ad m_undoCount m_thrown m_hasSnapshot a_m_fam m_rows m_lineLength m_formattedLength m_bufferLength m_limit m_next m_beginsAt m_token m_error m_errorAt m_errorPosition m_nested m_codeCount)), ((ad 24), .inl (cI, 800, .inl m_buffer))] [(ad 0, .inr (10, oM ad m_undoCount m_thrown m_hasSnapshot a_m_fam m_rows m_lineLength m_formattedLength m_bufferLength m_limit m_next_9 m_beginsAt_9 m_token_9 m_error m_errorAt m_errorPosition m_nested m_codeCount)), ((ad 24), .inl (cI, 800, .inl m_buffer))] none := by
  refine g_start (own := RX10) (by decide +kernel) rfl (Nat.le_of_ble_eq_true rfl) ?_
  intro p e s m below meth c A ls S hr hlocks hE hP hD hS hA hl hin
  have hx := S.1
  have hb := S.2.1
  have hml := S.2.2.1
  have hown := S.2.2.2.1
  have htg : ∀ z ∈ gw, z.before ([.ref (ad 0)] : List Value).toArray s = true := fun w h => S.2.2.2.2 w (List.mem_cons_of_mem _ h)
  have hl : lv_has ls 1 [(0, .ref (ad 0))] := hl
  have hS0 := hS
  obtain ⟨H, hH⟩ : ∃ H, H = s.heap := ⟨_, rfl⟩
  obtain ⟨locs, hlc⟩ : ∃ locs : List Loc, locs = [] := ⟨_, rfl⟩
  have hS : va_S A s.heap H locs := by rw [hH, hlc]; exact hS0
  have hP : va_P (dC, dI) vwCl [(ad 0, .inr (10, oM ad m_undoCount m_thrown m_hasSnapshot a_m_fam m_rows m_lineLength m_formattedLength m_bufferLength m_limit m_next m_beginsAt m_token m_error m_errorAt m_errorPosition m_nested m_codeCount)), ((ad 24), .inl (cI, 800, .inl m_buffer))] H := by rw [hH]; exact hP
  suffices hgo : W p l e ({ frames := 2, cells := 0, slots := 0, locals := 42 }) s m ([.ref (ad 0)] : List Value).toArray below meth c H locs 0 0 (MQ below (gQ dC dI none A [(ad 0, .inr (10, oM ad m_undoCount m_thrown m_hasSnapshot a_m_fam m_rows m_lineLength m_formattedLength m_bufferLength m_limit m_next_9 m_beginsAt_9 m_token_9 m_error m_errorAt m_errorPosition m_nested m_codeCount)), ((ad 24), .inl (cI, 800, .inl m_buffer))]) ([.ref (ad 0)] : List Value).toArray s 0 0 A) (F0 m 0 ls []) by rw [hH, hlc] at hgo; exact hgo
  rw [p10_scan] at hf
  have J144 : ∀ (m_next_144 : Int32) (m_beginsAt_144 : Int32) (H : Heap) (locs : List Loc) (ls : Array Slot), p10_scan_J144 m_next_144 m_beginsAt_144 = some (m_beginsAt_9, m_next_9, m_token_9) → va_P (dC, dI) vwCl [(ad 0, .inr (10, oM ad m_undoCount m_thrown m_hasSnapshot a_m_fam m_rows m_lineLength m_formattedLength m_bufferLength m_limit m_next_144 m_beginsAt_144 m_token m_error m_errorAt m_errorPosition m_nested m_codeCount)), ((ad 24), .inl (cI, 800, .inl m_buffer))] H → va_D A [(ad 0, .inr (10, oM ad m_undoCount m_thrown m_hasSnapshot a_m_fam m_rows m_lineLength m_formattedLength m_bufferLength m_limit m_next_144 m_beginsAt_144 m_token m_error m_errorAt m_errorPosition m_nested m_codeCount)), ((ad 24), .inl (cI, 800, .inl m_buffer))] → va_S A s.heap H locs → lv_has ls 1 [(0, .ref (ad 0))] → W p l e ({ frames := 2, cells := 0, slots := 0, locals := 42 }) s m ([.ref (ad 0)] : List Value).toArray below meth c H locs 0 0 (MQ below (gQ dC dI none A [(ad 0, .inr (10, oM ad m_undoCount m_thrown m_hasSnapshot a_m_fam m_rows m_lineLength m_formattedLength m_bufferLength m_limit m_next_9 m_beginsAt_9 m_token_9 m_error m_errorAt m_errorPosition m_nested m_codeCount)), ((ad 24), .inl (cI, 800, .inl m_buffer))]) ([.ref (ad 0)] : List Value).toArray s 0 0 A) (F0 m 144 ls []) := by
    intro m_next_144 m_beginsAt_144 H locs ls hf hP hD hS hl
    rw [p10_scan_J144] at hf
    refine lv_aload_n hx hb dX10_scan_144 rfl (lv_at hl 0 rfl) ?_
    refine lv_iconst (v := 2) hx hb dX10_scan_145 (by decide) ?_
    refine va_put (D := (dC, dI)) (ci := 10) (v := .int (2 : Int32)) (ty := .int) (C := RX10) (T := TX10) (N := 37) hx hb htg inX10 tyX10 tyX10_ok nmX10 hown hE.1 hP hD hS 0 rfl rfl 28 (by decide) (htg _ tw1410) (fun _ h9 => h9) rfl (by decide +kernel) rfl rfl (Nat.le_of_ble_eq_true rfl) dX10_scan_146 (fun H locs hP hD hS => ?_)
    have hP : va_P (dC, dI) vwCl [(ad 0, .inr (10, oM ad m_undoCount m_thrown m_hasSnapshot a_m_fam m_rows m_lineLength m_formattedLength m_bufferLength m_limit m_next_144 m_beginsAt_144 (2 : Int32) m_error m_errorAt m_errorPosition m_nested m_codeCount)), ((ad 24), .inl (cI, 800, .inl m_buffer))] H := hP
    have hD : va_D A [(ad 0, .inr (10, oM ad m_undoCount m_thrown m_hasSnapshot a_m_fam m_rows m_lineLength m_formattedLength m_bufferLength m_limit m_next_144 m_beginsAt_144 (2 : Int32) m_error m_errorAt m_errorPosition m_nested m_codeCount)), ((ad 24), .inl (cI, 800, .inl m_buffer))] := hD
    refine lv_goto (tgt := 167) hx hb dX10_scan_149 (by decide) ?_
    cases hf
    exact g_vret S hr hlocks hP hD hS dX10_scan_167
  have J101 : ∀ (m_next_101 : Int32) (m_beginsAt_101 : Int32) (H : Heap) (locs : List Loc) (ls : Array Slot), p10_scan_J101 m_next_101 m_beginsAt_101 = some (m_beginsAt_9, m_next_9, m_token_9) → va_P (dC, dI) vwCl [(ad 0, .inr (10, oM ad m_undoCount m_thrown m_hasSnapshot a_m_fam m_rows m_lineLength m_formattedLength m_bufferLength m_limit m_next_101 m_beginsAt_101 m_token m_error m_errorAt m_errorPosition m_nested m_codeCount)), ((ad 24), .inl (cI, 800, .inl m_buffer))] H → va_D A [(ad 0, .inr (10, oM ad m_undoCount m_thrown m_hasSnapshot a_m_fam m_rows m_lineLength m_formattedLength m_bufferLength m_limit m_next_101 m_beginsAt_101 m_token m_error m_errorAt m_errorPosition m_nested m_codeCount)), ((ad 24), .inl (cI, 800, .inl m_buffer))] → va_S A s.heap H locs → lv_has ls 1 [(0, .ref (ad 0))] → W p l e ({ frames := 2, cells := 0, slots := 0, locals := 42 }) s m ([.ref (ad 0)] : List Value).toArray below meth c H locs 0 0 (MQ below (gQ dC dI none A [(ad 0, .inr (10, oM ad m_undoCount m_thrown m_hasSnapshot a_m_fam m_rows m_lineLength m_formattedLength m_bufferLength m_limit m_next_9 m_beginsAt_9 m_token_9 m_error m_errorAt m_errorPosition m_nested m_codeCount)), ((ad 24), .inl (cI, 800, .inl m_buffer))]) ([.ref (ad 0)] : List Value).toArray s 0 0 A) (F0 m 101 ls []) := by
    intro m_next_101 m_beginsAt_101 H locs ls hf hP hD hS hl
    rw [p10_scan_J101] at hf
    refine lv_aload_n hx hb dX10_scan_101 rfl (lv_at hl 0 rfl) ?_
    refine lv_iconst (v := 1) hx hb dX10_scan_102 (by decide) ?_
    refine va_put (D := (dC, dI)) (ci := 10) (v := .int (1 : Int32)) (ty := .int) (C := RX10) (T := TX10) (N := 37) hx hb htg inX10 tyX10 tyX10_ok nmX10 hown hE.1 hP hD hS 0 rfl rfl 28 (by decide) (htg _ tw1410) (fun _ h9 => h9) rfl (by decide +kernel) rfl rfl (Nat.le_of_ble_eq_true rfl) dX10_scan_103 (fun H locs hP hD hS => ?_)
    have hP : va_P (dC, dI) vwCl [(ad 0, .inr (10, oM ad m_undoCount m_thrown m_hasSnapshot a_m_fam m_rows m_lineLength m_formattedLength m_bufferLength m_limit m_next_101 m_beginsAt_101 (1 : Int32) m_error m_errorAt m_errorPosition m_nested m_codeCount)), ((ad 24), .inl (cI, 800, .inl m_buffer))] H := hP
    have hD : va_D A [(ad 0, .inr (10, oM ad m_undoCount m_thrown m_hasSnapshot a_m_fam m_rows m_lineLength m_formattedLength m_bufferLength m_limit m_next_101 m_beginsAt_101 (1 : Int32) m_error m_errorAt m_errorPosition m_nested m_codeCount)), ((ad 24), .inl (cI, 800, .inl m_buffer))] := hD
    refine lv_goto (tgt := 167) hx hb dX10_scan_106 (by decide) ?_
    cases hf
    exact g_vret S hr hlocks hP hD hS dX10_scan_167
  have J39 : ∀ (m_next_39 : Int32) (H : Heap) (locs : List Loc) (ls : Array Slot), p10_scan_J39 m_buffer m_limit m_next_39 = some (m_beginsAt_9, m_next_9, m_token_9) → va_P (dC, dI) vwCl [(ad 0, .inr (10, oM ad m_undoCount m_thrown m_hasSnapshot a_m_fam m_rows m_lineLength m_formattedLength m_bufferLength m_limit m_next_39 m_beginsAt m_token m_error m_errorAt m_errorPosition m_nested m_codeCount)), ((ad 24), .inl (cI, 800, .inl m_buffer))] H → va_D A [(ad 0, .inr (10, oM ad m_undoCount m_thrown m_hasSnapshot a_m_fam m_rows m_lineLength m_formattedLength m_bufferLength m_limit m_next_39 m_beginsAt m_token m_error m_errorAt m_errorPosition m_nested m_codeCount)), ((ad 24), .inl (cI, 800, .inl m_buffer))] → va_S A s.heap H locs → lv_has ls 1 [(0, .ref (ad 0))] → W p l e ({ frames := 2, cells := 0, slots := 0, locals := 42 }) s m ([.ref (ad 0)] : List Value).toArray below meth c H locs 0 0 (MQ below (gQ dC dI none A [(ad 0, .inr (10, oM ad m_undoCount m_thrown m_hasSnapshot a_m_fam m_rows m_lineLength m_formattedLength m_bufferLength m_limit m_next_9 m_beginsAt_9 m_token_9 m_error m_errorAt m_errorPosition m_nested m_codeCount)), ((ad 24), .inl (cI, 800, .inl m_buffer))]) ([.ref (ad 0)] : List Value).toArray s 0 0 A) (F0 m 39 ls []) := by
    intro m_next_39 H locs ls hf hP hD hS hl
    rw [p10_scan_J39] at hf
    refine lv_aload_n hx hb dX10_scan_39 rfl (lv_at hl 0 rfl) ?_
    refine lv_aload_n hx hb dX10_scan_40 rfl (lv_at hl 0 rfl) ?_
    refine va_get (D := (dC, dI)) (ci := 10) (v := .int m_next_39) (C := RX10) (T := TX10) (N := 37) hx hb htg inX10 hown hE.1 hP 0 rfl rfl 26 (by decide) (htg _ tw1408) (fun _ h9 => h9) rfl dX10_scan_41 ?_
    refine va_put (D := (dC, dI)) (ci := 10) (v := .int m_next_39) (ty := .int) (C := RX10) (T := TX10) (N := 37) hx hb htg inX10 tyX10 tyX10_ok nmX10 hown hE.1 hP hD hS 0 rfl rfl 27 (by decide) (htg _ tw1409) (fun _ h9 => h9) rfl (by decide +kernel) rfl rfl (Nat.le_of_ble_eq_true rfl) dX10_scan_44 (fun H locs hP hD hS => ?_)
    have hP : va_P (dC, dI) vwCl [(ad 0, .inr (10, oM ad m_undoCount m_thrown m_hasSnapshot a_m_fam m_rows m_lineLength m_formattedLength m_bufferLength m_limit m_next_39 m_next_39 m_token m_error m_errorAt m_errorPosition m_nested m_codeCount)), ((ad 24), .inl (cI, 800, .inl m_buffer))] H := hP
    have hD : va_D A [(ad 0, .inr (10, oM ad m_undoCount m_thrown m_hasSnapshot a_m_fam m_rows m_lineLength m_formattedLength m_bufferLength m_limit m_next_39 m_next_39 m_token m_error m_errorAt m_errorPosition m_nested m_codeCount)), ((ad 24), .inl (cI, 800, .inl m_buffer))] := hD
    refine lv_aload_n hx hb dX10_scan_47 rfl (lv_at hl 0 rfl) ?_
    refine va_get (D := (dC, dI)) (ci := 10) (v := .int m_next_39) (C := RX10) (T := TX10) (N := 37) hx hb htg inX10 hown hE.1 hP 0 rfl rfl 26 (by decide) (htg _ tw1408) (fun _ h9 => h9) rfl dX10_scan_48 ?_
    refine lv_aload_n hx hb dX10_scan_51 rfl (lv_at hl 0 rfl) ?_
    refine va_get (D := (dC, dI)) (ci := 10) (v := .int m_limit) (C := RX10) (T := TX10) (N := 37) hx hb htg inX10 hown hE.1 hP 0 rfl rfl 25 (by decide) (htg _ tw1407) (fun _ h9 => h9) rfl dX10_scan_52 ?_
    refine lv_icmp_lt (tgt := 66) hx hb dX10_scan_55 (by decide) (fun h9 => ?_) (fun h9 => ?_)
    · have hf := itt h9 hf
      refine lv_aload_n hx hb dX10_scan_66 rfl (lv_at hl 0 rfl) ?_
      refine lv_aload_n hx hb dX10_scan_67 rfl (lv_at hl 0 rfl) ?_
      refine va_get (D := (dC, dI)) (ci := 10) (v := .int m_next_39) (C := RX10) (T := TX10) (N := 37) hx hb htg inX10 hown hE.1 hP 0 rfl rfl 26 (by decide) (htg _ tw1408) (fun _ h9 => h9) rfl dX10_scan_68 ?_
      obtain ⟨r71, h9, hf⟩ := ob_s hf
      refine gcV (index := 383) S hE (c_X10_isLetter ad a_m_fam m_undoCount m_thrown m_hasSnapshot m_rows m_lineLength m_formattedLength m_bufferLength m_limit m_next_39 m_next_39 m_token m_error m_errorAt m_errorPosition m_nested m_codeCount m_buffer m_next_39 r71 h9) mX10_isLetter tw1946 ⟨Nat.le_of_ble_eq_true rfl, Nat.le_of_ble_eq_true rfl⟩ hP hD hS hA ⟨Nat.zero_le _, Nat.zero_le _⟩ 0 10 rfl rfl rfl (wr := []) [0, 1] [] rfl rfl rfl rfl (by decide) (As := [.int m_next_39]) (rest := []) rfl hl.1 rfl (Nat.le_of_ble_eq_true rfl) dX10_scan_71 (fun H locs hP hD hS => ?_)
      refine W.eq (g2 := F0 m 74 ls [.int (bI r71)]) rfl ?_
      have hP : va_P (dC, dI) vwCl [(ad 0, .inr (10, oM ad m_undoCount m_thrown m_hasSnapshot a_m_fam m_rows m_lineLength m_formattedLength m_bufferLength m_limit m_next_39 m_next_39 m_token m_error m_errorAt m_errorPosition m_nested m_codeCount)), ((ad 24), .inl (cI, 800, .inl m_buffer))] H := hP
      have hD : va_D A [(ad 0, .inr (10, oM ad m_undoCount m_thrown m_hasSnapshot a_m_fam m_rows m_lineLength m_formattedLength m_bufferLength m_limit m_next_39 m_next_39 m_token m_error m_errorAt m_errorPosition m_nested m_codeCount)), ((ad 24), .inl (cI, 800, .inl m_buffer))] := hD
      refine lv_if_eq (tgt := 109) hx hb dX10_scan_74 (by decide) (fun h9 => ?_) (fun h9 => ?_)
      · have hf := ctf (bI_0 h9) hf
        refine lv_aload_n hx hb dX10_scan_109 rfl (lv_at hl 0 rfl) ?_
        refine lv_aload_n hx hb dX10_scan_110 rfl (lv_at hl 0 rfl) ?_
        refine va_get (D := (dC, dI)) (ci := 10) (v := .int m_next_39) (C := RX10) (T := TX10) (N := 37) hx hb htg inX10 hown hE.1 hP 0 rfl rfl 26 (by decide) (htg _ tw1408) (fun _ h9 => h9) rfl dX10_scan_111 ?_
        obtain ⟨r114, h9, hf⟩ := ob_s hf
        refine gcV (index := 386) S hE (c_X10_isDigit ad a_m_fam m_undoCount m_thrown m_hasSnapshot m_rows m_lineLength m_formattedLength m_bufferLength m_limit m_next_39 m_next_39 m_token m_error m_errorAt m_errorPosition m_nested m_codeCount m_buffer m_next_39 r114 h9) mX10_isDigit tw1950 ⟨Nat.le_of_ble_eq_true rfl, Nat.le_of_ble_eq_true rfl⟩ hP hD hS hA ⟨Nat.zero_le _, Nat.zero_le _⟩ 0 10 rfl rfl rfl (wr := []) [0, 1] [] rfl rfl rfl rfl (by decide) (As := [.int m_next_39]) (rest := []) rfl hl.1 rfl (Nat.le_of_ble_eq_true rfl) dX10_scan_114 (fun H locs hP hD hS => ?_)
        refine W.eq (g2 := F0 m 117 ls [.int (bI r114)]) rfl ?_
        have hP : va_P (dC, dI) vwCl [(ad 0, .inr (10, oM ad m_undoCount m_thrown m_hasSnapshot a_m_fam m_rows m_lineLength m_formattedLength m_bufferLength m_limit m_next_39 m_next_39 m_token m_error m_errorAt m_errorPosition m_nested m_codeCount)), ((ad 24), .inl (cI, 800, .inl m_buffer))] H := hP
        have hD : va_D A [(ad 0, .inr (10, oM ad m_undoCount m_thrown m_hasSnapshot a_m_fam m_rows m_lineLength m_formattedLength m_bufferLength m_limit m_next_39 m_next_39 m_token m_error m_errorAt m_errorPosition m_nested m_codeCount)), ((ad 24), .inl (cI, 800, .inl m_buffer))] := hD
        refine lv_if_eq (tgt := 152) hx hb dX10_scan_117 (by decide) (fun h9 => ?_) (fun h9 => ?_)
        · have hf := ctf (bI_0 h9) hf
          refine lv_aload_n hx hb dX10_scan_152 rfl (lv_at hl 0 rfl) ?_
          refine lv_dup hx hb dX10_scan_153 rfl ?_
          refine va_get (D := (dC, dI)) (ci := 10) (v := .int m_next_39) (C := RX10) (T := TX10) (N := 37) hx hb htg inX10 hown hE.1 hP 0 rfl rfl 26 (by decide) (htg _ tw1408) (fun _ h9 => h9) rfl dX10_scan_154 ?_
          refine lv_iconst (v := 1) hx hb dX10_scan_157 (by decide) ?_
          refine lv_iadd hx hb dX10_scan_158 ?_
          refine lv_topi (fun t159 h9 => ?_)
          have hf := lb_e h9 hf
          refine va_put (D := (dC, dI)) (ci := 10) (v := .int t159) (ty := .int) (C := RX10) (T := TX10) (N := 37) hx hb htg inX10 tyX10 tyX10_ok nmX10 hown hE.1 hP hD hS 0 rfl rfl 26 (by decide) (htg _ tw1408) (fun _ h9 => h9) rfl (by decide +kernel) rfl rfl (Nat.le_of_ble_eq_true rfl) dX10_scan_159 (fun H locs hP hD hS => ?_)
          have hP : va_P (dC, dI) vwCl [(ad 0, .inr (10, oM ad m_undoCount m_thrown m_hasSnapshot a_m_fam m_rows m_lineLength m_formattedLength m_bufferLength m_limit t159 m_next_39 m_token m_error m_errorAt m_errorPosition m_nested m_codeCount)), ((ad 24), .inl (cI, 800, .inl m_buffer))] H := hP
          have hD : va_D A [(ad 0, .inr (10, oM ad m_undoCount m_thrown m_hasSnapshot a_m_fam m_rows m_lineLength m_formattedLength m_bufferLength m_limit t159 m_next_39 m_token m_error m_errorAt m_errorPosition m_nested m_codeCount)), ((ad 24), .inl (cI, 800, .inl m_buffer))] := hD
          refine lv_aload_n hx hb dX10_scan_162 rfl (lv_at hl 0 rfl) ?_
          refine lv_iconst (v := 3) hx hb dX10_scan_163 (by decide) ?_
          refine va_put (D := (dC, dI)) (ci := 10) (v := .int (3 : Int32)) (ty := .int) (C := RX10) (T := TX10) (N := 37) hx hb htg inX10 tyX10 tyX10_ok nmX10 hown hE.1 hP hD hS 0 rfl rfl 28 (by decide) (htg _ tw1410) (fun _ h9 => h9) rfl (by decide +kernel) rfl rfl (Nat.le_of_ble_eq_true rfl) dX10_scan_164 (fun H locs hP hD hS => ?_)
          have hP : va_P (dC, dI) vwCl [(ad 0, .inr (10, oM ad m_undoCount m_thrown m_hasSnapshot a_m_fam m_rows m_lineLength m_formattedLength m_bufferLength m_limit t159 m_next_39 (3 : Int32) m_error m_errorAt m_errorPosition m_nested m_codeCount)), ((ad 24), .inl (cI, 800, .inl m_buffer))] H := hP
          have hD : va_D A [(ad 0, .inr (10, oM ad m_undoCount m_thrown m_hasSnapshot a_m_fam m_rows m_lineLength m_formattedLength m_bufferLength m_limit t159 m_next_39 (3 : Int32) m_error m_errorAt m_errorPosition m_nested m_codeCount)), ((ad 24), .inl (cI, 800, .inl m_buffer))] := hD
          cases hf
          exact g_vret S hr hlocks hP hD hS dX10_scan_167
        · have hf := ctt (bI_1 h9) hf
          have K120 : ∀ (n120 : Nat) (m_next_120 : Int32) (ex120 : Int32) (H : Heap) (locs : List Loc) (ls : Array Slot), p10_scan_L120 m_buffer m_limit n120 m_next_120 = some ex120 → (fun m_next_x120 => p10_scan_J144 m_next_x120 m_next_39) ex120 = some (m_beginsAt_9, m_next_9, m_token_9) → va_P (dC, dI) vwCl [(ad 0, .inr (10, oM ad m_undoCount m_thrown m_hasSnapshot a_m_fam m_rows m_lineLength m_formattedLength m_bufferLength m_limit m_next_120 m_next_39 m_token m_error m_errorAt m_errorPosition m_nested m_codeCount)), ((ad 24), .inl (cI, 800, .inl m_buffer))] H → va_D A [(ad 0, .inr (10, oM ad m_undoCount m_thrown m_hasSnapshot a_m_fam m_rows m_lineLength m_formattedLength m_bufferLength m_limit m_next_120 m_next_39 m_token m_error m_errorAt m_errorPosition m_nested m_codeCount)), ((ad 24), .inl (cI, 800, .inl m_buffer))] → va_S A s.heap H locs → lv_has ls 1 [(0, .ref (ad 0))] → W p l e ({ frames := 2, cells := 0, slots := 0, locals := 42 }) s m ([.ref (ad 0)] : List Value).toArray below meth c H locs 0 0 (MQ below (gQ dC dI none A [(ad 0, .inr (10, oM ad m_undoCount m_thrown m_hasSnapshot a_m_fam m_rows m_lineLength m_formattedLength m_bufferLength m_limit m_next_9 m_beginsAt_9 m_token_9 m_error m_errorAt m_errorPosition m_nested m_codeCount)), ((ad 24), .inl (cI, 800, .inl m_buffer))]) ([.ref (ad 0)] : List Value).toArray s 0 0 A) (F0 m 120 ls []) := by
            intro n120
            induction n120 with
            | zero => intro m_next_120 ex120 H locs ls hf; rw [p10_scan_L120] at hf; cases hf
            | succ n120 ih120 =>
              intro m_next_120 ex120 H locs ls hf hk120 hP hD hS hl
              rw [p10_scan_L120, p10_scan_L120_B] at hf
              refine lv_aload_n hx hb dX10_scan_120 rfl (lv_at hl 0 rfl) ?_
              refine lv_aload_n hx hb dX10_scan_121 rfl (lv_at hl 0 rfl) ?_
              refine va_get (D := (dC, dI)) (ci := 10) (v := .int m_next_120) (C := RX10) (T := TX10) (N := 37) hx hb htg inX10 hown hE.1 hP 0 rfl rfl 26 (by decide) (htg _ tw1408) (fun _ h9 => h9) rfl dX10_scan_122 ?_
              obtain ⟨r125, h9, hf⟩ := ob_s hf
              refine gcV (index := 386) S hE (c_X10_isDigit ad a_m_fam m_undoCount m_thrown m_hasSnapshot m_rows m_lineLength m_formattedLength m_bufferLength m_limit m_next_120 m_next_39 m_token m_error m_errorAt m_errorPosition m_nested m_codeCount m_buffer m_next_120 r125 h9) mX10_isDigit tw1950 ⟨Nat.le_of_ble_eq_true rfl, Nat.le_of_ble_eq_true rfl⟩ hP hD hS hA ⟨Nat.zero_le _, Nat.zero_le _⟩ 0 10 rfl rfl rfl (wr := []) [0, 1] [] rfl rfl rfl rfl (by decide) (As := [.int m_next_120]) (rest := []) rfl hl.1 rfl (Nat.le_of_ble_eq_true rfl) dX10_scan_125 (fun H locs hP hD hS => ?_)
              refine W.eq (g2 := F0 m 128 ls [.int (bI r125)]) rfl ?_
              have hP : va_P (dC, dI) vwCl [(ad 0, .inr (10, oM ad m_undoCount m_thrown m_hasSnapshot a_m_fam m_rows m_lineLength m_formattedLength m_bufferLength m_limit m_next_120 m_next_39 m_token m_error m_errorAt m_errorPosition m_nested m_codeCount)), ((ad 24), .inl (cI, 800, .inl m_buffer))] H := hP
              have hD : va_D A [(ad 0, .inr (10, oM ad m_undoCount m_thrown m_hasSnapshot a_m_fam m_rows m_lineLength m_formattedLength m_bufferLength m_limit m_next_120 m_next_39 m_token m_error m_errorAt m_errorPosition m_nested m_codeCount)), ((ad 24), .inl (cI, 800, .inl m_buffer))] := hD
              refine lv_if_eq (tgt := 144) hx hb dX10_scan_128 (by decide) (fun h9 => ?_) (fun h9 => ?_)
              · have hf := ctf (bI_0 h9) hf
                cases hf
                have hf := hk120
                exact J144 m_next_120 m_next_39 H locs ls hf hP hD hS (lv_sub hl [0] rfl)
              · have hf := ctt (bI_1 h9) hf
                refine lv_aload_n hx hb dX10_scan_131 rfl (lv_at hl 0 rfl) ?_
                refine lv_dup hx hb dX10_scan_132 rfl ?_
                refine va_get (D := (dC, dI)) (ci := 10) (v := .int m_next_120) (C := RX10) (T := TX10) (N := 37) hx hb htg inX10 hown hE.1 hP 0 rfl rfl 26 (by decide) (htg _ tw1408) (fun _ h9 => h9) rfl dX10_scan_133 ?_
                refine lv_iconst (v := 1) hx hb dX10_scan_136 (by decide) ?_
                refine lv_iadd hx hb dX10_scan_137 ?_
                refine lv_topi (fun t138 h9 => ?_)
                have hf := lb_e h9 hf
                refine va_put (D := (dC, dI)) (ci := 10) (v := .int t138) (ty := .int) (C := RX10) (T := TX10) (N := 37) hx hb htg inX10 tyX10 tyX10_ok nmX10 hown hE.1 hP hD hS 0 rfl rfl 26 (by decide) (htg _ tw1408) (fun _ h9 => h9) rfl (by decide +kernel) rfl rfl (Nat.le_of_ble_eq_true rfl) dX10_scan_138 (fun H locs hP hD hS => ?_)
                have hP : va_P (dC, dI) vwCl [(ad 0, .inr (10, oM ad m_undoCount m_thrown m_hasSnapshot a_m_fam m_rows m_lineLength m_formattedLength m_bufferLength m_limit t138 m_next_39 m_token m_error m_errorAt m_errorPosition m_nested m_codeCount)), ((ad 24), .inl (cI, 800, .inl m_buffer))] H := hP
                have hD : va_D A [(ad 0, .inr (10, oM ad m_undoCount m_thrown m_hasSnapshot a_m_fam m_rows m_lineLength m_formattedLength m_bufferLength m_limit t138 m_next_39 m_token m_error m_errorAt m_errorPosition m_nested m_codeCount)), ((ad 24), .inl (cI, 800, .inl m_buffer))] := hD
                refine lv_goto (tgt := 120) hx hb dX10_scan_141 (by decide) ?_
                exact ih120 t138 ex120 H locs ls hf hk120 hP hD hS (lv_sub hl [0] rfl)
          obtain ⟨ex, h9, hf⟩ := ob_s hf
          exact K120 FU m_next_39 ex H locs ls h9 hf hP hD hS (lv_sub hl [0] rfl)
      · have hf := ctt (bI_1 h9) hf
        have K77 : ∀ (n77 : Nat) (m_next_77 : Int32) (ex77 : Int32) (H : Heap) (locs : List Loc) (ls : Array Slot), p10_scan_L77 m_buffer m_limit n77 m_next_77 = some ex77 → (fun m_next_x77 => p10_scan_J101 m_next_x77 m_next_39) ex77 = some (m_beginsAt_9, m_next_9, m_token_9) → va_P (dC, dI) vwCl [(ad 0, .inr (10, oM ad m_undoCount m_thrown m_hasSnapshot a_m_fam m_rows m_lineLength m_formattedLength m_bufferLength m_limit m_next_77 m_next_39 m_token m_error m_errorAt m_errorPosition m_nested m_codeCount)), ((ad 24), .inl (cI, 800, .inl m_buffer))] H → va_D A [(ad 0, .inr (10, oM ad m_undoCount m_thrown m_hasSnapshot a_m_fam m_rows m_lineLength m_formattedLength m_bufferLength m_limit m_next_77 m_next_39 m_token m_error m_errorAt m_errorPosition m_nested m_codeCount)), ((ad 24), .inl (cI, 800, .inl m_buffer))] → va_S A s.heap H locs → lv_has ls 1 [(0, .ref (ad 0))] → W p l e ({ frames := 2, cells := 0, slots := 0, locals := 42 }) s m ([.ref (ad 0)] : List Value).toArray below meth c H locs 0 0 (MQ below (gQ dC dI none A [(ad 0, .inr (10, oM ad m_undoCount m_thrown m_hasSnapshot a_m_fam m_rows m_lineLength m_formattedLength m_bufferLength m_limit m_next_9 m_beginsAt_9 m_token_9 m_error m_errorAt m_errorPosition m_nested m_codeCount)), ((ad 24), .inl (cI, 800, .inl m_buffer))]) ([.ref (ad 0)] : List Value).toArray s 0 0 A) (F0 m 77 ls []) := by
          intro n77
          induction n77 with
          | zero => intro m_next_77 ex77 H locs ls hf; rw [p10_scan_L77] at hf; cases hf
          | succ n77 ih77 =>
            intro m_next_77 ex77 H locs ls hf hk77 hP hD hS hl
            rw [p10_scan_L77, p10_scan_L77_B] at hf
            refine lv_aload_n hx hb dX10_scan_77 rfl (lv_at hl 0 rfl) ?_
            refine lv_aload_n hx hb dX10_scan_78 rfl (lv_at hl 0 rfl) ?_
            refine va_get (D := (dC, dI)) (ci := 10) (v := .int m_next_77) (C := RX10) (T := TX10) (N := 37) hx hb htg inX10 hown hE.1 hP 0 rfl rfl 26 (by decide) (htg _ tw1408) (fun _ h9 => h9) rfl dX10_scan_79 ?_
            obtain ⟨r82, h9, hf⟩ := ob_s hf
            refine gcV (index := 383) S hE (c_X10_isLetter ad a_m_fam m_undoCount m_thrown m_hasSnapshot m_rows m_lineLength m_formattedLength m_bufferLength m_limit m_next_77 m_next_39 m_token m_error m_errorAt m_errorPosition m_nested m_codeCount m_buffer m_next_77 r82 h9) mX10_isLetter tw1946 ⟨Nat.le_of_ble_eq_true rfl, Nat.le_of_ble_eq_true rfl⟩ hP hD hS hA ⟨Nat.zero_le _, Nat.zero_le _⟩ 0 10 rfl rfl rfl (wr := []) [0, 1] [] rfl rfl rfl rfl (by decide) (As := [.int m_next_77]) (rest := []) rfl hl.1 rfl (Nat.le_of_ble_eq_true rfl) dX10_scan_82 (fun H locs hP hD hS => ?_)
            refine W.eq (g2 := F0 m 85 ls [.int (bI r82)]) rfl ?_
            have hP : va_P (dC, dI) vwCl [(ad 0, .inr (10, oM ad m_undoCount m_thrown m_hasSnapshot a_m_fam m_rows m_lineLength m_formattedLength m_bufferLength m_limit m_next_77 m_next_39 m_token m_error m_errorAt m_errorPosition m_nested m_codeCount)), ((ad 24), .inl (cI, 800, .inl m_buffer))] H := hP
            have hD : va_D A [(ad 0, .inr (10, oM ad m_undoCount m_thrown m_hasSnapshot a_m_fam m_rows m_lineLength m_formattedLength m_bufferLength m_limit m_next_77 m_next_39 m_token m_error m_errorAt m_errorPosition m_nested m_codeCount)), ((ad 24), .inl (cI, 800, .inl m_buffer))] := hD
            refine lv_if_eq (tgt := 101) hx hb dX10_scan_85 (by decide) (fun h9 => ?_) (fun h9 => ?_)
            · have hf := ctf (bI_0 h9) hf
              cases hf
              have hf := hk77
              exact J101 m_next_77 m_next_39 H locs ls hf hP hD hS (lv_sub hl [0] rfl)
            · have hf := ctt (bI_1 h9) hf
              refine lv_aload_n hx hb dX10_scan_88 rfl (lv_at hl 0 rfl) ?_
              refine lv_dup hx hb dX10_scan_89 rfl ?_
              refine va_get (D := (dC, dI)) (ci := 10) (v := .int m_next_77) (C := RX10) (T := TX10) (N := 37) hx hb htg inX10 hown hE.1 hP 0 rfl rfl 26 (by decide) (htg _ tw1408) (fun _ h9 => h9) rfl dX10_scan_90 ?_
              refine lv_iconst (v := 1) hx hb dX10_scan_93 (by decide) ?_
              refine lv_iadd hx hb dX10_scan_94 ?_
              refine lv_topi (fun t95 h9 => ?_)
              have hf := lb_e h9 hf
              refine va_put (D := (dC, dI)) (ci := 10) (v := .int t95) (ty := .int) (C := RX10) (T := TX10) (N := 37) hx hb htg inX10 tyX10 tyX10_ok nmX10 hown hE.1 hP hD hS 0 rfl rfl 26 (by decide) (htg _ tw1408) (fun _ h9 => h9) rfl (by decide +kernel) rfl rfl (Nat.le_of_ble_eq_true rfl) dX10_scan_95 (fun H locs hP hD hS => ?_)
              have hP : va_P (dC, dI) vwCl [(ad 0, .inr (10, oM ad m_undoCount m_thrown m_hasSnapshot a_m_fam m_rows m_lineLength m_formattedLength m_bufferLength m_limit t95 m_next_39 m_token m_error m_errorAt m_errorPosition m_nested m_codeCount)), ((ad 24), .inl (cI, 800, .inl m_buffer))] H := hP
              have hD : va_D A [(ad 0, .inr (10, oM ad m_undoCount m_thrown m_hasSnapshot a_m_fam m_rows m_lineLength m_formattedLength m_bufferLength m_limit t95 m_next_39 m_token m_error m_errorAt m_errorPosition m_nested m_codeCount)), ((ad 24), .inl (cI, 800, .inl m_buffer))] := hD
              refine lv_goto (tgt := 77) hx hb dX10_scan_98 (by decide) ?_
              exact ih77 t95 ex77 H locs ls hf hk77 hP hD hS (lv_sub hl [0] rfl)
        obtain ⟨ex, h9, hf⟩ := ob_s hf
        exact K77 FU m_next_39 ex H locs ls h9 hf hP hD hS (lv_sub hl [0] rfl)
    · have hf := itf h9 hf
      refine lv_aload_n hx hb dX10_scan_58 rfl (lv_at hl 0 rfl) ?_
      refine lv_iconst (v := 0) hx hb dX10_scan_59 (by decide) ?_
      refine va_put (D := (dC, dI)) (ci := 10) (v := .int (0 : Int32)) (ty := .int) (C := RX10) (T := TX10) (N := 37) hx hb htg inX10 tyX10 tyX10_ok nmX10 hown hE.1 hP hD hS 0 rfl rfl 28 (by decide) (htg _ tw1410) (fun _ h9 => h9) rfl (by decide +kernel) rfl rfl (Nat.le_of_ble_eq_true rfl) dX10_scan_60 (fun H locs hP hD hS => ?_)
      have hP : va_P (dC, dI) vwCl [(ad 0, .inr (10, oM ad m_undoCount m_thrown m_hasSnapshot a_m_fam m_rows m_lineLength m_formattedLength m_bufferLength m_limit m_next_39 m_next_39 (0 : Int32) m_error m_errorAt m_errorPosition m_nested m_codeCount)), ((ad 24), .inl (cI, 800, .inl m_buffer))] H := hP
      have hD : va_D A [(ad 0, .inr (10, oM ad m_undoCount m_thrown m_hasSnapshot a_m_fam m_rows m_lineLength m_formattedLength m_bufferLength m_limit m_next_39 m_next_39 (0 : Int32) m_error m_errorAt m_errorPosition m_nested m_codeCount)), ((ad 24), .inl (cI, 800, .inl m_buffer))] := hD
      refine lv_goto (tgt := 167) hx hb dX10_scan_63 (by decide) ?_
      cases hf
      exact g_vret S hr hlocks hP hD hS dX10_scan_167
  have K0 : ∀ (n0 : Nat) (m_next_0 : Int32) (ex0 : Int32) (H : Heap) (locs : List Loc) (ls : Array Slot), p10_scan_L0 m_buffer m_limit n0 m_next_0 = some ex0 → (fun m_next_x0 => p10_scan_J39 m_buffer m_limit m_next_x0) ex0 = some (m_beginsAt_9, m_next_9, m_token_9) → va_P (dC, dI) vwCl [(ad 0, .inr (10, oM ad m_undoCount m_thrown m_hasSnapshot a_m_fam m_rows m_lineLength m_formattedLength m_bufferLength m_limit m_next_0 m_beginsAt m_token m_error m_errorAt m_errorPosition m_nested m_codeCount)), ((ad 24), .inl (cI, 800, .inl m_buffer))] H → va_D A [(ad 0, .inr (10, oM ad m_undoCount m_thrown m_hasSnapshot a_m_fam m_rows m_lineLength m_formattedLength m_bufferLength m_limit m_next_0 m_beginsAt m_token m_error m_errorAt m_errorPosition m_nested m_codeCount)), ((ad 24), .inl (cI, 800, .inl m_buffer))] → va_S A s.heap H locs → lv_has ls 1 [(0, .ref (ad 0))] → W p l e ({ frames := 2, cells := 0, slots := 0, locals := 42 }) s m ([.ref (ad 0)] : List Value).toArray below meth c H locs 0 0 (MQ below (gQ dC dI none A [(ad 0, .inr (10, oM ad m_undoCount m_thrown m_hasSnapshot a_m_fam m_rows m_lineLength m_formattedLength m_bufferLength m_limit m_next_9 m_beginsAt_9 m_token_9 m_error m_errorAt m_errorPosition m_nested m_codeCount)), ((ad 24), .inl (cI, 800, .inl m_buffer))]) ([.ref (ad 0)] : List Value).toArray s 0 0 A) (F0 m 0 ls []) := by
    intro n0
    induction n0 with
    | zero => intro m_next_0 ex0 H locs ls hf; rw [p10_scan_L0] at hf; cases hf
    | succ n0 ih0 =>
      intro m_next_0 ex0 H locs ls hf hk0 hP hD hS hl
      rw [p10_scan_L0, p10_scan_L0_B] at hf
      have J26 : ∀  (H : Heap) (locs : List Loc) (ls : Array Slot), p10_scan_J26 (p10_scan_L0 m_buffer m_limit n0) m_next_0 = some ex0 → va_P (dC, dI) vwCl [(ad 0, .inr (10, oM ad m_undoCount m_thrown m_hasSnapshot a_m_fam m_rows m_lineLength m_formattedLength m_bufferLength m_limit m_next_0 m_beginsAt m_token m_error m_errorAt m_errorPosition m_nested m_codeCount)), ((ad 24), .inl (cI, 800, .inl m_buffer))] H → va_D A [(ad 0, .inr (10, oM ad m_undoCount m_thrown m_hasSnapshot a_m_fam m_rows m_lineLength m_formattedLength m_bufferLength m_limit m_next_0 m_beginsAt m_token m_error m_errorAt m_errorPosition m_nested m_codeCount)), ((ad 24), .inl (cI, 800, .inl m_buffer))] → va_S A s.heap H locs → lv_has ls 1 [(0, .ref (ad 0))] → W p l e ({ frames := 2, cells := 0, slots := 0, locals := 42 }) s m ([.ref (ad 0)] : List Value).toArray below meth c H locs 0 0 (MQ below (gQ dC dI none A [(ad 0, .inr (10, oM ad m_undoCount m_thrown m_hasSnapshot a_m_fam m_rows m_lineLength m_formattedLength m_bufferLength m_limit m_next_9 m_beginsAt_9 m_token_9 m_error m_errorAt m_errorPosition m_nested m_codeCount)), ((ad 24), .inl (cI, 800, .inl m_buffer))]) ([.ref (ad 0)] : List Value).toArray s 0 0 A) (F0 m 26 ls []) := by
        intro  H locs ls hf hP hD hS hl
        rw [p10_scan_J26] at hf
        refine lv_aload_n hx hb dX10_scan_26 rfl (lv_at hl 0 rfl) ?_
        refine lv_dup hx hb dX10_scan_27 rfl ?_
        refine va_get (D := (dC, dI)) (ci := 10) (v := .int m_next_0) (C := RX10) (T := TX10) (N := 37) hx hb htg inX10 hown hE.1 hP 0 rfl rfl 26 (by decide) (htg _ tw1408) (fun _ h9 => h9) rfl dX10_scan_28 ?_
        refine lv_iconst (v := 1) hx hb dX10_scan_31 (by decide) ?_
        refine lv_iadd hx hb dX10_scan_32 ?_
        refine lv_topi (fun t33 h9 => ?_)
        have hf := lb_e h9 hf
        refine va_put (D := (dC, dI)) (ci := 10) (v := .int t33) (ty := .int) (C := RX10) (T := TX10) (N := 37) hx hb htg inX10 tyX10 tyX10_ok nmX10 hown hE.1 hP hD hS 0 rfl rfl 26 (by decide) (htg _ tw1408) (fun _ h9 => h9) rfl (by decide +kernel) rfl rfl (Nat.le_of_ble_eq_true rfl) dX10_scan_33 (fun H locs hP hD hS => ?_)
        have hP : va_P (dC, dI) vwCl [(ad 0, .inr (10, oM ad m_undoCount m_thrown m_hasSnapshot a_m_fam m_rows m_lineLength m_formattedLength m_bufferLength m_limit t33 m_beginsAt m_token m_error m_errorAt m_errorPosition m_nested m_codeCount)), ((ad 24), .inl (cI, 800, .inl m_buffer))] H := hP
        have hD : va_D A [(ad 0, .inr (10, oM ad m_undoCount m_thrown m_hasSnapshot a_m_fam m_rows m_lineLength m_formattedLength m_bufferLength m_limit t33 m_beginsAt m_token m_error m_errorAt m_errorPosition m_nested m_codeCount)), ((ad 24), .inl (cI, 800, .inl m_buffer))] := hD
        refine lv_goto (tgt := 0) hx hb dX10_scan_36 (by decide) ?_
        exact ih0 t33 ex0 H locs ls hf hk0 hP hD hS (lv_sub hl [0] rfl)
      refine lv_aload_n hx hb dX10_scan_0 rfl (lv_at hl 0 rfl) ?_
      refine lv_aload_n hx hb dX10_scan_1 rfl (lv_at hl 0 rfl) ?_
      refine va_get (D := (dC, dI)) (ci := 10) (v := .int m_next_0) (C := RX10) (T := TX10) (N := 37) hx hb htg inX10 hown hE.1 hP 0 rfl rfl 26 (by decide) (htg _ tw1408) (fun _ h9 => h9) rfl dX10_scan_2 ?_
      obtain ⟨r5, h9, hf⟩ := ob_s hf
      refine gcV (index := 371) S hE (c_X10_byteAt ad a_m_fam m_undoCount m_thrown m_hasSnapshot m_rows m_lineLength m_formattedLength m_bufferLength m_limit m_next_0 m_beginsAt m_token m_error m_errorAt m_errorPosition m_nested m_codeCount m_buffer m_next_0 r5 h9) mX10_byteAt tw1942 ⟨Nat.le_of_ble_eq_true rfl, Nat.le_of_ble_eq_true rfl⟩ hP hD hS hA ⟨Nat.zero_le _, Nat.zero_le _⟩ 0 10 rfl rfl rfl (wr := []) [0, 1] [] rfl rfl rfl rfl (by decide) (As := [.int m_next_0]) (rest := []) rfl hl.1 rfl (Nat.le_of_ble_eq_true rfl) dX10_scan_5 (fun H locs hP hD hS => ?_)
      refine W.eq (g2 := F0 m 8 ls [.int r5]) rfl ?_
      have hP : va_P (dC, dI) vwCl [(ad 0, .inr (10, oM ad m_undoCount m_thrown m_hasSnapshot a_m_fam m_rows m_lineLength m_formattedLength m_bufferLength m_limit m_next_0 m_beginsAt m_token m_error m_errorAt m_errorPosition m_nested m_codeCount)), ((ad 24), .inl (cI, 800, .inl m_buffer))] H := hP
      have hD : va_D A [(ad 0, .inr (10, oM ad m_undoCount m_thrown m_hasSnapshot a_m_fam m_rows m_lineLength m_formattedLength m_bufferLength m_limit m_next_0 m_beginsAt m_token m_error m_errorAt m_errorPosition m_nested m_codeCount)), ((ad 24), .inl (cI, 800, .inl m_buffer))] := hD
      refine lv_bipush (v := 32) hx hb dX10_scan_8 (by decide) ?_
      refine lv_icmp_eq (tgt := 26) hx hb dX10_scan_10 (by decide) (fun h9 => ?_) (fun h9 => ?_)
      · have hf := itt h9 hf
        exact J26 H locs ls hf hP hD hS (lv_sub hl [0] rfl)
      · have hf := itf h9 hf
        refine lv_aload_n hx hb dX10_scan_13 rfl (lv_at hl 0 rfl) ?_
        refine lv_aload_n hx hb dX10_scan_14 rfl (lv_at hl 0 rfl) ?_
        refine va_get (D := (dC, dI)) (ci := 10) (v := .int m_next_0) (C := RX10) (T := TX10) (N := 37) hx hb htg inX10 hown hE.1 hP 0 rfl rfl 26 (by decide) (htg _ tw1408) (fun _ h9 => h9) rfl dX10_scan_15 ?_
        obtain ⟨r18, h9, hf⟩ := ob_s hf
        refine gcV (index := 371) S hE (c_X10_byteAt ad a_m_fam m_undoCount m_thrown m_hasSnapshot m_rows m_lineLength m_formattedLength m_bufferLength m_limit m_next_0 m_beginsAt m_token m_error m_errorAt m_errorPosition m_nested m_codeCount m_buffer m_next_0 r18 h9) mX10_byteAt tw1942 ⟨Nat.le_of_ble_eq_true rfl, Nat.le_of_ble_eq_true rfl⟩ hP hD hS hA ⟨Nat.zero_le _, Nat.zero_le _⟩ 0 10 rfl rfl rfl (wr := []) [0, 1] [] rfl rfl rfl rfl (by decide) (As := [.int m_next_0]) (rest := []) rfl hl.1 rfl (Nat.le_of_ble_eq_true rfl) dX10_scan_18 (fun H locs hP hD hS => ?_)
        refine W.eq (g2 := F0 m 21 ls [.int r18]) rfl ?_
        have hP : va_P (dC, dI) vwCl [(ad 0, .inr (10, oM ad m_undoCount m_thrown m_hasSnapshot a_m_fam m_rows m_lineLength m_formattedLength m_bufferLength m_limit m_next_0 m_beginsAt m_token m_error m_errorAt m_errorPosition m_nested m_codeCount)), ((ad 24), .inl (cI, 800, .inl m_buffer))] H := hP
        have hD : va_D A [(ad 0, .inr (10, oM ad m_undoCount m_thrown m_hasSnapshot a_m_fam m_rows m_lineLength m_formattedLength m_bufferLength m_limit m_next_0 m_beginsAt m_token m_error m_errorAt m_errorPosition m_nested m_codeCount)), ((ad 24), .inl (cI, 800, .inl m_buffer))] := hD
        refine lv_bipush (v := 10) hx hb dX10_scan_21 (by decide) ?_
        refine lv_icmp_ne (tgt := 39) hx hb dX10_scan_23 (by decide) (fun h9 => ?_) (fun h9 => ?_)
        · have hf := itf h9 hf
          cases hf
          have hf := hk0
          exact J39 m_next_0 H locs ls hf hP hD hS (lv_sub hl [0] rfl)
        · have hf := itt h9 hf
          exact J26 H locs ls hf hP hD hS (lv_sub hl [0] rfl)
  obtain ⟨ex, h9, hf⟩ := ob_s hf
  exact K0 FU m_next ex H locs ls h9 hf hP hD hS (lv_sub hl [0] rfl)
set_option maxHeartbeats 4000000 in
set_option maxRecDepth 100000 in
theorem c_X10_startText (ad : Nat → Nat) (a_m_fam : Nat) (m_undoCount : Int32) (m_thrown : Int32) (m_hasSnapshot : Bool) (m_rows : Int32) (m_lineLength : Int32) (m_formattedLength : Int32) (m_bufferLength : Int32) (m_limit : Int32) (m_next : Int32) (m_beginsAt : Int32) (m_token : Int32) (m_error : Int32) (m_errorAt : Int32) (m_errorPosition : Int32) (m_nested : Int32) (m_codeCount : Int32) (m_buffer : Nat → Int32) (v1 : Int32) (m_beginsAt_9 : Int32) (m_error_9 : Int32) (m_limit_9 : Int32) (m_nested_9 : Int32) (m_next_9 : Int32) (m_token_9 : Int32) (hf : p10_startText m_buffer v1 = some (m_beginsAt_9, m_error_9, m_limit_9, m_nested_9, m_next_9, m_token_9)) : gM l dC dI cI cJ cZ yX10_startText cX10_startText 2 none (3) (62) [.ref (ad 0), .int v1] [(ad 0, .inr (10, oM ad m_undoCount m_thrown m_hasSnapshot a_m_fam m_rows m_lineLength m_formattedLength m_bufferLength m_limit m_next m_beginsAt m_token m_error m_errorAt m_errorPosition m_nested m_codeCount)), ((ad 24), .inl (cI, 800, .inl m_buffer))] [(ad 0, .inr (10, oM ad m_undoCount m_thrown m_hasSnapshot a_m_fam m_rows m_lineLength m_formattedLength m_bufferLength m_limit_9 m_next_9 m_beginsAt_9 m_token_9 m_error_9 m_errorAt m_errorPosition m_nested_9 m_codeCount)), ((ad 24), .inl (cI, 800, .inl m_buffer))] none := by
  refine g_start (own := RX10) (by decide +kernel) rfl (Nat.le_of_ble_eq_true rfl) ?_
  intro p e s m below meth c A ls S hr hlocks hE hP hD hS hA hl hin
  have hx := S.1
  have hb := S.2.1
  have hml := S.2.2.1
  have hown := S.2.2.2.1
  have htg : ∀ z ∈ gw, z.before ([.ref (ad 0), .int v1] : List Value).toArray s = true := fun w h => S.2.2.2.2 w (List.mem_cons_of_mem _ h)
  have hl : lv_has ls 2 [(0, .ref (ad 0)), (1, .int v1)] := hl
  have hS0 := hS
  obtain ⟨H, hH⟩ : ∃ H, H = s.heap := ⟨_, rfl⟩
  obtain ⟨locs, hlc⟩ : ∃ locs : List Loc, locs = [] := ⟨_, rfl⟩
  have hS : va_S A s.heap H locs := by rw [hH, hlc]; exact hS0
  have hP : va_P (dC, dI) vwCl [(ad 0, .inr (10, oM ad m_undoCount m_thrown m_hasSnapshot a_m_fam m_rows m_lineLength m_formattedLength m_bufferLength m_limit m_next m_beginsAt m_token m_error m_errorAt m_errorPosition m_nested m_codeCount)), ((ad 24), .inl (cI, 800, .inl m_buffer))] H := by rw [hH]; exact hP
  suffices hgo : W p l e ({ frames := 3, cells := 0, slots := 0, locals := 62 }) s m ([.ref (ad 0), .int v1] : List Value).toArray below meth c H locs 0 0 (MQ below (gQ dC dI none A [(ad 0, .inr (10, oM ad m_undoCount m_thrown m_hasSnapshot a_m_fam m_rows m_lineLength m_formattedLength m_bufferLength m_limit_9 m_next_9 m_beginsAt_9 m_token_9 m_error_9 m_errorAt m_errorPosition m_nested_9 m_codeCount)), ((ad 24), .inl (cI, 800, .inl m_buffer))]) ([.ref (ad 0), .int v1] : List Value).toArray s 0 0 A) (F0 m 0 ls []) by rw [hH, hlc] at hgo; exact hgo
  rw [p10_startText] at hf
  refine lv_aload_n hx hb dX10_startText_0 rfl (lv_at hl 0 rfl) ?_
  refine lv_iload_n hx hb dX10_startText_1 rfl (lv_at hl 1 rfl) ?_
  refine va_put (D := (dC, dI)) (ci := 10) (v := .int v1) (ty := .int) (C := RX10) (T := TX10) (N := 37) hx hb htg inX10 tyX10 tyX10_ok nmX10 hown hE.1 hP hD hS 0 rfl rfl 25 (by decide) (htg _ tw1407) (fun _ h9 => h9) rfl (by decide +kernel) rfl rfl (Nat.le_of_ble_eq_true rfl) dX10_startText_2 (fun H locs hP hD hS => ?_)
  have hP : va_P (dC, dI) vwCl [(ad 0, .inr (10, oM ad m_undoCount m_thrown m_hasSnapshot a_m_fam m_rows m_lineLength m_formattedLength m_bufferLength v1 m_next m_beginsAt m_token m_error m_errorAt m_errorPosition m_nested m_codeCount)), ((ad 24), .inl (cI, 800, .inl m_buffer))] H := hP
  have hD : va_D A [(ad 0, .inr (10, oM ad m_undoCount m_thrown m_hasSnapshot a_m_fam m_rows m_lineLength m_formattedLength m_bufferLength v1 m_next m_beginsAt m_token m_error m_errorAt m_errorPosition m_nested m_codeCount)), ((ad 24), .inl (cI, 800, .inl m_buffer))] := hD
  refine lv_aload_n hx hb dX10_startText_5 rfl (lv_at hl 0 rfl) ?_
  refine lv_iconst (v := 0) hx hb dX10_startText_6 (by decide) ?_
  refine va_put (D := (dC, dI)) (ci := 10) (v := .int (0 : Int32)) (ty := .int) (C := RX10) (T := TX10) (N := 37) hx hb htg inX10 tyX10 tyX10_ok nmX10 hown hE.1 hP hD hS 0 rfl rfl 26 (by decide) (htg _ tw1408) (fun _ h9 => h9) rfl (by decide +kernel) rfl rfl (Nat.le_of_ble_eq_true rfl) dX10_startText_7 (fun H locs hP hD hS => ?_)
  have hP : va_P (dC, dI) vwCl [(ad 0, .inr (10, oM ad m_undoCount m_thrown m_hasSnapshot a_m_fam m_rows m_lineLength m_formattedLength m_bufferLength v1 (0 : Int32) m_beginsAt m_token m_error m_errorAt m_errorPosition m_nested m_codeCount)), ((ad 24), .inl (cI, 800, .inl m_buffer))] H := hP
  have hD : va_D A [(ad 0, .inr (10, oM ad m_undoCount m_thrown m_hasSnapshot a_m_fam m_rows m_lineLength m_formattedLength m_bufferLength v1 (0 : Int32) m_beginsAt m_token m_error m_errorAt m_errorPosition m_nested m_codeCount)), ((ad 24), .inl (cI, 800, .inl m_buffer))] := hD
  refine lv_aload_n hx hb dX10_startText_10 rfl (lv_at hl 0 rfl) ?_
  refine lv_iconst (v := 0) hx hb dX10_startText_11 (by decide) ?_
  refine va_put (D := (dC, dI)) (ci := 10) (v := .int (0 : Int32)) (ty := .int) (C := RX10) (T := TX10) (N := 37) hx hb htg inX10 tyX10 tyX10_ok nmX10 hown hE.1 hP hD hS 0 rfl rfl 29 (by decide) (htg _ tw1411) (fun _ h9 => h9) rfl (by decide +kernel) rfl rfl (Nat.le_of_ble_eq_true rfl) dX10_startText_12 (fun H locs hP hD hS => ?_)
  have hP : va_P (dC, dI) vwCl [(ad 0, .inr (10, oM ad m_undoCount m_thrown m_hasSnapshot a_m_fam m_rows m_lineLength m_formattedLength m_bufferLength v1 (0 : Int32) m_beginsAt m_token (0 : Int32) m_errorAt m_errorPosition m_nested m_codeCount)), ((ad 24), .inl (cI, 800, .inl m_buffer))] H := hP
  have hD : va_D A [(ad 0, .inr (10, oM ad m_undoCount m_thrown m_hasSnapshot a_m_fam m_rows m_lineLength m_formattedLength m_bufferLength v1 (0 : Int32) m_beginsAt m_token (0 : Int32) m_errorAt m_errorPosition m_nested m_codeCount)), ((ad 24), .inl (cI, 800, .inl m_buffer))] := hD
  refine lv_aload_n hx hb dX10_startText_15 rfl (lv_at hl 0 rfl) ?_
  refine lv_iconst (v := 0) hx hb dX10_startText_16 (by decide) ?_
  refine va_put (D := (dC, dI)) (ci := 10) (v := .int (0 : Int32)) (ty := .int) (C := RX10) (T := TX10) (N := 37) hx hb htg inX10 tyX10 tyX10_ok nmX10 hown hE.1 hP hD hS 0 rfl rfl 32 (by decide) (htg _ tw1414) (fun _ h9 => h9) rfl (by decide +kernel) rfl rfl (Nat.le_of_ble_eq_true rfl) dX10_startText_17 (fun H locs hP hD hS => ?_)
  have hP : va_P (dC, dI) vwCl [(ad 0, .inr (10, oM ad m_undoCount m_thrown m_hasSnapshot a_m_fam m_rows m_lineLength m_formattedLength m_bufferLength v1 (0 : Int32) m_beginsAt m_token (0 : Int32) m_errorAt m_errorPosition (0 : Int32) m_codeCount)), ((ad 24), .inl (cI, 800, .inl m_buffer))] H := hP
  have hD : va_D A [(ad 0, .inr (10, oM ad m_undoCount m_thrown m_hasSnapshot a_m_fam m_rows m_lineLength m_formattedLength m_bufferLength v1 (0 : Int32) m_beginsAt m_token (0 : Int32) m_errorAt m_errorPosition (0 : Int32) m_codeCount)), ((ad 24), .inl (cI, 800, .inl m_buffer))] := hD
  refine lv_aload_n hx hb dX10_startText_20 rfl (lv_at hl 0 rfl) ?_
  obtain ⟨⟨m_beginsAt_21, m_next_21, m_token_21⟩, h9, hf⟩ := ob_s hf
  have hf := uc3_e hf
  refine gcV (index := 395) S hE (c_X10_scan ad a_m_fam m_undoCount m_thrown m_hasSnapshot m_rows m_lineLength m_formattedLength m_bufferLength v1 (0 : Int32) m_beginsAt m_token (0 : Int32) m_errorAt m_errorPosition (0 : Int32) m_codeCount m_buffer m_beginsAt_21 m_next_21 m_token_21 h9) mX10_scan tw1938 ⟨Nat.le_of_ble_eq_true rfl, Nat.le_of_ble_eq_true rfl⟩ hP hD hS hA ⟨Nat.zero_le _, Nat.zero_le _⟩ 0 10 rfl rfl rfl (wr := []) [0, 1] [] rfl rfl rfl rfl (by decide) (As := []) (rest := []) rfl hl.1 rfl (Nat.le_of_ble_eq_true rfl) dX10_startText_21 (fun H locs hP hD hS => ?_)
  refine W.eq (g2 := F0 m 24 ls []) rfl ?_
  have hP : va_P (dC, dI) vwCl [(ad 0, .inr (10, oM ad m_undoCount m_thrown m_hasSnapshot a_m_fam m_rows m_lineLength m_formattedLength m_bufferLength v1 m_next_21 m_beginsAt_21 m_token_21 (0 : Int32) m_errorAt m_errorPosition (0 : Int32) m_codeCount)), ((ad 24), .inl (cI, 800, .inl m_buffer))] H := hP
  have hD : va_D A [(ad 0, .inr (10, oM ad m_undoCount m_thrown m_hasSnapshot a_m_fam m_rows m_lineLength m_formattedLength m_bufferLength v1 m_next_21 m_beginsAt_21 m_token_21 (0 : Int32) m_errorAt m_errorPosition (0 : Int32) m_codeCount)), ((ad 24), .inl (cI, 800, .inl m_buffer))] := hD
  cases hf
  exact g_vret S hr hlocks hP hD hS dX10_startText_24
set_option maxHeartbeats 4000000 in
set_option maxRecDepth 100000 in
theorem c_X10_finish (ad : Nat → Nat) (a_m_fam : Nat) (m_undoCount : Int32) (m_thrown : Int32) (m_hasSnapshot : Bool) (m_rows : Int32) (m_lineLength : Int32) (m_formattedLength : Int32) (m_bufferLength : Int32) (m_limit : Int32) (m_next : Int32) (m_beginsAt : Int32) (m_token : Int32) (m_error : Int32) (m_errorAt : Int32) (m_errorPosition : Int32) (m_nested : Int32) (m_codeCount : Int32) (r9 : Int32) (m_bufferLength_9 : Int32) (m_errorPosition_9 : Int32) (hf : p10_finish m_error m_errorAt = (r9, m_bufferLength_9, m_errorPosition_9)) : gM l dC dI cI cJ cZ yX10_finish cX10_finish 1 (some .int) (0) (0) [.ref (ad 0)] [(ad 0, .inr (10, oM ad m_undoCount m_thrown m_hasSnapshot a_m_fam m_rows m_lineLength m_formattedLength m_bufferLength m_limit m_next m_beginsAt m_token m_error m_errorAt m_errorPosition m_nested m_codeCount))] [(ad 0, .inr (10, oM ad m_undoCount m_thrown m_hasSnapshot a_m_fam m_rows m_lineLength m_formattedLength m_bufferLength_9 m_limit m_next m_beginsAt m_token m_error m_errorAt m_errorPosition_9 m_nested m_codeCount))] (some (.int r9)) := by
  refine g_start (own := RX10) (by decide +kernel) rfl (Nat.le_of_ble_eq_true rfl) ?_
  intro p e s m below meth c A ls S hr hlocks hE hP hD hS hA hl hin
  have hx := S.1
  have hb := S.2.1
  have hml := S.2.2.1
  have hown := S.2.2.2.1
  have htg : ∀ z ∈ gw, z.before ([.ref (ad 0)] : List Value).toArray s = true := fun w h => S.2.2.2.2 w (List.mem_cons_of_mem _ h)
  have hl : lv_has ls 1 [(0, .ref (ad 0))] := hl
  have hS0 := hS
  obtain ⟨H, hH⟩ : ∃ H, H = s.heap := ⟨_, rfl⟩
  obtain ⟨locs, hlc⟩ : ∃ locs : List Loc, locs = [] := ⟨_, rfl⟩
  have hS : va_S A s.heap H locs := by rw [hH, hlc]; exact hS0
  have hP : va_P (dC, dI) vwCl [(ad 0, .inr (10, oM ad m_undoCount m_thrown m_hasSnapshot a_m_fam m_rows m_lineLength m_formattedLength m_bufferLength m_limit m_next m_beginsAt m_token m_error m_errorAt m_errorPosition m_nested m_codeCount))] H := by rw [hH]; exact hP
  suffices hgo : W p l e ({ frames := 0, cells := 0, slots := 0, locals := 0 }) s m ([.ref (ad 0)] : List Value).toArray below meth c H locs 0 0 (MQ below (gQ dC dI (some (.int r9)) A [(ad 0, .inr (10, oM ad m_undoCount m_thrown m_hasSnapshot a_m_fam m_rows m_lineLength m_formattedLength m_bufferLength_9 m_limit m_next m_beginsAt m_token m_error m_errorAt m_errorPosition_9 m_nested m_codeCount))]) ([.ref (ad 0)] : List Value).toArray s 0 0 A) (F0 m 0 ls []) by rw [hH, hlc] at hgo; exact hgo
  rw [p10_finish] at hf
  refine lv_aload_n hx hb dX10_finish_0 rfl (lv_at hl 0 rfl) ?_
  refine lv_iconst (v := 0) hx hb dX10_finish_1 (by decide) ?_
  refine va_put (D := (dC, dI)) (ci := 10) (v := .int (0 : Int32)) (ty := .int) (C := RX10) (T := TX10) (N := 37) hx hb htg inX10 tyX10 tyX10_ok nmX10 hown hE.1 hP hD hS 0 rfl rfl 24 (by decide) (htg _ tw1406) (fun _ h9 => h9) rfl (by decide +kernel) rfl rfl (Nat.le_of_ble_eq_true rfl) dX10_finish_2 (fun H locs hP hD hS => ?_)
  have hP : va_P (dC, dI) vwCl [(ad 0, .inr (10, oM ad m_undoCount m_thrown m_hasSnapshot a_m_fam m_rows m_lineLength m_formattedLength (0 : Int32) m_limit m_next m_beginsAt m_token m_error m_errorAt m_errorPosition m_nested m_codeCount))] H := hP
  have hD : va_D A [(ad 0, .inr (10, oM ad m_undoCount m_thrown m_hasSnapshot a_m_fam m_rows m_lineLength m_formattedLength (0 : Int32) m_limit m_next m_beginsAt m_token m_error m_errorAt m_errorPosition m_nested m_codeCount))] := hD
  refine lv_aload_n hx hb dX10_finish_5 rfl (lv_at hl 0 rfl) ?_
  refine lv_aload_n hx hb dX10_finish_6 rfl (lv_at hl 0 rfl) ?_
  refine va_get (D := (dC, dI)) (ci := 10) (v := .int m_error) (C := RX10) (T := TX10) (N := 37) hx hb htg inX10 hown hE.1 hP 0 rfl rfl 29 (by decide) (htg _ tw1411) (fun _ h9 => h9) rfl dX10_finish_7 ?_
  refine lv_if_ne (tgt := 17) hx hb dX10_finish_10 (by decide) (fun h9 => ?_) (fun h9 => ?_)
  · have hf := itf h9 hf
    refine lv_aload_n hx hb dX10_finish_17 rfl (lv_at hl 0 rfl) ?_
    refine va_get (D := (dC, dI)) (ci := 10) (v := .int m_errorAt) (C := RX10) (T := TX10) (N := 37) hx hb htg inX10 hown hE.1 hP 0 rfl rfl 30 (by decide) (htg _ tw1412) (fun _ h9 => h9) rfl dX10_finish_18 ?_
    refine va_put (D := (dC, dI)) (ci := 10) (v := .int m_errorAt) (ty := .int) (C := RX10) (T := TX10) (N := 37) hx hb htg inX10 tyX10 tyX10_ok nmX10 hown hE.1 hP hD hS 0 rfl rfl 31 (by decide) (htg _ tw1413) (fun _ h9 => h9) rfl (by decide +kernel) rfl rfl (Nat.le_of_ble_eq_true rfl) dX10_finish_21 (fun H locs hP hD hS => ?_)
    have hP : va_P (dC, dI) vwCl [(ad 0, .inr (10, oM ad m_undoCount m_thrown m_hasSnapshot a_m_fam m_rows m_lineLength m_formattedLength (0 : Int32) m_limit m_next m_beginsAt m_token m_error m_errorAt m_errorAt m_nested m_codeCount))] H := hP
    have hD : va_D A [(ad 0, .inr (10, oM ad m_undoCount m_thrown m_hasSnapshot a_m_fam m_rows m_lineLength m_formattedLength (0 : Int32) m_limit m_next m_beginsAt m_token m_error m_errorAt m_errorAt m_nested m_codeCount))] := hD
    refine lv_aload_n hx hb dX10_finish_24 rfl (lv_at hl 0 rfl) ?_
    refine va_get (D := (dC, dI)) (ci := 10) (v := .int m_error) (C := RX10) (T := TX10) (N := 37) hx hb htg inX10 hown hE.1 hP 0 rfl rfl 29 (by decide) (htg _ tw1411) (fun _ h9 => h9) rfl dX10_finish_25 ?_
    cases hf
    exact g_iret S hr hlocks hP hD hS dX10_finish_28
  · have hf := itt h9 hf
    refine lv_iconst (v := -1) hx hb dX10_finish_13 (by decide) ?_
    refine lv_goto (tgt := 21) hx hb dX10_finish_14 (by decide) ?_
    refine va_put (D := (dC, dI)) (ci := 10) (v := .int (-1 : Int32)) (ty := .int) (C := RX10) (T := TX10) (N := 37) hx hb htg inX10 tyX10 tyX10_ok nmX10 hown hE.1 hP hD hS 0 rfl rfl 31 (by decide) (htg _ tw1413) (fun _ h9 => h9) rfl (by decide +kernel) rfl rfl (Nat.le_of_ble_eq_true rfl) dX10_finish_21 (fun H locs hP hD hS => ?_)
    have hP : va_P (dC, dI) vwCl [(ad 0, .inr (10, oM ad m_undoCount m_thrown m_hasSnapshot a_m_fam m_rows m_lineLength m_formattedLength (0 : Int32) m_limit m_next m_beginsAt m_token m_error m_errorAt (-1 : Int32) m_nested m_codeCount))] H := hP
    have hD : va_D A [(ad 0, .inr (10, oM ad m_undoCount m_thrown m_hasSnapshot a_m_fam m_rows m_lineLength m_formattedLength (0 : Int32) m_limit m_next m_beginsAt m_token m_error m_errorAt (-1 : Int32) m_nested m_codeCount))] := hD
    refine lv_aload_n hx hb dX10_finish_24 rfl (lv_at hl 0 rfl) ?_
    refine va_get (D := (dC, dI)) (ci := 10) (v := .int m_error) (C := RX10) (T := TX10) (N := 37) hx hb htg inX10 hown hE.1 hP 0 rfl rfl 29 (by decide) (htg _ tw1411) (fun _ h9 => h9) rfl dX10_finish_25 ?_
    cases hf
    exact g_iret S hr hlocks hP hD hS dX10_finish_28
set_option maxHeartbeats 4000000 in
set_option maxRecDepth 100000 in
theorem c_X10_flaw (ad : Nat → Nat) (a_m_fam : Nat) (m_undoCount : Int32) (m_thrown : Int32) (m_hasSnapshot : Bool) (m_rows : Int32) (m_lineLength : Int32) (m_formattedLength : Int32) (m_bufferLength : Int32) (m_limit : Int32) (m_next : Int32) (m_beginsAt : Int32) (m_token : Int32) (m_error : Int32) (m_errorAt : Int32) (m_errorPosition : Int32) (m_nested : Int32) (m_codeCount : Int32) (v1 : Int32) (m_error_9 : Int32) (m_errorAt_9 : Int32) (hf : p10_flaw m_beginsAt m_error m_errorAt v1 = (m_error_9, m_errorAt_9)) : gM l dC dI cI cJ cZ yX10_flaw cX10_flaw 2 none (0) (0) [.ref (ad 0), .int v1] [(ad 0, .inr (10, oM ad m_undoCount m_thrown m_hasSnapshot a_m_fam m_rows m_lineLength m_formattedLength m_bufferLength m_limit m_next m_beginsAt m_token m_error m_errorAt m_errorPosition m_nested m_codeCount))] [(ad 0, .inr (10, oM ad m_undoCount m_thrown m_hasSnapshot a_m_fam m_rows m_lineLength m_formattedLength m_bufferLength m_limit m_next m_beginsAt m_token m_error_9 m_errorAt_9 m_errorPosition m_nested m_codeCount))] none := by
  refine g_start (own := RX10) (by decide +kernel) rfl (Nat.le_of_ble_eq_true rfl) ?_
  intro p e s m below meth c A ls S hr hlocks hE hP hD hS hA hl hin
  have hx := S.1
  have hb := S.2.1
  have hml := S.2.2.1
  have hown := S.2.2.2.1
  have htg : ∀ z ∈ gw, z.before ([.ref (ad 0), .int v1] : List Value).toArray s = true := fun w h => S.2.2.2.2 w (List.mem_cons_of_mem _ h)
  have hl : lv_has ls 2 [(0, .ref (ad 0)), (1, .int v1)] := hl
  have hS0 := hS
  obtain ⟨H, hH⟩ : ∃ H, H = s.heap := ⟨_, rfl⟩
  obtain ⟨locs, hlc⟩ : ∃ locs : List Loc, locs = [] := ⟨_, rfl⟩
  have hS : va_S A s.heap H locs := by rw [hH, hlc]; exact hS0
  have hP : va_P (dC, dI) vwCl [(ad 0, .inr (10, oM ad m_undoCount m_thrown m_hasSnapshot a_m_fam m_rows m_lineLength m_formattedLength m_bufferLength m_limit m_next m_beginsAt m_token m_error m_errorAt m_errorPosition m_nested m_codeCount))] H := by rw [hH]; exact hP
  suffices hgo : W p l e ({ frames := 0, cells := 0, slots := 0, locals := 0 }) s m ([.ref (ad 0), .int v1] : List Value).toArray below meth c H locs 0 0 (MQ below (gQ dC dI none A [(ad 0, .inr (10, oM ad m_undoCount m_thrown m_hasSnapshot a_m_fam m_rows m_lineLength m_formattedLength m_bufferLength m_limit m_next m_beginsAt m_token m_error_9 m_errorAt_9 m_errorPosition m_nested m_codeCount))]) ([.ref (ad 0), .int v1] : List Value).toArray s 0 0 A) (F0 m 0 ls []) by rw [hH, hlc] at hgo; exact hgo
  rw [p10_flaw] at hf
  refine lv_aload_n hx hb dX10_flaw_0 rfl (lv_at hl 0 rfl) ?_
  refine va_get (D := (dC, dI)) (ci := 10) (v := .int m_error) (C := RX10) (T := TX10) (N := 37) hx hb htg inX10 hown hE.1 hP 0 rfl rfl 29 (by decide) (htg _ tw1411) (fun _ h9 => h9) rfl dX10_flaw_1 ?_
  refine lv_if_ne (tgt := 20) hx hb dX10_flaw_4 (by decide) (fun h9 => ?_) (fun h9 => ?_)
  · have hf := itf h9 hf
    cases hf
    exact g_vret S hr hlocks hP hD hS dX10_flaw_20
  · have hf := itt h9 hf
    refine lv_aload_n hx hb dX10_flaw_7 rfl (lv_at hl 0 rfl) ?_
    refine lv_iload_n hx hb dX10_flaw_8 rfl (lv_at hl 1 rfl) ?_
    refine va_put (D := (dC, dI)) (ci := 10) (v := .int v1) (ty := .int) (C := RX10) (T := TX10) (N := 37) hx hb htg inX10 tyX10 tyX10_ok nmX10 hown hE.1 hP hD hS 0 rfl rfl 29 (by decide) (htg _ tw1411) (fun _ h9 => h9) rfl (by decide +kernel) rfl rfl (Nat.le_of_ble_eq_true rfl) dX10_flaw_9 (fun H locs hP hD hS => ?_)
    have hP : va_P (dC, dI) vwCl [(ad 0, .inr (10, oM ad m_undoCount m_thrown m_hasSnapshot a_m_fam m_rows m_lineLength m_formattedLength m_bufferLength m_limit m_next m_beginsAt m_token v1 m_errorAt m_errorPosition m_nested m_codeCount))] H := hP
    have hD : va_D A [(ad 0, .inr (10, oM ad m_undoCount m_thrown m_hasSnapshot a_m_fam m_rows m_lineLength m_formattedLength m_bufferLength m_limit m_next m_beginsAt m_token v1 m_errorAt m_errorPosition m_nested m_codeCount))] := hD
    refine lv_aload_n hx hb dX10_flaw_12 rfl (lv_at hl 0 rfl) ?_
    refine lv_aload_n hx hb dX10_flaw_13 rfl (lv_at hl 0 rfl) ?_
    refine va_get (D := (dC, dI)) (ci := 10) (v := .int m_beginsAt) (C := RX10) (T := TX10) (N := 37) hx hb htg inX10 hown hE.1 hP 0 rfl rfl 27 (by decide) (htg _ tw1409) (fun _ h9 => h9) rfl dX10_flaw_14 ?_
    refine va_put (D := (dC, dI)) (ci := 10) (v := .int m_beginsAt) (ty := .int) (C := RX10) (T := TX10) (N := 37) hx hb htg inX10 tyX10 tyX10_ok nmX10 hown hE.1 hP hD hS 0 rfl rfl 30 (by decide) (htg _ tw1412) (fun _ h9 => h9) rfl (by decide +kernel) rfl rfl (Nat.le_of_ble_eq_true rfl) dX10_flaw_17 (fun H locs hP hD hS => ?_)
    have hP : va_P (dC, dI) vwCl [(ad 0, .inr (10, oM ad m_undoCount m_thrown m_hasSnapshot a_m_fam m_rows m_lineLength m_formattedLength m_bufferLength m_limit m_next m_beginsAt m_token v1 m_beginsAt m_errorPosition m_nested m_codeCount))] H := hP
    have hD : va_D A [(ad 0, .inr (10, oM ad m_undoCount m_thrown m_hasSnapshot a_m_fam m_rows m_lineLength m_formattedLength m_bufferLength m_limit m_next m_beginsAt m_token v1 m_beginsAt m_errorPosition m_nested m_codeCount))] := hD
    cases hf
    exact g_vret S hr hlocks hP hD hS dX10_flaw_20
set_option maxHeartbeats 4000000 in
set_option maxRecDepth 100000 in
theorem c_X10_check (ad : Nat → Nat) (a_m_fam : Nat) (m_undoCount : Int32) (m_thrown : Int32) (m_hasSnapshot : Bool) (m_rows : Int32) (m_lineLength : Int32) (m_formattedLength : Int32) (m_bufferLength : Int32) (m_limit : Int32) (m_next : Int32) (m_beginsAt : Int32) (m_token : Int32) (m_error : Int32) (m_errorAt : Int32) (m_errorPosition : Int32) (m_nested : Int32) (m_codeCount : Int32) (v1 : Bool) (v2 : Int32) (m_error_9 : Int32) (m_errorAt_9 : Int32) (hf : p10_check m_beginsAt m_error m_errorAt v1 v2 = (m_error_9, m_errorAt_9)) : gM l dC dI cI cJ cZ yX10_check cX10_check 3 none (1) (21) [.ref (ad 0), .int (bI v1), .int v2] [(ad 0, .inr (10, oM ad m_undoCount m_thrown m_hasSnapshot a_m_fam m_rows m_lineLength m_formattedLength m_bufferLength m_limit m_next m_beginsAt m_token m_error m_errorAt m_errorPosition m_nested m_codeCount))] [(ad 0, .inr (10, oM ad m_undoCount m_thrown m_hasSnapshot a_m_fam m_rows m_lineLength m_formattedLength m_bufferLength m_limit m_next m_beginsAt m_token m_error_9 m_errorAt_9 m_errorPosition m_nested m_codeCount))] none := by
  refine g_start (own := RX10) (by decide +kernel) rfl (Nat.le_of_ble_eq_true rfl) ?_
  intro p e s m below meth c A ls S hr hlocks hE hP hD hS hA hl hin
  have hx := S.1
  have hb := S.2.1
  have hml := S.2.2.1
  have hown := S.2.2.2.1
  have htg : ∀ z ∈ gw, z.before ([.ref (ad 0), .int (bI v1), .int v2] : List Value).toArray s = true := fun w h => S.2.2.2.2 w (List.mem_cons_of_mem _ h)
  have hl : lv_has ls 3 [(0, .ref (ad 0)), (1, .int (bI v1)), (2, .int v2)] := hl
  have hS0 := hS
  obtain ⟨H, hH⟩ : ∃ H, H = s.heap := ⟨_, rfl⟩
  obtain ⟨locs, hlc⟩ : ∃ locs : List Loc, locs = [] := ⟨_, rfl⟩
  have hS : va_S A s.heap H locs := by rw [hH, hlc]; exact hS0
  have hP : va_P (dC, dI) vwCl [(ad 0, .inr (10, oM ad m_undoCount m_thrown m_hasSnapshot a_m_fam m_rows m_lineLength m_formattedLength m_bufferLength m_limit m_next m_beginsAt m_token m_error m_errorAt m_errorPosition m_nested m_codeCount))] H := by rw [hH]; exact hP
  suffices hgo : W p l e ({ frames := 1, cells := 0, slots := 0, locals := 21 }) s m ([.ref (ad 0), .int (bI v1), .int v2] : List Value).toArray below meth c H locs 0 0 (MQ below (gQ dC dI none A [(ad 0, .inr (10, oM ad m_undoCount m_thrown m_hasSnapshot a_m_fam m_rows m_lineLength m_formattedLength m_bufferLength m_limit m_next m_beginsAt m_token m_error_9 m_errorAt_9 m_errorPosition m_nested m_codeCount))]) ([.ref (ad 0), .int (bI v1), .int v2] : List Value).toArray s 0 0 A) (F0 m 0 ls []) by rw [hH, hlc] at hgo; exact hgo
  rw [p10_check] at hf
  refine lv_iload_n hx hb dX10_check_0 rfl (lv_at hl 1 rfl) ?_
  refine lv_if_ne (tgt := 9) hx hb dX10_check_1 (by decide) (fun h9 => ?_) (fun h9 => ?_)
  · have hf := ctt (bI_1 h9) hf
    cases hf
    exact g_vret S hr hlocks hP hD hS dX10_check_9
  · have hf := ctf (bI_0 h9) hf
    refine lv_aload_n hx hb dX10_check_4 rfl (lv_at hl 0 rfl) ?_
    refine lv_iload_n hx hb dX10_check_5 rfl (lv_at hl 2 rfl) ?_
    obtain ⟨m_error_6, m_errorAt_6, h9⟩ : ∃ m_error_6 m_errorAt_6, p10_flaw m_beginsAt m_error m_errorAt v2 = (m_error_6, m_errorAt_6) := ⟨_, _, rfl⟩
    have hf := uc2_e (lb_e h9.symm hf)
    refine gcV (index := 401) S hE (c_X10_flaw ad a_m_fam m_undoCount m_thrown m_hasSnapshot m_rows m_lineLength m_formattedLength m_bufferLength m_limit m_next m_beginsAt m_token m_error m_errorAt m_errorPosition m_nested m_codeCount v2 m_error_6 m_errorAt_6 h9) mX10_flaw tw1972 ⟨Nat.le_of_ble_eq_true rfl, Nat.le_of_ble_eq_true rfl⟩ hP hD hS hA ⟨Nat.zero_le _, Nat.zero_le _⟩ 0 10 rfl rfl rfl (wr := []) [0] [] rfl rfl rfl rfl (by decide) (As := [.int v2]) (rest := []) rfl hl.1 rfl (Nat.le_of_ble_eq_true rfl) dX10_check_6 (fun H locs hP hD hS => ?_)
    refine W.eq (g2 := F0 m 9 ls []) rfl ?_
    have hP : va_P (dC, dI) vwCl [(ad 0, .inr (10, oM ad m_undoCount m_thrown m_hasSnapshot a_m_fam m_rows m_lineLength m_formattedLength m_bufferLength m_limit m_next m_beginsAt m_token m_error_6 m_errorAt_6 m_errorPosition m_nested m_codeCount))] H := hP
    have hD : va_D A [(ad 0, .inr (10, oM ad m_undoCount m_thrown m_hasSnapshot a_m_fam m_rows m_lineLength m_formattedLength m_bufferLength m_limit m_next m_beginsAt m_token m_error_6 m_errorAt_6 m_errorPosition m_nested m_codeCount))] := hD
    cases hf
    exact g_vret S hr hlocks hP hD hS dX10_check_9
set_option maxHeartbeats 4000000 in
set_option maxRecDepth 100000 in
theorem c_X10_advance (ad : Nat → Nat) (a_m_fam : Nat) (m_undoCount : Int32) (m_thrown : Int32) (m_hasSnapshot : Bool) (m_rows : Int32) (m_lineLength : Int32) (m_formattedLength : Int32) (m_bufferLength : Int32) (m_limit : Int32) (m_next : Int32) (m_beginsAt : Int32) (m_token : Int32) (m_error : Int32) (m_errorAt : Int32) (m_errorPosition : Int32) (m_nested : Int32) (m_codeCount : Int32) (m_buffer : Nat → Int32) (m_beginsAt_9 : Int32) (m_next_9 : Int32) (m_token_9 : Int32) (hf : p10_advance m_limit m_next m_beginsAt m_token m_error m_buffer = some (m_beginsAt_9, m_next_9, m_token_9)) : gM l dC dI cI cJ cZ yX10_advance cX10_advance 1 none (3) (62) [.ref (ad 0)] [(ad 0, .inr (10, oM ad m_undoCount m_thrown m_hasSnapshot a_m_fam m_rows m_lineLength m_formattedLength m_bufferLength m_limit m_next m_beginsAt m_token m_error m_errorAt m_errorPosition m_nested m_codeCount)), ((ad 24), .inl (cI, 800, .inl m_buffer))] [(ad 0, .inr (10, oM ad m_undoCount m_thrown m_hasSnapshot a_m_fam m_rows m_lineLength m_formattedLength m_bufferLength m_limit m_next_9 m_beginsAt_9 m_token_9 m_error m_errorAt m_errorPosition m_nested m_codeCount)), ((ad 24), .inl (cI, 800, .inl m_buffer))] none := by
  refine g_start (own := RX10) (by decide +kernel) rfl (Nat.le_of_ble_eq_true rfl) ?_
  intro p e s m below meth c A ls S hr hlocks hE hP hD hS hA hl hin
  have hx := S.1
  have hb := S.2.1
  have hml := S.2.2.1
  have hown := S.2.2.2.1
  have htg : ∀ z ∈ gw, z.before ([.ref (ad 0)] : List Value).toArray s = true := fun w h => S.2.2.2.2 w (List.mem_cons_of_mem _ h)
  have hl : lv_has ls 1 [(0, .ref (ad 0))] := hl
  have hS0 := hS
  obtain ⟨H, hH⟩ : ∃ H, H = s.heap := ⟨_, rfl⟩
  obtain ⟨locs, hlc⟩ : ∃ locs : List Loc, locs = [] := ⟨_, rfl⟩
  have hS : va_S A s.heap H locs := by rw [hH, hlc]; exact hS0
  have hP : va_P (dC, dI) vwCl [(ad 0, .inr (10, oM ad m_undoCount m_thrown m_hasSnapshot a_m_fam m_rows m_lineLength m_formattedLength m_bufferLength m_limit m_next m_beginsAt m_token m_error m_errorAt m_errorPosition m_nested m_codeCount)), ((ad 24), .inl (cI, 800, .inl m_buffer))] H := by rw [hH]; exact hP
  suffices hgo : W p l e ({ frames := 3, cells := 0, slots := 0, locals := 62 }) s m ([.ref (ad 0)] : List Value).toArray below meth c H locs 0 0 (MQ below (gQ dC dI none A [(ad 0, .inr (10, oM ad m_undoCount m_thrown m_hasSnapshot a_m_fam m_rows m_lineLength m_formattedLength m_bufferLength m_limit m_next_9 m_beginsAt_9 m_token_9 m_error m_errorAt m_errorPosition m_nested m_codeCount)), ((ad 24), .inl (cI, 800, .inl m_buffer))]) ([.ref (ad 0)] : List Value).toArray s 0 0 A) (F0 m 0 ls []) by rw [hH, hlc] at hgo; exact hgo
  rw [p10_advance] at hf
  refine lv_aload_n hx hb dX10_advance_0 rfl (lv_at hl 0 rfl) ?_
  refine va_get (D := (dC, dI)) (ci := 10) (v := .int m_error) (C := RX10) (T := TX10) (N := 37) hx hb htg inX10 hown hE.1 hP 0 rfl rfl 29 (by decide) (htg _ tw1411) (fun _ h9 => h9) rfl dX10_advance_1 ?_
  refine lv_if_ne (tgt := 11) hx hb dX10_advance_4 (by decide) (fun h9 => ?_) (fun h9 => ?_)
  · have hf := itf h9 hf
    cases hf
    exact g_vret S hr hlocks hP hD hS dX10_advance_11
  · have hf := itt h9 hf
    refine lv_aload_n hx hb dX10_advance_7 rfl (lv_at hl 0 rfl) ?_
    obtain ⟨⟨m_beginsAt_8, m_next_8, m_token_8⟩, h9, hf⟩ := ob_s hf
    have hf := uc3_e hf
    refine gcV (index := 395) S hE (c_X10_scan ad a_m_fam m_undoCount m_thrown m_hasSnapshot m_rows m_lineLength m_formattedLength m_bufferLength m_limit m_next m_beginsAt m_token m_error m_errorAt m_errorPosition m_nested m_codeCount m_buffer m_beginsAt_8 m_next_8 m_token_8 h9) mX10_scan tw1938 ⟨Nat.le_of_ble_eq_true rfl, Nat.le_of_ble_eq_true rfl⟩ hP hD hS hA ⟨Nat.zero_le _, Nat.zero_le _⟩ 0 10 rfl rfl rfl (wr := []) [0, 1] [] rfl rfl rfl rfl (by decide) (As := []) (rest := []) rfl hl.1 rfl (Nat.le_of_ble_eq_true rfl) dX10_advance_8 (fun H locs hP hD hS => ?_)
    refine W.eq (g2 := F0 m 11 ls []) rfl ?_
    have hP : va_P (dC, dI) vwCl [(ad 0, .inr (10, oM ad m_undoCount m_thrown m_hasSnapshot a_m_fam m_rows m_lineLength m_formattedLength m_bufferLength m_limit m_next_8 m_beginsAt_8 m_token_8 m_error m_errorAt m_errorPosition m_nested m_codeCount)), ((ad 24), .inl (cI, 800, .inl m_buffer))] H := hP
    have hD : va_D A [(ad 0, .inr (10, oM ad m_undoCount m_thrown m_hasSnapshot a_m_fam m_rows m_lineLength m_formattedLength m_bufferLength m_limit m_next_8 m_beginsAt_8 m_token_8 m_error m_errorAt m_errorPosition m_nested m_codeCount)), ((ad 24), .inl (cI, 800, .inl m_buffer))] := hD
    cases hf
    exact g_vret S hr hlocks hP hD hS dX10_advance_11
set_option maxHeartbeats 4000000 in
set_option maxRecDepth 100000 in
theorem c_X10_isSymbol (ad : Nat → Nat) (a_m_fam : Nat) (m_undoCount : Int32) (m_thrown : Int32) (m_hasSnapshot : Bool) (m_rows : Int32) (m_lineLength : Int32) (m_formattedLength : Int32) (m_bufferLength : Int32) (m_limit : Int32) (m_next : Int32) (m_beginsAt : Int32) (m_token : Int32) (m_error : Int32) (m_errorAt : Int32) (m_errorPosition : Int32) (m_nested : Int32) (m_codeCount : Int32) (m_buffer : Nat → Int32) (v1 : Int32) (r9 : Bool) (hf : p10_isSymbol m_beginsAt m_token m_error m_buffer v1 = some r9) : gM l dC dI cI cJ cZ yX10_isSymbol cX10_isSymbol 2 (some .boolean) (0) (0) [.ref (ad 0), .int v1] [(ad 0, .inr (10, oM ad m_undoCount m_thrown m_hasSnapshot a_m_fam m_rows m_lineLength m_formattedLength m_bufferLength m_limit m_next m_beginsAt m_token m_error m_errorAt m_errorPosition m_nested m_codeCount)), ((ad 24), .inl (cI, 800, .inl m_buffer))] [(ad 0, .inr (10, oM ad m_undoCount m_thrown m_hasSnapshot a_m_fam m_rows m_lineLength m_formattedLength m_bufferLength m_limit m_next m_beginsAt m_token m_error m_errorAt m_errorPosition m_nested m_codeCount)), ((ad 24), .inl (cI, 800, .inl m_buffer))] (some (.int (bI r9))) := by
  refine g_start (own := RX10) (by decide +kernel) rfl (Nat.le_of_ble_eq_true rfl) ?_
  intro p e s m below meth c A ls S hr hlocks hE hP hD hS hA hl hin
  have hx := S.1
  have hb := S.2.1
  have hml := S.2.2.1
  have hown := S.2.2.2.1
  have htg : ∀ z ∈ gw, z.before ([.ref (ad 0), .int v1] : List Value).toArray s = true := fun w h => S.2.2.2.2 w (List.mem_cons_of_mem _ h)
  have hl : lv_has ls 2 [(0, .ref (ad 0)), (1, .int v1)] := hl
  have hS0 := hS
  obtain ⟨H, hH⟩ : ∃ H, H = s.heap := ⟨_, rfl⟩
  obtain ⟨locs, hlc⟩ : ∃ locs : List Loc, locs = [] := ⟨_, rfl⟩
  have hS : va_S A s.heap H locs := by rw [hH, hlc]; exact hS0
  have hP : va_P (dC, dI) vwCl [(ad 0, .inr (10, oM ad m_undoCount m_thrown m_hasSnapshot a_m_fam m_rows m_lineLength m_formattedLength m_bufferLength m_limit m_next m_beginsAt m_token m_error m_errorAt m_errorPosition m_nested m_codeCount)), ((ad 24), .inl (cI, 800, .inl m_buffer))] H := by rw [hH]; exact hP
  suffices hgo : W p l e ({ frames := 0, cells := 0, slots := 0, locals := 0 }) s m ([.ref (ad 0), .int v1] : List Value).toArray below meth c H locs 0 0 (MQ below (gQ dC dI (some (.int (bI r9))) A [(ad 0, .inr (10, oM ad m_undoCount m_thrown m_hasSnapshot a_m_fam m_rows m_lineLength m_formattedLength m_bufferLength m_limit m_next m_beginsAt m_token m_error m_errorAt m_errorPosition m_nested m_codeCount)), ((ad 24), .inl (cI, 800, .inl m_buffer))]) ([.ref (ad 0), .int v1] : List Value).toArray s 0 0 A) (F0 m 0 ls []) by rw [hH, hlc] at hgo; exact hgo
  rw [p10_isSymbol] at hf
  refine lv_aload_n hx hb dX10_isSymbol_0 rfl (lv_at hl 0 rfl) ?_
  refine va_get (D := (dC, dI)) (ci := 10) (v := .int m_error) (C := RX10) (T := TX10) (N := 37) hx hb htg inX10 hown hE.1 hP 0 rfl rfl 29 (by decide) (htg _ tw1411) (fun _ h9 => h9) rfl dX10_isSymbol_1 ?_
  refine lv_if_ne (tgt := 32) hx hb dX10_isSymbol_4 (by decide) (fun h9 => ?_) (fun h9 => ?_)
  · have hf := itf h9 hf
    refine lv_iconst (v := 0) hx hb dX10_isSymbol_32 (by decide) ?_
    cases hf
    exact g_zret S hr (nar_bI false) hlocks hP hD hS dX10_isSymbol_33
  · have hf := itt h9 hf
    refine lv_aload_n hx hb dX10_isSymbol_7 rfl (lv_at hl 0 rfl) ?_
    refine va_get (D := (dC, dI)) (ci := 10) (v := .int m_token) (C := RX10) (T := TX10) (N := 37) hx hb htg inX10 hown hE.1 hP 0 rfl rfl 28 (by decide) (htg _ tw1410) (fun _ h9 => h9) rfl dX10_isSymbol_8 ?_
    refine lv_iconst (v := 3) hx hb dX10_isSymbol_11 (by decide) ?_
    refine lv_icmp_ne (tgt := 32) hx hb dX10_isSymbol_12 (by decide) (fun h9 => ?_) (fun h9 => ?_)
    · have hf := itf h9 hf
      refine lv_iconst (v := 0) hx hb dX10_isSymbol_32 (by decide) ?_
      cases hf
      exact g_zret S hr (nar_bI false) hlocks hP hD hS dX10_isSymbol_33
    · have hf := itt h9 hf
      refine lv_aload_n hx hb dX10_isSymbol_15 rfl (lv_at hl 0 rfl) ?_
      refine va_get (D := (dC, dI)) (ci := 10) (v := .ref (ad 24)) (C := RX10) (T := TX10) (N := 37) hx hb htg inX10 hown hE.1 hP 0 rfl rfl 23 (by decide) (htg _ tw1405) (fun _ h9 => h9) rfl dX10_isSymbol_16 ?_
      refine lv_aload_n hx hb dX10_isSymbol_19 rfl (lv_at hl 0 rfl) ?_
      refine va_get (D := (dC, dI)) (ci := 10) (v := .int m_beginsAt) (C := RX10) (T := TX10) (N := 37) hx hb htg inX10 hown hE.1 hP 0 rfl rfl 27 (by decide) (htg _ tw1409) (fun _ h9 => h9) rfl dX10_isSymbol_20 ?_
      obtain ⟨h9, hf⟩ := gd_s hf
      refine va_iald hx hb hE.1 hP 1 0 rfl rfl h9 dX10_isSymbol_23 ?_
      refine lv_iload_n hx hb dX10_isSymbol_24 rfl (lv_at hl 1 rfl) ?_
      refine lv_icmp_ne (tgt := 32) hx hb dX10_isSymbol_25 (by decide) (fun h9 => ?_) (fun h9 => ?_)
      · have hf := itf h9 hf
        refine lv_iconst (v := 0) hx hb dX10_isSymbol_32 (by decide) ?_
        cases hf
        exact g_zret S hr (nar_bI false) hlocks hP hD hS dX10_isSymbol_33
      · have hf := itt h9 hf
        refine lv_iconst (v := 1) hx hb dX10_isSymbol_28 (by decide) ?_
        refine lv_goto (tgt := 33) hx hb dX10_isSymbol_29 (by decide) ?_
        cases hf
        exact g_zret S hr (nar_bI true) hlocks hP hD hS dX10_isSymbol_33
set_option maxHeartbeats 4000000 in
set_option maxRecDepth 100000 in
theorem c_X10_isWord (ad : Nat → Nat) (a_m_fam : Nat) (m_undoCount : Int32) (m_thrown : Int32) (m_hasSnapshot : Bool) (m_rows : Int32) (m_lineLength : Int32) (m_formattedLength : Int32) (m_bufferLength : Int32) (m_limit : Int32) (m_next : Int32) (m_beginsAt : Int32) (m_token : Int32) (m_error : Int32) (m_errorAt : Int32) (m_errorPosition : Int32) (m_nested : Int32) (m_codeCount : Int32) (m_buffer : Nat → Int32) (v1 : Nat) (hv1 : v1 < 13) (r9 : Bool) (hf : p10_isWord m_next m_beginsAt m_token m_error m_buffer v1 = some r9) : gMH l dC dI cI cJ cZ adK adV yX10_isWord cX10_isWord 4 (some .boolean) (4) (85) [.ref (ad 0), .ref (adK v1)] [(ad 0, .inr (10, oM ad m_undoCount m_thrown m_hasSnapshot a_m_fam m_rows m_lineLength m_formattedLength m_bufferLength m_limit m_next m_beginsAt m_token m_error m_errorAt m_errorPosition m_nested m_codeCount)), ((ad 24), .inl (cI, 800, .inl m_buffer))] [(ad 0, .inr (10, oM ad m_undoCount m_thrown m_hasSnapshot a_m_fam m_rows m_lineLength m_formattedLength m_bufferLength m_limit m_next m_beginsAt m_token m_error m_errorAt m_errorPosition m_nested m_codeCount)), ((ad 24), .inl (cI, 800, .inl m_buffer))] (some (.int (bI r9))) := by
  refine g_startH (own := RX10) (by decide +kernel) rfl (Nat.le_of_ble_eq_true rfl) ?_
  intro p e s m below meth c A ls S hr hlocks hE hG hP hD hS hA hl hin
  have hx := S.1
  have hb := S.2.1
  have hml := S.2.2.1
  have hown := S.2.2.2.1
  have htg : ∀ z ∈ gw, z.before ([.ref (ad 0), .ref (adK v1)] : List Value).toArray s = true := fun w h => S.2.2.2.2 w (List.mem_cons_of_mem _ h)
  have hl : lv_has ls 4 [(0, .ref (ad 0)), (1, .ref (adK v1))] := hl
  have hS0 := hS
  obtain ⟨H, hH⟩ : ∃ H, H = s.heap := ⟨_, rfl⟩
  obtain ⟨locs, hlc⟩ : ∃ locs : List Loc, locs = [] := ⟨_, rfl⟩
  have hS : va_S A s.heap H locs := by rw [hH, hlc]; exact hS0
  have hP : va_P (dC, dI) vwCl [(ad 0, .inr (10, oM ad m_undoCount m_thrown m_hasSnapshot a_m_fam m_rows m_lineLength m_formattedLength m_bufferLength m_limit m_next m_beginsAt m_token m_error m_errorAt m_errorPosition m_nested m_codeCount)), ((ad 24), .inl (cI, 800, .inl m_buffer))] H := by rw [hH]; exact hP
  suffices hgo : W p l e ({ frames := 4, cells := 0, slots := 0, locals := 85 }) s m ([.ref (ad 0), .ref (adK v1)] : List Value).toArray below meth c H locs 0 0 (MQ below (gQ dC dI (some (.int (bI r9))) A [(ad 0, .inr (10, oM ad m_undoCount m_thrown m_hasSnapshot a_m_fam m_rows m_lineLength m_formattedLength m_bufferLength m_limit m_next m_beginsAt m_token m_error m_errorAt m_errorPosition m_nested m_codeCount)), ((ad 24), .inl (cI, 800, .inl m_buffer))]) ([.ref (ad 0), .ref (adK v1)] : List Value).toArray s 0 0 A) (F0 m 0 ls []) by rw [hH, hlc] at hgo; exact hgo
  rw [p10_isWord] at hf
  have J82 : ∀ (v2_82 : Bool) (H : Heap) (locs : List Loc) (ls : Array Slot), p10_isWord_J82 v2_82 = some r9 → va_P (dC, dI) vwCl [(ad 0, .inr (10, oM ad m_undoCount m_thrown m_hasSnapshot a_m_fam m_rows m_lineLength m_formattedLength m_bufferLength m_limit m_next m_beginsAt m_token m_error m_errorAt m_errorPosition m_nested m_codeCount)), ((ad 24), .inl (cI, 800, .inl m_buffer))] H → va_D A [(ad 0, .inr (10, oM ad m_undoCount m_thrown m_hasSnapshot a_m_fam m_rows m_lineLength m_formattedLength m_bufferLength m_limit m_next m_beginsAt m_token m_error m_errorAt m_errorPosition m_nested m_codeCount)), ((ad 24), .inl (cI, 800, .inl m_buffer))] → va_S A s.heap H locs → lv_has ls 4 [(2, .int (bI v2_82))] → W p l e ({ frames := 4, cells := 0, slots := 0, locals := 85 }) s m ([.ref (ad 0), .ref (adK v1)] : List Value).toArray below meth c H locs 0 0 (MQ below (gQ dC dI (some (.int (bI r9))) A [(ad 0, .inr (10, oM ad m_undoCount m_thrown m_hasSnapshot a_m_fam m_rows m_lineLength m_formattedLength m_bufferLength m_limit m_next m_beginsAt m_token m_error m_errorAt m_errorPosition m_nested m_codeCount)), ((ad 24), .inl (cI, 800, .inl m_buffer))]) ([.ref (ad 0), .ref (adK v1)] : List Value).toArray s 0 0 A) (F0 m 82 ls []) := by
    intro v2_82 H locs ls hf hP hD hS hl
    rw [p10_isWord_J82] at hf
    refine lv_iload_n hx hb dX10_isWord_82 rfl (lv_at hl 0 rfl) ?_
    cases hf
    exact g_zret S hr (nar_bI _) hlocks hP hD hS dX10_isWord_83
  have J37 : ∀ (v2_37 : Bool) (H : Heap) (locs : List Loc) (ls : Array Slot), p10_isWord_J37 m_beginsAt m_buffer v1 v2_37 = some r9 → va_P (dC, dI) vwCl [(ad 0, .inr (10, oM ad m_undoCount m_thrown m_hasSnapshot a_m_fam m_rows m_lineLength m_formattedLength m_bufferLength m_limit m_next m_beginsAt m_token m_error m_errorAt m_errorPosition m_nested m_codeCount)), ((ad 24), .inl (cI, 800, .inl m_buffer))] H → va_D A [(ad 0, .inr (10, oM ad m_undoCount m_thrown m_hasSnapshot a_m_fam m_rows m_lineLength m_formattedLength m_bufferLength m_limit m_next m_beginsAt m_token m_error m_errorAt m_errorPosition m_nested m_codeCount)), ((ad 24), .inl (cI, 800, .inl m_buffer))] → va_S A s.heap H locs → lv_has ls 4 [(0, .ref (ad 0)), (1, .ref (adK v1)), (2, .int (bI v2_37))] → W p l e ({ frames := 4, cells := 0, slots := 0, locals := 85 }) s m ([.ref (ad 0), .ref (adK v1)] : List Value).toArray below meth c H locs 0 0 (MQ below (gQ dC dI (some (.int (bI r9))) A [(ad 0, .inr (10, oM ad m_undoCount m_thrown m_hasSnapshot a_m_fam m_rows m_lineLength m_formattedLength m_bufferLength m_limit m_next m_beginsAt m_token m_error m_errorAt m_errorPosition m_nested m_codeCount)), ((ad 24), .inl (cI, 800, .inl m_buffer))]) ([.ref (ad 0), .ref (adK v1)] : List Value).toArray s 0 0 A) (F0 m 37 ls []) := by
    intro v2_37 H locs ls hf hP hD hS hl
    rw [p10_isWord_J37] at hf
    refine lv_iconst (v := 0) hx hb dX10_isWord_37 (by decide) ?_
    refine lv_istore_n (lv' := [(3, .int (0 : Int32)), (0, .ref (ad 0)), (1, .ref (adK v1)), (2, .int (bI v2_37))]) hx hb dX10_isWord_38 rfl hl (by decide) rfl (fun ls hl => ?_)
    have K39 : ∀ (n39 : Nat) (v2_39 : Bool) (v3_39 : Int32) (ex39 : Bool) (H : Heap) (locs : List Loc) (ls : Array Slot), p10_isWord_L39 m_beginsAt m_buffer v1 n39 v2_39 v3_39 = some ex39 → (fun v2_x39 => p10_isWord_J82 v2_x39) ex39 = some r9 → va_P (dC, dI) vwCl [(ad 0, .inr (10, oM ad m_undoCount m_thrown m_hasSnapshot a_m_fam m_rows m_lineLength m_formattedLength m_bufferLength m_limit m_next m_beginsAt m_token m_error m_errorAt m_errorPosition m_nested m_codeCount)), ((ad 24), .inl (cI, 800, .inl m_buffer))] H → va_D A [(ad 0, .inr (10, oM ad m_undoCount m_thrown m_hasSnapshot a_m_fam m_rows m_lineLength m_formattedLength m_bufferLength m_limit m_next m_beginsAt m_token m_error m_errorAt m_errorPosition m_nested m_codeCount)), ((ad 24), .inl (cI, 800, .inl m_buffer))] → va_S A s.heap H locs → lv_has ls 4 [(0, .ref (ad 0)), (1, .ref (adK v1)), (2, .int (bI v2_39)), (3, .int v3_39)] → W p l e ({ frames := 4, cells := 0, slots := 0, locals := 85 }) s m ([.ref (ad 0), .ref (adK v1)] : List Value).toArray below meth c H locs 0 0 (MQ below (gQ dC dI (some (.int (bI r9))) A [(ad 0, .inr (10, oM ad m_undoCount m_thrown m_hasSnapshot a_m_fam m_rows m_lineLength m_formattedLength m_bufferLength m_limit m_next m_beginsAt m_token m_error m_errorAt m_errorPosition m_nested m_codeCount)), ((ad 24), .inl (cI, 800, .inl m_buffer))]) ([.ref (ad 0), .ref (adK v1)] : List Value).toArray s 0 0 A) (F0 m 39 ls []) := by
      intro n39
      induction n39 with
      | zero => intro v2_39 v3_39 ex39 H locs ls hf; rw [p10_isWord_L39] at hf; cases hf
      | succ n39 ih39 =>
        intro v2_39 v3_39 ex39 H locs ls hf hk39 hP hD hS hl
        rw [p10_isWord_L39, p10_isWord_L39_B] at hf
        refine lv_iload_n hx hb dX10_isWord_39 rfl (lv_at hl 2 rfl) ?_
        refine lv_if_eq (tgt := 82) hx hb dX10_isWord_40 (by decide) (fun h9 => ?_) (fun h9 => ?_)
        · have hf := ctf (bI_0 h9) hf
          cases hf
          have hf := hk39
          exact J82 v2_39 H locs ls hf hP hD hS (lv_sub hl [2] rfl)
        · have hf := ctt (bI_1 h9) hf
          refine lv_iload_n hx hb dX10_isWord_43 rfl (lv_at hl 3 rfl) ?_
          refine lv_aload_n hx hb dX10_isWord_44 rfl (lv_at hl 1 rfl) ?_
          refine gcRH (index := 404) S hE hG (c_J0_length v1 hv1) mJ0_length tw1962 ⟨Nat.le_of_ble_eq_true rfl, Nat.le_of_ble_eq_true rfl⟩ hP hD hS hA ⟨Nat.zero_le _, Nat.zero_le _⟩ ((hG.2.2.2.2.1 v1 hv1).recv hS) (wr := [(ad 0, .inr (10, oM ad m_undoCount m_thrown m_hasSnapshot a_m_fam m_rows m_lineLength m_formattedLength m_bufferLength m_limit m_next m_beginsAt m_token m_error m_errorAt m_errorPosition m_nested m_codeCount)), ((ad 24), .inl (cI, 800, .inl m_buffer))]) [] [0, 1] rfl rfl rfl (by decide) (by decide) (As := []) (rest := [.int v3_39]) rfl hl.1 rfl (Nat.le_of_ble_eq_true rfl) dX10_isWord_45 (fun H locs hP hD hS => ?_)
          refine W.eq (g2 := F0 m 48 ls [.int (Int32.ofNat (txl v1)), .int v3_39]) rfl ?_
          rw [List.append_nil] at hP hD
          have hP : va_P (dC, dI) vwCl [(ad 0, .inr (10, oM ad m_undoCount m_thrown m_hasSnapshot a_m_fam m_rows m_lineLength m_formattedLength m_bufferLength m_limit m_next m_beginsAt m_token m_error m_errorAt m_errorPosition m_nested m_codeCount)), ((ad 24), .inl (cI, 800, .inl m_buffer))] H := hP
          have hD : va_D A [(ad 0, .inr (10, oM ad m_undoCount m_thrown m_hasSnapshot a_m_fam m_rows m_lineLength m_formattedLength m_bufferLength m_limit m_next m_beginsAt m_token m_error m_errorAt m_errorPosition m_nested m_codeCount)), ((ad 24), .inl (cI, 800, .inl m_buffer))] := hD
          refine lv_icmp_ge (tgt := 82) hx hb dX10_isWord_48 (by decide) (fun h9 => ?_) (fun h9 => ?_)
          · have hf := itt h9 hf
            cases hf
            have hf := hk39
            exact J82 v2_39 H locs ls hf hP hD hS (lv_sub hl [2] rfl)
          · have hf := itf h9 hf
            refine lv_aload_n hx hb dX10_isWord_51 rfl (lv_at hl 1 rfl) ?_
            refine lv_iload_n hx hb dX10_isWord_52 rfl (lv_at hl 3 rfl) ?_
            obtain ⟨h9, hf⟩ := gd_s hf
            refine gcRH (index := 407) S hE hG (c_J0_charAt v1 hv1 v3_39 (fun q => h9 (Or.inl q)) (Nat.lt_of_not_le fun q => h9 (Or.inr q))) mJ0_charAt tw1963 ⟨Nat.le_of_ble_eq_true rfl, Nat.le_of_ble_eq_true rfl⟩ hP hD hS hA ⟨Nat.zero_le _, Nat.zero_le _⟩ ((hG.2.2.2.2.1 v1 hv1).recv hS) (wr := [(ad 0, .inr (10, oM ad m_undoCount m_thrown m_hasSnapshot a_m_fam m_rows m_lineLength m_formattedLength m_bufferLength m_limit m_next m_beginsAt m_token m_error m_errorAt m_errorPosition m_nested m_codeCount)), ((ad 24), .inl (cI, 800, .inl m_buffer))]) [] [0, 1] rfl rfl rfl (by decide) (by decide) (As := [.int v3_39]) (rest := []) rfl hl.1 rfl (Nat.le_of_ble_eq_true rfl) dX10_isWord_53 (fun H locs hP hD hS => ?_)
            refine W.eq (g2 := F0 m 56 ls [.int (chv v1 v3_39.toNatClampNeg)]) rfl ?_
            rw [List.append_nil] at hP hD
            have hP : va_P (dC, dI) vwCl [(ad 0, .inr (10, oM ad m_undoCount m_thrown m_hasSnapshot a_m_fam m_rows m_lineLength m_formattedLength m_bufferLength m_limit m_next m_beginsAt m_token m_error m_errorAt m_errorPosition m_nested m_codeCount)), ((ad 24), .inl (cI, 800, .inl m_buffer))] H := hP
            have hD : va_D A [(ad 0, .inr (10, oM ad m_undoCount m_thrown m_hasSnapshot a_m_fam m_rows m_lineLength m_formattedLength m_bufferLength m_limit m_next m_beginsAt m_token m_error m_errorAt m_errorPosition m_nested m_codeCount)), ((ad 24), .inl (cI, 800, .inl m_buffer))] := hD
            refine lv_aload_n hx hb dX10_isWord_56 rfl (lv_at hl 0 rfl) ?_
            refine va_get (D := (dC, dI)) (ci := 10) (v := .ref (ad 24)) (C := RX10) (T := TX10) (N := 37) hx hb htg inX10 hown hE.1 hP 0 rfl rfl 23 (by decide) (htg _ tw1405) (fun _ h9 => h9) rfl dX10_isWord_57 ?_
            refine lv_aload_n hx hb dX10_isWord_60 rfl (lv_at hl 0 rfl) ?_
            refine va_get (D := (dC, dI)) (ci := 10) (v := .int m_beginsAt) (C := RX10) (T := TX10) (N := 37) hx hb htg inX10 hown hE.1 hP 0 rfl rfl 27 (by decide) (htg _ tw1409) (fun _ h9 => h9) rfl dX10_isWord_61 ?_
            refine lv_iload_n hx hb dX10_isWord_64 rfl (lv_at hl 3 rfl) ?_
            refine lv_iadd hx hb dX10_isWord_65 ?_
            obtain ⟨h9, hf⟩ := gd_s hf
            refine va_iald hx hb hE.1 hP 1 0 rfl rfl h9 dX10_isWord_66 ?_
            refine lv_icmp_ne (tgt := 74) hx hb dX10_isWord_67 (by decide) (fun h9 => ?_) (fun h9 => ?_)
            · have hf := itf h9 hf
              refine lv_iconst (v := 0) hx hb dX10_isWord_74 (by decide) ?_
              refine lv_istore_n (lv' := [(2, .int (0 : Int32)), (0, .ref (ad 0)), (1, .ref (adK v1)), (3, .int v3_39)]) hx hb dX10_isWord_75 rfl hl (by decide) rfl (fun ls hl => ?_)
              obtain ⟨t76, h9⟩ : ∃ z : Int32, z = (v3_39 + (1 : Int32)) := ⟨_, rfl⟩
              have hf := lb_e h9 hf
              refine lv_iinc (v := t76) (lv' := [(3, .int t76), (2, .int (0 : Int32)), (0, .ref (ad 0)), (1, .ref (adK v1))]) hx hb dX10_isWord_76 hl (k := 3) rfl (by rw [h9]; rfl) (by decide) rfl (fun ls hl => ?_)
              refine lv_goto (tgt := 39) hx hb dX10_isWord_79 (by decide) ?_
              exact ih39 false t76 ex39 H locs ls hf hk39 hP hD hS (lv_sub hl [2, 3, 1, 0] rfl)
            · have hf := itt h9 hf
              refine lv_iconst (v := 1) hx hb dX10_isWord_70 (by decide) ?_
              refine lv_goto (tgt := 75) hx hb dX10_isWord_71 (by decide) ?_
              refine lv_istore_n (lv' := [(2, .int (1 : Int32)), (0, .ref (ad 0)), (1, .ref (adK v1)), (3, .int v3_39)]) hx hb dX10_isWord_75 rfl hl (by decide) rfl (fun ls hl => ?_)
              obtain ⟨t76, h9⟩ : ∃ z : Int32, z = (v3_39 + (1 : Int32)) := ⟨_, rfl⟩
              have hf := lb_e h9 hf
              refine lv_iinc (v := t76) (lv' := [(3, .int t76), (2, .int (1 : Int32)), (0, .ref (ad 0)), (1, .ref (adK v1))]) hx hb dX10_isWord_76 hl (k := 3) rfl (by rw [h9]; rfl) (by decide) rfl (fun ls hl => ?_)
              refine lv_goto (tgt := 39) hx hb dX10_isWord_79 (by decide) ?_
              exact ih39 true t76 ex39 H locs ls hf hk39 hP hD hS (lv_sub hl [2, 3, 1, 0] rfl)
    obtain ⟨ex, h9, hf⟩ := ob_s hf
    exact K39 FU v2_37 (0 : Int32) ex H locs ls h9 hf hP hD hS (lv_sub hl [1, 2, 3, 0] rfl)
  have J35 : ∀  (H : Heap) (locs : List Loc) (ls : Array Slot), p10_isWord_J35 m_beginsAt m_buffer v1 = some r9 → va_P (dC, dI) vwCl [(ad 0, .inr (10, oM ad m_undoCount m_thrown m_hasSnapshot a_m_fam m_rows m_lineLength m_formattedLength m_bufferLength m_limit m_next m_beginsAt m_token m_error m_errorAt m_errorPosition m_nested m_codeCount)), ((ad 24), .inl (cI, 800, .inl m_buffer))] H → va_D A [(ad 0, .inr (10, oM ad m_undoCount m_thrown m_hasSnapshot a_m_fam m_rows m_lineLength m_formattedLength m_bufferLength m_limit m_next m_beginsAt m_token m_error m_errorAt m_errorPosition m_nested m_codeCount)), ((ad 24), .inl (cI, 800, .inl m_buffer))] → va_S A s.heap H locs → lv_has ls 4 [(0, .ref (ad 0)), (1, .ref (adK v1))] → W p l e ({ frames := 4, cells := 0, slots := 0, locals := 85 }) s m ([.ref (ad 0), .ref (adK v1)] : List Value).toArray below meth c H locs 0 0 (MQ below (gQ dC dI (some (.int (bI r9))) A [(ad 0, .inr (10, oM ad m_undoCount m_thrown m_hasSnapshot a_m_fam m_rows m_lineLength m_formattedLength m_bufferLength m_limit m_next m_beginsAt m_token m_error m_errorAt m_errorPosition m_nested m_codeCount)), ((ad 24), .inl (cI, 800, .inl m_buffer))]) ([.ref (ad 0), .ref (adK v1)] : List Value).toArray s 0 0 A) (F0 m 35 ls []) := by
    intro  H locs ls hf hP hD hS hl
    rw [p10_isWord_J35] at hf
    refine lv_iconst (v := 0) hx hb dX10_isWord_35 (by decide) ?_
    refine lv_istore_n (lv' := [(2, .int (0 : Int32)), (0, .ref (ad 0)), (1, .ref (adK v1))]) hx hb dX10_isWord_36 rfl hl (by decide) rfl (fun ls hl => ?_)
    exact J37 false H locs ls hf hP hD hS (lv_sub hl [1, 2, 0] rfl)
  refine lv_aload_n hx hb dX10_isWord_0 rfl (lv_at hl 0 rfl) ?_
  refine va_get (D := (dC, dI)) (ci := 10) (v := .int m_error) (C := RX10) (T := TX10) (N := 37) hx hb htg inX10 hown hE.1 hP 0 rfl rfl 29 (by decide) (htg _ tw1411) (fun _ h9 => h9) rfl dX10_isWord_1 ?_
  refine lv_if_ne (tgt := 35) hx hb dX10_isWord_4 (by decide) (fun h9 => ?_) (fun h9 => ?_)
  · have hf := itf h9 hf
    exact J35 H locs ls hf hP hD hS (lv_sub hl [0, 1] rfl)
  · have hf := itt h9 hf
    refine lv_aload_n hx hb dX10_isWord_7 rfl (lv_at hl 0 rfl) ?_
    refine va_get (D := (dC, dI)) (ci := 10) (v := .int m_token) (C := RX10) (T := TX10) (N := 37) hx hb htg inX10 hown hE.1 hP 0 rfl rfl 28 (by decide) (htg _ tw1410) (fun _ h9 => h9) rfl dX10_isWord_8 ?_
    refine lv_iconst (v := 1) hx hb dX10_isWord_11 (by decide) ?_
    refine lv_icmp_ne (tgt := 35) hx hb dX10_isWord_12 (by decide) (fun h9 => ?_) (fun h9 => ?_)
    · have hf := itf h9 hf
      exact J35 H locs ls hf hP hD hS (lv_sub hl [0, 1] rfl)
    · have hf := itt h9 hf
      refine lv_aload_n hx hb dX10_isWord_15 rfl (lv_at hl 1 rfl) ?_
      refine gcRH (index := 404) S hE hG (c_J0_length v1 hv1) mJ0_length tw1962 ⟨Nat.le_of_ble_eq_true rfl, Nat.le_of_ble_eq_true rfl⟩ hP hD hS hA ⟨Nat.zero_le _, Nat.zero_le _⟩ ((hG.2.2.2.2.1 v1 hv1).recv hS) (wr := [(ad 0, .inr (10, oM ad m_undoCount m_thrown m_hasSnapshot a_m_fam m_rows m_lineLength m_formattedLength m_bufferLength m_limit m_next m_beginsAt m_token m_error m_errorAt m_errorPosition m_nested m_codeCount)), ((ad 24), .inl (cI, 800, .inl m_buffer))]) [] [0, 1] rfl rfl rfl (by decide) (by decide) (As := []) (rest := []) rfl hl.1 rfl (Nat.le_of_ble_eq_true rfl) dX10_isWord_16 (fun H locs hP hD hS => ?_)
      refine W.eq (g2 := F0 m 19 ls [.int (Int32.ofNat (txl v1))]) rfl ?_
      rw [List.append_nil] at hP hD
      have hP : va_P (dC, dI) vwCl [(ad 0, .inr (10, oM ad m_undoCount m_thrown m_hasSnapshot a_m_fam m_rows m_lineLength m_formattedLength m_bufferLength m_limit m_next m_beginsAt m_token m_error m_errorAt m_errorPosition m_nested m_codeCount)), ((ad 24), .inl (cI, 800, .inl m_buffer))] H := hP
      have hD : va_D A [(ad 0, .inr (10, oM ad m_undoCount m_thrown m_hasSnapshot a_m_fam m_rows m_lineLength m_formattedLength m_bufferLength m_limit m_next m_beginsAt m_token m_error m_errorAt m_errorPosition m_nested m_codeCount)), ((ad 24), .inl (cI, 800, .inl m_buffer))] := hD
      refine lv_aload_n hx hb dX10_isWord_19 rfl (lv_at hl 0 rfl) ?_
      refine va_get (D := (dC, dI)) (ci := 10) (v := .int m_next) (C := RX10) (T := TX10) (N := 37) hx hb htg inX10 hown hE.1 hP 0 rfl rfl 26 (by decide) (htg _ tw1408) (fun _ h9 => h9) rfl dX10_isWord_20 ?_
      refine lv_aload_n hx hb dX10_isWord_23 rfl (lv_at hl 0 rfl) ?_
      refine va_get (D := (dC, dI)) (ci := 10) (v := .int m_beginsAt) (C := RX10) (T := TX10) (N := 37) hx hb htg inX10 hown hE.1 hP 0 rfl rfl 27 (by decide) (htg _ tw1409) (fun _ h9 => h9) rfl dX10_isWord_24 ?_
      refine lv_isub hx hb dX10_isWord_27 ?_
      refine lv_icmp_ne (tgt := 35) hx hb dX10_isWord_28 (by decide) (fun h9 => ?_) (fun h9 => ?_)
      · have hf := itf h9 hf
        exact J35 H locs ls hf hP hD hS (lv_sub hl [0, 1] rfl)
      · have hf := itt h9 hf
        refine lv_iconst (v := 1) hx hb dX10_isWord_31 (by decide) ?_
        refine lv_goto (tgt := 36) hx hb dX10_isWord_32 (by decide) ?_
        refine lv_istore_n (lv' := [(2, .int (1 : Int32)), (0, .ref (ad 0)), (1, .ref (adK v1))]) hx hb dX10_isWord_36 rfl hl (by decide) rfl (fun ls hl => ?_)
        exact J37 true H locs ls hf hP hD hS (lv_sub hl [1, 2, 0] rfl)
set_option maxHeartbeats 4000000 in
set_option maxRecDepth 100000 in
theorem c_X10_accept (ad : Nat → Nat) (a_m_fam : Nat) (m_undoCount : Int32) (m_thrown : Int32) (m_hasSnapshot : Bool) (m_rows : Int32) (m_lineLength : Int32) (m_formattedLength : Int32) (m_bufferLength : Int32) (m_limit : Int32) (m_next : Int32) (m_beginsAt : Int32) (m_token : Int32) (m_error : Int32) (m_errorAt : Int32) (m_errorPosition : Int32) (m_nested : Int32) (m_codeCount : Int32) (m_buffer : Nat → Int32) (v1 : Nat) (hv1 : v1 < 13) (r9 : Bool) (m_beginsAt_9 : Int32) (m_next_9 : Int32) (m_token_9 : Int32) (hf : p10_accept m_limit m_next m_beginsAt m_token m_error m_buffer v1 = some (r9, m_beginsAt_9, m_next_9, m_token_9)) : gMH l dC dI cI cJ cZ adK adV yX10_accept cX10_accept 3 (some .boolean) (5) (108) [.ref (ad 0), .ref (adK v1)] [(ad 0, .inr (10, oM ad m_undoCount m_thrown m_hasSnapshot a_m_fam m_rows m_lineLength m_formattedLength m_bufferLength m_limit m_next m_beginsAt m_token m_error m_errorAt m_errorPosition m_nested m_codeCount)), ((ad 24), .inl (cI, 800, .inl m_buffer))] [(ad 0, .inr (10, oM ad m_undoCount m_thrown m_hasSnapshot a_m_fam m_rows m_lineLength m_formattedLength m_bufferLength m_limit m_next_9 m_beginsAt_9 m_token_9 m_error m_errorAt m_errorPosition m_nested m_codeCount)), ((ad 24), .inl (cI, 800, .inl m_buffer))] (some (.int (bI r9))) := by
  refine g_startH (own := RX10) (by decide +kernel) rfl (Nat.le_of_ble_eq_true rfl) ?_
  intro p e s m below meth c A ls S hr hlocks hE hG hP hD hS hA hl hin
  have hx := S.1
  have hb := S.2.1
  have hml := S.2.2.1
  have hown := S.2.2.2.1
  have htg : ∀ z ∈ gw, z.before ([.ref (ad 0), .ref (adK v1)] : List Value).toArray s = true := fun w h => S.2.2.2.2 w (List.mem_cons_of_mem _ h)
  have hl : lv_has ls 3 [(0, .ref (ad 0)), (1, .ref (adK v1))] := hl
  have hS0 := hS
  obtain ⟨H, hH⟩ : ∃ H, H = s.heap := ⟨_, rfl⟩
  obtain ⟨locs, hlc⟩ : ∃ locs : List Loc, locs = [] := ⟨_, rfl⟩
  have hS : va_S A s.heap H locs := by rw [hH, hlc]; exact hS0
  have hP : va_P (dC, dI) vwCl [(ad 0, .inr (10, oM ad m_undoCount m_thrown m_hasSnapshot a_m_fam m_rows m_lineLength m_formattedLength m_bufferLength m_limit m_next m_beginsAt m_token m_error m_errorAt m_errorPosition m_nested m_codeCount)), ((ad 24), .inl (cI, 800, .inl m_buffer))] H := by rw [hH]; exact hP
  suffices hgo : W p l e ({ frames := 5, cells := 0, slots := 0, locals := 108 }) s m ([.ref (ad 0), .ref (adK v1)] : List Value).toArray below meth c H locs 0 0 (MQ below (gQ dC dI (some (.int (bI r9))) A [(ad 0, .inr (10, oM ad m_undoCount m_thrown m_hasSnapshot a_m_fam m_rows m_lineLength m_formattedLength m_bufferLength m_limit m_next_9 m_beginsAt_9 m_token_9 m_error m_errorAt m_errorPosition m_nested m_codeCount)), ((ad 24), .inl (cI, 800, .inl m_buffer))]) ([.ref (ad 0), .ref (adK v1)] : List Value).toArray s 0 0 A) (F0 m 0 ls []) by rw [hH, hlc] at hgo; exact hgo
  rw [p10_accept] at hf
  refine lv_aload_n hx hb dX10_accept_0 rfl (lv_at hl 0 rfl) ?_
  refine lv_aload_n hx hb dX10_accept_1 rfl (lv_at hl 1 rfl) ?_
  obtain ⟨r2, h9, hf⟩ := ob_s hf
  refine gcVH (index := 411) S hE hG (c_X10_isWord ad a_m_fam m_undoCount m_thrown m_hasSnapshot m_rows m_lineLength m_formattedLength m_bufferLength m_limit m_next m_beginsAt m_token m_error m_errorAt m_errorPosition m_nested m_codeCount m_buffer v1 hv1 r2 h9) mX10_isWord tw1958 ⟨Nat.le_of_ble_eq_true rfl, Nat.le_of_ble_eq_true rfl⟩ hP hD hS hA ⟨Nat.zero_le _, Nat.zero_le _⟩ 0 10 rfl rfl rfl (wr := []) [0, 1] [] rfl rfl rfl rfl (by decide) (As := [.ref (adK v1)]) (rest := []) rfl hl.1 rfl (Nat.le_of_ble_eq_true rfl) dX10_accept_2 (fun H locs hP hD hS => ?_)
  refine W.eq (g2 := F0 m 5 ls [.int (bI r2)]) rfl ?_
  have hP : va_P (dC, dI) vwCl [(ad 0, .inr (10, oM ad m_undoCount m_thrown m_hasSnapshot a_m_fam m_rows m_lineLength m_formattedLength m_bufferLength m_limit m_next m_beginsAt m_token m_error m_errorAt m_errorPosition m_nested m_codeCount)), ((ad 24), .inl (cI, 800, .inl m_buffer))] H := hP
  have hD : va_D A [(ad 0, .inr (10, oM ad m_undoCount m_thrown m_hasSnapshot a_m_fam m_rows m_lineLength m_formattedLength m_bufferLength m_limit m_next m_beginsAt m_token m_error m_errorAt m_errorPosition m_nested m_codeCount)), ((ad 24), .inl (cI, 800, .inl m_buffer))] := hD
  refine lv_istore_n (lv' := [(2, .int (bI r2)), (0, .ref (ad 0)), (1, .ref (adK v1))]) hx hb dX10_accept_5 rfl hl (by decide) rfl (fun ls hl => ?_)
  refine lv_iload_n hx hb dX10_accept_6 rfl (lv_at hl 0 rfl) ?_
  refine lv_if_eq (tgt := 14) hx hb dX10_accept_7 (by decide) (fun h9 => ?_) (fun h9 => ?_)
  · have hf := ctf (bI_0 h9) hf
    refine lv_iload_n hx hb dX10_accept_14 rfl (lv_at hl 0 rfl) ?_
    cases hf
    exact g_zret S hr (nar_bI _) hlocks hP hD hS dX10_accept_15
  · have hf := ctt (bI_1 h9) hf
    refine lv_aload_n hx hb dX10_accept_10 rfl (lv_at hl 1 rfl) ?_
    obtain ⟨⟨m_beginsAt_11, m_next_11, m_token_11⟩, h9, hf⟩ := ob_s hf
    have hf := uc3_e hf
    refine gcV (index := 395) S hE (c_X10_scan ad a_m_fam m_undoCount m_thrown m_hasSnapshot m_rows m_lineLength m_formattedLength m_bufferLength m_limit m_next m_beginsAt m_token m_error m_errorAt m_errorPosition m_nested m_codeCount m_buffer m_beginsAt_11 m_next_11 m_token_11 h9) mX10_scan tw1938 ⟨Nat.le_of_ble_eq_true rfl, Nat.le_of_ble_eq_true rfl⟩ hP hD hS hA ⟨Nat.zero_le _, Nat.zero_le _⟩ 0 10 rfl rfl rfl (wr := []) [0, 1] [] rfl rfl rfl rfl (by decide) (As := []) (rest := []) rfl hl.1 rfl (Nat.le_of_ble_eq_true rfl) dX10_accept_11 (fun H locs hP hD hS => ?_)
    refine W.eq (g2 := F0 m 14 ls []) rfl ?_
    have hP : va_P (dC, dI) vwCl [(ad 0, .inr (10, oM ad m_undoCount m_thrown m_hasSnapshot a_m_fam m_rows m_lineLength m_formattedLength m_bufferLength m_limit m_next_11 m_beginsAt_11 m_token_11 m_error m_errorAt m_errorPosition m_nested m_codeCount)), ((ad 24), .inl (cI, 800, .inl m_buffer))] H := hP
    have hD : va_D A [(ad 0, .inr (10, oM ad m_undoCount m_thrown m_hasSnapshot a_m_fam m_rows m_lineLength m_formattedLength m_bufferLength m_limit m_next_11 m_beginsAt_11 m_token_11 m_error m_errorAt m_errorPosition m_nested m_codeCount)), ((ad 24), .inl (cI, 800, .inl m_buffer))] := hD
    refine lv_iload_n hx hb dX10_accept_14 rfl (lv_at hl 0 rfl) ?_
    cases hf
    exact g_zret S hr (nar_bI _) hlocks hP hD hS dX10_accept_15
set_option maxHeartbeats 4000000 in
set_option maxRecDepth 100000 in
theorem c_X10_expect (ad : Nat → Nat) (a_m_fam : Nat) (m_undoCount : Int32) (m_thrown : Int32) (m_hasSnapshot : Bool) (m_rows : Int32) (m_lineLength : Int32) (m_formattedLength : Int32) (m_bufferLength : Int32) (m_limit : Int32) (m_next : Int32) (m_beginsAt : Int32) (m_token : Int32) (m_error : Int32) (m_errorAt : Int32) (m_errorPosition : Int32) (m_nested : Int32) (m_codeCount : Int32) (m_buffer : Nat → Int32) (v1 : Int32) (m_beginsAt_9 : Int32) (m_error_9 : Int32) (m_errorAt_9 : Int32) (m_next_9 : Int32) (m_token_9 : Int32) (hf : p10_expect m_limit m_next m_beginsAt m_token m_error m_errorAt m_buffer v1 = some (m_beginsAt_9, m_error_9, m_errorAt_9, m_next_9, m_token_9)) : gM l dC dI cI cJ cZ yX10_expect cX10_expect 2 none (4) (82) [.ref (ad 0), .int v1] [(ad 0, .inr (10, oM ad m_undoCount m_thrown m_hasSnapshot a_m_fam m_rows m_lineLength m_formattedLength m_bufferLength m_limit m_next m_beginsAt m_token m_error m_errorAt m_errorPosition m_nested m_codeCount)), ((ad 24), .inl (cI, 800, .inl m_buffer))] [(ad 0, .inr (10, oM ad m_undoCount m_thrown m_hasSnapshot a_m_fam m_rows m_lineLength m_formattedLength m_bufferLength m_limit m_next_9 m_beginsAt_9 m_token_9 m_error_9 m_errorAt_9 m_errorPosition m_nested m_codeCount)), ((ad 24), .inl (cI, 800, .inl m_buffer))] none := by
  refine g_start (own := RX10) (by decide +kernel) rfl (Nat.le_of_ble_eq_true rfl) ?_
  intro p e s m below meth c A ls S hr hlocks hE hP hD hS hA hl hin
  have hx := S.1
  have hb := S.2.1
  have hml := S.2.2.1
  have hown := S.2.2.2.1
  have htg : ∀ z ∈ gw, z.before ([.ref (ad 0), .int v1] : List Value).toArray s = true := fun w h => S.2.2.2.2 w (List.mem_cons_of_mem _ h)
  have hl : lv_has ls 2 [(0, .ref (ad 0)), (1, .int v1)] := hl
  have hS0 := hS
  obtain ⟨H, hH⟩ : ∃ H, H = s.heap := ⟨_, rfl⟩
  obtain ⟨locs, hlc⟩ : ∃ locs : List Loc, locs = [] := ⟨_, rfl⟩
  have hS : va_S A s.heap H locs := by rw [hH, hlc]; exact hS0
  have hP : va_P (dC, dI) vwCl [(ad 0, .inr (10, oM ad m_undoCount m_thrown m_hasSnapshot a_m_fam m_rows m_lineLength m_formattedLength m_bufferLength m_limit m_next m_beginsAt m_token m_error m_errorAt m_errorPosition m_nested m_codeCount)), ((ad 24), .inl (cI, 800, .inl m_buffer))] H := by rw [hH]; exact hP
  suffices hgo : W p l e ({ frames := 4, cells := 0, slots := 0, locals := 82 }) s m ([.ref (ad 0), .int v1] : List Value).toArray below meth c H locs 0 0 (MQ below (gQ dC dI none A [(ad 0, .inr (10, oM ad m_undoCount m_thrown m_hasSnapshot a_m_fam m_rows m_lineLength m_formattedLength m_bufferLength m_limit m_next_9 m_beginsAt_9 m_token_9 m_error_9 m_errorAt_9 m_errorPosition m_nested m_codeCount)), ((ad 24), .inl (cI, 800, .inl m_buffer))]) ([.ref (ad 0), .int v1] : List Value).toArray s 0 0 A) (F0 m 0 ls []) by rw [hH, hlc] at hgo; exact hgo
  rw [p10_expect] at hf
  refine lv_aload_n hx hb dX10_expect_0 rfl (lv_at hl 0 rfl) ?_
  refine lv_aload_n hx hb dX10_expect_1 rfl (lv_at hl 0 rfl) ?_
  refine lv_iload_n hx hb dX10_expect_2 rfl (lv_at hl 1 rfl) ?_
  obtain ⟨r3, h9, hf⟩ := ob_s hf
  refine gcV (index := 422) S hE (c_X10_isSymbol ad a_m_fam m_undoCount m_thrown m_hasSnapshot m_rows m_lineLength m_formattedLength m_bufferLength m_limit m_next m_beginsAt m_token m_error m_errorAt m_errorPosition m_nested m_codeCount m_buffer v1 r3 h9) mX10_isSymbol tw2016 ⟨Nat.le_of_ble_eq_true rfl, Nat.le_of_ble_eq_true rfl⟩ hP hD hS hA ⟨Nat.zero_le _, Nat.zero_le _⟩ 0 10 rfl rfl rfl (wr := []) [0, 1] [] rfl rfl rfl rfl (by decide) (As := [.int v1]) (rest := [.ref (ad 0)]) rfl hl.1 rfl (Nat.le_of_ble_eq_true rfl) dX10_expect_3 (fun H locs hP hD hS => ?_)
  refine W.eq (g2 := F0 m 6 ls [.int (bI r3), .ref (ad 0)]) rfl ?_
  have hP : va_P (dC, dI) vwCl [(ad 0, .inr (10, oM ad m_undoCount m_thrown m_hasSnapshot a_m_fam m_rows m_lineLength m_formattedLength m_bufferLength m_limit m_next m_beginsAt m_token m_error m_errorAt m_errorPosition m_nested m_codeCount)), ((ad 24), .inl (cI, 800, .inl m_buffer))] H := hP
  have hD : va_D A [(ad 0, .inr (10, oM ad m_undoCount m_thrown m_hasSnapshot a_m_fam m_rows m_lineLength m_formattedLength m_bufferLength m_limit m_next m_beginsAt m_token m_error m_errorAt m_errorPosition m_nested m_codeCount)), ((ad 24), .inl (cI, 800, .inl m_buffer))] := hD
  refine lv_iconst (v := 1) hx hb dX10_expect_6 (by decide) ?_
  obtain ⟨m_error_7, m_errorAt_7, h9⟩ : ∃ m_error_7 m_errorAt_7, p10_check m_beginsAt m_error m_errorAt r3 (1 : Int32) = (m_error_7, m_errorAt_7) := ⟨_, _, rfl⟩
  have hf := uc2_e (lb_e h9.symm hf)
  refine gcV (index := 415) S hE (c_X10_check ad a_m_fam m_undoCount m_thrown m_hasSnapshot m_rows m_lineLength m_formattedLength m_bufferLength m_limit m_next m_beginsAt m_token m_error m_errorAt m_errorPosition m_nested m_codeCount r3 (1 : Int32) m_error_7 m_errorAt_7 h9) mX10_check tw1968 ⟨Nat.le_of_ble_eq_true rfl, Nat.le_of_ble_eq_true rfl⟩ hP hD hS hA ⟨Nat.zero_le _, Nat.zero_le _⟩ 0 10 rfl rfl rfl (wr := [((ad 24), .inl (cI, 800, .inl m_buffer))]) [0] [1] rfl rfl rfl rfl (by decide) (As := [.int (bI r3), .int (1 : Int32)]) (rest := []) rfl hl.1 rfl (Nat.le_of_ble_eq_true rfl) dX10_expect_7 (fun H locs hP hD hS => ?_)
  refine W.eq (g2 := F0 m 10 ls []) rfl ?_
  have hP : va_P (dC, dI) vwCl [((ad 24), .inl (cI, 800, .inl m_buffer)), (ad 0, .inr (10, oM ad m_undoCount m_thrown m_hasSnapshot a_m_fam m_rows m_lineLength m_formattedLength m_bufferLength m_limit m_next m_beginsAt m_token m_error_7 m_errorAt_7 m_errorPosition m_nested m_codeCount))] H := hP
  have hD : va_D A [((ad 24), .inl (cI, 800, .inl m_buffer)), (ad 0, .inr (10, oM ad m_undoCount m_thrown m_hasSnapshot a_m_fam m_rows m_lineLength m_formattedLength m_bufferLength m_limit m_next m_beginsAt m_token m_error_7 m_errorAt_7 m_errorPosition m_nested m_codeCount))] := hD
  refine lv_aload_n hx hb dX10_expect_10 rfl (lv_at hl 0 rfl) ?_
  obtain ⟨⟨m_beginsAt_11, m_next_11, m_token_11⟩, h9, hf⟩ := ob_s hf
  have hf := uc3_e hf
  refine gcV (index := 419) S hE (c_X10_advance ad a_m_fam m_undoCount m_thrown m_hasSnapshot m_rows m_lineLength m_formattedLength m_bufferLength m_limit m_next m_beginsAt m_token m_error_7 m_errorAt_7 m_errorPosition m_nested m_codeCount m_buffer m_beginsAt_11 m_next_11 m_token_11 h9) mX10_advance tw1976 ⟨Nat.le_of_ble_eq_true rfl, Nat.le_of_ble_eq_true rfl⟩ hP hD hS hA ⟨Nat.zero_le _, Nat.zero_le _⟩ 1 10 rfl rfl rfl (wr := []) [1, 0] [] rfl rfl rfl rfl (by decide) (As := []) (rest := []) rfl hl.1 rfl (Nat.le_of_ble_eq_true rfl) dX10_expect_11 (fun H locs hP hD hS => ?_)
  refine W.eq (g2 := F0 m 14 ls []) rfl ?_
  have hP : va_P (dC, dI) vwCl [(ad 0, .inr (10, oM ad m_undoCount m_thrown m_hasSnapshot a_m_fam m_rows m_lineLength m_formattedLength m_bufferLength m_limit m_next_11 m_beginsAt_11 m_token_11 m_error_7 m_errorAt_7 m_errorPosition m_nested m_codeCount)), ((ad 24), .inl (cI, 800, .inl m_buffer))] H := hP
  have hD : va_D A [(ad 0, .inr (10, oM ad m_undoCount m_thrown m_hasSnapshot a_m_fam m_rows m_lineLength m_formattedLength m_bufferLength m_limit m_next_11 m_beginsAt_11 m_token_11 m_error_7 m_errorAt_7 m_errorPosition m_nested m_codeCount)), ((ad 24), .inl (cI, 800, .inl m_buffer))] := hD
  cases hf
  exact g_vret S hr hlocks hP hD hS dX10_expect_14
set_option maxHeartbeats 4000000 in
set_option maxRecDepth 100000 in
theorem c_X10_value (ad : Nat → Nat) (a_m_fam : Nat) (m_undoCount : Int32) (m_thrown : Int32) (m_hasSnapshot : Bool) (m_rows : Int32) (m_lineLength : Int32) (m_formattedLength : Int32) (m_bufferLength : Int32) (m_limit : Int32) (m_next : Int32) (m_beginsAt : Int32) (m_token : Int32) (m_error : Int32) (m_errorAt : Int32) (m_errorPosition : Int32) (m_nested : Int32) (m_codeCount : Int32) (m_buffer : Nat → Int32) (r9 : Int32) (hf : p10_value m_next m_beginsAt m_token m_buffer = some r9) : gM l dC dI cI cJ cZ yX10_value cX10_value 3 (some .int) (1) (25) [.ref (ad 0)] [(ad 0, .inr (10, oM ad m_undoCount m_thrown m_hasSnapshot a_m_fam m_rows m_lineLength m_formattedLength m_bufferLength m_limit m_next m_beginsAt m_token m_error m_errorAt m_errorPosition m_nested m_codeCount)), ((ad 24), .inl (cI, 800, .inl m_buffer))] [(ad 0, .inr (10, oM ad m_undoCount m_thrown m_hasSnapshot a_m_fam m_rows m_lineLength m_formattedLength m_bufferLength m_limit m_next m_beginsAt m_token m_error m_errorAt m_errorPosition m_nested m_codeCount)), ((ad 24), .inl (cI, 800, .inl m_buffer))] (some (.int r9)) := by
  refine g_start (own := RX10) (by decide +kernel) rfl (Nat.le_of_ble_eq_true rfl) ?_
  intro p e s m below meth c A ls S hr hlocks hE hP hD hS hA hl hin
  have hx := S.1
  have hb := S.2.1
  have hml := S.2.2.1
  have hown := S.2.2.2.1
  have htg : ∀ z ∈ gw, z.before ([.ref (ad 0)] : List Value).toArray s = true := fun w h => S.2.2.2.2 w (List.mem_cons_of_mem _ h)
  have hl : lv_has ls 3 [(0, .ref (ad 0))] := hl
  have hS0 := hS
  obtain ⟨H, hH⟩ : ∃ H, H = s.heap := ⟨_, rfl⟩
  obtain ⟨locs, hlc⟩ : ∃ locs : List Loc, locs = [] := ⟨_, rfl⟩
  have hS : va_S A s.heap H locs := by rw [hH, hlc]; exact hS0
  have hP : va_P (dC, dI) vwCl [(ad 0, .inr (10, oM ad m_undoCount m_thrown m_hasSnapshot a_m_fam m_rows m_lineLength m_formattedLength m_bufferLength m_limit m_next m_beginsAt m_token m_error m_errorAt m_errorPosition m_nested m_codeCount)), ((ad 24), .inl (cI, 800, .inl m_buffer))] H := by rw [hH]; exact hP
  suffices hgo : W p l e ({ frames := 1, cells := 0, slots := 0, locals := 25 }) s m ([.ref (ad 0)] : List Value).toArray below meth c H locs 0 0 (MQ below (gQ dC dI (some (.int r9)) A [(ad 0, .inr (10, oM ad m_undoCount m_thrown m_hasSnapshot a_m_fam m_rows m_lineLength m_formattedLength m_bufferLength m_limit m_next m_beginsAt m_token m_error m_errorAt m_errorPosition m_nested m_codeCount)), ((ad 24), .inl (cI, 800, .inl m_buffer))]) ([.ref (ad 0)] : List Value).toArray s 0 0 A) (F0 m 0 ls []) by rw [hH, hlc] at hgo; exact hgo
  rw [p10_value] at hf
  have J55 : ∀ (v1_55 : Int32) (H : Heap) (locs : List Loc) (ls : Array Slot), p10_value_J55 v1_55 = some r9 → va_P (dC, dI) vwCl [(ad 0, .inr (10, oM ad m_undoCount m_thrown m_hasSnapshot a_m_fam m_rows m_lineLength m_formattedLength m_bufferLength m_limit m_next m_beginsAt m_token m_error m_errorAt m_errorPosition m_nested m_codeCount)), ((ad 24), .inl (cI, 800, .inl m_buffer))] H → va_D A [(ad 0, .inr (10, oM ad m_undoCount m_thrown m_hasSnapshot a_m_fam m_rows m_lineLength m_formattedLength m_bufferLength m_limit m_next m_beginsAt m_token m_error m_errorAt m_errorPosition m_nested m_codeCount)), ((ad 24), .inl (cI, 800, .inl m_buffer))] → va_S A s.heap H locs → lv_has ls 3 [(1, .int v1_55)] → W p l e ({ frames := 1, cells := 0, slots := 0, locals := 25 }) s m ([.ref (ad 0)] : List Value).toArray below meth c H locs 0 0 (MQ below (gQ dC dI (some (.int r9)) A [(ad 0, .inr (10, oM ad m_undoCount m_thrown m_hasSnapshot a_m_fam m_rows m_lineLength m_formattedLength m_bufferLength m_limit m_next m_beginsAt m_token m_error m_errorAt m_errorPosition m_nested m_codeCount)), ((ad 24), .inl (cI, 800, .inl m_buffer))]) ([.ref (ad 0)] : List Value).toArray s 0 0 A) (F0 m 55 ls []) := by
    intro v1_55 H locs ls hf hP hD hS hl
    rw [p10_value_J55] at hf
    refine lv_iload_n hx hb dX10_value_55 rfl (lv_at hl 0 rfl) ?_
    cases hf
    exact g_iret S hr hlocks hP hD hS dX10_value_56
  refine lv_iconst (v := 0) hx hb dX10_value_0 (by decide) ?_
  refine lv_istore_n (lv' := [(1, .int (0 : Int32)), (0, .ref (ad 0))]) hx hb dX10_value_1 rfl hl (by decide) rfl (fun ls hl => ?_)
  refine lv_aload_n hx hb dX10_value_2 rfl (lv_at hl 1 rfl) ?_
  refine va_get (D := (dC, dI)) (ci := 10) (v := .int m_beginsAt) (C := RX10) (T := TX10) (N := 37) hx hb htg inX10 hown hE.1 hP 0 rfl rfl 27 (by decide) (htg _ tw1409) (fun _ h9 => h9) rfl dX10_value_3 ?_
  refine lv_istore_n (lv' := [(2, .int m_beginsAt), (1, .int (0 : Int32)), (0, .ref (ad 0))]) hx hb dX10_value_6 rfl hl (by decide) rfl (fun ls hl => ?_)
  have K7 : ∀ (n7 : Nat) (v1_7 : Int32) (v2_7 : Int32) (ex7 : Int32) (H : Heap) (locs : List Loc) (ls : Array Slot), p10_value_L7 m_buffer m_next m_token n7 v1_7 v2_7 = some ex7 → (fun v1_x7 => p10_value_J55 v1_x7) ex7 = some r9 → va_P (dC, dI) vwCl [(ad 0, .inr (10, oM ad m_undoCount m_thrown m_hasSnapshot a_m_fam m_rows m_lineLength m_formattedLength m_bufferLength m_limit m_next m_beginsAt m_token m_error m_errorAt m_errorPosition m_nested m_codeCount)), ((ad 24), .inl (cI, 800, .inl m_buffer))] H → va_D A [(ad 0, .inr (10, oM ad m_undoCount m_thrown m_hasSnapshot a_m_fam m_rows m_lineLength m_formattedLength m_bufferLength m_limit m_next m_beginsAt m_token m_error m_errorAt m_errorPosition m_nested m_codeCount)), ((ad 24), .inl (cI, 800, .inl m_buffer))] → va_S A s.heap H locs → lv_has ls 3 [(0, .ref (ad 0)), (1, .int v1_7), (2, .int v2_7)] → W p l e ({ frames := 1, cells := 0, slots := 0, locals := 25 }) s m ([.ref (ad 0)] : List Value).toArray below meth c H locs 0 0 (MQ below (gQ dC dI (some (.int r9)) A [(ad 0, .inr (10, oM ad m_undoCount m_thrown m_hasSnapshot a_m_fam m_rows m_lineLength m_formattedLength m_bufferLength m_limit m_next m_beginsAt m_token m_error m_errorAt m_errorPosition m_nested m_codeCount)), ((ad 24), .inl (cI, 800, .inl m_buffer))]) ([.ref (ad 0)] : List Value).toArray s 0 0 A) (F0 m 7 ls []) := by
    intro n7
    induction n7 with
    | zero => intro v1_7 v2_7 ex7 H locs ls hf; rw [p10_value_L7] at hf; cases hf
    | succ n7 ih7 =>
      intro v1_7 v2_7 ex7 H locs ls hf hk7 hP hD hS hl
      rw [p10_value_L7, p10_value_L7_B] at hf
      refine lv_iload_n hx hb dX10_value_7 rfl (lv_at hl 2 rfl) ?_
      refine lv_aload_n hx hb dX10_value_8 rfl (lv_at hl 0 rfl) ?_
      refine va_get (D := (dC, dI)) (ci := 10) (v := .int m_next) (C := RX10) (T := TX10) (N := 37) hx hb htg inX10 hown hE.1 hP 0 rfl rfl 26 (by decide) (htg _ tw1408) (fun _ h9 => h9) rfl dX10_value_9 ?_
      refine lv_icmp_ge (tgt := 55) hx hb dX10_value_12 (by decide) (fun h9 => ?_) (fun h9 => ?_)
      · have hf := itt h9 hf
        cases hf
        have hf := hk7
        exact J55 v1_7 H locs ls hf hP hD hS (lv_sub hl [1] rfl)
      · have hf := itf h9 hf
        refine lv_aload_n hx hb dX10_value_15 rfl (lv_at hl 0 rfl) ?_
        refine va_get (D := (dC, dI)) (ci := 10) (v := .int m_token) (C := RX10) (T := TX10) (N := 37) hx hb htg inX10 hown hE.1 hP 0 rfl rfl 28 (by decide) (htg _ tw1410) (fun _ h9 => h9) rfl dX10_value_16 ?_
        refine lv_iconst (v := 2) hx hb dX10_value_19 (by decide) ?_
        refine lv_icmp_ne (tgt := 55) hx hb dX10_value_20 (by decide) (fun h9 => ?_) (fun h9 => ?_)
        · have hf := itf h9 hf
          cases hf
          have hf := hk7
          exact J55 v1_7 H locs ls hf hP hD hS (lv_sub hl [1] rfl)
        · have hf := itt h9 hf
          refine lv_ldc2 (own := RX10) (v := 2000000000) hx hb hown (htg _ tw1997) dX10_value_23 ?_
          refine lv_ldc2 (own := RX10) (v := 10) hx hb hown (htg _ tw1809) dX10_value_26 ?_
          refine lv_iload_n hx hb dX10_value_29 rfl (lv_at hl 1 rfl) ?_
          refine lv_i2l hx hb dX10_value_30 rfl ?_
          refine lv_lmul hx hb dX10_value_31 ?_
          refine lv_aload_n hx hb dX10_value_32 rfl (lv_at hl 0 rfl) ?_
          refine va_get (D := (dC, dI)) (ci := 10) (v := .ref (ad 24)) (C := RX10) (T := TX10) (N := 37) hx hb htg inX10 hown hE.1 hP 0 rfl rfl 23 (by decide) (htg _ tw1405) (fun _ h9 => h9) rfl dX10_value_33 ?_
          refine lv_iload_n hx hb dX10_value_36 rfl (lv_at hl 2 rfl) ?_
          obtain ⟨h9, hf⟩ := gd_s hf
          refine va_iald hx hb hE.1 hP 1 0 rfl rfl h9 dX10_value_37 ?_
          refine lv_i2l hx hb dX10_value_38 rfl ?_
          refine lv_ladd hx hb dX10_value_39 ?_
          refine lv_ldc2 (own := RX10) (v := 48) hx hb hown (htg _ tw1998) dX10_value_40 ?_
          refine lv_lsub hx hb dX10_value_43 ?_
          refine va_mmin_long hx hb (hml.trans hl.1.symm) hown (htg _ tw1811) (htg _ tw1812) (htg _ tw16) (htg _ tw1813) (Nat.le_of_ble_eq_true rfl) (Nat.le_of_ble_eq_true rfl) (Nat.zero_le _) (Nat.zero_le _) dX10_value_44 ?_
          refine W.eq (g2 := F0 m 47 ls [.long (lmin (2000000000 : Int64) ((((10 : Int64) * v1_7.toInt64) + (m_buffer v2_7.toNatClampNeg).toInt64) - (48 : Int64)))]) rfl ?_
          refine lv_l2i hx hb dX10_value_47 rfl ?_
          refine lv_topi (fun t48 h9 => ?_)
          have hf := lb_e h9 hf
          refine lv_istore_n (lv' := [(1, .int t48), (0, .ref (ad 0)), (2, .int v2_7)]) hx hb dX10_value_48 rfl hl (by decide) rfl (fun ls hl => ?_)
          obtain ⟨t49, h9⟩ : ∃ z : Int32, z = (v2_7 + (1 : Int32)) := ⟨_, rfl⟩
          have hf := lb_e h9 hf
          refine lv_iinc (v := t49) (lv' := [(2, .int t49), (1, .int t48), (0, .ref (ad 0))]) hx hb dX10_value_49 hl (k := 2) rfl (by rw [h9]; rfl) (by decide) rfl (fun ls hl => ?_)
          refine lv_goto (tgt := 7) hx hb dX10_value_52 (by decide) ?_
          exact ih7 t48 t49 ex7 H locs ls hf hk7 hP hD hS (lv_sub hl [2, 1, 0] rfl)
  obtain ⟨ex, h9, hf⟩ := ob_s hf
  exact K7 FU (0 : Int32) m_beginsAt ex H locs ls h9 hf hP hD hS (lv_sub hl [2, 1, 0] rfl)
set_option maxHeartbeats 4000000 in
set_option maxRecDepth 100000 in
theorem c_X10_readNumber (ad : Nat → Nat) (a_m_fam : Nat) (m_undoCount : Int32) (m_thrown : Int32) (m_hasSnapshot : Bool) (m_rows : Int32) (m_lineLength : Int32) (m_formattedLength : Int32) (m_bufferLength : Int32) (m_limit : Int32) (m_next : Int32) (m_beginsAt : Int32) (m_token : Int32) (m_error : Int32) (m_errorAt : Int32) (m_errorPosition : Int32) (m_nested : Int32) (m_codeCount : Int32) (m_buffer : Nat → Int32) (v1 : Int32) (v2 : Int32) (r9 : Int32) (m_beginsAt_9 : Int32) (m_error_9 : Int32) (m_errorAt_9 : Int32) (m_next_9 : Int32) (m_token_9 : Int32) (hf : p10_readNumber m_limit m_next m_beginsAt m_token m_error m_errorAt m_buffer v1 v2 = some (r9, m_beginsAt_9, m_error_9, m_errorAt_9, m_next_9, m_token_9)) : gM l dC dI cI cJ cZ yX10_readNumber cX10_readNumber 4 (some .int) (4) (82) [.ref (ad 0), .int v1, .int v2] [(ad 0, .inr (10, oM ad m_undoCount m_thrown m_hasSnapshot a_m_fam m_rows m_lineLength m_formattedLength m_bufferLength m_limit m_next m_beginsAt m_token m_error m_errorAt m_errorPosition m_nested m_codeCount)), ((ad 24), .inl (cI, 800, .inl m_buffer))] [(ad 0, .inr (10, oM ad m_undoCount m_thrown m_hasSnapshot a_m_fam m_rows m_lineLength m_formattedLength m_bufferLength m_limit m_next_9 m_beginsAt_9 m_token_9 m_error_9 m_errorAt_9 m_errorPosition m_nested m_codeCount)), ((ad 24), .inl (cI, 800, .inl m_buffer))] (some (.int r9)) := by
  refine g_start (own := RX10) (by decide +kernel) rfl (Nat.le_of_ble_eq_true rfl) ?_
  intro p e s m below meth c A ls S hr hlocks hE hP hD hS hA hl hin
  have hx := S.1
  have hb := S.2.1
  have hml := S.2.2.1
  have hown := S.2.2.2.1
  have htg : ∀ z ∈ gw, z.before ([.ref (ad 0), .int v1, .int v2] : List Value).toArray s = true := fun w h => S.2.2.2.2 w (List.mem_cons_of_mem _ h)
  have hl : lv_has ls 4 [(0, .ref (ad 0)), (1, .int v1), (2, .int v2)] := hl
  have hS0 := hS
  obtain ⟨H, hH⟩ : ∃ H, H = s.heap := ⟨_, rfl⟩
  obtain ⟨locs, hlc⟩ : ∃ locs : List Loc, locs = [] := ⟨_, rfl⟩
  have hS : va_S A s.heap H locs := by rw [hH, hlc]; exact hS0
  have hP : va_P (dC, dI) vwCl [(ad 0, .inr (10, oM ad m_undoCount m_thrown m_hasSnapshot a_m_fam m_rows m_lineLength m_formattedLength m_bufferLength m_limit m_next m_beginsAt m_token m_error m_errorAt m_errorPosition m_nested m_codeCount)), ((ad 24), .inl (cI, 800, .inl m_buffer))] H := by rw [hH]; exact hP
  suffices hgo : W p l e ({ frames := 4, cells := 0, slots := 0, locals := 82 }) s m ([.ref (ad 0), .int v1, .int v2] : List Value).toArray below meth c H locs 0 0 (MQ below (gQ dC dI (some (.int r9)) A [(ad 0, .inr (10, oM ad m_undoCount m_thrown m_hasSnapshot a_m_fam m_rows m_lineLength m_formattedLength m_bufferLength m_limit m_next_9 m_beginsAt_9 m_token_9 m_error_9 m_errorAt_9 m_errorPosition m_nested m_codeCount)), ((ad 24), .inl (cI, 800, .inl m_buffer))]) ([.ref (ad 0), .int v1, .int v2] : List Value).toArray s 0 0 A) (F0 m 0 ls []) by rw [hH, hlc] at hgo; exact hgo
  rw [p10_readNumber] at hf
  have J59 : ∀ (v3_59 : Int32) (m_error_59 : Int32) (m_errorAt_59 : Int32) (H : Heap) (locs : List Loc) (ls : Array Slot), p10_readNumber_J59 m_beginsAt m_buffer m_limit m_next m_token v1 v3_59 m_error_59 m_errorAt_59 = some (r9, m_beginsAt_9, m_error_9, m_errorAt_9, m_next_9, m_token_9) → va_P (dC, dI) vwCl [(ad 0, .inr (10, oM ad m_undoCount m_thrown m_hasSnapshot a_m_fam m_rows m_lineLength m_formattedLength m_bufferLength m_limit m_next m_beginsAt m_token m_error_59 m_errorAt_59 m_errorPosition m_nested m_codeCount)), ((ad 24), .inl (cI, 800, .inl m_buffer))] H → va_D A [(ad 0, .inr (10, oM ad m_undoCount m_thrown m_hasSnapshot a_m_fam m_rows m_lineLength m_formattedLength m_bufferLength m_limit m_next m_beginsAt m_token m_error_59 m_errorAt_59 m_errorPosition m_nested m_codeCount)), ((ad 24), .inl (cI, 800, .inl m_buffer))] → va_S A s.heap H locs → lv_has ls 4 [(0, .ref (ad 0)), (1, .int v1), (3, .int v3_59)] → W p l e ({ frames := 4, cells := 0, slots := 0, locals := 82 }) s m ([.ref (ad 0), .int v1, .int v2] : List Value).toArray below meth c H locs 0 0 (MQ below (gQ dC dI (some (.int r9)) A [(ad 0, .inr (10, oM ad m_undoCount m_thrown m_hasSnapshot a_m_fam m_rows m_lineLength m_formattedLength m_bufferLength m_limit m_next_9 m_beginsAt_9 m_token_9 m_error_9 m_errorAt_9 m_errorPosition m_nested m_codeCount)), ((ad 24), .inl (cI, 800, .inl m_buffer))]) ([.ref (ad 0), .int v1, .int v2] : List Value).toArray s 0 0 A) (F0 m 59 ls []) := by
    intro v3_59 m_error_59 m_errorAt_59 H locs ls hf hP hD hS hl
    rw [p10_readNumber_J59] at hf
    refine lv_aload_n hx hb dX10_readNumber_59 rfl (lv_at hl 0 rfl) ?_
    obtain ⟨⟨m_beginsAt_60, m_next_60, m_token_60⟩, h9, hf⟩ := ob_s hf
    have hf := uc3_e hf
    refine gcV (index := 419) S hE (c_X10_advance ad a_m_fam m_undoCount m_thrown m_hasSnapshot m_rows m_lineLength m_formattedLength m_bufferLength m_limit m_next m_beginsAt m_token m_error_59 m_errorAt_59 m_errorPosition m_nested m_codeCount m_buffer m_beginsAt_60 m_next_60 m_token_60 h9) mX10_advance tw1976 ⟨Nat.le_of_ble_eq_true rfl, Nat.le_of_ble_eq_true rfl⟩ hP hD hS hA ⟨Nat.zero_le _, Nat.zero_le _⟩ 0 10 rfl rfl rfl (wr := []) [0, 1] [] rfl rfl rfl rfl (by decide) (As := []) (rest := []) rfl hl.1 rfl (Nat.le_of_ble_eq_true rfl) dX10_readNumber_60 (fun H locs hP hD hS => ?_)
    refine W.eq (g2 := F0 m 63 ls []) rfl ?_
    have hP : va_P (dC, dI) vwCl [(ad 0, .inr (10, oM ad m_undoCount m_thrown m_hasSnapshot a_m_fam m_rows m_lineLength m_formattedLength m_bufferLength m_limit m_next_60 m_beginsAt_60 m_token_60 m_error_59 m_errorAt_59 m_errorPosition m_nested m_codeCount)), ((ad 24), .inl (cI, 800, .inl m_buffer))] H := hP
    have hD : va_D A [(ad 0, .inr (10, oM ad m_undoCount m_thrown m_hasSnapshot a_m_fam m_rows m_lineLength m_formattedLength m_bufferLength m_limit m_next_60 m_beginsAt_60 m_token_60 m_error_59 m_errorAt_59 m_errorPosition m_nested m_codeCount)), ((ad 24), .inl (cI, 800, .inl m_buffer))] := hD
    refine lv_aload_n hx hb dX10_readNumber_63 rfl (lv_at hl 0 rfl) ?_
    refine va_get (D := (dC, dI)) (ci := 10) (v := .int m_error_59) (C := RX10) (T := TX10) (N := 37) hx hb htg inX10 hown hE.1 hP 0 rfl rfl 29 (by decide) (htg _ tw1411) (fun _ h9 => h9) rfl dX10_readNumber_64 ?_
    refine lv_if_ne (tgt := 74) hx hb dX10_readNumber_67 (by decide) (fun h9 => ?_) (fun h9 => ?_)
    · have hf := itf h9 hf
      refine lv_iload_n hx hb dX10_readNumber_74 rfl (lv_at hl 1 rfl) ?_
      cases hf
      exact g_iret S hr hlocks hP hD hS dX10_readNumber_75
    · have hf := itt h9 hf
      refine lv_iload_n hx hb dX10_readNumber_70 rfl (lv_at hl 2 rfl) ?_
      refine lv_goto (tgt := 75) hx hb dX10_readNumber_71 (by decide) ?_
      cases hf
      exact g_iret S hr hlocks hP hD hS dX10_readNumber_75
  have J25 : ∀ (m_error_25 : Int32) (m_errorAt_25 : Int32) (H : Heap) (locs : List Loc) (ls : Array Slot), p10_readNumber_J25 m_beginsAt m_buffer m_limit m_next m_token v1 v2 m_error_25 m_errorAt_25 = some (r9, m_beginsAt_9, m_error_9, m_errorAt_9, m_next_9, m_token_9) → va_P (dC, dI) vwCl [(ad 0, .inr (10, oM ad m_undoCount m_thrown m_hasSnapshot a_m_fam m_rows m_lineLength m_formattedLength m_bufferLength m_limit m_next m_beginsAt m_token m_error_25 m_errorAt_25 m_errorPosition m_nested m_codeCount)), ((ad 24), .inl (cI, 800, .inl m_buffer))] H → va_D A [(ad 0, .inr (10, oM ad m_undoCount m_thrown m_hasSnapshot a_m_fam m_rows m_lineLength m_formattedLength m_bufferLength m_limit m_next m_beginsAt m_token m_error_25 m_errorAt_25 m_errorPosition m_nested m_codeCount)), ((ad 24), .inl (cI, 800, .inl m_buffer))] → va_S A s.heap H locs → lv_has ls 4 [(0, .ref (ad 0)), (1, .int v1), (2, .int v2)] → W p l e ({ frames := 4, cells := 0, slots := 0, locals := 82 }) s m ([.ref (ad 0), .int v1, .int v2] : List Value).toArray below meth c H locs 0 0 (MQ below (gQ dC dI (some (.int r9)) A [(ad 0, .inr (10, oM ad m_undoCount m_thrown m_hasSnapshot a_m_fam m_rows m_lineLength m_formattedLength m_bufferLength m_limit m_next_9 m_beginsAt_9 m_token_9 m_error_9 m_errorAt_9 m_errorPosition m_nested m_codeCount)), ((ad 24), .inl (cI, 800, .inl m_buffer))]) ([.ref (ad 0), .int v1, .int v2] : List Value).toArray s 0 0 A) (F0 m 25 ls []) := by
    intro m_error_25 m_errorAt_25 H locs ls hf hP hD hS hl
    rw [p10_readNumber_J25] at hf
    refine lv_aload_n hx hb dX10_readNumber_25 rfl (lv_at hl 0 rfl) ?_
    obtain ⟨r26, h9, hf⟩ := ob_s hf
    refine gcV (index := 429) S hE (c_X10_value ad a_m_fam m_undoCount m_thrown m_hasSnapshot m_rows m_lineLength m_formattedLength m_bufferLength m_limit m_next m_beginsAt m_token m_error_25 m_errorAt_25 m_errorPosition m_nested m_codeCount m_buffer r26 h9) mX10_value tw1993 ⟨Nat.le_of_ble_eq_true rfl, Nat.le_of_ble_eq_true rfl⟩ hP hD hS hA ⟨Nat.zero_le _, Nat.zero_le _⟩ 0 10 rfl rfl rfl (wr := []) [0, 1] [] rfl rfl rfl rfl (by decide) (As := []) (rest := []) rfl hl.1 rfl (Nat.le_of_ble_eq_true rfl) dX10_readNumber_26 (fun H locs hP hD hS => ?_)
    refine W.eq (g2 := F0 m 29 ls [.int r26]) rfl ?_
    have hP : va_P (dC, dI) vwCl [(ad 0, .inr (10, oM ad m_undoCount m_thrown m_hasSnapshot a_m_fam m_rows m_lineLength m_formattedLength m_bufferLength m_limit m_next m_beginsAt m_token m_error_25 m_errorAt_25 m_errorPosition m_nested m_codeCount)), ((ad 24), .inl (cI, 800, .inl m_buffer))] H := hP
    have hD : va_D A [(ad 0, .inr (10, oM ad m_undoCount m_thrown m_hasSnapshot a_m_fam m_rows m_lineLength m_formattedLength m_bufferLength m_limit m_next m_beginsAt m_token m_error_25 m_errorAt_25 m_errorPosition m_nested m_codeCount)), ((ad 24), .inl (cI, 800, .inl m_buffer))] := hD
    refine lv_istore_n (lv' := [(3, .int r26), (0, .ref (ad 0)), (1, .int v1), (2, .int v2)]) hx hb dX10_readNumber_29 rfl hl (by decide) rfl (fun ls hl => ?_)
    refine lv_aload_n hx hb dX10_readNumber_30 rfl (lv_at hl 1 rfl) ?_
    refine lv_aload_n hx hb dX10_readNumber_31 rfl (lv_at hl 1 rfl) ?_
    refine va_get (D := (dC, dI)) (ci := 10) (v := .int m_error_25) (C := RX10) (T := TX10) (N := 37) hx hb htg inX10 hown hE.1 hP 0 rfl rfl 29 (by decide) (htg _ tw1411) (fun _ h9 => h9) rfl dX10_readNumber_32 ?_
    refine lv_if_ne (tgt := 50) hx hb dX10_readNumber_35 (by decide) (fun h9 => ?_) (fun h9 => ?_)
    · have hf := itf h9 hf
      refine lv_iconst (v := 1) hx hb dX10_readNumber_50 (by decide) ?_
      refine lv_goto (tgt := 55) hx hb dX10_readNumber_51 (by decide) ?_
      refine lv_iconst (v := 2) hx hb dX10_readNumber_55 (by decide) ?_
      obtain ⟨m_error_56, m_errorAt_56, h9⟩ : ∃ m_error_56 m_errorAt_56, p10_check m_beginsAt m_error_25 m_errorAt_25 true (2 : Int32) = (m_error_56, m_errorAt_56) := ⟨_, _, rfl⟩
      have hf := uc2_e (lb_e h9.symm hf)
      refine gcV (index := 415) S hE (c_X10_check ad a_m_fam m_undoCount m_thrown m_hasSnapshot m_rows m_lineLength m_formattedLength m_bufferLength m_limit m_next m_beginsAt m_token m_error_25 m_errorAt_25 m_errorPosition m_nested m_codeCount true (2 : Int32) m_error_56 m_errorAt_56 h9) mX10_check tw1968 ⟨Nat.le_of_ble_eq_true rfl, Nat.le_of_ble_eq_true rfl⟩ hP hD hS hA ⟨Nat.zero_le _, Nat.zero_le _⟩ 0 10 rfl rfl rfl (wr := [((ad 24), .inl (cI, 800, .inl m_buffer))]) [0] [1] rfl rfl rfl rfl (by decide) (As := [.int (bI true), .int (2 : Int32)]) (rest := []) rfl hl.1 rfl (Nat.le_of_ble_eq_true rfl) dX10_readNumber_56 (fun H locs hP hD hS => ?_)
      refine W.eq (g2 := F0 m 59 ls []) rfl ?_
      have hP : va_P (dC, dI) vwCl [((ad 24), .inl (cI, 800, .inl m_buffer)), (ad 0, .inr (10, oM ad m_undoCount m_thrown m_hasSnapshot a_m_fam m_rows m_lineLength m_formattedLength m_bufferLength m_limit m_next m_beginsAt m_token m_error_56 m_errorAt_56 m_errorPosition m_nested m_codeCount))] H := hP
      have hD : va_D A [((ad 24), .inl (cI, 800, .inl m_buffer)), (ad 0, .inr (10, oM ad m_undoCount m_thrown m_hasSnapshot a_m_fam m_rows m_lineLength m_formattedLength m_bufferLength m_limit m_next m_beginsAt m_token m_error_56 m_errorAt_56 m_errorPosition m_nested m_codeCount))] := hD
      exact J59 r26 m_error_56 m_errorAt_56 H locs ls hf (hP.sub [1, 0] rfl) (hD.sub [1, 0] (by decide) rfl) hS (lv_sub hl [1, 2, 0] rfl)
    · have hf := itt h9 hf
      refine lv_iload_n hx hb dX10_readNumber_38 rfl (lv_at hl 0 rfl) ?_
      refine lv_i2l hx hb dX10_readNumber_39 rfl ?_
      refine lv_iload_n hx hb dX10_readNumber_40 rfl (lv_at hl 2 rfl) ?_
      refine lv_i2l hx hb dX10_readNumber_41 rfl ?_
      refine lv_iload_n hx hb dX10_readNumber_42 rfl (lv_at hl 3 rfl) ?_
      refine lv_i2l hx hb dX10_readNumber_43 rfl ?_
      refine gcS (index := 106) S hE (c_X10_inRange r26.toInt64 v1.toInt64 v2.toInt64 (p10_inRange r26.toInt64 v1.toInt64 v2.toInt64) rfl) mX10_inRange tw1580 ⟨Nat.le_of_ble_eq_true rfl, Nat.le_of_ble_eq_true rfl⟩ hP hD hS hA ⟨Nat.zero_le _, Nat.zero_le _⟩ (wr := [(ad 0, .inr (10, oM ad m_undoCount m_thrown m_hasSnapshot a_m_fam m_rows m_lineLength m_formattedLength m_bufferLength m_limit m_next m_beginsAt m_token m_error_25 m_errorAt_25 m_errorPosition m_nested m_codeCount)), ((ad 24), .inl (cI, 800, .inl m_buffer))]) [] [0, 1] rfl rfl rfl rfl (by decide) (As := [.long r26.toInt64, .long v1.toInt64, .long v2.toInt64]) (rest := [.ref (ad 0)]) rfl hl.1 rfl (Nat.le_of_ble_eq_true rfl) dX10_readNumber_44 (fun H locs hP hD hS => ?_)
      refine W.eq (g2 := F0 m 47 ls [.int (bI (p10_inRange r26.toInt64 v1.toInt64 v2.toInt64)), .ref (ad 0)]) rfl ?_
      have hP : va_P (dC, dI) vwCl [(ad 0, .inr (10, oM ad m_undoCount m_thrown m_hasSnapshot a_m_fam m_rows m_lineLength m_formattedLength m_bufferLength m_limit m_next m_beginsAt m_token m_error_25 m_errorAt_25 m_errorPosition m_nested m_codeCount)), ((ad 24), .inl (cI, 800, .inl m_buffer))] H := hP
      have hD : va_D A [(ad 0, .inr (10, oM ad m_undoCount m_thrown m_hasSnapshot a_m_fam m_rows m_lineLength m_formattedLength m_bufferLength m_limit m_next m_beginsAt m_token m_error_25 m_errorAt_25 m_errorPosition m_nested m_codeCount)), ((ad 24), .inl (cI, 800, .inl m_buffer))] := hD
      refine lv_if_eq (tgt := 54) hx hb dX10_readNumber_47 (by decide) (fun h9 => ?_) (fun h9 => ?_)
      · have hf := ctf (bI_0 h9) hf
        refine lv_iconst (v := 0) hx hb dX10_readNumber_54 (by decide) ?_
        refine lv_iconst (v := 2) hx hb dX10_readNumber_55 (by decide) ?_
        obtain ⟨m_error_56, m_errorAt_56, h9⟩ : ∃ m_error_56 m_errorAt_56, p10_check m_beginsAt m_error_25 m_errorAt_25 false (2 : Int32) = (m_error_56, m_errorAt_56) := ⟨_, _, rfl⟩
        have hf := uc2_e (lb_e h9.symm hf)
        refine gcV (index := 415) S hE (c_X10_check ad a_m_fam m_undoCount m_thrown m_hasSnapshot m_rows m_lineLength m_formattedLength m_bufferLength m_limit m_next m_beginsAt m_token m_error_25 m_errorAt_25 m_errorPosition m_nested m_codeCount false (2 : Int32) m_error_56 m_errorAt_56 h9) mX10_check tw1968 ⟨Nat.le_of_ble_eq_true rfl, Nat.le_of_ble_eq_true rfl⟩ hP hD hS hA ⟨Nat.zero_le _, Nat.zero_le _⟩ 0 10 rfl rfl rfl (wr := [((ad 24), .inl (cI, 800, .inl m_buffer))]) [0] [1] rfl rfl rfl rfl (by decide) (As := [.int (bI false), .int (2 : Int32)]) (rest := []) rfl hl.1 rfl (Nat.le_of_ble_eq_true rfl) dX10_readNumber_56 (fun H locs hP hD hS => ?_)
        refine W.eq (g2 := F0 m 59 ls []) rfl ?_
        have hP : va_P (dC, dI) vwCl [((ad 24), .inl (cI, 800, .inl m_buffer)), (ad 0, .inr (10, oM ad m_undoCount m_thrown m_hasSnapshot a_m_fam m_rows m_lineLength m_formattedLength m_bufferLength m_limit m_next m_beginsAt m_token m_error_56 m_errorAt_56 m_errorPosition m_nested m_codeCount))] H := hP
        have hD : va_D A [((ad 24), .inl (cI, 800, .inl m_buffer)), (ad 0, .inr (10, oM ad m_undoCount m_thrown m_hasSnapshot a_m_fam m_rows m_lineLength m_formattedLength m_bufferLength m_limit m_next m_beginsAt m_token m_error_56 m_errorAt_56 m_errorPosition m_nested m_codeCount))] := hD
        exact J59 r26 m_error_56 m_errorAt_56 H locs ls hf (hP.sub [1, 0] rfl) (hD.sub [1, 0] (by decide) rfl) hS (lv_sub hl [1, 2, 0] rfl)
      · have hf := ctt (bI_1 h9) hf
        refine lv_iconst (v := 1) hx hb dX10_readNumber_50 (by decide) ?_
        refine lv_goto (tgt := 55) hx hb dX10_readNumber_51 (by decide) ?_
        refine lv_iconst (v := 2) hx hb dX10_readNumber_55 (by decide) ?_
        obtain ⟨m_error_56, m_errorAt_56, h9⟩ : ∃ m_error_56 m_errorAt_56, p10_check m_beginsAt m_error_25 m_errorAt_25 true (2 : Int32) = (m_error_56, m_errorAt_56) := ⟨_, _, rfl⟩
        have hf := uc2_e (lb_e h9.symm hf)
        refine gcV (index := 415) S hE (c_X10_check ad a_m_fam m_undoCount m_thrown m_hasSnapshot m_rows m_lineLength m_formattedLength m_bufferLength m_limit m_next m_beginsAt m_token m_error_25 m_errorAt_25 m_errorPosition m_nested m_codeCount true (2 : Int32) m_error_56 m_errorAt_56 h9) mX10_check tw1968 ⟨Nat.le_of_ble_eq_true rfl, Nat.le_of_ble_eq_true rfl⟩ hP hD hS hA ⟨Nat.zero_le _, Nat.zero_le _⟩ 0 10 rfl rfl rfl (wr := [((ad 24), .inl (cI, 800, .inl m_buffer))]) [0] [1] rfl rfl rfl rfl (by decide) (As := [.int (bI true), .int (2 : Int32)]) (rest := []) rfl hl.1 rfl (Nat.le_of_ble_eq_true rfl) dX10_readNumber_56 (fun H locs hP hD hS => ?_)
        refine W.eq (g2 := F0 m 59 ls []) rfl ?_
        have hP : va_P (dC, dI) vwCl [((ad 24), .inl (cI, 800, .inl m_buffer)), (ad 0, .inr (10, oM ad m_undoCount m_thrown m_hasSnapshot a_m_fam m_rows m_lineLength m_formattedLength m_bufferLength m_limit m_next m_beginsAt m_token m_error_56 m_errorAt_56 m_errorPosition m_nested m_codeCount))] H := hP
        have hD : va_D A [((ad 24), .inl (cI, 800, .inl m_buffer)), (ad 0, .inr (10, oM ad m_undoCount m_thrown m_hasSnapshot a_m_fam m_rows m_lineLength m_formattedLength m_bufferLength m_limit m_next m_beginsAt m_token m_error_56 m_errorAt_56 m_errorPosition m_nested m_codeCount))] := hD
        exact J59 r26 m_error_56 m_errorAt_56 H locs ls hf (hP.sub [1, 0] rfl) (hD.sub [1, 0] (by decide) rfl) hS (lv_sub hl [1, 2, 0] rfl)
  refine lv_aload_n hx hb dX10_readNumber_0 rfl (lv_at hl 0 rfl) ?_
  refine lv_aload_n hx hb dX10_readNumber_1 rfl (lv_at hl 0 rfl) ?_
  refine va_get (D := (dC, dI)) (ci := 10) (v := .int m_error) (C := RX10) (T := TX10) (N := 37) hx hb htg inX10 hown hE.1 hP 0 rfl rfl 29 (by decide) (htg _ tw1411) (fun _ h9 => h9) rfl dX10_readNumber_2 ?_
  refine lv_if_ne (tgt := 16) hx hb dX10_readNumber_5 (by decide) (fun h9 => ?_) (fun h9 => ?_)
  · have hf := itf h9 hf
    refine lv_iconst (v := 1) hx hb dX10_readNumber_16 (by decide) ?_
    refine lv_goto (tgt := 21) hx hb dX10_readNumber_17 (by decide) ?_
    refine lv_iconst (v := 1) hx hb dX10_readNumber_21 (by decide) ?_
    obtain ⟨m_error_22, m_errorAt_22, h9⟩ : ∃ m_error_22 m_errorAt_22, p10_check m_beginsAt m_error m_errorAt true (1 : Int32) = (m_error_22, m_errorAt_22) := ⟨_, _, rfl⟩
    have hf := uc2_e (lb_e h9.symm hf)
    refine gcV (index := 415) S hE (c_X10_check ad a_m_fam m_undoCount m_thrown m_hasSnapshot m_rows m_lineLength m_formattedLength m_bufferLength m_limit m_next m_beginsAt m_token m_error m_errorAt m_errorPosition m_nested m_codeCount true (1 : Int32) m_error_22 m_errorAt_22 h9) mX10_check tw1968 ⟨Nat.le_of_ble_eq_true rfl, Nat.le_of_ble_eq_true rfl⟩ hP hD hS hA ⟨Nat.zero_le _, Nat.zero_le _⟩ 0 10 rfl rfl rfl (wr := [((ad 24), .inl (cI, 800, .inl m_buffer))]) [0] [1] rfl rfl rfl rfl (by decide) (As := [.int (bI true), .int (1 : Int32)]) (rest := []) rfl hl.1 rfl (Nat.le_of_ble_eq_true rfl) dX10_readNumber_22 (fun H locs hP hD hS => ?_)
    refine W.eq (g2 := F0 m 25 ls []) rfl ?_
    have hP : va_P (dC, dI) vwCl [((ad 24), .inl (cI, 800, .inl m_buffer)), (ad 0, .inr (10, oM ad m_undoCount m_thrown m_hasSnapshot a_m_fam m_rows m_lineLength m_formattedLength m_bufferLength m_limit m_next m_beginsAt m_token m_error_22 m_errorAt_22 m_errorPosition m_nested m_codeCount))] H := hP
    have hD : va_D A [((ad 24), .inl (cI, 800, .inl m_buffer)), (ad 0, .inr (10, oM ad m_undoCount m_thrown m_hasSnapshot a_m_fam m_rows m_lineLength m_formattedLength m_bufferLength m_limit m_next m_beginsAt m_token m_error_22 m_errorAt_22 m_errorPosition m_nested m_codeCount))] := hD
    exact J25 m_error_22 m_errorAt_22 H locs ls hf (hP.sub [1, 0] rfl) (hD.sub [1, 0] (by decide) rfl) hS (lv_sub hl [0, 1, 2] rfl)
  · have hf := itt h9 hf
    refine lv_aload_n hx hb dX10_readNumber_8 rfl (lv_at hl 0 rfl) ?_
    refine va_get (D := (dC, dI)) (ci := 10) (v := .int m_token) (C := RX10) (T := TX10) (N := 37) hx hb htg inX10 hown hE.1 hP 0 rfl rfl 28 (by decide) (htg _ tw1410) (fun _ h9 => h9) rfl dX10_readNumber_9 ?_
    refine lv_iconst (v := 2) hx hb dX10_readNumber_12 (by decide) ?_
    refine lv_icmp_ne (tgt := 20) hx hb dX10_readNumber_13 (by decide) (fun h9 => ?_) (fun h9 => ?_)
    · have hf := itf h9 hf
      refine lv_iconst (v := 0) hx hb dX10_readNumber_20 (by decide) ?_
      refine lv_iconst (v := 1) hx hb dX10_readNumber_21 (by decide) ?_
      obtain ⟨m_error_22, m_errorAt_22, h9⟩ : ∃ m_error_22 m_errorAt_22, p10_check m_beginsAt m_error m_errorAt false (1 : Int32) = (m_error_22, m_errorAt_22) := ⟨_, _, rfl⟩
      have hf := uc2_e (lb_e h9.symm hf)
      refine gcV (index := 415) S hE (c_X10_check ad a_m_fam m_undoCount m_thrown m_hasSnapshot m_rows m_lineLength m_formattedLength m_bufferLength m_limit m_next m_beginsAt m_token m_error m_errorAt m_errorPosition m_nested m_codeCount false (1 : Int32) m_error_22 m_errorAt_22 h9) mX10_check tw1968 ⟨Nat.le_of_ble_eq_true rfl, Nat.le_of_ble_eq_true rfl⟩ hP hD hS hA ⟨Nat.zero_le _, Nat.zero_le _⟩ 0 10 rfl rfl rfl (wr := [((ad 24), .inl (cI, 800, .inl m_buffer))]) [0] [1] rfl rfl rfl rfl (by decide) (As := [.int (bI false), .int (1 : Int32)]) (rest := []) rfl hl.1 rfl (Nat.le_of_ble_eq_true rfl) dX10_readNumber_22 (fun H locs hP hD hS => ?_)
      refine W.eq (g2 := F0 m 25 ls []) rfl ?_
      have hP : va_P (dC, dI) vwCl [((ad 24), .inl (cI, 800, .inl m_buffer)), (ad 0, .inr (10, oM ad m_undoCount m_thrown m_hasSnapshot a_m_fam m_rows m_lineLength m_formattedLength m_bufferLength m_limit m_next m_beginsAt m_token m_error_22 m_errorAt_22 m_errorPosition m_nested m_codeCount))] H := hP
      have hD : va_D A [((ad 24), .inl (cI, 800, .inl m_buffer)), (ad 0, .inr (10, oM ad m_undoCount m_thrown m_hasSnapshot a_m_fam m_rows m_lineLength m_formattedLength m_bufferLength m_limit m_next m_beginsAt m_token m_error_22 m_errorAt_22 m_errorPosition m_nested m_codeCount))] := hD
      exact J25 m_error_22 m_errorAt_22 H locs ls hf (hP.sub [1, 0] rfl) (hD.sub [1, 0] (by decide) rfl) hS (lv_sub hl [0, 1, 2] rfl)
    · have hf := itt h9 hf
      refine lv_iconst (v := 1) hx hb dX10_readNumber_16 (by decide) ?_
      refine lv_goto (tgt := 21) hx hb dX10_readNumber_17 (by decide) ?_
      refine lv_iconst (v := 1) hx hb dX10_readNumber_21 (by decide) ?_
      obtain ⟨m_error_22, m_errorAt_22, h9⟩ : ∃ m_error_22 m_errorAt_22, p10_check m_beginsAt m_error m_errorAt true (1 : Int32) = (m_error_22, m_errorAt_22) := ⟨_, _, rfl⟩
      have hf := uc2_e (lb_e h9.symm hf)
      refine gcV (index := 415) S hE (c_X10_check ad a_m_fam m_undoCount m_thrown m_hasSnapshot m_rows m_lineLength m_formattedLength m_bufferLength m_limit m_next m_beginsAt m_token m_error m_errorAt m_errorPosition m_nested m_codeCount true (1 : Int32) m_error_22 m_errorAt_22 h9) mX10_check tw1968 ⟨Nat.le_of_ble_eq_true rfl, Nat.le_of_ble_eq_true rfl⟩ hP hD hS hA ⟨Nat.zero_le _, Nat.zero_le _⟩ 0 10 rfl rfl rfl (wr := [((ad 24), .inl (cI, 800, .inl m_buffer))]) [0] [1] rfl rfl rfl rfl (by decide) (As := [.int (bI true), .int (1 : Int32)]) (rest := []) rfl hl.1 rfl (Nat.le_of_ble_eq_true rfl) dX10_readNumber_22 (fun H locs hP hD hS => ?_)
      refine W.eq (g2 := F0 m 25 ls []) rfl ?_
      have hP : va_P (dC, dI) vwCl [((ad 24), .inl (cI, 800, .inl m_buffer)), (ad 0, .inr (10, oM ad m_undoCount m_thrown m_hasSnapshot a_m_fam m_rows m_lineLength m_formattedLength m_bufferLength m_limit m_next m_beginsAt m_token m_error_22 m_errorAt_22 m_errorPosition m_nested m_codeCount))] H := hP
      have hD : va_D A [((ad 24), .inl (cI, 800, .inl m_buffer)), (ad 0, .inr (10, oM ad m_undoCount m_thrown m_hasSnapshot a_m_fam m_rows m_lineLength m_formattedLength m_bufferLength m_limit m_next m_beginsAt m_token m_error_22 m_errorAt_22 m_errorPosition m_nested m_codeCount))] := hD
      exact J25 m_error_22 m_errorAt_22 H locs ls hf (hP.sub [1, 0] rfl) (hD.sub [1, 0] (by decide) rfl) hS (lv_sub hl [0, 1, 2] rfl)
set_option maxHeartbeats 4000000 in
set_option maxRecDepth 100000 in
theorem c_X10_nameHere (ad : Nat → Nat) (a_m_fam : Nat) (m_undoCount : Int32) (m_thrown : Int32) (m_hasSnapshot : Bool) (m_rows : Int32) (m_lineLength : Int32) (m_formattedLength : Int32) (m_bufferLength : Int32) (m_limit : Int32) (m_next : Int32) (m_beginsAt : Int32) (m_token : Int32) (m_error : Int32) (m_errorAt : Int32) (m_errorPosition : Int32) (m_nested : Int32) (m_codeCount : Int32) (m_buffer : Nat → Int32) (r9 : Int64) (hf : p10_nameHere m_next m_beginsAt m_buffer = some r9) : gM l dC dI cI cJ cZ yX10_nameHere cX10_nameHere 4 (some .long) (0) (0) [.ref (ad 0)] [(ad 0, .inr (10, oM ad m_undoCount m_thrown m_hasSnapshot a_m_fam m_rows m_lineLength m_formattedLength m_bufferLength m_limit m_next m_beginsAt m_token m_error m_errorAt m_errorPosition m_nested m_codeCount)), ((ad 24), .inl (cI, 800, .inl m_buffer))] [(ad 0, .inr (10, oM ad m_undoCount m_thrown m_hasSnapshot a_m_fam m_rows m_lineLength m_formattedLength m_bufferLength m_limit m_next m_beginsAt m_token m_error m_errorAt m_errorPosition m_nested m_codeCount)), ((ad 24), .inl (cI, 800, .inl m_buffer))] (some (.long r9)) := by
  refine g_start (own := RX10) (by decide +kernel) rfl (Nat.le_of_ble_eq_true rfl) ?_
  intro p e s m below meth c A ls S hr hlocks hE hP hD hS hA hl hin
  have hx := S.1
  have hb := S.2.1
  have hml := S.2.2.1
  have hown := S.2.2.2.1
  have htg : ∀ z ∈ gw, z.before ([.ref (ad 0)] : List Value).toArray s = true := fun w h => S.2.2.2.2 w (List.mem_cons_of_mem _ h)
  have hl : lv_has ls 4 [(0, .ref (ad 0))] := hl
  have hS0 := hS
  obtain ⟨H, hH⟩ : ∃ H, H = s.heap := ⟨_, rfl⟩
  obtain ⟨locs, hlc⟩ : ∃ locs : List Loc, locs = [] := ⟨_, rfl⟩
  have hS : va_S A s.heap H locs := by rw [hH, hlc]; exact hS0
  have hP : va_P (dC, dI) vwCl [(ad 0, .inr (10, oM ad m_undoCount m_thrown m_hasSnapshot a_m_fam m_rows m_lineLength m_formattedLength m_bufferLength m_limit m_next m_beginsAt m_token m_error m_errorAt m_errorPosition m_nested m_codeCount)), ((ad 24), .inl (cI, 800, .inl m_buffer))] H := by rw [hH]; exact hP
  suffices hgo : W p l e ({ frames := 0, cells := 0, slots := 0, locals := 0 }) s m ([.ref (ad 0)] : List Value).toArray below meth c H locs 0 0 (MQ below (gQ dC dI (some (.long r9)) A [(ad 0, .inr (10, oM ad m_undoCount m_thrown m_hasSnapshot a_m_fam m_rows m_lineLength m_formattedLength m_bufferLength m_limit m_next m_beginsAt m_token m_error m_errorAt m_errorPosition m_nested m_codeCount)), ((ad 24), .inl (cI, 800, .inl m_buffer))]) ([.ref (ad 0)] : List Value).toArray s 0 0 A) (F0 m 0 ls []) by rw [hH, hlc] at hgo; exact hgo
  rw [p10_nameHere] at hf
  have J41 : ∀ (v1_41 : Int64) (H : Heap) (locs : List Loc) (ls : Array Slot), p10_nameHere_J41 v1_41 = some r9 → va_P (dC, dI) vwCl [(ad 0, .inr (10, oM ad m_undoCount m_thrown m_hasSnapshot a_m_fam m_rows m_lineLength m_formattedLength m_bufferLength m_limit m_next m_beginsAt m_token m_error m_errorAt m_errorPosition m_nested m_codeCount)), ((ad 24), .inl (cI, 800, .inl m_buffer))] H → va_D A [(ad 0, .inr (10, oM ad m_undoCount m_thrown m_hasSnapshot a_m_fam m_rows m_lineLength m_formattedLength m_bufferLength m_limit m_next m_beginsAt m_token m_error m_errorAt m_errorPosition m_nested m_codeCount)), ((ad 24), .inl (cI, 800, .inl m_buffer))] → va_S A s.heap H locs → lv_has ls 4 [(1, .long v1_41)] → W p l e ({ frames := 0, cells := 0, slots := 0, locals := 0 }) s m ([.ref (ad 0)] : List Value).toArray below meth c H locs 0 0 (MQ below (gQ dC dI (some (.long r9)) A [(ad 0, .inr (10, oM ad m_undoCount m_thrown m_hasSnapshot a_m_fam m_rows m_lineLength m_formattedLength m_bufferLength m_limit m_next m_beginsAt m_token m_error m_errorAt m_errorPosition m_nested m_codeCount)), ((ad 24), .inl (cI, 800, .inl m_buffer))]) ([.ref (ad 0)] : List Value).toArray s 0 0 A) (F0 m 41 ls []) := by
    intro v1_41 H locs ls hf hP hD hS hl
    rw [p10_nameHere_J41] at hf
    refine lv_lload_n hx hb dX10_nameHere_41 rfl (lv_at hl 0 rfl) ?_
    cases hf
    exact g_lret S hr hlocks hP hD hS dX10_nameHere_42
  refine lv_lconst (v := 0) hx hb dX10_nameHere_0 (by decide) ?_
  refine lv_lstore_n (lv' := [(1, .long (0 : Int64)), (0, .ref (ad 0))]) hx hb dX10_nameHere_1 rfl hl (by decide) rfl (fun ls hl => ?_)
  refine lv_aload_n hx hb dX10_nameHere_2 rfl (lv_at hl 1 rfl) ?_
  refine va_get (D := (dC, dI)) (ci := 10) (v := .int m_beginsAt) (C := RX10) (T := TX10) (N := 37) hx hb htg inX10 hown hE.1 hP 0 rfl rfl 27 (by decide) (htg _ tw1409) (fun _ h9 => h9) rfl dX10_nameHere_3 ?_
  refine lv_istore_n (lv' := [(3, .int m_beginsAt), (1, .long (0 : Int64)), (0, .ref (ad 0))]) hx hb dX10_nameHere_6 rfl hl (by decide) rfl (fun ls hl => ?_)
  have K7 : ∀ (n7 : Nat) (v1_7 : Int64) (v3_7 : Int32) (ex7 : Int64) (H : Heap) (locs : List Loc) (ls : Array Slot), p10_nameHere_L7 m_buffer m_next n7 v1_7 v3_7 = some ex7 → (fun v1_x7 => p10_nameHere_J41 v1_x7) ex7 = some r9 → va_P (dC, dI) vwCl [(ad 0, .inr (10, oM ad m_undoCount m_thrown m_hasSnapshot a_m_fam m_rows m_lineLength m_formattedLength m_bufferLength m_limit m_next m_beginsAt m_token m_error m_errorAt m_errorPosition m_nested m_codeCount)), ((ad 24), .inl (cI, 800, .inl m_buffer))] H → va_D A [(ad 0, .inr (10, oM ad m_undoCount m_thrown m_hasSnapshot a_m_fam m_rows m_lineLength m_formattedLength m_bufferLength m_limit m_next m_beginsAt m_token m_error m_errorAt m_errorPosition m_nested m_codeCount)), ((ad 24), .inl (cI, 800, .inl m_buffer))] → va_S A s.heap H locs → lv_has ls 4 [(0, .ref (ad 0)), (1, .long v1_7), (3, .int v3_7)] → W p l e ({ frames := 0, cells := 0, slots := 0, locals := 0 }) s m ([.ref (ad 0)] : List Value).toArray below meth c H locs 0 0 (MQ below (gQ dC dI (some (.long r9)) A [(ad 0, .inr (10, oM ad m_undoCount m_thrown m_hasSnapshot a_m_fam m_rows m_lineLength m_formattedLength m_bufferLength m_limit m_next m_beginsAt m_token m_error m_errorAt m_errorPosition m_nested m_codeCount)), ((ad 24), .inl (cI, 800, .inl m_buffer))]) ([.ref (ad 0)] : List Value).toArray s 0 0 A) (F0 m 7 ls []) := by
    intro n7
    induction n7 with
    | zero => intro v1_7 v3_7 ex7 H locs ls hf; rw [p10_nameHere_L7] at hf; cases hf
    | succ n7 ih7 =>
      intro v1_7 v3_7 ex7 H locs ls hf hk7 hP hD hS hl
      rw [p10_nameHere_L7, p10_nameHere_L7_B] at hf
      refine lv_iload_n hx hb dX10_nameHere_7 rfl (lv_at hl 2 rfl) ?_
      refine lv_aload_n hx hb dX10_nameHere_8 rfl (lv_at hl 0 rfl) ?_
      refine va_get (D := (dC, dI)) (ci := 10) (v := .int m_next) (C := RX10) (T := TX10) (N := 37) hx hb htg inX10 hown hE.1 hP 0 rfl rfl 26 (by decide) (htg _ tw1408) (fun _ h9 => h9) rfl dX10_nameHere_9 ?_
      refine lv_icmp_ge (tgt := 41) hx hb dX10_nameHere_12 (by decide) (fun h9 => ?_) (fun h9 => ?_)
      · have hf := itt h9 hf
        cases hf
        have hf := hk7
        exact J41 v1_7 H locs ls hf hP hD hS (lv_sub hl [1] rfl)
      · have hf := itf h9 hf
        refine lv_ldc2 (own := RX10) (v := 27) hx hb hown (htg _ tw1801) dX10_nameHere_15 ?_
        refine lv_lload_n hx hb dX10_nameHere_18 rfl (lv_at hl 1 rfl) ?_
        refine lv_lmul hx hb dX10_nameHere_19 ?_
        refine lv_aload_n hx hb dX10_nameHere_20 rfl (lv_at hl 0 rfl) ?_
        refine va_get (D := (dC, dI)) (ci := 10) (v := .ref (ad 24)) (C := RX10) (T := TX10) (N := 37) hx hb htg inX10 hown hE.1 hP 0 rfl rfl 23 (by decide) (htg _ tw1405) (fun _ h9 => h9) rfl dX10_nameHere_21 ?_
        refine lv_iload_n hx hb dX10_nameHere_24 rfl (lv_at hl 2 rfl) ?_
        obtain ⟨h9, hf⟩ := gd_s hf
        refine va_iald hx hb hE.1 hP 1 0 rfl rfl h9 dX10_nameHere_25 ?_
        refine lv_i2l hx hb dX10_nameHere_26 rfl ?_
        refine lv_ladd hx hb dX10_nameHere_27 ?_
        refine lv_ldc2 (own := RX10) (v := 97) hx hb hown (htg _ tw1988) dX10_nameHere_28 ?_
        refine lv_lsub hx hb dX10_nameHere_31 ?_
        refine lv_lconst (v := 1) hx hb dX10_nameHere_32 (by decide) ?_
        refine lv_ladd hx hb dX10_nameHere_33 ?_
        refine lv_topl (fun t34 h9 => ?_)
        have hf := lb_e h9 hf
        refine lv_lstore_n (lv' := [(1, .long t34), (0, .ref (ad 0)), (3, .int v3_7)]) hx hb dX10_nameHere_34 rfl hl (by decide) rfl (fun ls hl => ?_)
        obtain ⟨t35, h9⟩ : ∃ z : Int32, z = (v3_7 + (1 : Int32)) := ⟨_, rfl⟩
        have hf := lb_e h9 hf
        refine lv_iinc (v := t35) (lv' := [(3, .int t35), (1, .long t34), (0, .ref (ad 0))]) hx hb dX10_nameHere_35 hl (k := 2) rfl (by rw [h9]; rfl) (by decide) rfl (fun ls hl => ?_)
        refine lv_goto (tgt := 7) hx hb dX10_nameHere_38 (by decide) ?_
        exact ih7 t34 t35 ex7 H locs ls hf hk7 hP hD hS (lv_sub hl [2, 1, 0] rfl)
  obtain ⟨ex, h9, hf⟩ := ob_s hf
  exact K7 FU (0 : Int64) m_beginsAt ex H locs ls h9 hf hP hD hS (lv_sub hl [2, 1, 0] rfl)
set_option maxHeartbeats 4000000 in
set_option maxRecDepth 100000 in
theorem c_X10_personHere (ad : Nat → Nat) (a_m_fam : Nat) (m_undoCount : Int32) (m_thrown : Int32) (m_hasSnapshot : Bool) (m_rows : Int32) (m_lineLength : Int32) (m_formattedLength : Int32) (m_bufferLength : Int32) (m_limit : Int32) (m_next : Int32) (m_beginsAt : Int32) (m_token : Int32) (m_error : Int32) (m_errorAt : Int32) (m_errorPosition : Int32) (m_nested : Int32) (m_codeCount : Int32) (m_buffer : Nat → Int32) (m_fam : Nat → Int64) (r9 : Int32) (hf : p10_personHere m_next m_beginsAt m_token m_buffer m_fam = some r9) : gM l dC dI cI cJ cZ yX10_personHere cX10_personHere 2 (some .int) (1) (23) [.ref (ad 0)] [(ad 0, .inr (10, oM ad m_undoCount m_thrown m_hasSnapshot a_m_fam m_rows m_lineLength m_formattedLength m_bufferLength m_limit m_next m_beginsAt m_token m_error m_errorAt m_errorPosition m_nested m_codeCount)), ((ad 24), .inl (cI, 800, .inl m_buffer)), (a_m_fam, .inl (cJ, 130, .inr (.inl m_fam)))] [(ad 0, .inr (10, oM ad m_undoCount m_thrown m_hasSnapshot a_m_fam m_rows m_lineLength m_formattedLength m_bufferLength m_limit m_next m_beginsAt m_token m_error m_errorAt m_errorPosition m_nested m_codeCount)), ((ad 24), .inl (cI, 800, .inl m_buffer)), (a_m_fam, .inl (cJ, 130, .inr (.inl m_fam)))] (some (.int r9)) := by
  refine g_start (own := RX10) (by decide +kernel) rfl (Nat.le_of_ble_eq_true rfl) ?_
  intro p e s m below meth c A ls S hr hlocks hE hP hD hS hA hl hin
  have hx := S.1
  have hb := S.2.1
  have hml := S.2.2.1
  have hown := S.2.2.2.1
  have htg : ∀ z ∈ gw, z.before ([.ref (ad 0)] : List Value).toArray s = true := fun w h => S.2.2.2.2 w (List.mem_cons_of_mem _ h)
  have hl : lv_has ls 2 [(0, .ref (ad 0))] := hl
  have hS0 := hS
  obtain ⟨H, hH⟩ : ∃ H, H = s.heap := ⟨_, rfl⟩
  obtain ⟨locs, hlc⟩ : ∃ locs : List Loc, locs = [] := ⟨_, rfl⟩
  have hS : va_S A s.heap H locs := by rw [hH, hlc]; exact hS0
  have hP : va_P (dC, dI) vwCl [(ad 0, .inr (10, oM ad m_undoCount m_thrown m_hasSnapshot a_m_fam m_rows m_lineLength m_formattedLength m_bufferLength m_limit m_next m_beginsAt m_token m_error m_errorAt m_errorPosition m_nested m_codeCount)), ((ad 24), .inl (cI, 800, .inl m_buffer)), (a_m_fam, .inl (cJ, 130, .inr (.inl m_fam)))] H := by rw [hH]; exact hP
  suffices hgo : W p l e ({ frames := 1, cells := 0, slots := 0, locals := 23 }) s m ([.ref (ad 0)] : List Value).toArray below meth c H locs 0 0 (MQ below (gQ dC dI (some (.int r9)) A [(ad 0, .inr (10, oM ad m_undoCount m_thrown m_hasSnapshot a_m_fam m_rows m_lineLength m_formattedLength m_bufferLength m_limit m_next m_beginsAt m_token m_error m_errorAt m_errorPosition m_nested m_codeCount)), ((ad 24), .inl (cI, 800, .inl m_buffer)), (a_m_fam, .inl (cJ, 130, .inr (.inl m_fam)))]) ([.ref (ad 0)] : List Value).toArray s 0 0 A) (F0 m 0 ls []) by rw [hH, hlc] at hgo; exact hgo
  rw [p10_personHere] at hf
  have J54 : ∀  (H : Heap) (locs : List Loc) (ls : Array Slot), p10_personHere_J54  = some r9 → va_P (dC, dI) vwCl [(ad 0, .inr (10, oM ad m_undoCount m_thrown m_hasSnapshot a_m_fam m_rows m_lineLength m_formattedLength m_bufferLength m_limit m_next m_beginsAt m_token m_error m_errorAt m_errorPosition m_nested m_codeCount)), ((ad 24), .inl (cI, 800, .inl m_buffer)), (a_m_fam, .inl (cJ, 130, .inr (.inl m_fam)))] H → va_D A [(ad 0, .inr (10, oM ad m_undoCount m_thrown m_hasSnapshot a_m_fam m_rows m_lineLength m_formattedLength m_bufferLength m_limit m_next m_beginsAt m_token m_error m_errorAt m_errorPosition m_nested m_codeCount)), ((ad 24), .inl (cI, 800, .inl m_buffer)), (a_m_fam, .inl (cJ, 130, .inr (.inl m_fam)))] → va_S A s.heap H locs → lv_has ls 2 [] → W p l e ({ frames := 1, cells := 0, slots := 0, locals := 23 }) s m ([.ref (ad 0)] : List Value).toArray below meth c H locs 0 0 (MQ below (gQ dC dI (some (.int r9)) A [(ad 0, .inr (10, oM ad m_undoCount m_thrown m_hasSnapshot a_m_fam m_rows m_lineLength m_formattedLength m_bufferLength m_limit m_next m_beginsAt m_token m_error m_errorAt m_errorPosition m_nested m_codeCount)), ((ad 24), .inl (cI, 800, .inl m_buffer)), (a_m_fam, .inl (cJ, 130, .inr (.inl m_fam)))]) ([.ref (ad 0)] : List Value).toArray s 0 0 A) (F0 m 54 ls []) := by
    intro  H locs ls hf hP hD hS hl
    rw [p10_personHere_J54] at hf
    refine lv_iconst (v := -1) hx hb dX10_personHere_54 (by decide) ?_
    cases hf
    exact g_iret S hr hlocks hP hD hS dX10_personHere_55
  refine lv_iconst (v := 0) hx hb dX10_personHere_0 (by decide) ?_
  refine lv_istore_n (lv' := [(1, .int (0 : Int32)), (0, .ref (ad 0))]) hx hb dX10_personHere_1 rfl hl (by decide) rfl (fun ls hl => ?_)
  have K2 : ∀ (n2 : Nat) (v1_2 : Int32) (ex2 : (Int32) ⊕ (Unit)) (H : Heap) (locs : List Loc) (ls : Array Slot), p10_personHere_L2 m_beginsAt m_buffer m_fam m_next m_token n2 v1_2 = some ex2 → oc ex2 (fun r_x2 => some r_x2) (fun _ => p10_personHere_J54) = some r9 → va_P (dC, dI) vwCl [(ad 0, .inr (10, oM ad m_undoCount m_thrown m_hasSnapshot a_m_fam m_rows m_lineLength m_formattedLength m_bufferLength m_limit m_next m_beginsAt m_token m_error m_errorAt m_errorPosition m_nested m_codeCount)), ((ad 24), .inl (cI, 800, .inl m_buffer)), (a_m_fam, .inl (cJ, 130, .inr (.inl m_fam)))] H → va_D A [(ad 0, .inr (10, oM ad m_undoCount m_thrown m_hasSnapshot a_m_fam m_rows m_lineLength m_formattedLength m_bufferLength m_limit m_next m_beginsAt m_token m_error m_errorAt m_errorPosition m_nested m_codeCount)), ((ad 24), .inl (cI, 800, .inl m_buffer)), (a_m_fam, .inl (cJ, 130, .inr (.inl m_fam)))] → va_S A s.heap H locs → lv_has ls 2 [(0, .ref (ad 0)), (1, .int v1_2)] → W p l e ({ frames := 1, cells := 0, slots := 0, locals := 23 }) s m ([.ref (ad 0)] : List Value).toArray below meth c H locs 0 0 (MQ below (gQ dC dI (some (.int r9)) A [(ad 0, .inr (10, oM ad m_undoCount m_thrown m_hasSnapshot a_m_fam m_rows m_lineLength m_formattedLength m_bufferLength m_limit m_next m_beginsAt m_token m_error m_errorAt m_errorPosition m_nested m_codeCount)), ((ad 24), .inl (cI, 800, .inl m_buffer)), (a_m_fam, .inl (cJ, 130, .inr (.inl m_fam)))]) ([.ref (ad 0)] : List Value).toArray s 0 0 A) (F0 m 2 ls []) := by
    intro n2
    induction n2 with
    | zero => intro v1_2 ex2 H locs ls hf; rw [p10_personHere_L2] at hf; cases hf
    | succ n2 ih2 =>
      intro v1_2 ex2 H locs ls hf hk2 hP hD hS hl
      rw [p10_personHere_L2, p10_personHere_L2_B] at hf
      refine lv_iload_n hx hb dX10_personHere_2 rfl (lv_at hl 1 rfl) ?_
      refine lv_aload_n hx hb dX10_personHere_3 rfl (lv_at hl 0 rfl) ?_
      obtain ⟨r4, h9, hf⟩ := ob_s hf
      refine gcV (index := 121) S hE (c_X10_persons ad a_m_fam m_undoCount m_thrown m_hasSnapshot m_rows m_lineLength m_formattedLength m_bufferLength m_limit m_next m_beginsAt m_token m_error m_errorAt m_errorPosition m_nested m_codeCount m_fam r4 h9) mX10_persons tw1511 ⟨Nat.le_of_ble_eq_true rfl, Nat.le_of_ble_eq_true rfl⟩ hP hD hS hA ⟨Nat.zero_le _, Nat.zero_le _⟩ 0 10 rfl rfl rfl (wr := [((ad 24), .inl (cI, 800, .inl m_buffer))]) [0, 2] [1] rfl rfl rfl rfl (by decide) (As := []) (rest := [.int v1_2]) rfl hl.1 rfl (Nat.le_of_ble_eq_true rfl) dX10_personHere_4 (fun H locs hP hD hS => ?_)
      refine W.eq (g2 := F0 m 7 ls [.int r4, .int v1_2]) rfl ?_
      have hP : va_P (dC, dI) vwCl [((ad 24), .inl (cI, 800, .inl m_buffer)), (ad 0, .inr (10, oM ad m_undoCount m_thrown m_hasSnapshot a_m_fam m_rows m_lineLength m_formattedLength m_bufferLength m_limit m_next m_beginsAt m_token m_error m_errorAt m_errorPosition m_nested m_codeCount)), (a_m_fam, .inl (cJ, 130, .inr (.inl m_fam)))] H := hP
      have hD : va_D A [((ad 24), .inl (cI, 800, .inl m_buffer)), (ad 0, .inr (10, oM ad m_undoCount m_thrown m_hasSnapshot a_m_fam m_rows m_lineLength m_formattedLength m_bufferLength m_limit m_next m_beginsAt m_token m_error m_errorAt m_errorPosition m_nested m_codeCount)), (a_m_fam, .inl (cJ, 130, .inr (.inl m_fam)))] := hD
      refine lv_icmp_ge (tgt := 54) hx hb dX10_personHere_7 (by decide) (fun h9 => ?_) (fun h9 => ?_)
      · have hf := itt h9 hf
        cases hf
        have hf := hk2
        dsimp only [oc] at hf
        exact J54 H locs ls hf (hP.sub [1, 0, 2] rfl) (hD.sub [1, 0, 2] (by decide) rfl) hS (lv_sub hl [] rfl)
      · have hf := itf h9 hf
        refine lv_aload_n hx hb dX10_personHere_10 rfl (lv_at hl 0 rfl) ?_
        refine va_get (D := (dC, dI)) (ci := 10) (v := .int m_token) (C := RX10) (T := TX10) (N := 37) hx hb htg inX10 hown hE.1 hP 1 rfl rfl 28 (by decide) (htg _ tw1410) (fun _ h9 => h9) rfl dX10_personHere_11 ?_
        refine lv_iconst (v := 1) hx hb dX10_personHere_14 (by decide) ?_
        refine lv_icmp_ne (tgt := 54) hx hb dX10_personHere_15 (by decide) (fun h9 => ?_) (fun h9 => ?_)
        · have hf := itf h9 hf
          cases hf
          have hf := hk2
          dsimp only [oc] at hf
          exact J54 H locs ls hf (hP.sub [1, 0, 2] rfl) (hD.sub [1, 0, 2] (by decide) rfl) hS (lv_sub hl [] rfl)
        · have hf := itt h9 hf
          refine lv_aload_n hx hb dX10_personHere_18 rfl (lv_at hl 0 rfl) ?_
          refine va_get (D := (dC, dI)) (ci := 10) (v := .int m_next) (C := RX10) (T := TX10) (N := 37) hx hb htg inX10 hown hE.1 hP 1 rfl rfl 26 (by decide) (htg _ tw1408) (fun _ h9 => h9) rfl dX10_personHere_19 ?_
          refine lv_aload_n hx hb dX10_personHere_22 rfl (lv_at hl 0 rfl) ?_
          refine va_get (D := (dC, dI)) (ci := 10) (v := .int m_beginsAt) (C := RX10) (T := TX10) (N := 37) hx hb htg inX10 hown hE.1 hP 1 rfl rfl 27 (by decide) (htg _ tw1409) (fun _ h9 => h9) rfl dX10_personHere_23 ?_
          refine lv_isub hx hb dX10_personHere_26 ?_
          refine lv_bipush (v := 8) hx hb dX10_personHere_27 (by decide) ?_
          refine lv_icmp_gt (tgt := 54) hx hb dX10_personHere_29 (by decide) (fun h9 => ?_) (fun h9 => ?_)
          · have hf := itt h9 hf
            cases hf
            have hf := hk2
            dsimp only [oc] at hf
            exact J54 H locs ls hf (hP.sub [1, 0, 2] rfl) (hD.sub [1, 0, 2] (by decide) rfl) hS (lv_sub hl [] rfl)
          · have hf := itf h9 hf
            refine lv_aload_n hx hb dX10_personHere_32 rfl (lv_at hl 0 rfl) ?_
            refine lv_iload_n hx hb dX10_personHere_33 rfl (lv_at hl 1 rfl) ?_
            refine lv_iconst (v := 2) hx hb dX10_personHere_34 (by decide) ?_
            obtain ⟨r35, h9, hf⟩ := ob_s hf
            refine gcV (index := 98) S hE (c_X10_ofPerson ad a_m_fam m_undoCount m_thrown m_hasSnapshot m_rows m_lineLength m_formattedLength m_bufferLength m_limit m_next m_beginsAt m_token m_error m_errorAt m_errorPosition m_nested m_codeCount m_fam v1_2 (2 : Int32) r35 h9) mX10_ofPerson tw1519 ⟨Nat.le_of_ble_eq_true rfl, Nat.le_of_ble_eq_true rfl⟩ hP hD hS hA ⟨Nat.zero_le _, Nat.zero_le _⟩ 1 10 rfl rfl rfl (wr := [((ad 24), .inl (cI, 800, .inl m_buffer))]) [1, 2] [0] rfl rfl rfl rfl (by decide) (As := [.int v1_2, .int (2 : Int32)]) (rest := []) rfl hl.1 rfl (Nat.le_of_ble_eq_true rfl) dX10_personHere_35 (fun H locs hP hD hS => ?_)
            refine W.eq (g2 := F0 m 38 ls [.long r35]) rfl ?_
            have hP : va_P (dC, dI) vwCl [((ad 24), .inl (cI, 800, .inl m_buffer)), (ad 0, .inr (10, oM ad m_undoCount m_thrown m_hasSnapshot a_m_fam m_rows m_lineLength m_formattedLength m_bufferLength m_limit m_next m_beginsAt m_token m_error m_errorAt m_errorPosition m_nested m_codeCount)), (a_m_fam, .inl (cJ, 130, .inr (.inl m_fam)))] H := hP
            have hD : va_D A [((ad 24), .inl (cI, 800, .inl m_buffer)), (ad 0, .inr (10, oM ad m_undoCount m_thrown m_hasSnapshot a_m_fam m_rows m_lineLength m_formattedLength m_bufferLength m_limit m_next m_beginsAt m_token m_error m_errorAt m_errorPosition m_nested m_codeCount)), (a_m_fam, .inl (cJ, 130, .inr (.inl m_fam)))] := hD
            refine lv_aload_n hx hb dX10_personHere_38 rfl (lv_at hl 0 rfl) ?_
            obtain ⟨r39, h9, hf⟩ := ob_s hf
            refine gcV (index := 434) S hE (c_X10_nameHere ad a_m_fam m_undoCount m_thrown m_hasSnapshot m_rows m_lineLength m_formattedLength m_bufferLength m_limit m_next m_beginsAt m_token m_error m_errorAt m_errorPosition m_nested m_codeCount m_buffer r39 h9) mX10_nameHere tw1984 ⟨Nat.le_of_ble_eq_true rfl, Nat.le_of_ble_eq_true rfl⟩ hP hD hS hA ⟨Nat.zero_le _, Nat.zero_le _⟩ 1 10 rfl rfl rfl (wr := [(a_m_fam, .inl (cJ, 130, .inr (.inl m_fam)))]) [1, 0] [2] rfl rfl rfl rfl (by decide) (As := []) (rest := [.long r35]) rfl hl.1 rfl (Nat.le_of_ble_eq_true rfl) dX10_personHere_39 (fun H locs hP hD hS => ?_)
            refine W.eq (g2 := F0 m 42 ls [.long r39, .long r35]) rfl ?_
            have hP : va_P (dC, dI) vwCl [(a_m_fam, .inl (cJ, 130, .inr (.inl m_fam))), (ad 0, .inr (10, oM ad m_undoCount m_thrown m_hasSnapshot a_m_fam m_rows m_lineLength m_formattedLength m_bufferLength m_limit m_next m_beginsAt m_token m_error m_errorAt m_errorPosition m_nested m_codeCount)), ((ad 24), .inl (cI, 800, .inl m_buffer))] H := hP
            have hD : va_D A [(a_m_fam, .inl (cJ, 130, .inr (.inl m_fam))), (ad 0, .inr (10, oM ad m_undoCount m_thrown m_hasSnapshot a_m_fam m_rows m_lineLength m_formattedLength m_bufferLength m_limit m_next m_beginsAt m_token m_error m_errorAt m_errorPosition m_nested m_codeCount)), ((ad 24), .inl (cI, 800, .inl m_buffer))] := hD
            refine W.lcmp hx hb dX10_personHere_42 ?_
            refine lv_if_ne (tgt := 48) hx hb dX10_personHere_43 (by decide) (fun h9 => ?_) (fun h9 => ?_)
            · have h9 := fun q => h9 ((lg_cmp_eq _ _).mpr q)
              have hf := itf h9 hf
              obtain ⟨t48, h9⟩ : ∃ z : Int32, z = (v1_2 + (1 : Int32)) := ⟨_, rfl⟩
              have hf := lb_e h9 hf
              refine lv_iinc (v := t48) (lv' := [(1, .int t48), (0, .ref (ad 0))]) hx hb dX10_personHere_48 hl (k := 1) rfl (by rw [h9]; rfl) (by decide) rfl (fun ls hl => ?_)
              refine lv_goto (tgt := 2) hx hb dX10_personHere_51 (by decide) ?_
              exact ih2 t48 ex2 H locs ls hf hk2 (hP.sub [1, 2, 0] rfl) (hD.sub [1, 2, 0] (by decide) rfl) hS (lv_sub hl [1, 0] rfl)
            · have h9 := (lg_cmp_eq _ _).mp h9
              have hf := itt h9 hf
              refine lv_iload_n hx hb dX10_personHere_46 rfl (lv_at hl 1 rfl) ?_
              cases hf
              have hf := hk2
              dsimp only [oc] at hf
              cases hf
              exact g_iret S hr hlocks (hP.sub [1, 2, 0] rfl) (hD.sub [1, 2, 0] (by decide) rfl) hS dX10_personHere_47
  obtain ⟨ex, h9, hf⟩ := os_s hf
  exact K2 FU (0 : Int32) ex H locs ls h9 hf hP hD hS (lv_sub hl [1, 0] rfl)
set_option maxHeartbeats 4000000 in
set_option maxRecDepth 100000 in
theorem c_X10_readPerson (ad : Nat → Nat) (a_m_fam : Nat) (m_undoCount : Int32) (m_thrown : Int32) (m_hasSnapshot : Bool) (m_rows : Int32) (m_lineLength : Int32) (m_formattedLength : Int32) (m_bufferLength : Int32) (m_limit : Int32) (m_next : Int32) (m_beginsAt : Int32) (m_token : Int32) (m_error : Int32) (m_errorAt : Int32) (m_errorPosition : Int32) (m_nested : Int32) (m_codeCount : Int32) (m_buffer : Nat → Int32) (m_fam : Nat → Int64) (m_beginsAt_9 : Int32) (m_error_9 : Int32) (m_errorAt_9 : Int32) (m_fam_9 : Nat → Int64) (m_next_9 : Int32) (m_token_9 : Int32) (hf : p10_readPerson m_limit m_next m_beginsAt m_token m_error m_errorAt m_buffer m_fam = some (m_beginsAt_9, m_error_9, m_errorAt_9, m_fam_9, m_next_9, m_token_9)) : gM l dC dI cI cJ cZ yX10_readPerson cX10_readPerson 2 none (5) (105) [.ref (ad 0)] [(ad 0, .inr (10, oM ad m_undoCount m_thrown m_hasSnapshot a_m_fam m_rows m_lineLength m_formattedLength m_bufferLength m_limit m_next m_beginsAt m_token m_error m_errorAt m_errorPosition m_nested m_codeCount)), ((ad 24), .inl (cI, 800, .inl m_buffer)), (a_m_fam, .inl (cJ, 130, .inr (.inl m_fam)))] [(ad 0, .inr (10, oM ad m_undoCount m_thrown m_hasSnapshot a_m_fam m_rows m_lineLength m_formattedLength m_bufferLength m_limit m_next_9 m_beginsAt_9 m_token_9 m_error_9 m_errorAt_9 m_errorPosition m_nested m_codeCount)), ((ad 24), .inl (cI, 800, .inl m_buffer)), (a_m_fam, .inl (cJ, 130, .inr (.inl m_fam_9)))] none := by
  refine g_start (own := RX10) (by decide +kernel) rfl (Nat.le_of_ble_eq_true rfl) ?_
  intro p e s m below meth c A ls S hr hlocks hE hP hD hS hA hl hin
  have hx := S.1
  have hb := S.2.1
  have hml := S.2.2.1
  have hown := S.2.2.2.1
  have htg : ∀ z ∈ gw, z.before ([.ref (ad 0)] : List Value).toArray s = true := fun w h => S.2.2.2.2 w (List.mem_cons_of_mem _ h)
  have hl : lv_has ls 2 [(0, .ref (ad 0))] := hl
  have hS0 := hS
  obtain ⟨H, hH⟩ : ∃ H, H = s.heap := ⟨_, rfl⟩
  obtain ⟨locs, hlc⟩ : ∃ locs : List Loc, locs = [] := ⟨_, rfl⟩
  have hS : va_S A s.heap H locs := by rw [hH, hlc]; exact hS0
  have hP : va_P (dC, dI) vwCl [(ad 0, .inr (10, oM ad m_undoCount m_thrown m_hasSnapshot a_m_fam m_rows m_lineLength m_formattedLength m_bufferLength m_limit m_next m_beginsAt m_token m_error m_errorAt m_errorPosition m_nested m_codeCount)), ((ad 24), .inl (cI, 800, .inl m_buffer)), (a_m_fam, .inl (cJ, 130, .inr (.inl m_fam)))] H := by rw [hH]; exact hP
  suffices hgo : W p l e ({ frames := 5, cells := 0, slots := 0, locals := 105 }) s m ([.ref (ad 0)] : List Value).toArray below meth c H locs 0 0 (MQ below (gQ dC dI none A [(ad 0, .inr (10, oM ad m_undoCount m_thrown m_hasSnapshot a_m_fam m_rows m_lineLength m_formattedLength m_bufferLength m_limit m_next_9 m_beginsAt_9 m_token_9 m_error_9 m_errorAt_9 m_errorPosition m_nested m_codeCount)), ((ad 24), .inl (cI, 800, .inl m_buffer)), (a_m_fam, .inl (cJ, 130, .inr (.inl m_fam_9)))]) ([.ref (ad 0)] : List Value).toArray s 0 0 A) (F0 m 0 ls []) by rw [hH, hlc] at hgo; exact hgo
  rw [p10_readPerson] at hf
  have J87 : ∀ (m_next_87 : Int32) (m_beginsAt_87 : Int32) (m_token_87 : Int32) (m_error_87 : Int32) (m_errorAt_87 : Int32) (H : Heap) (locs : List Loc) (ls : Array Slot), p10_readPerson_J87 m_buffer m_fam m_limit m_next_87 m_beginsAt_87 m_token_87 m_error_87 m_errorAt_87 = some (m_beginsAt_9, m_error_9, m_errorAt_9, m_fam_9, m_next_9, m_token_9) → va_P (dC, dI) vwCl [(ad 0, .inr (10, oM ad m_undoCount m_thrown m_hasSnapshot a_m_fam m_rows m_lineLength m_formattedLength m_bufferLength m_limit m_next_87 m_beginsAt_87 m_token_87 m_error_87 m_errorAt_87 m_errorPosition m_nested m_codeCount)), ((ad 24), .inl (cI, 800, .inl m_buffer)), (a_m_fam, .inl (cJ, 130, .inr (.inl m_fam)))] H → va_D A [(ad 0, .inr (10, oM ad m_undoCount m_thrown m_hasSnapshot a_m_fam m_rows m_lineLength m_formattedLength m_bufferLength m_limit m_next_87 m_beginsAt_87 m_token_87 m_error_87 m_errorAt_87 m_errorPosition m_nested m_codeCount)), ((ad 24), .inl (cI, 800, .inl m_buffer)), (a_m_fam, .inl (cJ, 130, .inr (.inl m_fam)))] → va_S A s.heap H locs → lv_has ls 2 [(0, .ref (ad 0))] → W p l e ({ frames := 5, cells := 0, slots := 0, locals := 105 }) s m ([.ref (ad 0)] : List Value).toArray below meth c H locs 0 0 (MQ below (gQ dC dI none A [(ad 0, .inr (10, oM ad m_undoCount m_thrown m_hasSnapshot a_m_fam m_rows m_lineLength m_formattedLength m_bufferLength m_limit m_next_9 m_beginsAt_9 m_token_9 m_error_9 m_errorAt_9 m_errorPosition m_nested m_codeCount)), ((ad 24), .inl (cI, 800, .inl m_buffer)), (a_m_fam, .inl (cJ, 130, .inr (.inl m_fam_9)))]) ([.ref (ad 0)] : List Value).toArray s 0 0 A) (F0 m 87 ls []) := by
    intro m_next_87 m_beginsAt_87 m_token_87 m_error_87 m_errorAt_87 H locs ls hf hP hD hS hl
    rw [p10_readPerson_J87] at hf
    refine lv_aload_n hx hb dX10_readPerson_87 rfl (lv_at hl 0 rfl) ?_
    refine va_get (D := (dC, dI)) (ci := 10) (v := .int m_error_87) (C := RX10) (T := TX10) (N := 37) hx hb htg inX10 hown hE.1 hP 0 rfl rfl 29 (by decide) (htg _ tw1411) (fun _ h9 => h9) rfl dX10_readPerson_88 ?_
    refine lv_if_eq (tgt := 95) hx hb dX10_readPerson_91 (by decide) (fun h9 => ?_) (fun h9 => ?_)
    · have hf := itt h9 hf
      refine lv_aload_n hx hb dX10_readPerson_95 rfl (lv_at hl 0 rfl) ?_
      obtain ⟨r96, h9, hf⟩ := ob_s hf
      refine gcV (index := 121) S hE (c_X10_persons ad a_m_fam m_undoCount m_thrown m_hasSnapshot m_rows m_lineLength m_formattedLength m_bufferLength m_limit m_next_87 m_beginsAt_87 m_token_87 m_error_87 m_errorAt_87 m_errorPosition m_nested m_codeCount m_fam r96 h9) mX10_persons tw1511 ⟨Nat.le_of_ble_eq_true rfl, Nat.le_of_ble_eq_true rfl⟩ hP hD hS hA ⟨Nat.zero_le _, Nat.zero_le _⟩ 0 10 rfl rfl rfl (wr := [((ad 24), .inl (cI, 800, .inl m_buffer))]) [0, 2] [1] rfl rfl rfl rfl (by decide) (As := []) (rest := []) rfl hl.1 rfl (Nat.le_of_ble_eq_true rfl) dX10_readPerson_96 (fun H locs hP hD hS => ?_)
      refine W.eq (g2 := F0 m 99 ls [.int r96]) rfl ?_
      have hP : va_P (dC, dI) vwCl [((ad 24), .inl (cI, 800, .inl m_buffer)), (ad 0, .inr (10, oM ad m_undoCount m_thrown m_hasSnapshot a_m_fam m_rows m_lineLength m_formattedLength m_bufferLength m_limit m_next_87 m_beginsAt_87 m_token_87 m_error_87 m_errorAt_87 m_errorPosition m_nested m_codeCount)), (a_m_fam, .inl (cJ, 130, .inr (.inl m_fam)))] H := hP
      have hD : va_D A [((ad 24), .inl (cI, 800, .inl m_buffer)), (ad 0, .inr (10, oM ad m_undoCount m_thrown m_hasSnapshot a_m_fam m_rows m_lineLength m_formattedLength m_bufferLength m_limit m_next_87 m_beginsAt_87 m_token_87 m_error_87 m_errorAt_87 m_errorPosition m_nested m_codeCount)), (a_m_fam, .inl (cJ, 130, .inr (.inl m_fam)))] := hD
      refine lv_istore_n (lv' := [(1, .int r96), (0, .ref (ad 0))]) hx hb dX10_readPerson_99 rfl hl (by decide) rfl (fun ls hl => ?_)
      refine lv_aload_n hx hb dX10_readPerson_100 rfl (lv_at hl 1 rfl) ?_
      refine lv_iload_n hx hb dX10_readPerson_101 rfl (lv_at hl 0 rfl) ?_
      refine lv_iconst (v := 2) hx hb dX10_readPerson_102 (by decide) ?_
      refine lv_aload_n hx hb dX10_readPerson_103 rfl (lv_at hl 1 rfl) ?_
      obtain ⟨r104, h9, hf⟩ := ob_s hf
      refine gcV (index := 434) S hE (c_X10_nameHere ad a_m_fam m_undoCount m_thrown m_hasSnapshot m_rows m_lineLength m_formattedLength m_bufferLength m_limit m_next_87 m_beginsAt_87 m_token_87 m_error_87 m_errorAt_87 m_errorPosition m_nested m_codeCount m_buffer r104 h9) mX10_nameHere tw1984 ⟨Nat.le_of_ble_eq_true rfl, Nat.le_of_ble_eq_true rfl⟩ hP hD hS hA ⟨Nat.zero_le _, Nat.zero_le _⟩ 1 10 rfl rfl rfl (wr := [(a_m_fam, .inl (cJ, 130, .inr (.inl m_fam)))]) [1, 0] [2] rfl rfl rfl rfl (by decide) (As := []) (rest := [.int (2 : Int32), .int r96, .ref (ad 0)]) rfl hl.1 rfl (Nat.le_of_ble_eq_true rfl) dX10_readPerson_104 (fun H locs hP hD hS => ?_)
      refine W.eq (g2 := F0 m 107 ls [.long r104, .int (2 : Int32), .int r96, .ref (ad 0)]) rfl ?_
      have hP : va_P (dC, dI) vwCl [(a_m_fam, .inl (cJ, 130, .inr (.inl m_fam))), (ad 0, .inr (10, oM ad m_undoCount m_thrown m_hasSnapshot a_m_fam m_rows m_lineLength m_formattedLength m_bufferLength m_limit m_next_87 m_beginsAt_87 m_token_87 m_error_87 m_errorAt_87 m_errorPosition m_nested m_codeCount)), ((ad 24), .inl (cI, 800, .inl m_buffer))] H := hP
      have hD : va_D A [(a_m_fam, .inl (cJ, 130, .inr (.inl m_fam))), (ad 0, .inr (10, oM ad m_undoCount m_thrown m_hasSnapshot a_m_fam m_rows m_lineLength m_formattedLength m_bufferLength m_limit m_next_87 m_beginsAt_87 m_token_87 m_error_87 m_errorAt_87 m_errorPosition m_nested m_codeCount)), ((ad 24), .inl (cI, 800, .inl m_buffer))] := hD
      obtain ⟨m_fam_107, h9, hf⟩ := ob_s hf
      refine gcV (index := 339) S hE (c_X10_putPerson ad a_m_fam m_undoCount m_thrown m_hasSnapshot m_rows m_lineLength m_formattedLength m_bufferLength m_limit m_next_87 m_beginsAt_87 m_token_87 m_error_87 m_errorAt_87 m_errorPosition m_nested m_codeCount m_fam r96 (2 : Int32) r104 m_fam_107 h9) mX10_putPerson tw1869 ⟨Nat.le_of_ble_eq_true rfl, Nat.le_of_ble_eq_true rfl⟩ hP hD hS hA ⟨Nat.zero_le _, Nat.zero_le _⟩ 1 10 rfl rfl rfl (wr := [((ad 24), .inl (cI, 800, .inl m_buffer))]) [1, 0] [2] rfl rfl rfl rfl (by decide) (As := [.int r96, .int (2 : Int32), .long r104]) (rest := []) rfl hl.1 rfl (Nat.le_of_ble_eq_true rfl) dX10_readPerson_107 (fun H locs hP hD hS => ?_)
      refine W.eq (g2 := F0 m 110 ls []) rfl ?_
      have hP : va_P (dC, dI) vwCl [((ad 24), .inl (cI, 800, .inl m_buffer)), (ad 0, .inr (10, oM ad m_undoCount m_thrown m_hasSnapshot a_m_fam m_rows m_lineLength m_formattedLength m_bufferLength m_limit m_next_87 m_beginsAt_87 m_token_87 m_error_87 m_errorAt_87 m_errorPosition m_nested m_codeCount)), (a_m_fam, .inl (cJ, 130, .inr (.inl m_fam_107)))] H := hP
      have hD : va_D A [((ad 24), .inl (cI, 800, .inl m_buffer)), (ad 0, .inr (10, oM ad m_undoCount m_thrown m_hasSnapshot a_m_fam m_rows m_lineLength m_formattedLength m_bufferLength m_limit m_next_87 m_beginsAt_87 m_token_87 m_error_87 m_errorAt_87 m_errorPosition m_nested m_codeCount)), (a_m_fam, .inl (cJ, 130, .inr (.inl m_fam_107)))] := hD
      refine lv_aload_n hx hb dX10_readPerson_110 rfl (lv_at hl 1 rfl) ?_
      refine lv_iload_n hx hb dX10_readPerson_111 rfl (lv_at hl 0 rfl) ?_
      refine lv_iconst (v := 3) hx hb dX10_readPerson_112 (by decide) ?_
      refine lv_aload_n hx hb dX10_readPerson_113 rfl (lv_at hl 1 rfl) ?_
      refine va_get (D := (dC, dI)) (ci := 10) (v := .int m_next_87) (C := RX10) (T := TX10) (N := 37) hx hb htg inX10 hown hE.1 hP 1 rfl rfl 26 (by decide) (htg _ tw1408) (fun _ h9 => h9) rfl dX10_readPerson_114 ?_
      refine lv_aload_n hx hb dX10_readPerson_117 rfl (lv_at hl 1 rfl) ?_
      refine va_get (D := (dC, dI)) (ci := 10) (v := .int m_beginsAt_87) (C := RX10) (T := TX10) (N := 37) hx hb htg inX10 hown hE.1 hP 1 rfl rfl 27 (by decide) (htg _ tw1409) (fun _ h9 => h9) rfl dX10_readPerson_118 ?_
      refine lv_isub hx hb dX10_readPerson_121 ?_
      refine lv_i2l hx hb dX10_readPerson_122 rfl ?_
      obtain ⟨m_fam_123, h9, hf⟩ := ob_s hf
      refine gcV (index := 339) S hE (c_X10_putPerson ad a_m_fam m_undoCount m_thrown m_hasSnapshot m_rows m_lineLength m_formattedLength m_bufferLength m_limit m_next_87 m_beginsAt_87 m_token_87 m_error_87 m_errorAt_87 m_errorPosition m_nested m_codeCount m_fam_107 r96 (3 : Int32) ((m_next_87 - m_beginsAt_87).toInt64) m_fam_123 h9) mX10_putPerson tw1869 ⟨Nat.le_of_ble_eq_true rfl, Nat.le_of_ble_eq_true rfl⟩ hP hD hS hA ⟨Nat.zero_le _, Nat.zero_le _⟩ 1 10 rfl rfl rfl (wr := [((ad 24), .inl (cI, 800, .inl m_buffer))]) [1, 2] [0] rfl rfl rfl rfl (by decide) (As := [.int r96, .int (3 : Int32), .long (m_next_87 - m_beginsAt_87).toInt64]) (rest := []) rfl hl.1 rfl (Nat.le_of_ble_eq_true rfl) dX10_readPerson_123 (fun H locs hP hD hS => ?_)
      refine W.eq (g2 := F0 m 126 ls []) rfl ?_
      have hP : va_P (dC, dI) vwCl [((ad 24), .inl (cI, 800, .inl m_buffer)), (ad 0, .inr (10, oM ad m_undoCount m_thrown m_hasSnapshot a_m_fam m_rows m_lineLength m_formattedLength m_bufferLength m_limit m_next_87 m_beginsAt_87 m_token_87 m_error_87 m_errorAt_87 m_errorPosition m_nested m_codeCount)), (a_m_fam, .inl (cJ, 130, .inr (.inl m_fam_123)))] H := hP
      have hD : va_D A [((ad 24), .inl (cI, 800, .inl m_buffer)), (ad 0, .inr (10, oM ad m_undoCount m_thrown m_hasSnapshot a_m_fam m_rows m_lineLength m_formattedLength m_bufferLength m_limit m_next_87 m_beginsAt_87 m_token_87 m_error_87 m_errorAt_87 m_errorPosition m_nested m_codeCount)), (a_m_fam, .inl (cJ, 130, .inr (.inl m_fam_123)))] := hD
      refine lv_aload_n hx hb dX10_readPerson_126 rfl (lv_at hl 1 rfl) ?_
      refine lv_iload_n hx hb dX10_readPerson_127 rfl (lv_at hl 0 rfl) ?_
      refine lv_iconst (v := 1) hx hb dX10_readPerson_128 (by decide) ?_
      refine lv_ldc2 (own := RX10) (v := -1) hx hb hown (htg _ tw1672) dX10_readPerson_129 ?_
      obtain ⟨m_fam_132, h9, hf⟩ := ob_s hf
      refine gcV (index := 339) S hE (c_X10_putPerson ad a_m_fam m_undoCount m_thrown m_hasSnapshot m_rows m_lineLength m_formattedLength m_bufferLength m_limit m_next_87 m_beginsAt_87 m_token_87 m_error_87 m_errorAt_87 m_errorPosition m_nested m_codeCount m_fam_123 r96 (1 : Int32) (-1 : Int64) m_fam_132 h9) mX10_putPerson tw1869 ⟨Nat.le_of_ble_eq_true rfl, Nat.le_of_ble_eq_true rfl⟩ hP hD hS hA ⟨Nat.zero_le _, Nat.zero_le _⟩ 1 10 rfl rfl rfl (wr := [((ad 24), .inl (cI, 800, .inl m_buffer))]) [1, 2] [0] rfl rfl rfl rfl (by decide) (As := [.int r96, .int (1 : Int32), .long (-1 : Int64)]) (rest := []) rfl hl.1 rfl (Nat.le_of_ble_eq_true rfl) dX10_readPerson_132 (fun H locs hP hD hS => ?_)
      refine W.eq (g2 := F0 m 135 ls []) rfl ?_
      have hP : va_P (dC, dI) vwCl [((ad 24), .inl (cI, 800, .inl m_buffer)), (ad 0, .inr (10, oM ad m_undoCount m_thrown m_hasSnapshot a_m_fam m_rows m_lineLength m_formattedLength m_bufferLength m_limit m_next_87 m_beginsAt_87 m_token_87 m_error_87 m_errorAt_87 m_errorPosition m_nested m_codeCount)), (a_m_fam, .inl (cJ, 130, .inr (.inl m_fam_132)))] H := hP
      have hD : va_D A [((ad 24), .inl (cI, 800, .inl m_buffer)), (ad 0, .inr (10, oM ad m_undoCount m_thrown m_hasSnapshot a_m_fam m_rows m_lineLength m_formattedLength m_bufferLength m_limit m_next_87 m_beginsAt_87 m_token_87 m_error_87 m_errorAt_87 m_errorPosition m_nested m_codeCount)), (a_m_fam, .inl (cJ, 130, .inr (.inl m_fam_132)))] := hD
      refine lv_aload_n hx hb dX10_readPerson_135 rfl (lv_at hl 1 rfl) ?_
      obtain ⟨⟨m_beginsAt_136, m_next_136, m_token_136⟩, h9, hf⟩ := ob_s hf
      have hf := uc3_e hf
      refine gcV (index := 419) S hE (c_X10_advance ad a_m_fam m_undoCount m_thrown m_hasSnapshot m_rows m_lineLength m_formattedLength m_bufferLength m_limit m_next_87 m_beginsAt_87 m_token_87 m_error_87 m_errorAt_87 m_errorPosition m_nested m_codeCount m_buffer m_beginsAt_136 m_next_136 m_token_136 h9) mX10_advance tw1976 ⟨Nat.le_of_ble_eq_true rfl, Nat.le_of_ble_eq_true rfl⟩ hP hD hS hA ⟨Nat.zero_le _, Nat.zero_le _⟩ 1 10 rfl rfl rfl (wr := [(a_m_fam, .inl (cJ, 130, .inr (.inl m_fam_132)))]) [1, 0] [2] rfl rfl rfl rfl (by decide) (As := []) (rest := []) rfl hl.1 rfl (Nat.le_of_ble_eq_true rfl) dX10_readPerson_136 (fun H locs hP hD hS => ?_)
      refine W.eq (g2 := F0 m 139 ls []) rfl ?_
      have hP : va_P (dC, dI) vwCl [(a_m_fam, .inl (cJ, 130, .inr (.inl m_fam_132))), (ad 0, .inr (10, oM ad m_undoCount m_thrown m_hasSnapshot a_m_fam m_rows m_lineLength m_formattedLength m_bufferLength m_limit m_next_136 m_beginsAt_136 m_token_136 m_error_87 m_errorAt_87 m_errorPosition m_nested m_codeCount)), ((ad 24), .inl (cI, 800, .inl m_buffer))] H := hP
      have hD : va_D A [(a_m_fam, .inl (cJ, 130, .inr (.inl m_fam_132))), (ad 0, .inr (10, oM ad m_undoCount m_thrown m_hasSnapshot a_m_fam m_rows m_lineLength m_formattedLength m_bufferLength m_limit m_next_136 m_beginsAt_136 m_token_136 m_error_87 m_errorAt_87 m_errorPosition m_nested m_codeCount)), ((ad 24), .inl (cI, 800, .inl m_buffer))] := hD
      refine lv_aload_n hx hb dX10_readPerson_139 rfl (lv_at hl 1 rfl) ?_
      refine lv_iload_n hx hb dX10_readPerson_140 rfl (lv_at hl 0 rfl) ?_
      refine lv_iconst (v := 0) hx hb dX10_readPerson_141 (by decide) ?_
      refine lv_aload_n hx hb dX10_readPerson_142 rfl (lv_at hl 1 rfl) ?_
      refine lv_iconst (v := 0) hx hb dX10_readPerson_143 (by decide) ?_
      refine lv_sipush (v := 2100) hx hb dX10_readPerson_144 (by decide) ?_
      obtain ⟨⟨r147, m_beginsAt_147, m_error_147, m_errorAt_147, m_next_147, m_token_147⟩, h9, hf⟩ := ob_s hf
      have hf := uc6_e hf
      refine gcV (index := 441) S hE (c_X10_readNumber ad a_m_fam m_undoCount m_thrown m_hasSnapshot m_rows m_lineLength m_formattedLength m_bufferLength m_limit m_next_136 m_beginsAt_136 m_token_136 m_error_87 m_errorAt_87 m_errorPosition m_nested m_codeCount m_buffer (0 : Int32) (2100 : Int32) r147 m_beginsAt_147 m_error_147 m_errorAt_147 m_next_147 m_token_147 h9) mX10_readNumber tw1989 ⟨Nat.le_of_ble_eq_true rfl, Nat.le_of_ble_eq_true rfl⟩ hP hD hS hA ⟨Nat.zero_le _, Nat.zero_le _⟩ 1 10 rfl rfl rfl (wr := [(a_m_fam, .inl (cJ, 130, .inr (.inl m_fam_132)))]) [1, 2] [0] rfl rfl rfl rfl (by decide) (As := [.int (0 : Int32), .int (2100 : Int32)]) (rest := [.int (0 : Int32), .int r96, .ref (ad 0)]) rfl hl.1 rfl (Nat.le_of_ble_eq_true rfl) dX10_readPerson_147 (fun H locs hP hD hS => ?_)
      refine W.eq (g2 := F0 m 150 ls [.int r147, .int (0 : Int32), .int r96, .ref (ad 0)]) rfl ?_
      have hP : va_P (dC, dI) vwCl [(a_m_fam, .inl (cJ, 130, .inr (.inl m_fam_132))), (ad 0, .inr (10, oM ad m_undoCount m_thrown m_hasSnapshot a_m_fam m_rows m_lineLength m_formattedLength m_bufferLength m_limit m_next_147 m_beginsAt_147 m_token_147 m_error_147 m_errorAt_147 m_errorPosition m_nested m_codeCount)), ((ad 24), .inl (cI, 800, .inl m_buffer))] H := hP
      have hD : va_D A [(a_m_fam, .inl (cJ, 130, .inr (.inl m_fam_132))), (ad 0, .inr (10, oM ad m_undoCount m_thrown m_hasSnapshot a_m_fam m_rows m_lineLength m_formattedLength m_bufferLength m_limit m_next_147 m_beginsAt_147 m_token_147 m_error_147 m_errorAt_147 m_errorPosition m_nested m_codeCount)), ((ad 24), .inl (cI, 800, .inl m_buffer))] := hD
      refine lv_i2l hx hb dX10_readPerson_150 rfl ?_
      obtain ⟨m_fam_151, h9, hf⟩ := ob_s hf
      refine gcV (index := 339) S hE (c_X10_putPerson ad a_m_fam m_undoCount m_thrown m_hasSnapshot m_rows m_lineLength m_formattedLength m_bufferLength m_limit m_next_147 m_beginsAt_147 m_token_147 m_error_147 m_errorAt_147 m_errorPosition m_nested m_codeCount m_fam_132 r96 (0 : Int32) r147.toInt64 m_fam_151 h9) mX10_putPerson tw1869 ⟨Nat.le_of_ble_eq_true rfl, Nat.le_of_ble_eq_true rfl⟩ hP hD hS hA ⟨Nat.zero_le _, Nat.zero_le _⟩ 1 10 rfl rfl rfl (wr := [((ad 24), .inl (cI, 800, .inl m_buffer))]) [1, 0] [2] rfl rfl rfl rfl (by decide) (As := [.int r96, .int (0 : Int32), .long r147.toInt64]) (rest := []) rfl hl.1 rfl (Nat.le_of_ble_eq_true rfl) dX10_readPerson_151 (fun H locs hP hD hS => ?_)
      refine W.eq (g2 := F0 m 154 ls []) rfl ?_
      have hP : va_P (dC, dI) vwCl [((ad 24), .inl (cI, 800, .inl m_buffer)), (ad 0, .inr (10, oM ad m_undoCount m_thrown m_hasSnapshot a_m_fam m_rows m_lineLength m_formattedLength m_bufferLength m_limit m_next_147 m_beginsAt_147 m_token_147 m_error_147 m_errorAt_147 m_errorPosition m_nested m_codeCount)), (a_m_fam, .inl (cJ, 130, .inr (.inl m_fam_151)))] H := hP
      have hD : va_D A [((ad 24), .inl (cI, 800, .inl m_buffer)), (ad 0, .inr (10, oM ad m_undoCount m_thrown m_hasSnapshot a_m_fam m_rows m_lineLength m_formattedLength m_bufferLength m_limit m_next_147 m_beginsAt_147 m_token_147 m_error_147 m_errorAt_147 m_errorPosition m_nested m_codeCount)), (a_m_fam, .inl (cJ, 130, .inr (.inl m_fam_151)))] := hD
      refine lv_aload_n hx hb dX10_readPerson_154 rfl (lv_at hl 1 rfl) ?_
      refine va_get (D := (dC, dI)) (ci := 10) (v := .ref a_m_fam) (C := RX10) (T := TX10) (N := 37) hx hb htg inX10 hown hE.1 hP 1 rfl rfl 7 (by decide) (htg _ tw1389) (fun _ h9 => h9) rfl dX10_readPerson_155 ?_
      refine lv_iconst (v := 0) hx hb dX10_readPerson_158 (by decide) ?_
      refine lv_dup2_11 hx hb dX10_readPerson_159 rfl rfl ?_
      obtain ⟨h9, hf⟩ := gd_s hf
      refine va_lald hx hb hE.1 hP 2 1 rfl rfl h9 dX10_readPerson_160 ?_
      refine lv_lconst (v := 1) hx hb dX10_readPerson_161 (by decide) ?_
      refine lv_ladd hx hb dX10_readPerson_162 ?_
      obtain ⟨h9, hf⟩ := gd_s hf
      refine va_last hx hb hE.1 hP hD hS 2 1 rfl rfl h9 dX10_readPerson_163 (fun H locs hP hD hS => ?_)
      obtain ⟨g163, h9⟩ : ∃ z, z = (vp_updL m_fam_151 (0 : Int32).toNatClampNeg ((m_fam_151 (0 : Int32).toNatClampNeg) + (1 : Int64))) := ⟨_, rfl⟩
      have hf := lb_e h9 hf
      have hP : va_P (dC, dI) vwCl [((ad 24), .inl (cI, 800, .inl m_buffer)), (ad 0, .inr (10, oM ad m_undoCount m_thrown m_hasSnapshot a_m_fam m_rows m_lineLength m_formattedLength m_bufferLength m_limit m_next_147 m_beginsAt_147 m_token_147 m_error_147 m_errorAt_147 m_errorPosition m_nested m_codeCount)), (a_m_fam, .inl (cJ, 130, .inr (.inl g163)))] H := by rw [h9]; exact hP
      have hD : va_D A [((ad 24), .inl (cI, 800, .inl m_buffer)), (ad 0, .inr (10, oM ad m_undoCount m_thrown m_hasSnapshot a_m_fam m_rows m_lineLength m_formattedLength m_bufferLength m_limit m_next_147 m_beginsAt_147 m_token_147 m_error_147 m_errorAt_147 m_errorPosition m_nested m_codeCount)), (a_m_fam, .inl (cJ, 130, .inr (.inl g163)))] := by rw [h9]; exact hD
      cases hf
      exact g_vret S hr hlocks (hP.sub [1, 0, 2] rfl) (hD.sub [1, 0, 2] (by decide) rfl) hS dX10_readPerson_164
    · have hf := itf h9 hf
      cases hf
      exact g_vret S hr hlocks hP hD hS dX10_readPerson_94
  have J62 : ∀ (m_next_62 : Int32) (m_beginsAt_62 : Int32) (m_token_62 : Int32) (m_error_62 : Int32) (m_errorAt_62 : Int32) (H : Heap) (locs : List Loc) (ls : Array Slot), p10_readPerson_J62 m_buffer m_fam m_limit m_next_62 m_beginsAt_62 m_token_62 m_error_62 m_errorAt_62 = some (m_beginsAt_9, m_error_9, m_errorAt_9, m_fam_9, m_next_9, m_token_9) → va_P (dC, dI) vwCl [(ad 0, .inr (10, oM ad m_undoCount m_thrown m_hasSnapshot a_m_fam m_rows m_lineLength m_formattedLength m_bufferLength m_limit m_next_62 m_beginsAt_62 m_token_62 m_error_62 m_errorAt_62 m_errorPosition m_nested m_codeCount)), ((ad 24), .inl (cI, 800, .inl m_buffer)), (a_m_fam, .inl (cJ, 130, .inr (.inl m_fam)))] H → va_D A [(ad 0, .inr (10, oM ad m_undoCount m_thrown m_hasSnapshot a_m_fam m_rows m_lineLength m_formattedLength m_bufferLength m_limit m_next_62 m_beginsAt_62 m_token_62 m_error_62 m_errorAt_62 m_errorPosition m_nested m_codeCount)), ((ad 24), .inl (cI, 800, .inl m_buffer)), (a_m_fam, .inl (cJ, 130, .inr (.inl m_fam)))] → va_S A s.heap H locs → lv_has ls 2 [(0, .ref (ad 0))] → W p l e ({ frames := 5, cells := 0, slots := 0, locals := 105 }) s m ([.ref (ad 0)] : List Value).toArray below meth c H locs 0 0 (MQ below (gQ dC dI none A [(ad 0, .inr (10, oM ad m_undoCount m_thrown m_hasSnapshot a_m_fam m_rows m_lineLength m_formattedLength m_bufferLength m_limit m_next_9 m_beginsAt_9 m_token_9 m_error_9 m_errorAt_9 m_errorPosition m_nested m_codeCount)), ((ad 24), .inl (cI, 800, .inl m_buffer)), (a_m_fam, .inl (cJ, 130, .inr (.inl m_fam_9)))]) ([.ref (ad 0)] : List Value).toArray s 0 0 A) (F0 m 62 ls []) := by
    intro m_next_62 m_beginsAt_62 m_token_62 m_error_62 m_errorAt_62 H locs ls hf hP hD hS hl
    rw [p10_readPerson_J62] at hf
    refine lv_aload_n hx hb dX10_readPerson_62 rfl (lv_at hl 0 rfl) ?_
    refine lv_aload_n hx hb dX10_readPerson_63 rfl (lv_at hl 0 rfl) ?_
    refine va_get (D := (dC, dI)) (ci := 10) (v := .int m_error_62) (C := RX10) (T := TX10) (N := 37) hx hb htg inX10 hown hE.1 hP 0 rfl rfl 29 (by decide) (htg _ tw1411) (fun _ h9 => h9) rfl dX10_readPerson_64 ?_
    refine lv_if_ne (tgt := 78) hx hb dX10_readPerson_67 (by decide) (fun h9 => ?_) (fun h9 => ?_)
    · have hf := itf h9 hf
      refine lv_iconst (v := 1) hx hb dX10_readPerson_78 (by decide) ?_
      refine lv_goto (tgt := 83) hx hb dX10_readPerson_79 (by decide) ?_
      refine lv_iconst (v := 4) hx hb dX10_readPerson_83 (by decide) ?_
      obtain ⟨m_error_84, m_errorAt_84, h9⟩ : ∃ m_error_84 m_errorAt_84, p10_check m_beginsAt_62 m_error_62 m_errorAt_62 true (4 : Int32) = (m_error_84, m_errorAt_84) := ⟨_, _, rfl⟩
      have hf := uc2_e (lb_e h9.symm hf)
      refine gcV (index := 415) S hE (c_X10_check ad a_m_fam m_undoCount m_thrown m_hasSnapshot m_rows m_lineLength m_formattedLength m_bufferLength m_limit m_next_62 m_beginsAt_62 m_token_62 m_error_62 m_errorAt_62 m_errorPosition m_nested m_codeCount true (4 : Int32) m_error_84 m_errorAt_84 h9) mX10_check tw1968 ⟨Nat.le_of_ble_eq_true rfl, Nat.le_of_ble_eq_true rfl⟩ hP hD hS hA ⟨Nat.zero_le _, Nat.zero_le _⟩ 0 10 rfl rfl rfl (wr := [((ad 24), .inl (cI, 800, .inl m_buffer)), (a_m_fam, .inl (cJ, 130, .inr (.inl m_fam)))]) [0] [1, 2] rfl rfl rfl rfl (by decide) (As := [.int (bI true), .int (4 : Int32)]) (rest := []) rfl hl.1 rfl (Nat.le_of_ble_eq_true rfl) dX10_readPerson_84 (fun H locs hP hD hS => ?_)
      refine W.eq (g2 := F0 m 87 ls []) rfl ?_
      have hP : va_P (dC, dI) vwCl [((ad 24), .inl (cI, 800, .inl m_buffer)), (a_m_fam, .inl (cJ, 130, .inr (.inl m_fam))), (ad 0, .inr (10, oM ad m_undoCount m_thrown m_hasSnapshot a_m_fam m_rows m_lineLength m_formattedLength m_bufferLength m_limit m_next_62 m_beginsAt_62 m_token_62 m_error_84 m_errorAt_84 m_errorPosition m_nested m_codeCount))] H := hP
      have hD : va_D A [((ad 24), .inl (cI, 800, .inl m_buffer)), (a_m_fam, .inl (cJ, 130, .inr (.inl m_fam))), (ad 0, .inr (10, oM ad m_undoCount m_thrown m_hasSnapshot a_m_fam m_rows m_lineLength m_formattedLength m_bufferLength m_limit m_next_62 m_beginsAt_62 m_token_62 m_error_84 m_errorAt_84 m_errorPosition m_nested m_codeCount))] := hD
      exact J87 m_next_62 m_beginsAt_62 m_token_62 m_error_84 m_errorAt_84 H locs ls hf (hP.sub [2, 0, 1] rfl) (hD.sub [2, 0, 1] (by decide) rfl) hS (lv_sub hl [0] rfl)
    · have hf := itt h9 hf
      refine lv_aload_n hx hb dX10_readPerson_70 rfl (lv_at hl 0 rfl) ?_
      obtain ⟨r71, h9, hf⟩ := ob_s hf
      refine gcV (index := 438) S hE (c_X10_personHere ad a_m_fam m_undoCount m_thrown m_hasSnapshot m_rows m_lineLength m_formattedLength m_bufferLength m_limit m_next_62 m_beginsAt_62 m_token_62 m_error_62 m_errorAt_62 m_errorPosition m_nested m_codeCount m_buffer m_fam r71 h9) mX10_personHere tw1980 ⟨Nat.le_of_ble_eq_true rfl, Nat.le_of_ble_eq_true rfl⟩ hP hD hS hA ⟨Nat.zero_le _, Nat.zero_le _⟩ 0 10 rfl rfl rfl (wr := []) [0, 1, 2] [] rfl rfl rfl rfl (by decide) (As := []) (rest := [.ref (ad 0)]) rfl hl.1 rfl (Nat.le_of_ble_eq_true rfl) dX10_readPerson_71 (fun H locs hP hD hS => ?_)
      refine W.eq (g2 := F0 m 74 ls [.int r71, .ref (ad 0)]) rfl ?_
      have hP : va_P (dC, dI) vwCl [(ad 0, .inr (10, oM ad m_undoCount m_thrown m_hasSnapshot a_m_fam m_rows m_lineLength m_formattedLength m_bufferLength m_limit m_next_62 m_beginsAt_62 m_token_62 m_error_62 m_errorAt_62 m_errorPosition m_nested m_codeCount)), ((ad 24), .inl (cI, 800, .inl m_buffer)), (a_m_fam, .inl (cJ, 130, .inr (.inl m_fam)))] H := hP
      have hD : va_D A [(ad 0, .inr (10, oM ad m_undoCount m_thrown m_hasSnapshot a_m_fam m_rows m_lineLength m_formattedLength m_bufferLength m_limit m_next_62 m_beginsAt_62 m_token_62 m_error_62 m_errorAt_62 m_errorPosition m_nested m_codeCount)), ((ad 24), .inl (cI, 800, .inl m_buffer)), (a_m_fam, .inl (cJ, 130, .inr (.inl m_fam)))] := hD
      refine lv_iconst (v := -1) hx hb dX10_readPerson_74 (by decide) ?_
      refine lv_icmp_ne (tgt := 82) hx hb dX10_readPerson_75 (by decide) (fun h9 => ?_) (fun h9 => ?_)
      · have hf := itf h9 hf
        refine lv_iconst (v := 0) hx hb dX10_readPerson_82 (by decide) ?_
        refine lv_iconst (v := 4) hx hb dX10_readPerson_83 (by decide) ?_
        obtain ⟨m_error_84, m_errorAt_84, h9⟩ : ∃ m_error_84 m_errorAt_84, p10_check m_beginsAt_62 m_error_62 m_errorAt_62 false (4 : Int32) = (m_error_84, m_errorAt_84) := ⟨_, _, rfl⟩
        have hf := uc2_e (lb_e h9.symm hf)
        refine gcV (index := 415) S hE (c_X10_check ad a_m_fam m_undoCount m_thrown m_hasSnapshot m_rows m_lineLength m_formattedLength m_bufferLength m_limit m_next_62 m_beginsAt_62 m_token_62 m_error_62 m_errorAt_62 m_errorPosition m_nested m_codeCount false (4 : Int32) m_error_84 m_errorAt_84 h9) mX10_check tw1968 ⟨Nat.le_of_ble_eq_true rfl, Nat.le_of_ble_eq_true rfl⟩ hP hD hS hA ⟨Nat.zero_le _, Nat.zero_le _⟩ 0 10 rfl rfl rfl (wr := [((ad 24), .inl (cI, 800, .inl m_buffer)), (a_m_fam, .inl (cJ, 130, .inr (.inl m_fam)))]) [0] [1, 2] rfl rfl rfl rfl (by decide) (As := [.int (bI false), .int (4 : Int32)]) (rest := []) rfl hl.1 rfl (Nat.le_of_ble_eq_true rfl) dX10_readPerson_84 (fun H locs hP hD hS => ?_)
        refine W.eq (g2 := F0 m 87 ls []) rfl ?_
        have hP : va_P (dC, dI) vwCl [((ad 24), .inl (cI, 800, .inl m_buffer)), (a_m_fam, .inl (cJ, 130, .inr (.inl m_fam))), (ad 0, .inr (10, oM ad m_undoCount m_thrown m_hasSnapshot a_m_fam m_rows m_lineLength m_formattedLength m_bufferLength m_limit m_next_62 m_beginsAt_62 m_token_62 m_error_84 m_errorAt_84 m_errorPosition m_nested m_codeCount))] H := hP
        have hD : va_D A [((ad 24), .inl (cI, 800, .inl m_buffer)), (a_m_fam, .inl (cJ, 130, .inr (.inl m_fam))), (ad 0, .inr (10, oM ad m_undoCount m_thrown m_hasSnapshot a_m_fam m_rows m_lineLength m_formattedLength m_bufferLength m_limit m_next_62 m_beginsAt_62 m_token_62 m_error_84 m_errorAt_84 m_errorPosition m_nested m_codeCount))] := hD
        exact J87 m_next_62 m_beginsAt_62 m_token_62 m_error_84 m_errorAt_84 H locs ls hf (hP.sub [2, 0, 1] rfl) (hD.sub [2, 0, 1] (by decide) rfl) hS (lv_sub hl [0] rfl)
      · have hf := itt h9 hf
        refine lv_iconst (v := 1) hx hb dX10_readPerson_78 (by decide) ?_
        refine lv_goto (tgt := 83) hx hb dX10_readPerson_79 (by decide) ?_
        refine lv_iconst (v := 4) hx hb dX10_readPerson_83 (by decide) ?_
        obtain ⟨m_error_84, m_errorAt_84, h9⟩ : ∃ m_error_84 m_errorAt_84, p10_check m_beginsAt_62 m_error_62 m_errorAt_62 true (4 : Int32) = (m_error_84, m_errorAt_84) := ⟨_, _, rfl⟩
        have hf := uc2_e (lb_e h9.symm hf)
        refine gcV (index := 415) S hE (c_X10_check ad a_m_fam m_undoCount m_thrown m_hasSnapshot m_rows m_lineLength m_formattedLength m_bufferLength m_limit m_next_62 m_beginsAt_62 m_token_62 m_error_62 m_errorAt_62 m_errorPosition m_nested m_codeCount true (4 : Int32) m_error_84 m_errorAt_84 h9) mX10_check tw1968 ⟨Nat.le_of_ble_eq_true rfl, Nat.le_of_ble_eq_true rfl⟩ hP hD hS hA ⟨Nat.zero_le _, Nat.zero_le _⟩ 0 10 rfl rfl rfl (wr := [((ad 24), .inl (cI, 800, .inl m_buffer)), (a_m_fam, .inl (cJ, 130, .inr (.inl m_fam)))]) [0] [1, 2] rfl rfl rfl rfl (by decide) (As := [.int (bI true), .int (4 : Int32)]) (rest := []) rfl hl.1 rfl (Nat.le_of_ble_eq_true rfl) dX10_readPerson_84 (fun H locs hP hD hS => ?_)
        refine W.eq (g2 := F0 m 87 ls []) rfl ?_
        have hP : va_P (dC, dI) vwCl [((ad 24), .inl (cI, 800, .inl m_buffer)), (a_m_fam, .inl (cJ, 130, .inr (.inl m_fam))), (ad 0, .inr (10, oM ad m_undoCount m_thrown m_hasSnapshot a_m_fam m_rows m_lineLength m_formattedLength m_bufferLength m_limit m_next_62 m_beginsAt_62 m_token_62 m_error_84 m_errorAt_84 m_errorPosition m_nested m_codeCount))] H := hP
        have hD : va_D A [((ad 24), .inl (cI, 800, .inl m_buffer)), (a_m_fam, .inl (cJ, 130, .inr (.inl m_fam))), (ad 0, .inr (10, oM ad m_undoCount m_thrown m_hasSnapshot a_m_fam m_rows m_lineLength m_formattedLength m_bufferLength m_limit m_next_62 m_beginsAt_62 m_token_62 m_error_84 m_errorAt_84 m_errorPosition m_nested m_codeCount))] := hD
        exact J87 m_next_62 m_beginsAt_62 m_token_62 m_error_84 m_errorAt_84 H locs ls hf (hP.sub [2, 0, 1] rfl) (hD.sub [2, 0, 1] (by decide) rfl) hS (lv_sub hl [0] rfl)
  have J19 : ∀ (m_error_19 : Int32) (m_errorAt_19 : Int32) (H : Heap) (locs : List Loc) (ls : Array Slot), p10_readPerson_J19 m_beginsAt m_buffer m_fam m_limit m_next m_token m_error_19 m_errorAt_19 = some (m_beginsAt_9, m_error_9, m_errorAt_9, m_fam_9, m_next_9, m_token_9) → va_P (dC, dI) vwCl [(ad 0, .inr (10, oM ad m_undoCount m_thrown m_hasSnapshot a_m_fam m_rows m_lineLength m_formattedLength m_bufferLength m_limit m_next m_beginsAt m_token m_error_19 m_errorAt_19 m_errorPosition m_nested m_codeCount)), ((ad 24), .inl (cI, 800, .inl m_buffer)), (a_m_fam, .inl (cJ, 130, .inr (.inl m_fam)))] H → va_D A [(ad 0, .inr (10, oM ad m_undoCount m_thrown m_hasSnapshot a_m_fam m_rows m_lineLength m_formattedLength m_bufferLength m_limit m_next m_beginsAt m_token m_error_19 m_errorAt_19 m_errorPosition m_nested m_codeCount)), ((ad 24), .inl (cI, 800, .inl m_buffer)), (a_m_fam, .inl (cJ, 130, .inr (.inl m_fam)))] → va_S A s.heap H locs → lv_has ls 2 [(0, .ref (ad 0))] → W p l e ({ frames := 5, cells := 0, slots := 0, locals := 105 }) s m ([.ref (ad 0)] : List Value).toArray below meth c H locs 0 0 (MQ below (gQ dC dI none A [(ad 0, .inr (10, oM ad m_undoCount m_thrown m_hasSnapshot a_m_fam m_rows m_lineLength m_formattedLength m_bufferLength m_limit m_next_9 m_beginsAt_9 m_token_9 m_error_9 m_errorAt_9 m_errorPosition m_nested m_codeCount)), ((ad 24), .inl (cI, 800, .inl m_buffer)), (a_m_fam, .inl (cJ, 130, .inr (.inl m_fam_9)))]) ([.ref (ad 0)] : List Value).toArray s 0 0 A) (F0 m 19 ls []) := by
    intro m_error_19 m_errorAt_19 H locs ls hf hP hD hS hl
    rw [p10_readPerson_J19] at hf
    refine lv_aload_n hx hb dX10_readPerson_19 rfl (lv_at hl 0 rfl) ?_
    obtain ⟨⟨m_beginsAt_20, m_next_20, m_token_20⟩, h9, hf⟩ := ob_s hf
    have hf := uc3_e hf
    refine gcV (index := 419) S hE (c_X10_advance ad a_m_fam m_undoCount m_thrown m_hasSnapshot m_rows m_lineLength m_formattedLength m_bufferLength m_limit m_next m_beginsAt m_token m_error_19 m_errorAt_19 m_errorPosition m_nested m_codeCount m_buffer m_beginsAt_20 m_next_20 m_token_20 h9) mX10_advance tw1976 ⟨Nat.le_of_ble_eq_true rfl, Nat.le_of_ble_eq_true rfl⟩ hP hD hS hA ⟨Nat.zero_le _, Nat.zero_le _⟩ 0 10 rfl rfl rfl (wr := [(a_m_fam, .inl (cJ, 130, .inr (.inl m_fam)))]) [0, 1] [2] rfl rfl rfl rfl (by decide) (As := []) (rest := []) rfl hl.1 rfl (Nat.le_of_ble_eq_true rfl) dX10_readPerson_20 (fun H locs hP hD hS => ?_)
    refine W.eq (g2 := F0 m 23 ls []) rfl ?_
    have hP : va_P (dC, dI) vwCl [(a_m_fam, .inl (cJ, 130, .inr (.inl m_fam))), (ad 0, .inr (10, oM ad m_undoCount m_thrown m_hasSnapshot a_m_fam m_rows m_lineLength m_formattedLength m_bufferLength m_limit m_next_20 m_beginsAt_20 m_token_20 m_error_19 m_errorAt_19 m_errorPosition m_nested m_codeCount)), ((ad 24), .inl (cI, 800, .inl m_buffer))] H := hP
    have hD : va_D A [(a_m_fam, .inl (cJ, 130, .inr (.inl m_fam))), (ad 0, .inr (10, oM ad m_undoCount m_thrown m_hasSnapshot a_m_fam m_rows m_lineLength m_formattedLength m_bufferLength m_limit m_next_20 m_beginsAt_20 m_token_20 m_error_19 m_errorAt_19 m_errorPosition m_nested m_codeCount)), ((ad 24), .inl (cI, 800, .inl m_buffer))] := hD
    refine lv_aload_n hx hb dX10_readPerson_23 rfl (lv_at hl 0 rfl) ?_
    refine lv_aload_n hx hb dX10_readPerson_24 rfl (lv_at hl 0 rfl) ?_
    refine va_get (D := (dC, dI)) (ci := 10) (v := .int m_error_19) (C := RX10) (T := TX10) (N := 37) hx hb htg inX10 hown hE.1 hP 1 rfl rfl 29 (by decide) (htg _ tw1411) (fun _ h9 => h9) rfl dX10_readPerson_25 ?_
    refine lv_if_ne (tgt := 53) hx hb dX10_readPerson_28 (by decide) (fun h9 => ?_) (fun h9 => ?_)
    · have hf := itf h9 hf
      refine lv_iconst (v := 1) hx hb dX10_readPerson_53 (by decide) ?_
      refine lv_goto (tgt := 58) hx hb dX10_readPerson_54 (by decide) ?_
      refine lv_iconst (v := 1) hx hb dX10_readPerson_58 (by decide) ?_
      obtain ⟨m_error_59, m_errorAt_59, h9⟩ : ∃ m_error_59 m_errorAt_59, p10_check m_beginsAt_20 m_error_19 m_errorAt_19 true (1 : Int32) = (m_error_59, m_errorAt_59) := ⟨_, _, rfl⟩
      have hf := uc2_e (lb_e h9.symm hf)
      refine gcV (index := 415) S hE (c_X10_check ad a_m_fam m_undoCount m_thrown m_hasSnapshot m_rows m_lineLength m_formattedLength m_bufferLength m_limit m_next_20 m_beginsAt_20 m_token_20 m_error_19 m_errorAt_19 m_errorPosition m_nested m_codeCount true (1 : Int32) m_error_59 m_errorAt_59 h9) mX10_check tw1968 ⟨Nat.le_of_ble_eq_true rfl, Nat.le_of_ble_eq_true rfl⟩ hP hD hS hA ⟨Nat.zero_le _, Nat.zero_le _⟩ 1 10 rfl rfl rfl (wr := [(a_m_fam, .inl (cJ, 130, .inr (.inl m_fam))), ((ad 24), .inl (cI, 800, .inl m_buffer))]) [1] [0, 2] rfl rfl rfl rfl (by decide) (As := [.int (bI true), .int (1 : Int32)]) (rest := []) rfl hl.1 rfl (Nat.le_of_ble_eq_true rfl) dX10_readPerson_59 (fun H locs hP hD hS => ?_)
      refine W.eq (g2 := F0 m 62 ls []) rfl ?_
      have hP : va_P (dC, dI) vwCl [(a_m_fam, .inl (cJ, 130, .inr (.inl m_fam))), ((ad 24), .inl (cI, 800, .inl m_buffer)), (ad 0, .inr (10, oM ad m_undoCount m_thrown m_hasSnapshot a_m_fam m_rows m_lineLength m_formattedLength m_bufferLength m_limit m_next_20 m_beginsAt_20 m_token_20 m_error_59 m_errorAt_59 m_errorPosition m_nested m_codeCount))] H := hP
      have hD : va_D A [(a_m_fam, .inl (cJ, 130, .inr (.inl m_fam))), ((ad 24), .inl (cI, 800, .inl m_buffer)), (ad 0, .inr (10, oM ad m_undoCount m_thrown m_hasSnapshot a_m_fam m_rows m_lineLength m_formattedLength m_bufferLength m_limit m_next_20 m_beginsAt_20 m_token_20 m_error_59 m_errorAt_59 m_errorPosition m_nested m_codeCount))] := hD
      exact J62 m_next_20 m_beginsAt_20 m_token_20 m_error_59 m_errorAt_59 H locs ls hf (hP.sub [2, 1, 0] rfl) (hD.sub [2, 1, 0] (by decide) rfl) hS (lv_sub hl [0] rfl)
    · have hf := itt h9 hf
      refine lv_aload_n hx hb dX10_readPerson_31 rfl (lv_at hl 0 rfl) ?_
      refine va_get (D := (dC, dI)) (ci := 10) (v := .int m_token_20) (C := RX10) (T := TX10) (N := 37) hx hb htg inX10 hown hE.1 hP 1 rfl rfl 28 (by decide) (htg _ tw1410) (fun _ h9 => h9) rfl dX10_readPerson_32 ?_
      refine lv_iconst (v := 1) hx hb dX10_readPerson_35 (by decide) ?_
      refine lv_icmp_ne (tgt := 57) hx hb dX10_readPerson_36 (by decide) (fun h9 => ?_) (fun h9 => ?_)
      · have hf := itf h9 hf
        refine lv_iconst (v := 0) hx hb dX10_readPerson_57 (by decide) ?_
        refine lv_iconst (v := 1) hx hb dX10_readPerson_58 (by decide) ?_
        obtain ⟨m_error_59, m_errorAt_59, h9⟩ : ∃ m_error_59 m_errorAt_59, p10_check m_beginsAt_20 m_error_19 m_errorAt_19 false (1 : Int32) = (m_error_59, m_errorAt_59) := ⟨_, _, rfl⟩
        have hf := uc2_e (lb_e h9.symm hf)
        refine gcV (index := 415) S hE (c_X10_check ad a_m_fam m_undoCount m_thrown m_hasSnapshot m_rows m_lineLength m_formattedLength m_bufferLength m_limit m_next_20 m_beginsAt_20 m_token_20 m_error_19 m_errorAt_19 m_errorPosition m_nested m_codeCount false (1 : Int32) m_error_59 m_errorAt_59 h9) mX10_check tw1968 ⟨Nat.le_of_ble_eq_true rfl, Nat.le_of_ble_eq_true rfl⟩ hP hD hS hA ⟨Nat.zero_le _, Nat.zero_le _⟩ 1 10 rfl rfl rfl (wr := [(a_m_fam, .inl (cJ, 130, .inr (.inl m_fam))), ((ad 24), .inl (cI, 800, .inl m_buffer))]) [1] [0, 2] rfl rfl rfl rfl (by decide) (As := [.int (bI false), .int (1 : Int32)]) (rest := []) rfl hl.1 rfl (Nat.le_of_ble_eq_true rfl) dX10_readPerson_59 (fun H locs hP hD hS => ?_)
        refine W.eq (g2 := F0 m 62 ls []) rfl ?_
        have hP : va_P (dC, dI) vwCl [(a_m_fam, .inl (cJ, 130, .inr (.inl m_fam))), ((ad 24), .inl (cI, 800, .inl m_buffer)), (ad 0, .inr (10, oM ad m_undoCount m_thrown m_hasSnapshot a_m_fam m_rows m_lineLength m_formattedLength m_bufferLength m_limit m_next_20 m_beginsAt_20 m_token_20 m_error_59 m_errorAt_59 m_errorPosition m_nested m_codeCount))] H := hP
        have hD : va_D A [(a_m_fam, .inl (cJ, 130, .inr (.inl m_fam))), ((ad 24), .inl (cI, 800, .inl m_buffer)), (ad 0, .inr (10, oM ad m_undoCount m_thrown m_hasSnapshot a_m_fam m_rows m_lineLength m_formattedLength m_bufferLength m_limit m_next_20 m_beginsAt_20 m_token_20 m_error_59 m_errorAt_59 m_errorPosition m_nested m_codeCount))] := hD
        exact J62 m_next_20 m_beginsAt_20 m_token_20 m_error_59 m_errorAt_59 H locs ls hf (hP.sub [2, 1, 0] rfl) (hD.sub [2, 1, 0] (by decide) rfl) hS (lv_sub hl [0] rfl)
      · have hf := itt h9 hf
        refine lv_aload_n hx hb dX10_readPerson_39 rfl (lv_at hl 0 rfl) ?_
        refine va_get (D := (dC, dI)) (ci := 10) (v := .int m_next_20) (C := RX10) (T := TX10) (N := 37) hx hb htg inX10 hown hE.1 hP 1 rfl rfl 26 (by decide) (htg _ tw1408) (fun _ h9 => h9) rfl dX10_readPerson_40 ?_
        refine lv_aload_n hx hb dX10_readPerson_43 rfl (lv_at hl 0 rfl) ?_
        refine va_get (D := (dC, dI)) (ci := 10) (v := .int m_beginsAt_20) (C := RX10) (T := TX10) (N := 37) hx hb htg inX10 hown hE.1 hP 1 rfl rfl 27 (by decide) (htg _ tw1409) (fun _ h9 => h9) rfl dX10_readPerson_44 ?_
        refine lv_isub hx hb dX10_readPerson_47 ?_
        refine lv_bipush (v := 8) hx hb dX10_readPerson_48 (by decide) ?_
        refine lv_icmp_gt (tgt := 57) hx hb dX10_readPerson_50 (by decide) (fun h9 => ?_) (fun h9 => ?_)
        · have hf := itt h9 hf
          refine lv_iconst (v := 0) hx hb dX10_readPerson_57 (by decide) ?_
          refine lv_iconst (v := 1) hx hb dX10_readPerson_58 (by decide) ?_
          obtain ⟨m_error_59, m_errorAt_59, h9⟩ : ∃ m_error_59 m_errorAt_59, p10_check m_beginsAt_20 m_error_19 m_errorAt_19 false (1 : Int32) = (m_error_59, m_errorAt_59) := ⟨_, _, rfl⟩
          have hf := uc2_e (lb_e h9.symm hf)
          refine gcV (index := 415) S hE (c_X10_check ad a_m_fam m_undoCount m_thrown m_hasSnapshot m_rows m_lineLength m_formattedLength m_bufferLength m_limit m_next_20 m_beginsAt_20 m_token_20 m_error_19 m_errorAt_19 m_errorPosition m_nested m_codeCount false (1 : Int32) m_error_59 m_errorAt_59 h9) mX10_check tw1968 ⟨Nat.le_of_ble_eq_true rfl, Nat.le_of_ble_eq_true rfl⟩ hP hD hS hA ⟨Nat.zero_le _, Nat.zero_le _⟩ 1 10 rfl rfl rfl (wr := [(a_m_fam, .inl (cJ, 130, .inr (.inl m_fam))), ((ad 24), .inl (cI, 800, .inl m_buffer))]) [1] [0, 2] rfl rfl rfl rfl (by decide) (As := [.int (bI false), .int (1 : Int32)]) (rest := []) rfl hl.1 rfl (Nat.le_of_ble_eq_true rfl) dX10_readPerson_59 (fun H locs hP hD hS => ?_)
          refine W.eq (g2 := F0 m 62 ls []) rfl ?_
          have hP : va_P (dC, dI) vwCl [(a_m_fam, .inl (cJ, 130, .inr (.inl m_fam))), ((ad 24), .inl (cI, 800, .inl m_buffer)), (ad 0, .inr (10, oM ad m_undoCount m_thrown m_hasSnapshot a_m_fam m_rows m_lineLength m_formattedLength m_bufferLength m_limit m_next_20 m_beginsAt_20 m_token_20 m_error_59 m_errorAt_59 m_errorPosition m_nested m_codeCount))] H := hP
          have hD : va_D A [(a_m_fam, .inl (cJ, 130, .inr (.inl m_fam))), ((ad 24), .inl (cI, 800, .inl m_buffer)), (ad 0, .inr (10, oM ad m_undoCount m_thrown m_hasSnapshot a_m_fam m_rows m_lineLength m_formattedLength m_bufferLength m_limit m_next_20 m_beginsAt_20 m_token_20 m_error_59 m_errorAt_59 m_errorPosition m_nested m_codeCount))] := hD
          exact J62 m_next_20 m_beginsAt_20 m_token_20 m_error_59 m_errorAt_59 H locs ls hf (hP.sub [2, 1, 0] rfl) (hD.sub [2, 1, 0] (by decide) rfl) hS (lv_sub hl [0] rfl)
        · have hf := itf h9 hf
          refine lv_iconst (v := 1) hx hb dX10_readPerson_53 (by decide) ?_
          refine lv_goto (tgt := 58) hx hb dX10_readPerson_54 (by decide) ?_
          refine lv_iconst (v := 1) hx hb dX10_readPerson_58 (by decide) ?_
          obtain ⟨m_error_59, m_errorAt_59, h9⟩ : ∃ m_error_59 m_errorAt_59, p10_check m_beginsAt_20 m_error_19 m_errorAt_19 true (1 : Int32) = (m_error_59, m_errorAt_59) := ⟨_, _, rfl⟩
          have hf := uc2_e (lb_e h9.symm hf)
          refine gcV (index := 415) S hE (c_X10_check ad a_m_fam m_undoCount m_thrown m_hasSnapshot m_rows m_lineLength m_formattedLength m_bufferLength m_limit m_next_20 m_beginsAt_20 m_token_20 m_error_19 m_errorAt_19 m_errorPosition m_nested m_codeCount true (1 : Int32) m_error_59 m_errorAt_59 h9) mX10_check tw1968 ⟨Nat.le_of_ble_eq_true rfl, Nat.le_of_ble_eq_true rfl⟩ hP hD hS hA ⟨Nat.zero_le _, Nat.zero_le _⟩ 1 10 rfl rfl rfl (wr := [(a_m_fam, .inl (cJ, 130, .inr (.inl m_fam))), ((ad 24), .inl (cI, 800, .inl m_buffer))]) [1] [0, 2] rfl rfl rfl rfl (by decide) (As := [.int (bI true), .int (1 : Int32)]) (rest := []) rfl hl.1 rfl (Nat.le_of_ble_eq_true rfl) dX10_readPerson_59 (fun H locs hP hD hS => ?_)
          refine W.eq (g2 := F0 m 62 ls []) rfl ?_
          have hP : va_P (dC, dI) vwCl [(a_m_fam, .inl (cJ, 130, .inr (.inl m_fam))), ((ad 24), .inl (cI, 800, .inl m_buffer)), (ad 0, .inr (10, oM ad m_undoCount m_thrown m_hasSnapshot a_m_fam m_rows m_lineLength m_formattedLength m_bufferLength m_limit m_next_20 m_beginsAt_20 m_token_20 m_error_59 m_errorAt_59 m_errorPosition m_nested m_codeCount))] H := hP
          have hD : va_D A [(a_m_fam, .inl (cJ, 130, .inr (.inl m_fam))), ((ad 24), .inl (cI, 800, .inl m_buffer)), (ad 0, .inr (10, oM ad m_undoCount m_thrown m_hasSnapshot a_m_fam m_rows m_lineLength m_formattedLength m_bufferLength m_limit m_next_20 m_beginsAt_20 m_token_20 m_error_59 m_errorAt_59 m_errorPosition m_nested m_codeCount))] := hD
          exact J62 m_next_20 m_beginsAt_20 m_token_20 m_error_59 m_errorAt_59 H locs ls hf (hP.sub [2, 1, 0] rfl) (hD.sub [2, 1, 0] (by decide) rfl) hS (lv_sub hl [0] rfl)
  refine lv_aload_n hx hb dX10_readPerson_0 rfl (lv_at hl 0 rfl) ?_
  refine lv_aload_n hx hb dX10_readPerson_1 rfl (lv_at hl 0 rfl) ?_
  obtain ⟨r2, h9, hf⟩ := ob_s hf
  refine gcV (index := 121) S hE (c_X10_persons ad a_m_fam m_undoCount m_thrown m_hasSnapshot m_rows m_lineLength m_formattedLength m_bufferLength m_limit m_next m_beginsAt m_token m_error m_errorAt m_errorPosition m_nested m_codeCount m_fam r2 h9) mX10_persons tw1511 ⟨Nat.le_of_ble_eq_true rfl, Nat.le_of_ble_eq_true rfl⟩ hP hD hS hA ⟨Nat.zero_le _, Nat.zero_le _⟩ 0 10 rfl rfl rfl (wr := [((ad 24), .inl (cI, 800, .inl m_buffer))]) [0, 2] [1] rfl rfl rfl rfl (by decide) (As := []) (rest := [.ref (ad 0)]) rfl hl.1 rfl (Nat.le_of_ble_eq_true rfl) dX10_readPerson_2 (fun H locs hP hD hS => ?_)
  refine W.eq (g2 := F0 m 5 ls [.int r2, .ref (ad 0)]) rfl ?_
  have hP : va_P (dC, dI) vwCl [((ad 24), .inl (cI, 800, .inl m_buffer)), (ad 0, .inr (10, oM ad m_undoCount m_thrown m_hasSnapshot a_m_fam m_rows m_lineLength m_formattedLength m_bufferLength m_limit m_next m_beginsAt m_token m_error m_errorAt m_errorPosition m_nested m_codeCount)), (a_m_fam, .inl (cJ, 130, .inr (.inl m_fam)))] H := hP
  have hD : va_D A [((ad 24), .inl (cI, 800, .inl m_buffer)), (ad 0, .inr (10, oM ad m_undoCount m_thrown m_hasSnapshot a_m_fam m_rows m_lineLength m_formattedLength m_bufferLength m_limit m_next m_beginsAt m_token m_error m_errorAt m_errorPosition m_nested m_codeCount)), (a_m_fam, .inl (cJ, 130, .inr (.inl m_fam)))] := hD
  refine lv_bipush (v := 16) hx hb dX10_readPerson_5 (by decide) ?_
  refine lv_icmp_ge (tgt := 14) hx hb dX10_readPerson_7 (by decide) (fun h9 => ?_) (fun h9 => ?_)
  · have hf := itt h9 hf
    refine lv_iconst (v := 0) hx hb dX10_readPerson_14 (by decide) ?_
    refine lv_iconst (v := 3) hx hb dX10_readPerson_15 (by decide) ?_
    obtain ⟨m_error_16, m_errorAt_16, h9⟩ : ∃ m_error_16 m_errorAt_16, p10_check m_beginsAt m_error m_errorAt false (3 : Int32) = (m_error_16, m_errorAt_16) := ⟨_, _, rfl⟩
    have hf := uc2_e (lb_e h9.symm hf)
    refine gcV (index := 415) S hE (c_X10_check ad a_m_fam m_undoCount m_thrown m_hasSnapshot m_rows m_lineLength m_formattedLength m_bufferLength m_limit m_next m_beginsAt m_token m_error m_errorAt m_errorPosition m_nested m_codeCount false (3 : Int32) m_error_16 m_errorAt_16 h9) mX10_check tw1968 ⟨Nat.le_of_ble_eq_true rfl, Nat.le_of_ble_eq_true rfl⟩ hP hD hS hA ⟨Nat.zero_le _, Nat.zero_le _⟩ 1 10 rfl rfl rfl (wr := [((ad 24), .inl (cI, 800, .inl m_buffer)), (a_m_fam, .inl (cJ, 130, .inr (.inl m_fam)))]) [1] [0, 2] rfl rfl rfl rfl (by decide) (As := [.int (bI false), .int (3 : Int32)]) (rest := []) rfl hl.1 rfl (Nat.le_of_ble_eq_true rfl) dX10_readPerson_16 (fun H locs hP hD hS => ?_)
    refine W.eq (g2 := F0 m 19 ls []) rfl ?_
    have hP : va_P (dC, dI) vwCl [((ad 24), .inl (cI, 800, .inl m_buffer)), (a_m_fam, .inl (cJ, 130, .inr (.inl m_fam))), (ad 0, .inr (10, oM ad m_undoCount m_thrown m_hasSnapshot a_m_fam m_rows m_lineLength m_formattedLength m_bufferLength m_limit m_next m_beginsAt m_token m_error_16 m_errorAt_16 m_errorPosition m_nested m_codeCount))] H := hP
    have hD : va_D A [((ad 24), .inl (cI, 800, .inl m_buffer)), (a_m_fam, .inl (cJ, 130, .inr (.inl m_fam))), (ad 0, .inr (10, oM ad m_undoCount m_thrown m_hasSnapshot a_m_fam m_rows m_lineLength m_formattedLength m_bufferLength m_limit m_next m_beginsAt m_token m_error_16 m_errorAt_16 m_errorPosition m_nested m_codeCount))] := hD
    exact J19 m_error_16 m_errorAt_16 H locs ls hf (hP.sub [2, 0, 1] rfl) (hD.sub [2, 0, 1] (by decide) rfl) hS (lv_sub hl [0] rfl)
  · have hf := itf h9 hf
    refine lv_iconst (v := 1) hx hb dX10_readPerson_10 (by decide) ?_
    refine lv_goto (tgt := 15) hx hb dX10_readPerson_11 (by decide) ?_
    refine lv_iconst (v := 3) hx hb dX10_readPerson_15 (by decide) ?_
    obtain ⟨m_error_16, m_errorAt_16, h9⟩ : ∃ m_error_16 m_errorAt_16, p10_check m_beginsAt m_error m_errorAt true (3 : Int32) = (m_error_16, m_errorAt_16) := ⟨_, _, rfl⟩
    have hf := uc2_e (lb_e h9.symm hf)
    refine gcV (index := 415) S hE (c_X10_check ad a_m_fam m_undoCount m_thrown m_hasSnapshot m_rows m_lineLength m_formattedLength m_bufferLength m_limit m_next m_beginsAt m_token m_error m_errorAt m_errorPosition m_nested m_codeCount true (3 : Int32) m_error_16 m_errorAt_16 h9) mX10_check tw1968 ⟨Nat.le_of_ble_eq_true rfl, Nat.le_of_ble_eq_true rfl⟩ hP hD hS hA ⟨Nat.zero_le _, Nat.zero_le _⟩ 1 10 rfl rfl rfl (wr := [((ad 24), .inl (cI, 800, .inl m_buffer)), (a_m_fam, .inl (cJ, 130, .inr (.inl m_fam)))]) [1] [0, 2] rfl rfl rfl rfl (by decide) (As := [.int (bI true), .int (3 : Int32)]) (rest := []) rfl hl.1 rfl (Nat.le_of_ble_eq_true rfl) dX10_readPerson_16 (fun H locs hP hD hS => ?_)
    refine W.eq (g2 := F0 m 19 ls []) rfl ?_
    have hP : va_P (dC, dI) vwCl [((ad 24), .inl (cI, 800, .inl m_buffer)), (a_m_fam, .inl (cJ, 130, .inr (.inl m_fam))), (ad 0, .inr (10, oM ad m_undoCount m_thrown m_hasSnapshot a_m_fam m_rows m_lineLength m_formattedLength m_bufferLength m_limit m_next m_beginsAt m_token m_error_16 m_errorAt_16 m_errorPosition m_nested m_codeCount))] H := hP
    have hD : va_D A [((ad 24), .inl (cI, 800, .inl m_buffer)), (a_m_fam, .inl (cJ, 130, .inr (.inl m_fam))), (ad 0, .inr (10, oM ad m_undoCount m_thrown m_hasSnapshot a_m_fam m_rows m_lineLength m_formattedLength m_bufferLength m_limit m_next m_beginsAt m_token m_error_16 m_errorAt_16 m_errorPosition m_nested m_codeCount))] := hD
    exact J19 m_error_16 m_errorAt_16 H locs ls hf (hP.sub [2, 0, 1] rfl) (hD.sub [2, 0, 1] (by decide) rfl) hS (lv_sub hl [0] rfl)
set_option maxHeartbeats 4000000 in
set_option maxRecDepth 100000 in
theorem c_X10_readName (ad : Nat → Nat) (a_m_fam : Nat) (m_undoCount : Int32) (m_thrown : Int32) (m_hasSnapshot : Bool) (m_rows : Int32) (m_lineLength : Int32) (m_formattedLength : Int32) (m_bufferLength : Int32) (m_limit : Int32) (m_next : Int32) (m_beginsAt : Int32) (m_token : Int32) (m_error : Int32) (m_errorAt : Int32) (m_errorPosition : Int32) (m_nested : Int32) (m_codeCount : Int32) (m_buffer : Nat → Int32) (m_fam : Nat → Int64) (r9 : Int32) (m_error_9 : Int32) (m_errorAt_9 : Int32) (hf : p10_readName m_next m_beginsAt m_token m_error m_errorAt m_buffer m_fam = some (r9, m_error_9, m_errorAt_9)) : gM l dC dI cI cJ cZ yX10_readName cX10_readName 2 (some .int) (2) (44) [.ref (ad 0)] [(ad 0, .inr (10, oM ad m_undoCount m_thrown m_hasSnapshot a_m_fam m_rows m_lineLength m_formattedLength m_bufferLength m_limit m_next m_beginsAt m_token m_error m_errorAt m_errorPosition m_nested m_codeCount)), ((ad 24), .inl (cI, 800, .inl m_buffer)), (a_m_fam, .inl (cJ, 130, .inr (.inl m_fam)))] [(ad 0, .inr (10, oM ad m_undoCount m_thrown m_hasSnapshot a_m_fam m_rows m_lineLength m_formattedLength m_bufferLength m_limit m_next m_beginsAt m_token m_error_9 m_errorAt_9 m_errorPosition m_nested m_codeCount)), ((ad 24), .inl (cI, 800, .inl m_buffer)), (a_m_fam, .inl (cJ, 130, .inr (.inl m_fam)))] (some (.int r9)) := by
  refine g_start (own := RX10) (by decide +kernel) rfl (Nat.le_of_ble_eq_true rfl) ?_
  intro p e s m below meth c A ls S hr hlocks hE hP hD hS hA hl hin
  have hx := S.1
  have hb := S.2.1
  have hml := S.2.2.1
  have hown := S.2.2.2.1
  have htg : ∀ z ∈ gw, z.before ([.ref (ad 0)] : List Value).toArray s = true := fun w h => S.2.2.2.2 w (List.mem_cons_of_mem _ h)
  have hl : lv_has ls 2 [(0, .ref (ad 0))] := hl
  have hS0 := hS
  obtain ⟨H, hH⟩ : ∃ H, H = s.heap := ⟨_, rfl⟩
  obtain ⟨locs, hlc⟩ : ∃ locs : List Loc, locs = [] := ⟨_, rfl⟩
  have hS : va_S A s.heap H locs := by rw [hH, hlc]; exact hS0
  have hP : va_P (dC, dI) vwCl [(ad 0, .inr (10, oM ad m_undoCount m_thrown m_hasSnapshot a_m_fam m_rows m_lineLength m_formattedLength m_bufferLength m_limit m_next m_beginsAt m_token m_error m_errorAt m_errorPosition m_nested m_codeCount)), ((ad 24), .inl (cI, 800, .inl m_buffer)), (a_m_fam, .inl (cJ, 130, .inr (.inl m_fam)))] H := by rw [hH]; exact hP
  suffices hgo : W p l e ({ frames := 2, cells := 0, slots := 0, locals := 44 }) s m ([.ref (ad 0)] : List Value).toArray below meth c H locs 0 0 (MQ below (gQ dC dI (some (.int r9)) A [(ad 0, .inr (10, oM ad m_undoCount m_thrown m_hasSnapshot a_m_fam m_rows m_lineLength m_formattedLength m_bufferLength m_limit m_next m_beginsAt m_token m_error_9 m_errorAt_9 m_errorPosition m_nested m_codeCount)), ((ad 24), .inl (cI, 800, .inl m_buffer)), (a_m_fam, .inl (cJ, 130, .inr (.inl m_fam)))]) ([.ref (ad 0)] : List Value).toArray s 0 0 A) (F0 m 0 ls []) by rw [hH, hlc] at hgo; exact hgo
  rw [p10_readName] at hf
  have J41 : ∀ (v1_41 : Int32) (m_error_41 : Int32) (m_errorAt_41 : Int32) (H : Heap) (locs : List Loc) (ls : Array Slot), p10_readName_J41 m_beginsAt v1_41 m_error_41 m_errorAt_41 = some (r9, m_error_9, m_errorAt_9) → va_P (dC, dI) vwCl [(ad 0, .inr (10, oM ad m_undoCount m_thrown m_hasSnapshot a_m_fam m_rows m_lineLength m_formattedLength m_bufferLength m_limit m_next m_beginsAt m_token m_error_41 m_errorAt_41 m_errorPosition m_nested m_codeCount)), ((ad 24), .inl (cI, 800, .inl m_buffer)), (a_m_fam, .inl (cJ, 130, .inr (.inl m_fam)))] H → va_D A [(ad 0, .inr (10, oM ad m_undoCount m_thrown m_hasSnapshot a_m_fam m_rows m_lineLength m_formattedLength m_bufferLength m_limit m_next m_beginsAt m_token m_error_41 m_errorAt_41 m_errorPosition m_nested m_codeCount)), ((ad 24), .inl (cI, 800, .inl m_buffer)), (a_m_fam, .inl (cJ, 130, .inr (.inl m_fam)))] → va_S A s.heap H locs → lv_has ls 2 [(0, .ref (ad 0)), (1, .int v1_41)] → W p l e ({ frames := 2, cells := 0, slots := 0, locals := 44 }) s m ([.ref (ad 0)] : List Value).toArray below meth c H locs 0 0 (MQ below (gQ dC dI (some (.int r9)) A [(ad 0, .inr (10, oM ad m_undoCount m_thrown m_hasSnapshot a_m_fam m_rows m_lineLength m_formattedLength m_bufferLength m_limit m_next m_beginsAt m_token m_error_9 m_errorAt_9 m_errorPosition m_nested m_codeCount)), ((ad 24), .inl (cI, 800, .inl m_buffer)), (a_m_fam, .inl (cJ, 130, .inr (.inl m_fam)))]) ([.ref (ad 0)] : List Value).toArray s 0 0 A) (F0 m 41 ls []) := by
    intro v1_41 m_error_41 m_errorAt_41 H locs ls hf hP hD hS hl
    rw [p10_readName_J41] at hf
    refine lv_aload_n hx hb dX10_readName_41 rfl (lv_at hl 0 rfl) ?_
    refine lv_aload_n hx hb dX10_readName_42 rfl (lv_at hl 0 rfl) ?_
    refine va_get (D := (dC, dI)) (ci := 10) (v := .int m_error_41) (C := RX10) (T := TX10) (N := 37) hx hb htg inX10 hown hE.1 hP 0 rfl rfl 29 (by decide) (htg _ tw1411) (fun _ h9 => h9) rfl dX10_readName_43 ?_
    refine lv_if_ne (tgt := 54) hx hb dX10_readName_46 (by decide) (fun h9 => ?_) (fun h9 => ?_)
    · have hf := itf h9 hf
      refine lv_iconst (v := 1) hx hb dX10_readName_54 (by decide) ?_
      refine lv_goto (tgt := 59) hx hb dX10_readName_55 (by decide) ?_
      refine lv_iconst (v := 4) hx hb dX10_readName_59 (by decide) ?_
      obtain ⟨m_error_60, m_errorAt_60, h9⟩ : ∃ m_error_60 m_errorAt_60, p10_check m_beginsAt m_error_41 m_errorAt_41 true (4 : Int32) = (m_error_60, m_errorAt_60) := ⟨_, _, rfl⟩
      have hf := uc2_e (lb_e h9.symm hf)
      refine gcV (index := 415) S hE (c_X10_check ad a_m_fam m_undoCount m_thrown m_hasSnapshot m_rows m_lineLength m_formattedLength m_bufferLength m_limit m_next m_beginsAt m_token m_error_41 m_errorAt_41 m_errorPosition m_nested m_codeCount true (4 : Int32) m_error_60 m_errorAt_60 h9) mX10_check tw1968 ⟨Nat.le_of_ble_eq_true rfl, Nat.le_of_ble_eq_true rfl⟩ hP hD hS hA ⟨Nat.zero_le _, Nat.zero_le _⟩ 0 10 rfl rfl rfl (wr := [((ad 24), .inl (cI, 800, .inl m_buffer)), (a_m_fam, .inl (cJ, 130, .inr (.inl m_fam)))]) [0] [1, 2] rfl rfl rfl rfl (by decide) (As := [.int (bI true), .int (4 : Int32)]) (rest := []) rfl hl.1 rfl (Nat.le_of_ble_eq_true rfl) dX10_readName_60 (fun H locs hP hD hS => ?_)
      refine W.eq (g2 := F0 m 63 ls []) rfl ?_
      have hP : va_P (dC, dI) vwCl [((ad 24), .inl (cI, 800, .inl m_buffer)), (a_m_fam, .inl (cJ, 130, .inr (.inl m_fam))), (ad 0, .inr (10, oM ad m_undoCount m_thrown m_hasSnapshot a_m_fam m_rows m_lineLength m_formattedLength m_bufferLength m_limit m_next m_beginsAt m_token m_error_60 m_errorAt_60 m_errorPosition m_nested m_codeCount))] H := hP
      have hD : va_D A [((ad 24), .inl (cI, 800, .inl m_buffer)), (a_m_fam, .inl (cJ, 130, .inr (.inl m_fam))), (ad 0, .inr (10, oM ad m_undoCount m_thrown m_hasSnapshot a_m_fam m_rows m_lineLength m_formattedLength m_bufferLength m_limit m_next m_beginsAt m_token m_error_60 m_errorAt_60 m_errorPosition m_nested m_codeCount))] := hD
      refine lv_iload_n hx hb dX10_readName_63 rfl (lv_at hl 1 rfl) ?_
      cases hf
      exact g_iret S hr hlocks (hP.sub [2, 0, 1] rfl) (hD.sub [2, 0, 1] (by decide) rfl) hS dX10_readName_64
    · have hf := itt h9 hf
      refine lv_iload_n hx hb dX10_readName_49 rfl (lv_at hl 1 rfl) ?_
      refine lv_iconst (v := -1) hx hb dX10_readName_50 (by decide) ?_
      refine lv_icmp_eq (tgt := 58) hx hb dX10_readName_51 (by decide) (fun h9 => ?_) (fun h9 => ?_)
      · have hf := itt h9 hf
        refine lv_iconst (v := 0) hx hb dX10_readName_58 (by decide) ?_
        refine lv_iconst (v := 4) hx hb dX10_readName_59 (by decide) ?_
        obtain ⟨m_error_60, m_errorAt_60, h9⟩ : ∃ m_error_60 m_errorAt_60, p10_check m_beginsAt m_error_41 m_errorAt_41 false (4 : Int32) = (m_error_60, m_errorAt_60) := ⟨_, _, rfl⟩
        have hf := uc2_e (lb_e h9.symm hf)
        refine gcV (index := 415) S hE (c_X10_check ad a_m_fam m_undoCount m_thrown m_hasSnapshot m_rows m_lineLength m_formattedLength m_bufferLength m_limit m_next m_beginsAt m_token m_error_41 m_errorAt_41 m_errorPosition m_nested m_codeCount false (4 : Int32) m_error_60 m_errorAt_60 h9) mX10_check tw1968 ⟨Nat.le_of_ble_eq_true rfl, Nat.le_of_ble_eq_true rfl⟩ hP hD hS hA ⟨Nat.zero_le _, Nat.zero_le _⟩ 0 10 rfl rfl rfl (wr := [((ad 24), .inl (cI, 800, .inl m_buffer)), (a_m_fam, .inl (cJ, 130, .inr (.inl m_fam)))]) [0] [1, 2] rfl rfl rfl rfl (by decide) (As := [.int (bI false), .int (4 : Int32)]) (rest := []) rfl hl.1 rfl (Nat.le_of_ble_eq_true rfl) dX10_readName_60 (fun H locs hP hD hS => ?_)
        refine W.eq (g2 := F0 m 63 ls []) rfl ?_
        have hP : va_P (dC, dI) vwCl [((ad 24), .inl (cI, 800, .inl m_buffer)), (a_m_fam, .inl (cJ, 130, .inr (.inl m_fam))), (ad 0, .inr (10, oM ad m_undoCount m_thrown m_hasSnapshot a_m_fam m_rows m_lineLength m_formattedLength m_bufferLength m_limit m_next m_beginsAt m_token m_error_60 m_errorAt_60 m_errorPosition m_nested m_codeCount))] H := hP
        have hD : va_D A [((ad 24), .inl (cI, 800, .inl m_buffer)), (a_m_fam, .inl (cJ, 130, .inr (.inl m_fam))), (ad 0, .inr (10, oM ad m_undoCount m_thrown m_hasSnapshot a_m_fam m_rows m_lineLength m_formattedLength m_bufferLength m_limit m_next m_beginsAt m_token m_error_60 m_errorAt_60 m_errorPosition m_nested m_codeCount))] := hD
        refine lv_iload_n hx hb dX10_readName_63 rfl (lv_at hl 1 rfl) ?_
        cases hf
        exact g_iret S hr hlocks (hP.sub [2, 0, 1] rfl) (hD.sub [2, 0, 1] (by decide) rfl) hS dX10_readName_64
      · have hf := itf h9 hf
        refine lv_iconst (v := 1) hx hb dX10_readName_54 (by decide) ?_
        refine lv_goto (tgt := 59) hx hb dX10_readName_55 (by decide) ?_
        refine lv_iconst (v := 4) hx hb dX10_readName_59 (by decide) ?_
        obtain ⟨m_error_60, m_errorAt_60, h9⟩ : ∃ m_error_60 m_errorAt_60, p10_check m_beginsAt m_error_41 m_errorAt_41 true (4 : Int32) = (m_error_60, m_errorAt_60) := ⟨_, _, rfl⟩
        have hf := uc2_e (lb_e h9.symm hf)
        refine gcV (index := 415) S hE (c_X10_check ad a_m_fam m_undoCount m_thrown m_hasSnapshot m_rows m_lineLength m_formattedLength m_bufferLength m_limit m_next m_beginsAt m_token m_error_41 m_errorAt_41 m_errorPosition m_nested m_codeCount true (4 : Int32) m_error_60 m_errorAt_60 h9) mX10_check tw1968 ⟨Nat.le_of_ble_eq_true rfl, Nat.le_of_ble_eq_true rfl⟩ hP hD hS hA ⟨Nat.zero_le _, Nat.zero_le _⟩ 0 10 rfl rfl rfl (wr := [((ad 24), .inl (cI, 800, .inl m_buffer)), (a_m_fam, .inl (cJ, 130, .inr (.inl m_fam)))]) [0] [1, 2] rfl rfl rfl rfl (by decide) (As := [.int (bI true), .int (4 : Int32)]) (rest := []) rfl hl.1 rfl (Nat.le_of_ble_eq_true rfl) dX10_readName_60 (fun H locs hP hD hS => ?_)
        refine W.eq (g2 := F0 m 63 ls []) rfl ?_
        have hP : va_P (dC, dI) vwCl [((ad 24), .inl (cI, 800, .inl m_buffer)), (a_m_fam, .inl (cJ, 130, .inr (.inl m_fam))), (ad 0, .inr (10, oM ad m_undoCount m_thrown m_hasSnapshot a_m_fam m_rows m_lineLength m_formattedLength m_bufferLength m_limit m_next m_beginsAt m_token m_error_60 m_errorAt_60 m_errorPosition m_nested m_codeCount))] H := hP
        have hD : va_D A [((ad 24), .inl (cI, 800, .inl m_buffer)), (a_m_fam, .inl (cJ, 130, .inr (.inl m_fam))), (ad 0, .inr (10, oM ad m_undoCount m_thrown m_hasSnapshot a_m_fam m_rows m_lineLength m_formattedLength m_bufferLength m_limit m_next m_beginsAt m_token m_error_60 m_errorAt_60 m_errorPosition m_nested m_codeCount))] := hD
        refine lv_iload_n hx hb dX10_readName_63 rfl (lv_at hl 1 rfl) ?_
        cases hf
        exact g_iret S hr hlocks (hP.sub [2, 0, 1] rfl) (hD.sub [2, 0, 1] (by decide) rfl) hS dX10_readName_64
  have J25 : ∀ (m_error_25 : Int32) (m_errorAt_25 : Int32) (H : Heap) (locs : List Loc) (ls : Array Slot), p10_readName_J25 m_beginsAt m_buffer m_fam m_next m_token m_error_25 m_errorAt_25 = some (r9, m_error_9, m_errorAt_9) → va_P (dC, dI) vwCl [(ad 0, .inr (10, oM ad m_undoCount m_thrown m_hasSnapshot a_m_fam m_rows m_lineLength m_formattedLength m_bufferLength m_limit m_next m_beginsAt m_token m_error_25 m_errorAt_25 m_errorPosition m_nested m_codeCount)), ((ad 24), .inl (cI, 800, .inl m_buffer)), (a_m_fam, .inl (cJ, 130, .inr (.inl m_fam)))] H → va_D A [(ad 0, .inr (10, oM ad m_undoCount m_thrown m_hasSnapshot a_m_fam m_rows m_lineLength m_formattedLength m_bufferLength m_limit m_next m_beginsAt m_token m_error_25 m_errorAt_25 m_errorPosition m_nested m_codeCount)), ((ad 24), .inl (cI, 800, .inl m_buffer)), (a_m_fam, .inl (cJ, 130, .inr (.inl m_fam)))] → va_S A s.heap H locs → lv_has ls 2 [(0, .ref (ad 0))] → W p l e ({ frames := 2, cells := 0, slots := 0, locals := 44 }) s m ([.ref (ad 0)] : List Value).toArray below meth c H locs 0 0 (MQ below (gQ dC dI (some (.int r9)) A [(ad 0, .inr (10, oM ad m_undoCount m_thrown m_hasSnapshot a_m_fam m_rows m_lineLength m_formattedLength m_bufferLength m_limit m_next m_beginsAt m_token m_error_9 m_errorAt_9 m_errorPosition m_nested m_codeCount)), ((ad 24), .inl (cI, 800, .inl m_buffer)), (a_m_fam, .inl (cJ, 130, .inr (.inl m_fam)))]) ([.ref (ad 0)] : List Value).toArray s 0 0 A) (F0 m 25 ls []) := by
    intro m_error_25 m_errorAt_25 H locs ls hf hP hD hS hl
    rw [p10_readName_J25] at hf
    refine lv_aload_n hx hb dX10_readName_25 rfl (lv_at hl 0 rfl) ?_
    refine va_get (D := (dC, dI)) (ci := 10) (v := .int m_error_25) (C := RX10) (T := TX10) (N := 37) hx hb htg inX10 hown hE.1 hP 0 rfl rfl 29 (by decide) (htg _ tw1411) (fun _ h9 => h9) rfl dX10_readName_26 ?_
    refine lv_if_eq (tgt := 36) hx hb dX10_readName_29 (by decide) (fun h9 => ?_) (fun h9 => ?_)
    · have hf := itt h9 hf
      refine lv_aload_n hx hb dX10_readName_36 rfl (lv_at hl 0 rfl) ?_
      obtain ⟨r37, h9, hf⟩ := ob_s hf
      refine gcV (index := 438) S hE (c_X10_personHere ad a_m_fam m_undoCount m_thrown m_hasSnapshot m_rows m_lineLength m_formattedLength m_bufferLength m_limit m_next m_beginsAt m_token m_error_25 m_errorAt_25 m_errorPosition m_nested m_codeCount m_buffer m_fam r37 h9) mX10_personHere tw1980 ⟨Nat.le_of_ble_eq_true rfl, Nat.le_of_ble_eq_true rfl⟩ hP hD hS hA ⟨Nat.zero_le _, Nat.zero_le _⟩ 0 10 rfl rfl rfl (wr := []) [0, 1, 2] [] rfl rfl rfl rfl (by decide) (As := []) (rest := []) rfl hl.1 rfl (Nat.le_of_ble_eq_true rfl) dX10_readName_37 (fun H locs hP hD hS => ?_)
      refine W.eq (g2 := F0 m 40 ls [.int r37]) rfl ?_
      have hP : va_P (dC, dI) vwCl [(ad 0, .inr (10, oM ad m_undoCount m_thrown m_hasSnapshot a_m_fam m_rows m_lineLength m_formattedLength m_bufferLength m_limit m_next m_beginsAt m_token m_error_25 m_errorAt_25 m_errorPosition m_nested m_codeCount)), ((ad 24), .inl (cI, 800, .inl m_buffer)), (a_m_fam, .inl (cJ, 130, .inr (.inl m_fam)))] H := hP
      have hD : va_D A [(ad 0, .inr (10, oM ad m_undoCount m_thrown m_hasSnapshot a_m_fam m_rows m_lineLength m_formattedLength m_bufferLength m_limit m_next m_beginsAt m_token m_error_25 m_errorAt_25 m_errorPosition m_nested m_codeCount)), ((ad 24), .inl (cI, 800, .inl m_buffer)), (a_m_fam, .inl (cJ, 130, .inr (.inl m_fam)))] := hD
      refine lv_istore_n (lv' := [(1, .int r37), (0, .ref (ad 0))]) hx hb dX10_readName_40 rfl hl (by decide) rfl (fun ls hl => ?_)
      exact J41 r37 m_error_25 m_errorAt_25 H locs ls hf hP hD hS (lv_sub hl [1, 0] rfl)
    · have hf := itf h9 hf
      refine lv_iconst (v := -1) hx hb dX10_readName_32 (by decide) ?_
      refine lv_goto (tgt := 40) hx hb dX10_readName_33 (by decide) ?_
      refine lv_istore_n (lv' := [(1, .int (-1 : Int32)), (0, .ref (ad 0))]) hx hb dX10_readName_40 rfl hl (by decide) rfl (fun ls hl => ?_)
      exact J41 (-1 : Int32) m_error_25 m_errorAt_25 H locs ls hf hP hD hS (lv_sub hl [1, 0] rfl)
  refine lv_aload_n hx hb dX10_readName_0 rfl (lv_at hl 0 rfl) ?_
  refine lv_aload_n hx hb dX10_readName_1 rfl (lv_at hl 0 rfl) ?_
  refine va_get (D := (dC, dI)) (ci := 10) (v := .int m_error) (C := RX10) (T := TX10) (N := 37) hx hb htg inX10 hown hE.1 hP 0 rfl rfl 29 (by decide) (htg _ tw1411) (fun _ h9 => h9) rfl dX10_readName_2 ?_
  refine lv_if_ne (tgt := 16) hx hb dX10_readName_5 (by decide) (fun h9 => ?_) (fun h9 => ?_)
  · have hf := itf h9 hf
    refine lv_iconst (v := 1) hx hb dX10_readName_16 (by decide) ?_
    refine lv_goto (tgt := 21) hx hb dX10_readName_17 (by decide) ?_
    refine lv_iconst (v := 1) hx hb dX10_readName_21 (by decide) ?_
    obtain ⟨m_error_22, m_errorAt_22, h9⟩ : ∃ m_error_22 m_errorAt_22, p10_check m_beginsAt m_error m_errorAt true (1 : Int32) = (m_error_22, m_errorAt_22) := ⟨_, _, rfl⟩
    have hf := uc2_e (lb_e h9.symm hf)
    refine gcV (index := 415) S hE (c_X10_check ad a_m_fam m_undoCount m_thrown m_hasSnapshot m_rows m_lineLength m_formattedLength m_bufferLength m_limit m_next m_beginsAt m_token m_error m_errorAt m_errorPosition m_nested m_codeCount true (1 : Int32) m_error_22 m_errorAt_22 h9) mX10_check tw1968 ⟨Nat.le_of_ble_eq_true rfl, Nat.le_of_ble_eq_true rfl⟩ hP hD hS hA ⟨Nat.zero_le _, Nat.zero_le _⟩ 0 10 rfl rfl rfl (wr := [((ad 24), .inl (cI, 800, .inl m_buffer)), (a_m_fam, .inl (cJ, 130, .inr (.inl m_fam)))]) [0] [1, 2] rfl rfl rfl rfl (by decide) (As := [.int (bI true), .int (1 : Int32)]) (rest := []) rfl hl.1 rfl (Nat.le_of_ble_eq_true rfl) dX10_readName_22 (fun H locs hP hD hS => ?_)
    refine W.eq (g2 := F0 m 25 ls []) rfl ?_
    have hP : va_P (dC, dI) vwCl [((ad 24), .inl (cI, 800, .inl m_buffer)), (a_m_fam, .inl (cJ, 130, .inr (.inl m_fam))), (ad 0, .inr (10, oM ad m_undoCount m_thrown m_hasSnapshot a_m_fam m_rows m_lineLength m_formattedLength m_bufferLength m_limit m_next m_beginsAt m_token m_error_22 m_errorAt_22 m_errorPosition m_nested m_codeCount))] H := hP
    have hD : va_D A [((ad 24), .inl (cI, 800, .inl m_buffer)), (a_m_fam, .inl (cJ, 130, .inr (.inl m_fam))), (ad 0, .inr (10, oM ad m_undoCount m_thrown m_hasSnapshot a_m_fam m_rows m_lineLength m_formattedLength m_bufferLength m_limit m_next m_beginsAt m_token m_error_22 m_errorAt_22 m_errorPosition m_nested m_codeCount))] := hD
    exact J25 m_error_22 m_errorAt_22 H locs ls hf (hP.sub [2, 0, 1] rfl) (hD.sub [2, 0, 1] (by decide) rfl) hS (lv_sub hl [0] rfl)
  · have hf := itt h9 hf
    refine lv_aload_n hx hb dX10_readName_8 rfl (lv_at hl 0 rfl) ?_
    refine va_get (D := (dC, dI)) (ci := 10) (v := .int m_token) (C := RX10) (T := TX10) (N := 37) hx hb htg inX10 hown hE.1 hP 0 rfl rfl 28 (by decide) (htg _ tw1410) (fun _ h9 => h9) rfl dX10_readName_9 ?_
    refine lv_iconst (v := 1) hx hb dX10_readName_12 (by decide) ?_
    refine lv_icmp_ne (tgt := 20) hx hb dX10_readName_13 (by decide) (fun h9 => ?_) (fun h9 => ?_)
    · have hf := itf h9 hf
      refine lv_iconst (v := 0) hx hb dX10_readName_20 (by decide) ?_
      refine lv_iconst (v := 1) hx hb dX10_readName_21 (by decide) ?_
      obtain ⟨m_error_22, m_errorAt_22, h9⟩ : ∃ m_error_22 m_errorAt_22, p10_check m_beginsAt m_error m_errorAt false (1 : Int32) = (m_error_22, m_errorAt_22) := ⟨_, _, rfl⟩
      have hf := uc2_e (lb_e h9.symm hf)
      refine gcV (index := 415) S hE (c_X10_check ad a_m_fam m_undoCount m_thrown m_hasSnapshot m_rows m_lineLength m_formattedLength m_bufferLength m_limit m_next m_beginsAt m_token m_error m_errorAt m_errorPosition m_nested m_codeCount false (1 : Int32) m_error_22 m_errorAt_22 h9) mX10_check tw1968 ⟨Nat.le_of_ble_eq_true rfl, Nat.le_of_ble_eq_true rfl⟩ hP hD hS hA ⟨Nat.zero_le _, Nat.zero_le _⟩ 0 10 rfl rfl rfl (wr := [((ad 24), .inl (cI, 800, .inl m_buffer)), (a_m_fam, .inl (cJ, 130, .inr (.inl m_fam)))]) [0] [1, 2] rfl rfl rfl rfl (by decide) (As := [.int (bI false), .int (1 : Int32)]) (rest := []) rfl hl.1 rfl (Nat.le_of_ble_eq_true rfl) dX10_readName_22 (fun H locs hP hD hS => ?_)
      refine W.eq (g2 := F0 m 25 ls []) rfl ?_
      have hP : va_P (dC, dI) vwCl [((ad 24), .inl (cI, 800, .inl m_buffer)), (a_m_fam, .inl (cJ, 130, .inr (.inl m_fam))), (ad 0, .inr (10, oM ad m_undoCount m_thrown m_hasSnapshot a_m_fam m_rows m_lineLength m_formattedLength m_bufferLength m_limit m_next m_beginsAt m_token m_error_22 m_errorAt_22 m_errorPosition m_nested m_codeCount))] H := hP
      have hD : va_D A [((ad 24), .inl (cI, 800, .inl m_buffer)), (a_m_fam, .inl (cJ, 130, .inr (.inl m_fam))), (ad 0, .inr (10, oM ad m_undoCount m_thrown m_hasSnapshot a_m_fam m_rows m_lineLength m_formattedLength m_bufferLength m_limit m_next m_beginsAt m_token m_error_22 m_errorAt_22 m_errorPosition m_nested m_codeCount))] := hD
      exact J25 m_error_22 m_errorAt_22 H locs ls hf (hP.sub [2, 0, 1] rfl) (hD.sub [2, 0, 1] (by decide) rfl) hS (lv_sub hl [0] rfl)
    · have hf := itt h9 hf
      refine lv_iconst (v := 1) hx hb dX10_readName_16 (by decide) ?_
      refine lv_goto (tgt := 21) hx hb dX10_readName_17 (by decide) ?_
      refine lv_iconst (v := 1) hx hb dX10_readName_21 (by decide) ?_
      obtain ⟨m_error_22, m_errorAt_22, h9⟩ : ∃ m_error_22 m_errorAt_22, p10_check m_beginsAt m_error m_errorAt true (1 : Int32) = (m_error_22, m_errorAt_22) := ⟨_, _, rfl⟩
      have hf := uc2_e (lb_e h9.symm hf)
      refine gcV (index := 415) S hE (c_X10_check ad a_m_fam m_undoCount m_thrown m_hasSnapshot m_rows m_lineLength m_formattedLength m_bufferLength m_limit m_next m_beginsAt m_token m_error m_errorAt m_errorPosition m_nested m_codeCount true (1 : Int32) m_error_22 m_errorAt_22 h9) mX10_check tw1968 ⟨Nat.le_of_ble_eq_true rfl, Nat.le_of_ble_eq_true rfl⟩ hP hD hS hA ⟨Nat.zero_le _, Nat.zero_le _⟩ 0 10 rfl rfl rfl (wr := [((ad 24), .inl (cI, 800, .inl m_buffer)), (a_m_fam, .inl (cJ, 130, .inr (.inl m_fam)))]) [0] [1, 2] rfl rfl rfl rfl (by decide) (As := [.int (bI true), .int (1 : Int32)]) (rest := []) rfl hl.1 rfl (Nat.le_of_ble_eq_true rfl) dX10_readName_22 (fun H locs hP hD hS => ?_)
      refine W.eq (g2 := F0 m 25 ls []) rfl ?_
      have hP : va_P (dC, dI) vwCl [((ad 24), .inl (cI, 800, .inl m_buffer)), (a_m_fam, .inl (cJ, 130, .inr (.inl m_fam))), (ad 0, .inr (10, oM ad m_undoCount m_thrown m_hasSnapshot a_m_fam m_rows m_lineLength m_formattedLength m_bufferLength m_limit m_next m_beginsAt m_token m_error_22 m_errorAt_22 m_errorPosition m_nested m_codeCount))] H := hP
      have hD : va_D A [((ad 24), .inl (cI, 800, .inl m_buffer)), (a_m_fam, .inl (cJ, 130, .inr (.inl m_fam))), (ad 0, .inr (10, oM ad m_undoCount m_thrown m_hasSnapshot a_m_fam m_rows m_lineLength m_formattedLength m_bufferLength m_limit m_next m_beginsAt m_token m_error_22 m_errorAt_22 m_errorPosition m_nested m_codeCount))] := hD
      exact J25 m_error_22 m_errorAt_22 H locs ls hf (hP.sub [2, 0, 1] rfl) (hD.sub [2, 0, 1] (by decide) rfl) hS (lv_sub hl [0] rfl)
set_option maxHeartbeats 4000000 in
set_option maxRecDepth 100000 in
theorem c_X10_readChild (ad : Nat → Nat) (a_m_fam : Nat) (m_undoCount : Int32) (m_thrown : Int32) (m_hasSnapshot : Bool) (m_rows : Int32) (m_lineLength : Int32) (m_formattedLength : Int32) (m_bufferLength : Int32) (m_limit : Int32) (m_next : Int32) (m_beginsAt : Int32) (m_token : Int32) (m_error : Int32) (m_errorAt : Int32) (m_errorPosition : Int32) (m_nested : Int32) (m_codeCount : Int32) (m_buffer : Nat → Int32) (m_fam : Nat → Int64) (v1 : Int32) (m_beginsAt_9 : Int32) (m_error_9 : Int32) (m_errorAt_9 : Int32) (m_fam_9 : Nat → Int64) (m_next_9 : Int32) (m_token_9 : Int32) (hf : p10_readChild m_limit m_next m_beginsAt m_token m_error m_errorAt m_buffer m_fam v1 = some (m_beginsAt_9, m_error_9, m_errorAt_9, m_fam_9, m_next_9, m_token_9)) : gM l dC dI cI cJ cZ yX10_readChild cX10_readChild 3 none (4) (93) [.ref (ad 0), .int v1] [(ad 0, .inr (10, oM ad m_undoCount m_thrown m_hasSnapshot a_m_fam m_rows m_lineLength m_formattedLength m_bufferLength m_limit m_next m_beginsAt m_token m_error m_errorAt m_errorPosition m_nested m_codeCount)), ((ad 24), .inl (cI, 800, .inl m_buffer)), (a_m_fam, .inl (cJ, 130, .inr (.inl m_fam)))] [(ad 0, .inr (10, oM ad m_undoCount m_thrown m_hasSnapshot a_m_fam m_rows m_lineLength m_formattedLength m_bufferLength m_limit m_next_9 m_beginsAt_9 m_token_9 m_error_9 m_errorAt_9 m_errorPosition m_nested m_codeCount)), ((ad 24), .inl (cI, 800, .inl m_buffer)), (a_m_fam, .inl (cJ, 130, .inr (.inl m_fam_9)))] none := by
  refine g_start (own := RX10) (by decide +kernel) rfl (Nat.le_of_ble_eq_true rfl) ?_
  intro p e s m below meth c A ls S hr hlocks hE hP hD hS hA hl hin
  have hx := S.1
  have hb := S.2.1
  have hml := S.2.2.1
  have hown := S.2.2.2.1
  have htg : ∀ z ∈ gw, z.before ([.ref (ad 0), .int v1] : List Value).toArray s = true := fun w h => S.2.2.2.2 w (List.mem_cons_of_mem _ h)
  have hl : lv_has ls 3 [(0, .ref (ad 0)), (1, .int v1)] := hl
  have hS0 := hS
  obtain ⟨H, hH⟩ : ∃ H, H = s.heap := ⟨_, rfl⟩
  obtain ⟨locs, hlc⟩ : ∃ locs : List Loc, locs = [] := ⟨_, rfl⟩
  have hS : va_S A s.heap H locs := by rw [hH, hlc]; exact hS0
  have hP : va_P (dC, dI) vwCl [(ad 0, .inr (10, oM ad m_undoCount m_thrown m_hasSnapshot a_m_fam m_rows m_lineLength m_formattedLength m_bufferLength m_limit m_next m_beginsAt m_token m_error m_errorAt m_errorPosition m_nested m_codeCount)), ((ad 24), .inl (cI, 800, .inl m_buffer)), (a_m_fam, .inl (cJ, 130, .inr (.inl m_fam)))] H := by rw [hH]; exact hP
  suffices hgo : W p l e ({ frames := 4, cells := 0, slots := 0, locals := 93 }) s m ([.ref (ad 0), .int v1] : List Value).toArray below meth c H locs 0 0 (MQ below (gQ dC dI none A [(ad 0, .inr (10, oM ad m_undoCount m_thrown m_hasSnapshot a_m_fam m_rows m_lineLength m_formattedLength m_bufferLength m_limit m_next_9 m_beginsAt_9 m_token_9 m_error_9 m_errorAt_9 m_errorPosition m_nested m_codeCount)), ((ad 24), .inl (cI, 800, .inl m_buffer)), (a_m_fam, .inl (cJ, 130, .inr (.inl m_fam_9)))]) ([.ref (ad 0), .int v1] : List Value).toArray s 0 0 A) (F0 m 0 ls []) by rw [hH, hlc] at hgo; exact hgo
  rw [p10_readChild] at hf
  have J55 : ∀ (m_error_55 : Int32) (m_errorAt_55 : Int32) (m_fam_55 : Nat → Int64) (H : Heap) (locs : List Loc) (ls : Array Slot), p10_readChild_J55 m_beginsAt m_buffer m_limit m_next m_token m_error_55 m_errorAt_55 m_fam_55 = some (m_beginsAt_9, m_error_9, m_errorAt_9, m_fam_9, m_next_9, m_token_9) → va_P (dC, dI) vwCl [(ad 0, .inr (10, oM ad m_undoCount m_thrown m_hasSnapshot a_m_fam m_rows m_lineLength m_formattedLength m_bufferLength m_limit m_next m_beginsAt m_token m_error_55 m_errorAt_55 m_errorPosition m_nested m_codeCount)), ((ad 24), .inl (cI, 800, .inl m_buffer)), (a_m_fam, .inl (cJ, 130, .inr (.inl m_fam_55)))] H → va_D A [(ad 0, .inr (10, oM ad m_undoCount m_thrown m_hasSnapshot a_m_fam m_rows m_lineLength m_formattedLength m_bufferLength m_limit m_next m_beginsAt m_token m_error_55 m_errorAt_55 m_errorPosition m_nested m_codeCount)), ((ad 24), .inl (cI, 800, .inl m_buffer)), (a_m_fam, .inl (cJ, 130, .inr (.inl m_fam_55)))] → va_S A s.heap H locs → lv_has ls 3 [(0, .ref (ad 0))] → W p l e ({ frames := 4, cells := 0, slots := 0, locals := 93 }) s m ([.ref (ad 0), .int v1] : List Value).toArray below meth c H locs 0 0 (MQ below (gQ dC dI none A [(ad 0, .inr (10, oM ad m_undoCount m_thrown m_hasSnapshot a_m_fam m_rows m_lineLength m_formattedLength m_bufferLength m_limit m_next_9 m_beginsAt_9 m_token_9 m_error_9 m_errorAt_9 m_errorPosition m_nested m_codeCount)), ((ad 24), .inl (cI, 800, .inl m_buffer)), (a_m_fam, .inl (cJ, 130, .inr (.inl m_fam_9)))]) ([.ref (ad 0), .int v1] : List Value).toArray s 0 0 A) (F0 m 55 ls []) := by
    intro m_error_55 m_errorAt_55 m_fam_55 H locs ls hf hP hD hS hl
    rw [p10_readChild_J55] at hf
    refine lv_aload_n hx hb dX10_readChild_55 rfl (lv_at hl 0 rfl) ?_
    obtain ⟨⟨m_beginsAt_56, m_next_56, m_token_56⟩, h9, hf⟩ := ob_s hf
    have hf := uc3_e hf
    refine gcV (index := 419) S hE (c_X10_advance ad a_m_fam m_undoCount m_thrown m_hasSnapshot m_rows m_lineLength m_formattedLength m_bufferLength m_limit m_next m_beginsAt m_token m_error_55 m_errorAt_55 m_errorPosition m_nested m_codeCount m_buffer m_beginsAt_56 m_next_56 m_token_56 h9) mX10_advance tw1976 ⟨Nat.le_of_ble_eq_true rfl, Nat.le_of_ble_eq_true rfl⟩ hP hD hS hA ⟨Nat.zero_le _, Nat.zero_le _⟩ 0 10 rfl rfl rfl (wr := [(a_m_fam, .inl (cJ, 130, .inr (.inl m_fam_55)))]) [0, 1] [2] rfl rfl rfl rfl (by decide) (As := []) (rest := []) rfl hl.1 rfl (Nat.le_of_ble_eq_true rfl) dX10_readChild_56 (fun H locs hP hD hS => ?_)
    refine W.eq (g2 := F0 m 59 ls []) rfl ?_
    have hP : va_P (dC, dI) vwCl [(a_m_fam, .inl (cJ, 130, .inr (.inl m_fam_55))), (ad 0, .inr (10, oM ad m_undoCount m_thrown m_hasSnapshot a_m_fam m_rows m_lineLength m_formattedLength m_bufferLength m_limit m_next_56 m_beginsAt_56 m_token_56 m_error_55 m_errorAt_55 m_errorPosition m_nested m_codeCount)), ((ad 24), .inl (cI, 800, .inl m_buffer))] H := hP
    have hD : va_D A [(a_m_fam, .inl (cJ, 130, .inr (.inl m_fam_55))), (ad 0, .inr (10, oM ad m_undoCount m_thrown m_hasSnapshot a_m_fam m_rows m_lineLength m_formattedLength m_bufferLength m_limit m_next_56 m_beginsAt_56 m_token_56 m_error_55 m_errorAt_55 m_errorPosition m_nested m_codeCount)), ((ad 24), .inl (cI, 800, .inl m_buffer))] := hD
    cases hf
    exact g_vret S hr hlocks (hP.sub [1, 2, 0] rfl) (hD.sub [1, 2, 0] (by decide) rfl) hS dX10_readChild_59
  have J40 : ∀ (v2_40 : Int32) (m_error_40 : Int32) (m_errorAt_40 : Int32) (H : Heap) (locs : List Loc) (ls : Array Slot), p10_readChild_J40 m_beginsAt m_buffer m_fam m_limit m_next m_token v1 v2_40 m_error_40 m_errorAt_40 = some (m_beginsAt_9, m_error_9, m_errorAt_9, m_fam_9, m_next_9, m_token_9) → va_P (dC, dI) vwCl [(ad 0, .inr (10, oM ad m_undoCount m_thrown m_hasSnapshot a_m_fam m_rows m_lineLength m_formattedLength m_bufferLength m_limit m_next m_beginsAt m_token m_error_40 m_errorAt_40 m_errorPosition m_nested m_codeCount)), ((ad 24), .inl (cI, 800, .inl m_buffer)), (a_m_fam, .inl (cJ, 130, .inr (.inl m_fam)))] H → va_D A [(ad 0, .inr (10, oM ad m_undoCount m_thrown m_hasSnapshot a_m_fam m_rows m_lineLength m_formattedLength m_bufferLength m_limit m_next m_beginsAt m_token m_error_40 m_errorAt_40 m_errorPosition m_nested m_codeCount)), ((ad 24), .inl (cI, 800, .inl m_buffer)), (a_m_fam, .inl (cJ, 130, .inr (.inl m_fam)))] → va_S A s.heap H locs → lv_has ls 3 [(0, .ref (ad 0)), (1, .int v1), (2, .int v2_40)] → W p l e ({ frames := 4, cells := 0, slots := 0, locals := 93 }) s m ([.ref (ad 0), .int v1] : List Value).toArray below meth c H locs 0 0 (MQ below (gQ dC dI none A [(ad 0, .inr (10, oM ad m_undoCount m_thrown m_hasSnapshot a_m_fam m_rows m_lineLength m_formattedLength m_bufferLength m_limit m_next_9 m_beginsAt_9 m_token_9 m_error_9 m_errorAt_9 m_errorPosition m_nested m_codeCount)), ((ad 24), .inl (cI, 800, .inl m_buffer)), (a_m_fam, .inl (cJ, 130, .inr (.inl m_fam_9)))]) ([.ref (ad 0), .int v1] : List Value).toArray s 0 0 A) (F0 m 40 ls []) := by
    intro v2_40 m_error_40 m_errorAt_40 H locs ls hf hP hD hS hl
    rw [p10_readChild_J40] at hf
    refine lv_aload_n hx hb dX10_readChild_40 rfl (lv_at hl 0 rfl) ?_
    refine va_get (D := (dC, dI)) (ci := 10) (v := .int m_error_40) (C := RX10) (T := TX10) (N := 37) hx hb htg inX10 hown hE.1 hP 0 rfl rfl 29 (by decide) (htg _ tw1411) (fun _ h9 => h9) rfl dX10_readChild_41 ?_
    refine lv_if_ne (tgt := 55) hx hb dX10_readChild_44 (by decide) (fun h9 => ?_) (fun h9 => ?_)
    · have hf := itf h9 hf
      exact J55 m_error_40 m_errorAt_40 m_fam H locs ls hf hP hD hS (lv_sub hl [0] rfl)
    · have hf := itt h9 hf
      refine lv_aload_n hx hb dX10_readChild_47 rfl (lv_at hl 0 rfl) ?_
      refine lv_iload_n hx hb dX10_readChild_48 rfl (lv_at hl 2 rfl) ?_
      refine lv_iconst (v := 1) hx hb dX10_readChild_49 (by decide) ?_
      refine lv_iload_n hx hb dX10_readChild_50 rfl (lv_at hl 1 rfl) ?_
      refine lv_i2l hx hb dX10_readChild_51 rfl ?_
      obtain ⟨m_fam_52, h9, hf⟩ := ob_s hf
      refine gcV (index := 339) S hE (c_X10_putPerson ad a_m_fam m_undoCount m_thrown m_hasSnapshot m_rows m_lineLength m_formattedLength m_bufferLength m_limit m_next m_beginsAt m_token m_error_40 m_errorAt_40 m_errorPosition m_nested m_codeCount m_fam v2_40 (1 : Int32) v1.toInt64 m_fam_52 h9) mX10_putPerson tw1869 ⟨Nat.le_of_ble_eq_true rfl, Nat.le_of_ble_eq_true rfl⟩ hP hD hS hA ⟨Nat.zero_le _, Nat.zero_le _⟩ 0 10 rfl rfl rfl (wr := [((ad 24), .inl (cI, 800, .inl m_buffer))]) [0, 2] [1] rfl rfl rfl rfl (by decide) (As := [.int v2_40, .int (1 : Int32), .long v1.toInt64]) (rest := []) rfl hl.1 rfl (Nat.le_of_ble_eq_true rfl) dX10_readChild_52 (fun H locs hP hD hS => ?_)
      refine W.eq (g2 := F0 m 55 ls []) rfl ?_
      have hP : va_P (dC, dI) vwCl [((ad 24), .inl (cI, 800, .inl m_buffer)), (ad 0, .inr (10, oM ad m_undoCount m_thrown m_hasSnapshot a_m_fam m_rows m_lineLength m_formattedLength m_bufferLength m_limit m_next m_beginsAt m_token m_error_40 m_errorAt_40 m_errorPosition m_nested m_codeCount)), (a_m_fam, .inl (cJ, 130, .inr (.inl m_fam_52)))] H := hP
      have hD : va_D A [((ad 24), .inl (cI, 800, .inl m_buffer)), (ad 0, .inr (10, oM ad m_undoCount m_thrown m_hasSnapshot a_m_fam m_rows m_lineLength m_formattedLength m_bufferLength m_limit m_next m_beginsAt m_token m_error_40 m_errorAt_40 m_errorPosition m_nested m_codeCount)), (a_m_fam, .inl (cJ, 130, .inr (.inl m_fam_52)))] := hD
      exact J55 m_error_40 m_errorAt_40 m_fam_52 H locs ls hf (hP.sub [1, 0, 2] rfl) (hD.sub [1, 0, 2] (by decide) rfl) hS (lv_sub hl [0] rfl)
  refine lv_aload_n hx hb dX10_readChild_0 rfl (lv_at hl 0 rfl) ?_
  obtain ⟨⟨r1, m_error_1, m_errorAt_1⟩, h9, hf⟩ := ob_s hf
  have hf := uc3_e hf
  refine gcV (index := 444) S hE (c_X10_readName ad a_m_fam m_undoCount m_thrown m_hasSnapshot m_rows m_lineLength m_formattedLength m_bufferLength m_limit m_next m_beginsAt m_token m_error m_errorAt m_errorPosition m_nested m_codeCount m_buffer m_fam r1 m_error_1 m_errorAt_1 h9) mX10_readName tw2004 ⟨Nat.le_of_ble_eq_true rfl, Nat.le_of_ble_eq_true rfl⟩ hP hD hS hA ⟨Nat.zero_le _, Nat.zero_le _⟩ 0 10 rfl rfl rfl (wr := []) [0, 1, 2] [] rfl rfl rfl rfl (by decide) (As := []) (rest := []) rfl hl.1 rfl (Nat.le_of_ble_eq_true rfl) dX10_readChild_1 (fun H locs hP hD hS => ?_)
  refine W.eq (g2 := F0 m 4 ls [.int r1]) rfl ?_
  have hP : va_P (dC, dI) vwCl [(ad 0, .inr (10, oM ad m_undoCount m_thrown m_hasSnapshot a_m_fam m_rows m_lineLength m_formattedLength m_bufferLength m_limit m_next m_beginsAt m_token m_error_1 m_errorAt_1 m_errorPosition m_nested m_codeCount)), ((ad 24), .inl (cI, 800, .inl m_buffer)), (a_m_fam, .inl (cJ, 130, .inr (.inl m_fam)))] H := hP
  have hD : va_D A [(ad 0, .inr (10, oM ad m_undoCount m_thrown m_hasSnapshot a_m_fam m_rows m_lineLength m_formattedLength m_bufferLength m_limit m_next m_beginsAt m_token m_error_1 m_errorAt_1 m_errorPosition m_nested m_codeCount)), ((ad 24), .inl (cI, 800, .inl m_buffer)), (a_m_fam, .inl (cJ, 130, .inr (.inl m_fam)))] := hD
  refine lv_istore_n (lv' := [(2, .int r1), (0, .ref (ad 0)), (1, .int v1)]) hx hb dX10_readChild_4 rfl hl (by decide) rfl (fun ls hl => ?_)
  refine lv_aload_n hx hb dX10_readChild_5 rfl (lv_at hl 1 rfl) ?_
  refine lv_aload_n hx hb dX10_readChild_6 rfl (lv_at hl 1 rfl) ?_
  refine va_get (D := (dC, dI)) (ci := 10) (v := .int m_error_1) (C := RX10) (T := TX10) (N := 37) hx hb htg inX10 hown hE.1 hP 0 rfl rfl 29 (by decide) (htg _ tw1411) (fun _ h9 => h9) rfl dX10_readChild_7 ?_
  refine lv_if_ne (tgt := 31) hx hb dX10_readChild_10 (by decide) (fun h9 => ?_) (fun h9 => ?_)
  · have hf := itf h9 hf
    refine lv_iconst (v := 1) hx hb dX10_readChild_31 (by decide) ?_
    refine lv_goto (tgt := 36) hx hb dX10_readChild_32 (by decide) ?_
    refine lv_iconst (v := 5) hx hb dX10_readChild_36 (by decide) ?_
    obtain ⟨m_error_37, m_errorAt_37, h9⟩ : ∃ m_error_37 m_errorAt_37, p10_check m_beginsAt m_error_1 m_errorAt_1 true (5 : Int32) = (m_error_37, m_errorAt_37) := ⟨_, _, rfl⟩
    have hf := uc2_e (lb_e h9.symm hf)
    refine gcV (index := 415) S hE (c_X10_check ad a_m_fam m_undoCount m_thrown m_hasSnapshot m_rows m_lineLength m_formattedLength m_bufferLength m_limit m_next m_beginsAt m_token m_error_1 m_errorAt_1 m_errorPosition m_nested m_codeCount true (5 : Int32) m_error_37 m_errorAt_37 h9) mX10_check tw1968 ⟨Nat.le_of_ble_eq_true rfl, Nat.le_of_ble_eq_true rfl⟩ hP hD hS hA ⟨Nat.zero_le _, Nat.zero_le _⟩ 0 10 rfl rfl rfl (wr := [((ad 24), .inl (cI, 800, .inl m_buffer)), (a_m_fam, .inl (cJ, 130, .inr (.inl m_fam)))]) [0] [1, 2] rfl rfl rfl rfl (by decide) (As := [.int (bI true), .int (5 : Int32)]) (rest := []) rfl hl.1 rfl (Nat.le_of_ble_eq_true rfl) dX10_readChild_37 (fun H locs hP hD hS => ?_)
    refine W.eq (g2 := F0 m 40 ls []) rfl ?_
    have hP : va_P (dC, dI) vwCl [((ad 24), .inl (cI, 800, .inl m_buffer)), (a_m_fam, .inl (cJ, 130, .inr (.inl m_fam))), (ad 0, .inr (10, oM ad m_undoCount m_thrown m_hasSnapshot a_m_fam m_rows m_lineLength m_formattedLength m_bufferLength m_limit m_next m_beginsAt m_token m_error_37 m_errorAt_37 m_errorPosition m_nested m_codeCount))] H := hP
    have hD : va_D A [((ad 24), .inl (cI, 800, .inl m_buffer)), (a_m_fam, .inl (cJ, 130, .inr (.inl m_fam))), (ad 0, .inr (10, oM ad m_undoCount m_thrown m_hasSnapshot a_m_fam m_rows m_lineLength m_formattedLength m_bufferLength m_limit m_next m_beginsAt m_token m_error_37 m_errorAt_37 m_errorPosition m_nested m_codeCount))] := hD
    exact J40 r1 m_error_37 m_errorAt_37 H locs ls hf (hP.sub [2, 0, 1] rfl) (hD.sub [2, 0, 1] (by decide) rfl) hS (lv_sub hl [1, 2, 0] rfl)
  · have hf := itt h9 hf
    refine lv_aload_n hx hb dX10_readChild_13 rfl (lv_at hl 1 rfl) ?_
    refine lv_iload_n hx hb dX10_readChild_14 rfl (lv_at hl 0 rfl) ?_
    obtain ⟨r15, h9, hf⟩ := ob_s hf
    refine gcV (index := 117) S hE (c_X10_parentsOf ad a_m_fam m_undoCount m_thrown m_hasSnapshot m_rows m_lineLength m_formattedLength m_bufferLength m_limit m_next m_beginsAt m_token m_error_1 m_errorAt_1 m_errorPosition m_nested m_codeCount m_fam r1 r15 h9) mX10_parentsOf tw1515 ⟨Nat.le_of_ble_eq_true rfl, Nat.le_of_ble_eq_true rfl⟩ hP hD hS hA ⟨Nat.zero_le _, Nat.zero_le _⟩ 0 10 rfl rfl rfl (wr := [((ad 24), .inl (cI, 800, .inl m_buffer))]) [0, 2] [1] rfl rfl rfl rfl (by decide) (As := [.int r1]) (rest := [.ref (ad 0)]) rfl hl.1 rfl (Nat.le_of_ble_eq_true rfl) dX10_readChild_15 (fun H locs hP hD hS => ?_)
    refine W.eq (g2 := F0 m 18 ls [.int r15, .ref (ad 0)]) rfl ?_
    have hP : va_P (dC, dI) vwCl [((ad 24), .inl (cI, 800, .inl m_buffer)), (ad 0, .inr (10, oM ad m_undoCount m_thrown m_hasSnapshot a_m_fam m_rows m_lineLength m_formattedLength m_bufferLength m_limit m_next m_beginsAt m_token m_error_1 m_errorAt_1 m_errorPosition m_nested m_codeCount)), (a_m_fam, .inl (cJ, 130, .inr (.inl m_fam)))] H := hP
    have hD : va_D A [((ad 24), .inl (cI, 800, .inl m_buffer)), (ad 0, .inr (10, oM ad m_undoCount m_thrown m_hasSnapshot a_m_fam m_rows m_lineLength m_formattedLength m_bufferLength m_limit m_next m_beginsAt m_token m_error_1 m_errorAt_1 m_errorPosition m_nested m_codeCount)), (a_m_fam, .inl (cJ, 130, .inr (.inl m_fam)))] := hD
    refine lv_iconst (v := -1) hx hb dX10_readChild_18 (by decide) ?_
    refine lv_icmp_ne (tgt := 35) hx hb dX10_readChild_19 (by decide) (fun h9 => ?_) (fun h9 => ?_)
    · have hf := itf h9 hf
      refine lv_iconst (v := 0) hx hb dX10_readChild_35 (by decide) ?_
      refine lv_iconst (v := 5) hx hb dX10_readChild_36 (by decide) ?_
      obtain ⟨m_error_37, m_errorAt_37, h9⟩ : ∃ m_error_37 m_errorAt_37, p10_check m_beginsAt m_error_1 m_errorAt_1 false (5 : Int32) = (m_error_37, m_errorAt_37) := ⟨_, _, rfl⟩
      have hf := uc2_e (lb_e h9.symm hf)
      refine gcV (index := 415) S hE (c_X10_check ad a_m_fam m_undoCount m_thrown m_hasSnapshot m_rows m_lineLength m_formattedLength m_bufferLength m_limit m_next m_beginsAt m_token m_error_1 m_errorAt_1 m_errorPosition m_nested m_codeCount false (5 : Int32) m_error_37 m_errorAt_37 h9) mX10_check tw1968 ⟨Nat.le_of_ble_eq_true rfl, Nat.le_of_ble_eq_true rfl⟩ hP hD hS hA ⟨Nat.zero_le _, Nat.zero_le _⟩ 1 10 rfl rfl rfl (wr := [((ad 24), .inl (cI, 800, .inl m_buffer)), (a_m_fam, .inl (cJ, 130, .inr (.inl m_fam)))]) [1] [0, 2] rfl rfl rfl rfl (by decide) (As := [.int (bI false), .int (5 : Int32)]) (rest := []) rfl hl.1 rfl (Nat.le_of_ble_eq_true rfl) dX10_readChild_37 (fun H locs hP hD hS => ?_)
      refine W.eq (g2 := F0 m 40 ls []) rfl ?_
      have hP : va_P (dC, dI) vwCl [((ad 24), .inl (cI, 800, .inl m_buffer)), (a_m_fam, .inl (cJ, 130, .inr (.inl m_fam))), (ad 0, .inr (10, oM ad m_undoCount m_thrown m_hasSnapshot a_m_fam m_rows m_lineLength m_formattedLength m_bufferLength m_limit m_next m_beginsAt m_token m_error_37 m_errorAt_37 m_errorPosition m_nested m_codeCount))] H := hP
      have hD : va_D A [((ad 24), .inl (cI, 800, .inl m_buffer)), (a_m_fam, .inl (cJ, 130, .inr (.inl m_fam))), (ad 0, .inr (10, oM ad m_undoCount m_thrown m_hasSnapshot a_m_fam m_rows m_lineLength m_formattedLength m_bufferLength m_limit m_next m_beginsAt m_token m_error_37 m_errorAt_37 m_errorPosition m_nested m_codeCount))] := hD
      exact J40 r1 m_error_37 m_errorAt_37 H locs ls hf (hP.sub [2, 0, 1] rfl) (hD.sub [2, 0, 1] (by decide) rfl) hS (lv_sub hl [1, 2, 0] rfl)
    · have hf := itt h9 hf
      refine lv_aload_n hx hb dX10_readChild_22 rfl (lv_at hl 1 rfl) ?_
      refine lv_iload_n hx hb dX10_readChild_23 rfl (lv_at hl 2 rfl) ?_
      refine lv_iload_n hx hb dX10_readChild_24 rfl (lv_at hl 0 rfl) ?_
      obtain ⟨r25, h9, hf⟩ := ob_s hf
      refine gcV (index := 336) S hE (c_X10_isAncestorOfBoth ad a_m_fam m_undoCount m_thrown m_hasSnapshot m_rows m_lineLength m_formattedLength m_bufferLength m_limit m_next m_beginsAt m_token m_error_1 m_errorAt_1 m_errorPosition m_nested m_codeCount m_fam v1 r1 r25 h9) mX10_isAncestorOfBoth tw1865 ⟨Nat.le_of_ble_eq_true rfl, Nat.le_of_ble_eq_true rfl⟩ hP hD hS hA ⟨Nat.zero_le _, Nat.zero_le _⟩ 1 10 rfl rfl rfl (wr := [((ad 24), .inl (cI, 800, .inl m_buffer))]) [1, 2] [0] rfl rfl rfl rfl (by decide) (As := [.int v1, .int r1]) (rest := [.ref (ad 0)]) rfl hl.1 rfl (Nat.le_of_ble_eq_true rfl) dX10_readChild_25 (fun H locs hP hD hS => ?_)
      refine W.eq (g2 := F0 m 28 ls [.int (bI r25), .ref (ad 0)]) rfl ?_
      have hP : va_P (dC, dI) vwCl [((ad 24), .inl (cI, 800, .inl m_buffer)), (ad 0, .inr (10, oM ad m_undoCount m_thrown m_hasSnapshot a_m_fam m_rows m_lineLength m_formattedLength m_bufferLength m_limit m_next m_beginsAt m_token m_error_1 m_errorAt_1 m_errorPosition m_nested m_codeCount)), (a_m_fam, .inl (cJ, 130, .inr (.inl m_fam)))] H := hP
      have hD : va_D A [((ad 24), .inl (cI, 800, .inl m_buffer)), (ad 0, .inr (10, oM ad m_undoCount m_thrown m_hasSnapshot a_m_fam m_rows m_lineLength m_formattedLength m_bufferLength m_limit m_next m_beginsAt m_token m_error_1 m_errorAt_1 m_errorPosition m_nested m_codeCount)), (a_m_fam, .inl (cJ, 130, .inr (.inl m_fam)))] := hD
      refine lv_if_ne (tgt := 35) hx hb dX10_readChild_28 (by decide) (fun h9 => ?_) (fun h9 => ?_)
      · have hf := ctt (bI_1 h9) hf
        refine lv_iconst (v := 0) hx hb dX10_readChild_35 (by decide) ?_
        refine lv_iconst (v := 5) hx hb dX10_readChild_36 (by decide) ?_
        obtain ⟨m_error_37, m_errorAt_37, h9⟩ : ∃ m_error_37 m_errorAt_37, p10_check m_beginsAt m_error_1 m_errorAt_1 false (5 : Int32) = (m_error_37, m_errorAt_37) := ⟨_, _, rfl⟩
        have hf := uc2_e (lb_e h9.symm hf)
        refine gcV (index := 415) S hE (c_X10_check ad a_m_fam m_undoCount m_thrown m_hasSnapshot m_rows m_lineLength m_formattedLength m_bufferLength m_limit m_next m_beginsAt m_token m_error_1 m_errorAt_1 m_errorPosition m_nested m_codeCount false (5 : Int32) m_error_37 m_errorAt_37 h9) mX10_check tw1968 ⟨Nat.le_of_ble_eq_true rfl, Nat.le_of_ble_eq_true rfl⟩ hP hD hS hA ⟨Nat.zero_le _, Nat.zero_le _⟩ 1 10 rfl rfl rfl (wr := [((ad 24), .inl (cI, 800, .inl m_buffer)), (a_m_fam, .inl (cJ, 130, .inr (.inl m_fam)))]) [1] [0, 2] rfl rfl rfl rfl (by decide) (As := [.int (bI false), .int (5 : Int32)]) (rest := []) rfl hl.1 rfl (Nat.le_of_ble_eq_true rfl) dX10_readChild_37 (fun H locs hP hD hS => ?_)
        refine W.eq (g2 := F0 m 40 ls []) rfl ?_
        have hP : va_P (dC, dI) vwCl [((ad 24), .inl (cI, 800, .inl m_buffer)), (a_m_fam, .inl (cJ, 130, .inr (.inl m_fam))), (ad 0, .inr (10, oM ad m_undoCount m_thrown m_hasSnapshot a_m_fam m_rows m_lineLength m_formattedLength m_bufferLength m_limit m_next m_beginsAt m_token m_error_37 m_errorAt_37 m_errorPosition m_nested m_codeCount))] H := hP
        have hD : va_D A [((ad 24), .inl (cI, 800, .inl m_buffer)), (a_m_fam, .inl (cJ, 130, .inr (.inl m_fam))), (ad 0, .inr (10, oM ad m_undoCount m_thrown m_hasSnapshot a_m_fam m_rows m_lineLength m_formattedLength m_bufferLength m_limit m_next m_beginsAt m_token m_error_37 m_errorAt_37 m_errorPosition m_nested m_codeCount))] := hD
        exact J40 r1 m_error_37 m_errorAt_37 H locs ls hf (hP.sub [2, 0, 1] rfl) (hD.sub [2, 0, 1] (by decide) rfl) hS (lv_sub hl [1, 2, 0] rfl)
      · have hf := ctf (bI_0 h9) hf
        refine lv_iconst (v := 1) hx hb dX10_readChild_31 (by decide) ?_
        refine lv_goto (tgt := 36) hx hb dX10_readChild_32 (by decide) ?_
        refine lv_iconst (v := 5) hx hb dX10_readChild_36 (by decide) ?_
        obtain ⟨m_error_37, m_errorAt_37, h9⟩ : ∃ m_error_37 m_errorAt_37, p10_check m_beginsAt m_error_1 m_errorAt_1 true (5 : Int32) = (m_error_37, m_errorAt_37) := ⟨_, _, rfl⟩
        have hf := uc2_e (lb_e h9.symm hf)
        refine gcV (index := 415) S hE (c_X10_check ad a_m_fam m_undoCount m_thrown m_hasSnapshot m_rows m_lineLength m_formattedLength m_bufferLength m_limit m_next m_beginsAt m_token m_error_1 m_errorAt_1 m_errorPosition m_nested m_codeCount true (5 : Int32) m_error_37 m_errorAt_37 h9) mX10_check tw1968 ⟨Nat.le_of_ble_eq_true rfl, Nat.le_of_ble_eq_true rfl⟩ hP hD hS hA ⟨Nat.zero_le _, Nat.zero_le _⟩ 1 10 rfl rfl rfl (wr := [((ad 24), .inl (cI, 800, .inl m_buffer)), (a_m_fam, .inl (cJ, 130, .inr (.inl m_fam)))]) [1] [0, 2] rfl rfl rfl rfl (by decide) (As := [.int (bI true), .int (5 : Int32)]) (rest := []) rfl hl.1 rfl (Nat.le_of_ble_eq_true rfl) dX10_readChild_37 (fun H locs hP hD hS => ?_)
        refine W.eq (g2 := F0 m 40 ls []) rfl ?_
        have hP : va_P (dC, dI) vwCl [((ad 24), .inl (cI, 800, .inl m_buffer)), (a_m_fam, .inl (cJ, 130, .inr (.inl m_fam))), (ad 0, .inr (10, oM ad m_undoCount m_thrown m_hasSnapshot a_m_fam m_rows m_lineLength m_formattedLength m_bufferLength m_limit m_next m_beginsAt m_token m_error_37 m_errorAt_37 m_errorPosition m_nested m_codeCount))] H := hP
        have hD : va_D A [((ad 24), .inl (cI, 800, .inl m_buffer)), (a_m_fam, .inl (cJ, 130, .inr (.inl m_fam))), (ad 0, .inr (10, oM ad m_undoCount m_thrown m_hasSnapshot a_m_fam m_rows m_lineLength m_formattedLength m_bufferLength m_limit m_next m_beginsAt m_token m_error_37 m_errorAt_37 m_errorPosition m_nested m_codeCount))] := hD
        exact J40 r1 m_error_37 m_errorAt_37 H locs ls hf (hP.sub [2, 0, 1] rfl) (hD.sub [2, 0, 1] (by decide) rfl) hS (lv_sub hl [1, 2, 0] rfl)
set_option maxHeartbeats 4000000 in
set_option maxRecDepth 100000 in
theorem c_X10_readUnion (ad : Nat → Nat) (a_m_fam : Nat) (m_undoCount : Int32) (m_thrown : Int32) (m_hasSnapshot : Bool) (m_rows : Int32) (m_lineLength : Int32) (m_formattedLength : Int32) (m_bufferLength : Int32) (m_limit : Int32) (m_next : Int32) (m_beginsAt : Int32) (m_token : Int32) (m_error : Int32) (m_errorAt : Int32) (m_errorPosition : Int32) (m_nested : Int32) (m_codeCount : Int32) (m_buffer : Nat → Int32) (m_fam : Nat → Int64) (m_beginsAt_9 : Int32) (m_error_9 : Int32) (m_errorAt_9 : Int32) (m_fam_9 : Nat → Int64) (m_next_9 : Int32) (m_token_9 : Int32) (hf : p10_readUnion m_limit m_next m_beginsAt m_token m_error m_errorAt m_buffer m_fam = some (m_beginsAt_9, m_error_9, m_errorAt_9, m_fam_9, m_next_9, m_token_9)) : gM l dC dI cI cJ cZ yX10_readUnion cX10_readUnion 4 none (5) (115) [.ref (ad 0)] [(ad 0, .inr (10, oM ad m_undoCount m_thrown m_hasSnapshot a_m_fam m_rows m_lineLength m_formattedLength m_bufferLength m_limit m_next m_beginsAt m_token m_error m_errorAt m_errorPosition m_nested m_codeCount)), ((ad 24), .inl (cI, 800, .inl m_buffer)), (a_m_fam, .inl (cJ, 130, .inr (.inl m_fam)))] [(ad 0, .inr (10, oM ad m_undoCount m_thrown m_hasSnapshot a_m_fam m_rows m_lineLength m_formattedLength m_bufferLength m_limit m_next_9 m_beginsAt_9 m_token_9 m_error_9 m_errorAt_9 m_errorPosition m_nested m_codeCount)), ((ad 24), .inl (cI, 800, .inl m_buffer)), (a_m_fam, .inl (cJ, 130, .inr (.inl m_fam_9)))] none := by
  refine g_start (own := RX10) (by decide +kernel) rfl (Nat.le_of_ble_eq_true rfl) ?_
  intro p e s m below meth c A ls S hr hlocks hE hP hD hS hA hl hin
  have hx := S.1
  have hb := S.2.1
  have hml := S.2.2.1
  have hown := S.2.2.2.1
  have htg : ∀ z ∈ gw, z.before ([.ref (ad 0)] : List Value).toArray s = true := fun w h => S.2.2.2.2 w (List.mem_cons_of_mem _ h)
  have hl : lv_has ls 4 [(0, .ref (ad 0))] := hl
  have hS0 := hS
  obtain ⟨H, hH⟩ : ∃ H, H = s.heap := ⟨_, rfl⟩
  obtain ⟨locs, hlc⟩ : ∃ locs : List Loc, locs = [] := ⟨_, rfl⟩
  have hS : va_S A s.heap H locs := by rw [hH, hlc]; exact hS0
  have hP : va_P (dC, dI) vwCl [(ad 0, .inr (10, oM ad m_undoCount m_thrown m_hasSnapshot a_m_fam m_rows m_lineLength m_formattedLength m_bufferLength m_limit m_next m_beginsAt m_token m_error m_errorAt m_errorPosition m_nested m_codeCount)), ((ad 24), .inl (cI, 800, .inl m_buffer)), (a_m_fam, .inl (cJ, 130, .inr (.inl m_fam)))] H := by rw [hH]; exact hP
  suffices hgo : W p l e ({ frames := 5, cells := 0, slots := 0, locals := 115 }) s m ([.ref (ad 0)] : List Value).toArray below meth c H locs 0 0 (MQ below (gQ dC dI none A [(ad 0, .inr (10, oM ad m_undoCount m_thrown m_hasSnapshot a_m_fam m_rows m_lineLength m_formattedLength m_bufferLength m_limit m_next_9 m_beginsAt_9 m_token_9 m_error_9 m_errorAt_9 m_errorPosition m_nested m_codeCount)), ((ad 24), .inl (cI, 800, .inl m_buffer)), (a_m_fam, .inl (cJ, 130, .inr (.inl m_fam_9)))]) ([.ref (ad 0)] : List Value).toArray s 0 0 A) (F0 m 0 ls []) by rw [hH, hlc] at hgo; exact hgo
  rw [p10_readUnion] at hf
  have J125 : ∀ (m_next_125 : Int32) (m_beginsAt_125 : Int32) (m_token_125 : Int32) (m_error_125 : Int32) (m_errorAt_125 : Int32) (m_fam_125 : Nat → Int64) (H : Heap) (locs : List Loc) (ls : Array Slot), p10_readUnion_J125 m_next_125 m_beginsAt_125 m_token_125 m_error_125 m_errorAt_125 m_fam_125 = some (m_beginsAt_9, m_error_9, m_errorAt_9, m_fam_9, m_next_9, m_token_9) → va_P (dC, dI) vwCl [(ad 0, .inr (10, oM ad m_undoCount m_thrown m_hasSnapshot a_m_fam m_rows m_lineLength m_formattedLength m_bufferLength m_limit m_next_125 m_beginsAt_125 m_token_125 m_error_125 m_errorAt_125 m_errorPosition m_nested m_codeCount)), ((ad 24), .inl (cI, 800, .inl m_buffer)), (a_m_fam, .inl (cJ, 130, .inr (.inl m_fam_125)))] H → va_D A [(ad 0, .inr (10, oM ad m_undoCount m_thrown m_hasSnapshot a_m_fam m_rows m_lineLength m_formattedLength m_bufferLength m_limit m_next_125 m_beginsAt_125 m_token_125 m_error_125 m_errorAt_125 m_errorPosition m_nested m_codeCount)), ((ad 24), .inl (cI, 800, .inl m_buffer)), (a_m_fam, .inl (cJ, 130, .inr (.inl m_fam_125)))] → va_S A s.heap H locs → lv_has ls 4 [] → W p l e ({ frames := 5, cells := 0, slots := 0, locals := 115 }) s m ([.ref (ad 0)] : List Value).toArray below meth c H locs 0 0 (MQ below (gQ dC dI none A [(ad 0, .inr (10, oM ad m_undoCount m_thrown m_hasSnapshot a_m_fam m_rows m_lineLength m_formattedLength m_bufferLength m_limit m_next_9 m_beginsAt_9 m_token_9 m_error_9 m_errorAt_9 m_errorPosition m_nested m_codeCount)), ((ad 24), .inl (cI, 800, .inl m_buffer)), (a_m_fam, .inl (cJ, 130, .inr (.inl m_fam_9)))]) ([.ref (ad 0)] : List Value).toArray s 0 0 A) (F0 m 125 ls []) := by
    intro m_next_125 m_beginsAt_125 m_token_125 m_error_125 m_errorAt_125 m_fam_125 H locs ls hf hP hD hS hl
    rw [p10_readUnion_J125] at hf
    cases hf
    exact g_vret S hr hlocks hP hD hS dX10_readUnion_125
  have J69 : ∀ (v1_69 : Int32) (v2_69 : Int32) (m_next_69 : Int32) (m_beginsAt_69 : Int32) (m_token_69 : Int32) (m_error_69 : Int32) (m_errorAt_69 : Int32) (H : Heap) (locs : List Loc) (ls : Array Slot), p10_readUnion_J69 m_buffer m_fam m_limit v1_69 v2_69 m_next_69 m_beginsAt_69 m_token_69 m_error_69 m_errorAt_69 = some (m_beginsAt_9, m_error_9, m_errorAt_9, m_fam_9, m_next_9, m_token_9) → va_P (dC, dI) vwCl [(ad 0, .inr (10, oM ad m_undoCount m_thrown m_hasSnapshot a_m_fam m_rows m_lineLength m_formattedLength m_bufferLength m_limit m_next_69 m_beginsAt_69 m_token_69 m_error_69 m_errorAt_69 m_errorPosition m_nested m_codeCount)), ((ad 24), .inl (cI, 800, .inl m_buffer)), (a_m_fam, .inl (cJ, 130, .inr (.inl m_fam)))] H → va_D A [(ad 0, .inr (10, oM ad m_undoCount m_thrown m_hasSnapshot a_m_fam m_rows m_lineLength m_formattedLength m_bufferLength m_limit m_next_69 m_beginsAt_69 m_token_69 m_error_69 m_errorAt_69 m_errorPosition m_nested m_codeCount)), ((ad 24), .inl (cI, 800, .inl m_buffer)), (a_m_fam, .inl (cJ, 130, .inr (.inl m_fam)))] → va_S A s.heap H locs → lv_has ls 4 [(0, .ref (ad 0)), (1, .int v1_69), (2, .int v2_69)] → W p l e ({ frames := 5, cells := 0, slots := 0, locals := 115 }) s m ([.ref (ad 0)] : List Value).toArray below meth c H locs 0 0 (MQ below (gQ dC dI none A [(ad 0, .inr (10, oM ad m_undoCount m_thrown m_hasSnapshot a_m_fam m_rows m_lineLength m_formattedLength m_bufferLength m_limit m_next_9 m_beginsAt_9 m_token_9 m_error_9 m_errorAt_9 m_errorPosition m_nested m_codeCount)), ((ad 24), .inl (cI, 800, .inl m_buffer)), (a_m_fam, .inl (cJ, 130, .inr (.inl m_fam_9)))]) ([.ref (ad 0)] : List Value).toArray s 0 0 A) (F0 m 69 ls []) := by
    intro v1_69 v2_69 m_next_69 m_beginsAt_69 m_token_69 m_error_69 m_errorAt_69 H locs ls hf hP hD hS hl
    rw [p10_readUnion_J69] at hf
    refine lv_aload_n hx hb dX10_readUnion_69 rfl (lv_at hl 0 rfl) ?_
    obtain ⟨⟨m_beginsAt_70, m_next_70, m_token_70⟩, h9, hf⟩ := ob_s hf
    have hf := uc3_e hf
    refine gcV (index := 419) S hE (c_X10_advance ad a_m_fam m_undoCount m_thrown m_hasSnapshot m_rows m_lineLength m_formattedLength m_bufferLength m_limit m_next_69 m_beginsAt_69 m_token_69 m_error_69 m_errorAt_69 m_errorPosition m_nested m_codeCount m_buffer m_beginsAt_70 m_next_70 m_token_70 h9) mX10_advance tw1976 ⟨Nat.le_of_ble_eq_true rfl, Nat.le_of_ble_eq_true rfl⟩ hP hD hS hA ⟨Nat.zero_le _, Nat.zero_le _⟩ 0 10 rfl rfl rfl (wr := [(a_m_fam, .inl (cJ, 130, .inr (.inl m_fam)))]) [0, 1] [2] rfl rfl rfl rfl (by decide) (As := []) (rest := []) rfl hl.1 rfl (Nat.le_of_ble_eq_true rfl) dX10_readUnion_70 (fun H locs hP hD hS => ?_)
    refine W.eq (g2 := F0 m 73 ls []) rfl ?_
    have hP : va_P (dC, dI) vwCl [(a_m_fam, .inl (cJ, 130, .inr (.inl m_fam))), (ad 0, .inr (10, oM ad m_undoCount m_thrown m_hasSnapshot a_m_fam m_rows m_lineLength m_formattedLength m_bufferLength m_limit m_next_70 m_beginsAt_70 m_token_70 m_error_69 m_errorAt_69 m_errorPosition m_nested m_codeCount)), ((ad 24), .inl (cI, 800, .inl m_buffer))] H := hP
    have hD : va_D A [(a_m_fam, .inl (cJ, 130, .inr (.inl m_fam))), (ad 0, .inr (10, oM ad m_undoCount m_thrown m_hasSnapshot a_m_fam m_rows m_lineLength m_formattedLength m_bufferLength m_limit m_next_70 m_beginsAt_70 m_token_70 m_error_69 m_errorAt_69 m_errorPosition m_nested m_codeCount)), ((ad 24), .inl (cI, 800, .inl m_buffer))] := hD
    refine lv_aload_n hx hb dX10_readUnion_73 rfl (lv_at hl 0 rfl) ?_
    refine lv_iconst (v := 0) hx hb dX10_readUnion_74 (by decide) ?_
    refine lv_sipush (v := 2100) hx hb dX10_readUnion_75 (by decide) ?_
    obtain ⟨⟨r78, m_beginsAt_78, m_error_78, m_errorAt_78, m_next_78, m_token_78⟩, h9, hf⟩ := ob_s hf
    have hf := uc6_e hf
    refine gcV (index := 441) S hE (c_X10_readNumber ad a_m_fam m_undoCount m_thrown m_hasSnapshot m_rows m_lineLength m_formattedLength m_bufferLength m_limit m_next_70 m_beginsAt_70 m_token_70 m_error_69 m_errorAt_69 m_errorPosition m_nested m_codeCount m_buffer (0 : Int32) (2100 : Int32) r78 m_beginsAt_78 m_error_78 m_errorAt_78 m_next_78 m_token_78 h9) mX10_readNumber tw1989 ⟨Nat.le_of_ble_eq_true rfl, Nat.le_of_ble_eq_true rfl⟩ hP hD hS hA ⟨Nat.zero_le _, Nat.zero_le _⟩ 1 10 rfl rfl rfl (wr := [(a_m_fam, .inl (cJ, 130, .inr (.inl m_fam)))]) [1, 2] [0] rfl rfl rfl rfl (by decide) (As := [.int (0 : Int32), .int (2100 : Int32)]) (rest := []) rfl hl.1 rfl (Nat.le_of_ble_eq_true rfl) dX10_readUnion_78 (fun H locs hP hD hS => ?_)
    refine W.eq (g2 := F0 m 81 ls [.int r78]) rfl ?_
    have hP : va_P (dC, dI) vwCl [(a_m_fam, .inl (cJ, 130, .inr (.inl m_fam))), (ad 0, .inr (10, oM ad m_undoCount m_thrown m_hasSnapshot a_m_fam m_rows m_lineLength m_formattedLength m_bufferLength m_limit m_next_78 m_beginsAt_78 m_token_78 m_error_78 m_errorAt_78 m_errorPosition m_nested m_codeCount)), ((ad 24), .inl (cI, 800, .inl m_buffer))] H := hP
    have hD : va_D A [(a_m_fam, .inl (cJ, 130, .inr (.inl m_fam))), (ad 0, .inr (10, oM ad m_undoCount m_thrown m_hasSnapshot a_m_fam m_rows m_lineLength m_formattedLength m_bufferLength m_limit m_next_78 m_beginsAt_78 m_token_78 m_error_78 m_errorAt_78 m_errorPosition m_nested m_codeCount)), ((ad 24), .inl (cI, 800, .inl m_buffer))] := hD
    refine lv_istore_n (lv' := [(3, .int r78), (0, .ref (ad 0)), (1, .int v1_69), (2, .int v2_69)]) hx hb dX10_readUnion_81 rfl hl (by decide) rfl (fun ls hl => ?_)
    refine lv_aload_n hx hb dX10_readUnion_82 rfl (lv_at hl 1 rfl) ?_
    refine va_get (D := (dC, dI)) (ci := 10) (v := .int m_error_78) (C := RX10) (T := TX10) (N := 37) hx hb htg inX10 hown hE.1 hP 1 rfl rfl 29 (by decide) (htg _ tw1411) (fun _ h9 => h9) rfl dX10_readUnion_83 ?_
    refine lv_if_eq (tgt := 90) hx hb dX10_readUnion_86 (by decide) (fun h9 => ?_) (fun h9 => ?_)
    · have hf := itt h9 hf
      refine lv_aload_n hx hb dX10_readUnion_90 rfl (lv_at hl 1 rfl) ?_
      refine lv_iload_n hx hb dX10_readUnion_91 rfl (lv_at hl 2 rfl) ?_
      refine lv_iload_n hx hb dX10_readUnion_92 rfl (lv_at hl 3 rfl) ?_
      refine lv_iload_n hx hb dX10_readUnion_93 rfl (lv_at hl 0 rfl) ?_
      obtain ⟨m_fam_94, h9, hf⟩ := ob_s hf
      refine gcV (index := 330) S hE (c_X10_addUnion ad a_m_fam m_undoCount m_thrown m_hasSnapshot m_rows m_lineLength m_formattedLength m_bufferLength m_limit m_next_78 m_beginsAt_78 m_token_78 m_error_78 m_errorAt_78 m_errorPosition m_nested m_codeCount m_fam v1_69 v2_69 r78 m_fam_94 h9) mX10_addUnion tw1853 ⟨Nat.le_of_ble_eq_true rfl, Nat.le_of_ble_eq_true rfl⟩ hP hD hS hA ⟨Nat.zero_le _, Nat.zero_le _⟩ 1 10 rfl rfl rfl (wr := [((ad 24), .inl (cI, 800, .inl m_buffer))]) [1, 0] [2] rfl rfl rfl rfl (by decide) (As := [.int v1_69, .int v2_69, .int r78]) (rest := []) rfl hl.1 rfl (Nat.le_of_ble_eq_true rfl) dX10_readUnion_94 (fun H locs hP hD hS => ?_)
      refine W.eq (g2 := F0 m 97 ls []) rfl ?_
      have hP : va_P (dC, dI) vwCl [((ad 24), .inl (cI, 800, .inl m_buffer)), (ad 0, .inr (10, oM ad m_undoCount m_thrown m_hasSnapshot a_m_fam m_rows m_lineLength m_formattedLength m_bufferLength m_limit m_next_78 m_beginsAt_78 m_token_78 m_error_78 m_errorAt_78 m_errorPosition m_nested m_codeCount)), (a_m_fam, .inl (cJ, 130, .inr (.inl m_fam_94)))] H := hP
      have hD : va_D A [((ad 24), .inl (cI, 800, .inl m_buffer)), (ad 0, .inr (10, oM ad m_undoCount m_thrown m_hasSnapshot a_m_fam m_rows m_lineLength m_formattedLength m_bufferLength m_limit m_next_78 m_beginsAt_78 m_token_78 m_error_78 m_errorAt_78 m_errorPosition m_nested m_codeCount)), (a_m_fam, .inl (cJ, 130, .inr (.inl m_fam_94)))] := hD
      have K97 : ∀ (n97 : Nat) (m_beginsAt_97 : Int32) (m_error_97 : Int32) (m_errorAt_97 : Int32) (m_fam_97 : Nat → Int64) (m_next_97 : Int32) (m_token_97 : Int32) (ex97 : Int32 × Int32 × Int32 × (Nat → Int64) × Int32 × Int32) (H : Heap) (locs : List Loc) (ls : Array Slot), p10_readUnion_L97 m_buffer m_limit n97 m_beginsAt_97 m_error_97 m_errorAt_97 m_fam_97 m_next_97 m_token_97 = some ex97 → (uc6 fun m_beginsAt_x97 m_error_x97 m_errorAt_x97 m_fam_x97 m_next_x97 m_token_x97 => p10_readUnion_J125 m_next_x97 m_beginsAt_x97 m_token_x97 m_error_x97 m_errorAt_x97 m_fam_x97) ex97 = some (m_beginsAt_9, m_error_9, m_errorAt_9, m_fam_9, m_next_9, m_token_9) → va_P (dC, dI) vwCl [(ad 0, .inr (10, oM ad m_undoCount m_thrown m_hasSnapshot a_m_fam m_rows m_lineLength m_formattedLength m_bufferLength m_limit m_next_97 m_beginsAt_97 m_token_97 m_error_97 m_errorAt_97 m_errorPosition m_nested m_codeCount)), ((ad 24), .inl (cI, 800, .inl m_buffer)), (a_m_fam, .inl (cJ, 130, .inr (.inl m_fam_97)))] H → va_D A [(ad 0, .inr (10, oM ad m_undoCount m_thrown m_hasSnapshot a_m_fam m_rows m_lineLength m_formattedLength m_bufferLength m_limit m_next_97 m_beginsAt_97 m_token_97 m_error_97 m_errorAt_97 m_errorPosition m_nested m_codeCount)), ((ad 24), .inl (cI, 800, .inl m_buffer)), (a_m_fam, .inl (cJ, 130, .inr (.inl m_fam_97)))] → va_S A s.heap H locs → lv_has ls 4 [(0, .ref (ad 0))] → W p l e ({ frames := 5, cells := 0, slots := 0, locals := 115 }) s m ([.ref (ad 0)] : List Value).toArray below meth c H locs 0 0 (MQ below (gQ dC dI none A [(ad 0, .inr (10, oM ad m_undoCount m_thrown m_hasSnapshot a_m_fam m_rows m_lineLength m_formattedLength m_bufferLength m_limit m_next_9 m_beginsAt_9 m_token_9 m_error_9 m_errorAt_9 m_errorPosition m_nested m_codeCount)), ((ad 24), .inl (cI, 800, .inl m_buffer)), (a_m_fam, .inl (cJ, 130, .inr (.inl m_fam_9)))]) ([.ref (ad 0)] : List Value).toArray s 0 0 A) (F0 m 97 ls []) := by
        intro n97
        induction n97 with
        | zero => intro m_beginsAt_97 m_error_97 m_errorAt_97 m_fam_97 m_next_97 m_token_97 ex97 H locs ls hf; rw [p10_readUnion_L97] at hf; cases hf
        | succ n97 ih97 =>
          intro m_beginsAt_97 m_error_97 m_errorAt_97 m_fam_97 m_next_97 m_token_97 ex97 H locs ls hf hk97 hP hD hS hl
          rw [p10_readUnion_L97, p10_readUnion_L97_B] at hf
          refine lv_aload_n hx hb dX10_readUnion_97 rfl (lv_at hl 0 rfl) ?_
          refine va_get (D := (dC, dI)) (ci := 10) (v := .int m_error_97) (C := RX10) (T := TX10) (N := 37) hx hb htg inX10 hown hE.1 hP 0 rfl rfl 29 (by decide) (htg _ tw1411) (fun _ h9 => h9) rfl dX10_readUnion_98 ?_
          refine lv_if_ne (tgt := 125) hx hb dX10_readUnion_101 (by decide) (fun h9 => ?_) (fun h9 => ?_)
          · have hf := itf h9 hf
            cases hf
            have hf := hk97
            have hf := uc6_e hf
            exact J125 m_next_97 m_beginsAt_97 m_token_97 m_error_97 m_errorAt_97 m_fam_97 H locs ls hf hP hD hS (lv_sub hl [] rfl)
          · have hf := itt h9 hf
            refine lv_aload_n hx hb dX10_readUnion_104 rfl (lv_at hl 0 rfl) ?_
            refine va_get (D := (dC, dI)) (ci := 10) (v := .int m_token_97) (C := RX10) (T := TX10) (N := 37) hx hb htg inX10 hown hE.1 hP 0 rfl rfl 28 (by decide) (htg _ tw1410) (fun _ h9 => h9) rfl dX10_readUnion_105 ?_
            refine lv_iconst (v := 1) hx hb dX10_readUnion_108 (by decide) ?_
            refine lv_icmp_ne (tgt := 125) hx hb dX10_readUnion_109 (by decide) (fun h9 => ?_) (fun h9 => ?_)
            · have hf := itf h9 hf
              cases hf
              have hf := hk97
              have hf := uc6_e hf
              exact J125 m_next_97 m_beginsAt_97 m_token_97 m_error_97 m_errorAt_97 m_fam_97 H locs ls hf hP hD hS (lv_sub hl [] rfl)
            · have hf := itt h9 hf
              refine lv_aload_n hx hb dX10_readUnion_112 rfl (lv_at hl 0 rfl) ?_
              refine lv_aload_n hx hb dX10_readUnion_113 rfl (lv_at hl 0 rfl) ?_
              obtain ⟨r114, h9, hf⟩ := ob_s hf
              refine gcV (index := 110) S hE (c_X10_unions ad a_m_fam m_undoCount m_thrown m_hasSnapshot m_rows m_lineLength m_formattedLength m_bufferLength m_limit m_next_97 m_beginsAt_97 m_token_97 m_error_97 m_errorAt_97 m_errorPosition m_nested m_codeCount m_fam_97 r114 h9) mX10_unions tw1532 ⟨Nat.le_of_ble_eq_true rfl, Nat.le_of_ble_eq_true rfl⟩ hP hD hS hA ⟨Nat.zero_le _, Nat.zero_le _⟩ 0 10 rfl rfl rfl (wr := [((ad 24), .inl (cI, 800, .inl m_buffer))]) [0, 2] [1] rfl rfl rfl rfl (by decide) (As := []) (rest := [.ref (ad 0)]) rfl hl.1 rfl (Nat.le_of_ble_eq_true rfl) dX10_readUnion_114 (fun H locs hP hD hS => ?_)
              refine W.eq (g2 := F0 m 117 ls [.int r114, .ref (ad 0)]) rfl ?_
              have hP : va_P (dC, dI) vwCl [((ad 24), .inl (cI, 800, .inl m_buffer)), (ad 0, .inr (10, oM ad m_undoCount m_thrown m_hasSnapshot a_m_fam m_rows m_lineLength m_formattedLength m_bufferLength m_limit m_next_97 m_beginsAt_97 m_token_97 m_error_97 m_errorAt_97 m_errorPosition m_nested m_codeCount)), (a_m_fam, .inl (cJ, 130, .inr (.inl m_fam_97)))] H := hP
              have hD : va_D A [((ad 24), .inl (cI, 800, .inl m_buffer)), (ad 0, .inr (10, oM ad m_undoCount m_thrown m_hasSnapshot a_m_fam m_rows m_lineLength m_formattedLength m_bufferLength m_limit m_next_97 m_beginsAt_97 m_token_97 m_error_97 m_errorAt_97 m_errorPosition m_nested m_codeCount)), (a_m_fam, .inl (cJ, 130, .inr (.inl m_fam_97)))] := hD
              refine lv_iconst (v := 1) hx hb dX10_readUnion_117 (by decide) ?_
              refine lv_isub hx hb dX10_readUnion_118 ?_
              obtain ⟨⟨m_beginsAt_119, m_error_119, m_errorAt_119, m_fam_119, m_next_119, m_token_119⟩, h9, hf⟩ := ob_s hf
              have hf := uc6_e hf
              refine gcV (index := 447) S hE (c_X10_readChild ad a_m_fam m_undoCount m_thrown m_hasSnapshot m_rows m_lineLength m_formattedLength m_bufferLength m_limit m_next_97 m_beginsAt_97 m_token_97 m_error_97 m_errorAt_97 m_errorPosition m_nested m_codeCount m_buffer m_fam_97 (r114 - (1 : Int32)) m_beginsAt_119 m_error_119 m_errorAt_119 m_fam_119 m_next_119 m_token_119 h9) mX10_readChild tw2008 ⟨Nat.le_of_ble_eq_true rfl, Nat.le_of_ble_eq_true rfl⟩ hP hD hS hA ⟨Nat.zero_le _, Nat.zero_le _⟩ 1 10 rfl rfl rfl (wr := []) [1, 0, 2] [] rfl rfl rfl rfl (by decide) (As := [.int (r114 - (1 : Int32))]) (rest := []) rfl hl.1 rfl (Nat.le_of_ble_eq_true rfl) dX10_readUnion_119 (fun H locs hP hD hS => ?_)
              refine W.eq (g2 := F0 m 122 ls []) rfl ?_
              have hP : va_P (dC, dI) vwCl [(ad 0, .inr (10, oM ad m_undoCount m_thrown m_hasSnapshot a_m_fam m_rows m_lineLength m_formattedLength m_bufferLength m_limit m_next_119 m_beginsAt_119 m_token_119 m_error_119 m_errorAt_119 m_errorPosition m_nested m_codeCount)), ((ad 24), .inl (cI, 800, .inl m_buffer)), (a_m_fam, .inl (cJ, 130, .inr (.inl m_fam_119)))] H := hP
              have hD : va_D A [(ad 0, .inr (10, oM ad m_undoCount m_thrown m_hasSnapshot a_m_fam m_rows m_lineLength m_formattedLength m_bufferLength m_limit m_next_119 m_beginsAt_119 m_token_119 m_error_119 m_errorAt_119 m_errorPosition m_nested m_codeCount)), ((ad 24), .inl (cI, 800, .inl m_buffer)), (a_m_fam, .inl (cJ, 130, .inr (.inl m_fam_119)))] := hD
              refine lv_goto (tgt := 97) hx hb dX10_readUnion_122 (by decide) ?_
              exact ih97 m_beginsAt_119 m_error_119 m_errorAt_119 m_fam_119 m_next_119 m_token_119 ex97 H locs ls hf hk97 hP hD hS (lv_sub hl [0] rfl)
      obtain ⟨ex, h9, hf⟩ := ob_s hf
      exact K97 FU m_beginsAt_78 m_error_78 m_errorAt_78 m_fam_94 m_next_78 m_token_78 ex H locs ls h9 hf (hP.sub [1, 0, 2] rfl) (hD.sub [1, 0, 2] (by decide) rfl) hS (lv_sub hl [1] rfl)
    · have hf := itf h9 hf
      cases hf
      exact g_vret S hr hlocks (hP.sub [1, 2, 0] rfl) (hD.sub [1, 2, 0] (by decide) rfl) hS dX10_readUnion_89
  have J19 : ∀ (m_error_19 : Int32) (m_errorAt_19 : Int32) (H : Heap) (locs : List Loc) (ls : Array Slot), p10_readUnion_J19 m_beginsAt m_buffer m_fam m_limit m_next m_token m_error_19 m_errorAt_19 = some (m_beginsAt_9, m_error_9, m_errorAt_9, m_fam_9, m_next_9, m_token_9) → va_P (dC, dI) vwCl [(ad 0, .inr (10, oM ad m_undoCount m_thrown m_hasSnapshot a_m_fam m_rows m_lineLength m_formattedLength m_bufferLength m_limit m_next m_beginsAt m_token m_error_19 m_errorAt_19 m_errorPosition m_nested m_codeCount)), ((ad 24), .inl (cI, 800, .inl m_buffer)), (a_m_fam, .inl (cJ, 130, .inr (.inl m_fam)))] H → va_D A [(ad 0, .inr (10, oM ad m_undoCount m_thrown m_hasSnapshot a_m_fam m_rows m_lineLength m_formattedLength m_bufferLength m_limit m_next m_beginsAt m_token m_error_19 m_errorAt_19 m_errorPosition m_nested m_codeCount)), ((ad 24), .inl (cI, 800, .inl m_buffer)), (a_m_fam, .inl (cJ, 130, .inr (.inl m_fam)))] → va_S A s.heap H locs → lv_has ls 4 [(0, .ref (ad 0))] → W p l e ({ frames := 5, cells := 0, slots := 0, locals := 115 }) s m ([.ref (ad 0)] : List Value).toArray below meth c H locs 0 0 (MQ below (gQ dC dI none A [(ad 0, .inr (10, oM ad m_undoCount m_thrown m_hasSnapshot a_m_fam m_rows m_lineLength m_formattedLength m_bufferLength m_limit m_next_9 m_beginsAt_9 m_token_9 m_error_9 m_errorAt_9 m_errorPosition m_nested m_codeCount)), ((ad 24), .inl (cI, 800, .inl m_buffer)), (a_m_fam, .inl (cJ, 130, .inr (.inl m_fam_9)))]) ([.ref (ad 0)] : List Value).toArray s 0 0 A) (F0 m 19 ls []) := by
    intro m_error_19 m_errorAt_19 H locs ls hf hP hD hS hl
    rw [p10_readUnion_J19] at hf
    refine lv_aload_n hx hb dX10_readUnion_19 rfl (lv_at hl 0 rfl) ?_
    obtain ⟨⟨m_beginsAt_20, m_next_20, m_token_20⟩, h9, hf⟩ := ob_s hf
    have hf := uc3_e hf
    refine gcV (index := 419) S hE (c_X10_advance ad a_m_fam m_undoCount m_thrown m_hasSnapshot m_rows m_lineLength m_formattedLength m_bufferLength m_limit m_next m_beginsAt m_token m_error_19 m_errorAt_19 m_errorPosition m_nested m_codeCount m_buffer m_beginsAt_20 m_next_20 m_token_20 h9) mX10_advance tw1976 ⟨Nat.le_of_ble_eq_true rfl, Nat.le_of_ble_eq_true rfl⟩ hP hD hS hA ⟨Nat.zero_le _, Nat.zero_le _⟩ 0 10 rfl rfl rfl (wr := [(a_m_fam, .inl (cJ, 130, .inr (.inl m_fam)))]) [0, 1] [2] rfl rfl rfl rfl (by decide) (As := []) (rest := []) rfl hl.1 rfl (Nat.le_of_ble_eq_true rfl) dX10_readUnion_20 (fun H locs hP hD hS => ?_)
    refine W.eq (g2 := F0 m 23 ls []) rfl ?_
    have hP : va_P (dC, dI) vwCl [(a_m_fam, .inl (cJ, 130, .inr (.inl m_fam))), (ad 0, .inr (10, oM ad m_undoCount m_thrown m_hasSnapshot a_m_fam m_rows m_lineLength m_formattedLength m_bufferLength m_limit m_next_20 m_beginsAt_20 m_token_20 m_error_19 m_errorAt_19 m_errorPosition m_nested m_codeCount)), ((ad 24), .inl (cI, 800, .inl m_buffer))] H := hP
    have hD : va_D A [(a_m_fam, .inl (cJ, 130, .inr (.inl m_fam))), (ad 0, .inr (10, oM ad m_undoCount m_thrown m_hasSnapshot a_m_fam m_rows m_lineLength m_formattedLength m_bufferLength m_limit m_next_20 m_beginsAt_20 m_token_20 m_error_19 m_errorAt_19 m_errorPosition m_nested m_codeCount)), ((ad 24), .inl (cI, 800, .inl m_buffer))] := hD
    refine lv_aload_n hx hb dX10_readUnion_23 rfl (lv_at hl 0 rfl) ?_
    obtain ⟨⟨r24, m_error_24, m_errorAt_24⟩, h9, hf⟩ := ob_s hf
    have hf := uc3_e hf
    refine gcV (index := 444) S hE (c_X10_readName ad a_m_fam m_undoCount m_thrown m_hasSnapshot m_rows m_lineLength m_formattedLength m_bufferLength m_limit m_next_20 m_beginsAt_20 m_token_20 m_error_19 m_errorAt_19 m_errorPosition m_nested m_codeCount m_buffer m_fam r24 m_error_24 m_errorAt_24 h9) mX10_readName tw2004 ⟨Nat.le_of_ble_eq_true rfl, Nat.le_of_ble_eq_true rfl⟩ hP hD hS hA ⟨Nat.zero_le _, Nat.zero_le _⟩ 1 10 rfl rfl rfl (wr := []) [1, 2, 0] [] rfl rfl rfl rfl (by decide) (As := []) (rest := []) rfl hl.1 rfl (Nat.le_of_ble_eq_true rfl) dX10_readUnion_24 (fun H locs hP hD hS => ?_)
    refine W.eq (g2 := F0 m 27 ls [.int r24]) rfl ?_
    have hP : va_P (dC, dI) vwCl [(ad 0, .inr (10, oM ad m_undoCount m_thrown m_hasSnapshot a_m_fam m_rows m_lineLength m_formattedLength m_bufferLength m_limit m_next_20 m_beginsAt_20 m_token_20 m_error_24 m_errorAt_24 m_errorPosition m_nested m_codeCount)), ((ad 24), .inl (cI, 800, .inl m_buffer)), (a_m_fam, .inl (cJ, 130, .inr (.inl m_fam)))] H := hP
    have hD : va_D A [(ad 0, .inr (10, oM ad m_undoCount m_thrown m_hasSnapshot a_m_fam m_rows m_lineLength m_formattedLength m_bufferLength m_limit m_next_20 m_beginsAt_20 m_token_20 m_error_24 m_errorAt_24 m_errorPosition m_nested m_codeCount)), ((ad 24), .inl (cI, 800, .inl m_buffer)), (a_m_fam, .inl (cJ, 130, .inr (.inl m_fam)))] := hD
    refine lv_istore_n (lv' := [(1, .int r24), (0, .ref (ad 0))]) hx hb dX10_readUnion_27 rfl hl (by decide) rfl (fun ls hl => ?_)
    refine lv_aload_n hx hb dX10_readUnion_28 rfl (lv_at hl 1 rfl) ?_
    obtain ⟨⟨m_beginsAt_29, m_next_29, m_token_29⟩, h9, hf⟩ := ob_s hf
    have hf := uc3_e hf
    refine gcV (index := 419) S hE (c_X10_advance ad a_m_fam m_undoCount m_thrown m_hasSnapshot m_rows m_lineLength m_formattedLength m_bufferLength m_limit m_next_20 m_beginsAt_20 m_token_20 m_error_24 m_errorAt_24 m_errorPosition m_nested m_codeCount m_buffer m_beginsAt_29 m_next_29 m_token_29 h9) mX10_advance tw1976 ⟨Nat.le_of_ble_eq_true rfl, Nat.le_of_ble_eq_true rfl⟩ hP hD hS hA ⟨Nat.zero_le _, Nat.zero_le _⟩ 0 10 rfl rfl rfl (wr := [(a_m_fam, .inl (cJ, 130, .inr (.inl m_fam)))]) [0, 1] [2] rfl rfl rfl rfl (by decide) (As := []) (rest := []) rfl hl.1 rfl (Nat.le_of_ble_eq_true rfl) dX10_readUnion_29 (fun H locs hP hD hS => ?_)
    refine W.eq (g2 := F0 m 32 ls []) rfl ?_
    have hP : va_P (dC, dI) vwCl [(a_m_fam, .inl (cJ, 130, .inr (.inl m_fam))), (ad 0, .inr (10, oM ad m_undoCount m_thrown m_hasSnapshot a_m_fam m_rows m_lineLength m_formattedLength m_bufferLength m_limit m_next_29 m_beginsAt_29 m_token_29 m_error_24 m_errorAt_24 m_errorPosition m_nested m_codeCount)), ((ad 24), .inl (cI, 800, .inl m_buffer))] H := hP
    have hD : va_D A [(a_m_fam, .inl (cJ, 130, .inr (.inl m_fam))), (ad 0, .inr (10, oM ad m_undoCount m_thrown m_hasSnapshot a_m_fam m_rows m_lineLength m_formattedLength m_bufferLength m_limit m_next_29 m_beginsAt_29 m_token_29 m_error_24 m_errorAt_24 m_errorPosition m_nested m_codeCount)), ((ad 24), .inl (cI, 800, .inl m_buffer))] := hD
    refine lv_aload_n hx hb dX10_readUnion_32 rfl (lv_at hl 1 rfl) ?_
    obtain ⟨⟨r33, m_error_33, m_errorAt_33⟩, h9, hf⟩ := ob_s hf
    have hf := uc3_e hf
    refine gcV (index := 444) S hE (c_X10_readName ad a_m_fam m_undoCount m_thrown m_hasSnapshot m_rows m_lineLength m_formattedLength m_bufferLength m_limit m_next_29 m_beginsAt_29 m_token_29 m_error_24 m_errorAt_24 m_errorPosition m_nested m_codeCount m_buffer m_fam r33 m_error_33 m_errorAt_33 h9) mX10_readName tw2004 ⟨Nat.le_of_ble_eq_true rfl, Nat.le_of_ble_eq_true rfl⟩ hP hD hS hA ⟨Nat.zero_le _, Nat.zero_le _⟩ 1 10 rfl rfl rfl (wr := []) [1, 2, 0] [] rfl rfl rfl rfl (by decide) (As := []) (rest := []) rfl hl.1 rfl (Nat.le_of_ble_eq_true rfl) dX10_readUnion_33 (fun H locs hP hD hS => ?_)
    refine W.eq (g2 := F0 m 36 ls [.int r33]) rfl ?_
    have hP : va_P (dC, dI) vwCl [(ad 0, .inr (10, oM ad m_undoCount m_thrown m_hasSnapshot a_m_fam m_rows m_lineLength m_formattedLength m_bufferLength m_limit m_next_29 m_beginsAt_29 m_token_29 m_error_33 m_errorAt_33 m_errorPosition m_nested m_codeCount)), ((ad 24), .inl (cI, 800, .inl m_buffer)), (a_m_fam, .inl (cJ, 130, .inr (.inl m_fam)))] H := hP
    have hD : va_D A [(ad 0, .inr (10, oM ad m_undoCount m_thrown m_hasSnapshot a_m_fam m_rows m_lineLength m_formattedLength m_bufferLength m_limit m_next_29 m_beginsAt_29 m_token_29 m_error_33 m_errorAt_33 m_errorPosition m_nested m_codeCount)), ((ad 24), .inl (cI, 800, .inl m_buffer)), (a_m_fam, .inl (cJ, 130, .inr (.inl m_fam)))] := hD
    refine lv_istore_n (lv' := [(2, .int r33), (1, .int r24), (0, .ref (ad 0))]) hx hb dX10_readUnion_36 rfl hl (by decide) rfl (fun ls hl => ?_)
    refine lv_aload_n hx hb dX10_readUnion_37 rfl (lv_at hl 2 rfl) ?_
    refine lv_aload_n hx hb dX10_readUnion_38 rfl (lv_at hl 2 rfl) ?_
    refine va_get (D := (dC, dI)) (ci := 10) (v := .int m_error_33) (C := RX10) (T := TX10) (N := 37) hx hb htg inX10 hown hE.1 hP 0 rfl rfl 29 (by decide) (htg _ tw1411) (fun _ h9 => h9) rfl dX10_readUnion_39 ?_
    refine lv_if_ne (tgt := 60) hx hb dX10_readUnion_42 (by decide) (fun h9 => ?_) (fun h9 => ?_)
    · have hf := itf h9 hf
      refine lv_iconst (v := 1) hx hb dX10_readUnion_60 (by decide) ?_
      refine lv_goto (tgt := 65) hx hb dX10_readUnion_61 (by decide) ?_
      refine lv_iconst (v := 5) hx hb dX10_readUnion_65 (by decide) ?_
      obtain ⟨m_error_66, m_errorAt_66, h9⟩ : ∃ m_error_66 m_errorAt_66, p10_check m_beginsAt_29 m_error_33 m_errorAt_33 true (5 : Int32) = (m_error_66, m_errorAt_66) := ⟨_, _, rfl⟩
      have hf := uc2_e (lb_e h9.symm hf)
      refine gcV (index := 415) S hE (c_X10_check ad a_m_fam m_undoCount m_thrown m_hasSnapshot m_rows m_lineLength m_formattedLength m_bufferLength m_limit m_next_29 m_beginsAt_29 m_token_29 m_error_33 m_errorAt_33 m_errorPosition m_nested m_codeCount true (5 : Int32) m_error_66 m_errorAt_66 h9) mX10_check tw1968 ⟨Nat.le_of_ble_eq_true rfl, Nat.le_of_ble_eq_true rfl⟩ hP hD hS hA ⟨Nat.zero_le _, Nat.zero_le _⟩ 0 10 rfl rfl rfl (wr := [((ad 24), .inl (cI, 800, .inl m_buffer)), (a_m_fam, .inl (cJ, 130, .inr (.inl m_fam)))]) [0] [1, 2] rfl rfl rfl rfl (by decide) (As := [.int (bI true), .int (5 : Int32)]) (rest := []) rfl hl.1 rfl (Nat.le_of_ble_eq_true rfl) dX10_readUnion_66 (fun H locs hP hD hS => ?_)
      refine W.eq (g2 := F0 m 69 ls []) rfl ?_
      have hP : va_P (dC, dI) vwCl [((ad 24), .inl (cI, 800, .inl m_buffer)), (a_m_fam, .inl (cJ, 130, .inr (.inl m_fam))), (ad 0, .inr (10, oM ad m_undoCount m_thrown m_hasSnapshot a_m_fam m_rows m_lineLength m_formattedLength m_bufferLength m_limit m_next_29 m_beginsAt_29 m_token_29 m_error_66 m_errorAt_66 m_errorPosition m_nested m_codeCount))] H := hP
      have hD : va_D A [((ad 24), .inl (cI, 800, .inl m_buffer)), (a_m_fam, .inl (cJ, 130, .inr (.inl m_fam))), (ad 0, .inr (10, oM ad m_undoCount m_thrown m_hasSnapshot a_m_fam m_rows m_lineLength m_formattedLength m_bufferLength m_limit m_next_29 m_beginsAt_29 m_token_29 m_error_66 m_errorAt_66 m_errorPosition m_nested m_codeCount))] := hD
      exact J69 r24 r33 m_next_29 m_beginsAt_29 m_token_29 m_error_66 m_errorAt_66 H locs ls hf (hP.sub [2, 0, 1] rfl) (hD.sub [2, 0, 1] (by decide) rfl) hS (lv_sub hl [2, 1, 0] rfl)
    · have hf := itt h9 hf
      refine lv_iload_n hx hb dX10_readUnion_45 rfl (lv_at hl 1 rfl) ?_
      refine lv_iload_n hx hb dX10_readUnion_46 rfl (lv_at hl 0 rfl) ?_
      refine lv_icmp_eq (tgt := 64) hx hb dX10_readUnion_47 (by decide) (fun h9 => ?_) (fun h9 => ?_)
      · have hf := itt h9 hf
        refine lv_iconst (v := 0) hx hb dX10_readUnion_64 (by decide) ?_
        refine lv_iconst (v := 5) hx hb dX10_readUnion_65 (by decide) ?_
        obtain ⟨m_error_66, m_errorAt_66, h9⟩ : ∃ m_error_66 m_errorAt_66, p10_check m_beginsAt_29 m_error_33 m_errorAt_33 false (5 : Int32) = (m_error_66, m_errorAt_66) := ⟨_, _, rfl⟩
        have hf := uc2_e (lb_e h9.symm hf)
        refine gcV (index := 415) S hE (c_X10_check ad a_m_fam m_undoCount m_thrown m_hasSnapshot m_rows m_lineLength m_formattedLength m_bufferLength m_limit m_next_29 m_beginsAt_29 m_token_29 m_error_33 m_errorAt_33 m_errorPosition m_nested m_codeCount false (5 : Int32) m_error_66 m_errorAt_66 h9) mX10_check tw1968 ⟨Nat.le_of_ble_eq_true rfl, Nat.le_of_ble_eq_true rfl⟩ hP hD hS hA ⟨Nat.zero_le _, Nat.zero_le _⟩ 0 10 rfl rfl rfl (wr := [((ad 24), .inl (cI, 800, .inl m_buffer)), (a_m_fam, .inl (cJ, 130, .inr (.inl m_fam)))]) [0] [1, 2] rfl rfl rfl rfl (by decide) (As := [.int (bI false), .int (5 : Int32)]) (rest := []) rfl hl.1 rfl (Nat.le_of_ble_eq_true rfl) dX10_readUnion_66 (fun H locs hP hD hS => ?_)
        refine W.eq (g2 := F0 m 69 ls []) rfl ?_
        have hP : va_P (dC, dI) vwCl [((ad 24), .inl (cI, 800, .inl m_buffer)), (a_m_fam, .inl (cJ, 130, .inr (.inl m_fam))), (ad 0, .inr (10, oM ad m_undoCount m_thrown m_hasSnapshot a_m_fam m_rows m_lineLength m_formattedLength m_bufferLength m_limit m_next_29 m_beginsAt_29 m_token_29 m_error_66 m_errorAt_66 m_errorPosition m_nested m_codeCount))] H := hP
        have hD : va_D A [((ad 24), .inl (cI, 800, .inl m_buffer)), (a_m_fam, .inl (cJ, 130, .inr (.inl m_fam))), (ad 0, .inr (10, oM ad m_undoCount m_thrown m_hasSnapshot a_m_fam m_rows m_lineLength m_formattedLength m_bufferLength m_limit m_next_29 m_beginsAt_29 m_token_29 m_error_66 m_errorAt_66 m_errorPosition m_nested m_codeCount))] := hD
        exact J69 r24 r33 m_next_29 m_beginsAt_29 m_token_29 m_error_66 m_errorAt_66 H locs ls hf (hP.sub [2, 0, 1] rfl) (hD.sub [2, 0, 1] (by decide) rfl) hS (lv_sub hl [2, 1, 0] rfl)
      · have hf := itf h9 hf
        refine lv_aload_n hx hb dX10_readUnion_50 rfl (lv_at hl 2 rfl) ?_
        refine lv_iload_n hx hb dX10_readUnion_51 rfl (lv_at hl 1 rfl) ?_
        refine lv_iload_n hx hb dX10_readUnion_52 rfl (lv_at hl 0 rfl) ?_
        obtain ⟨r53, h9, hf⟩ := ob_s hf
        refine gcV (index := 324) S hE (c_X10_unionOf ad a_m_fam m_undoCount m_thrown m_hasSnapshot m_rows m_lineLength m_formattedLength m_bufferLength m_limit m_next_29 m_beginsAt_29 m_token_29 m_error_33 m_errorAt_33 m_errorPosition m_nested m_codeCount m_fam r24 r33 r53 h9) mX10_unionOf tw1842 ⟨Nat.le_of_ble_eq_true rfl, Nat.le_of_ble_eq_true rfl⟩ hP hD hS hA ⟨Nat.zero_le _, Nat.zero_le _⟩ 0 10 rfl rfl rfl (wr := [((ad 24), .inl (cI, 800, .inl m_buffer))]) [0, 2] [1] rfl rfl rfl rfl (by decide) (As := [.int r24, .int r33]) (rest := [.ref (ad 0)]) rfl hl.1 rfl (Nat.le_of_ble_eq_true rfl) dX10_readUnion_53 (fun H locs hP hD hS => ?_)
        refine W.eq (g2 := F0 m 56 ls [.int r53, .ref (ad 0)]) rfl ?_
        have hP : va_P (dC, dI) vwCl [((ad 24), .inl (cI, 800, .inl m_buffer)), (ad 0, .inr (10, oM ad m_undoCount m_thrown m_hasSnapshot a_m_fam m_rows m_lineLength m_formattedLength m_bufferLength m_limit m_next_29 m_beginsAt_29 m_token_29 m_error_33 m_errorAt_33 m_errorPosition m_nested m_codeCount)), (a_m_fam, .inl (cJ, 130, .inr (.inl m_fam)))] H := hP
        have hD : va_D A [((ad 24), .inl (cI, 800, .inl m_buffer)), (ad 0, .inr (10, oM ad m_undoCount m_thrown m_hasSnapshot a_m_fam m_rows m_lineLength m_formattedLength m_bufferLength m_limit m_next_29 m_beginsAt_29 m_token_29 m_error_33 m_errorAt_33 m_errorPosition m_nested m_codeCount)), (a_m_fam, .inl (cJ, 130, .inr (.inl m_fam)))] := hD
        refine lv_iconst (v := -1) hx hb dX10_readUnion_56 (by decide) ?_
        refine lv_icmp_ne (tgt := 64) hx hb dX10_readUnion_57 (by decide) (fun h9 => ?_) (fun h9 => ?_)
        · have hf := itf h9 hf
          refine lv_iconst (v := 0) hx hb dX10_readUnion_64 (by decide) ?_
          refine lv_iconst (v := 5) hx hb dX10_readUnion_65 (by decide) ?_
          obtain ⟨m_error_66, m_errorAt_66, h9⟩ : ∃ m_error_66 m_errorAt_66, p10_check m_beginsAt_29 m_error_33 m_errorAt_33 false (5 : Int32) = (m_error_66, m_errorAt_66) := ⟨_, _, rfl⟩
          have hf := uc2_e (lb_e h9.symm hf)
          refine gcV (index := 415) S hE (c_X10_check ad a_m_fam m_undoCount m_thrown m_hasSnapshot m_rows m_lineLength m_formattedLength m_bufferLength m_limit m_next_29 m_beginsAt_29 m_token_29 m_error_33 m_errorAt_33 m_errorPosition m_nested m_codeCount false (5 : Int32) m_error_66 m_errorAt_66 h9) mX10_check tw1968 ⟨Nat.le_of_ble_eq_true rfl, Nat.le_of_ble_eq_true rfl⟩ hP hD hS hA ⟨Nat.zero_le _, Nat.zero_le _⟩ 1 10 rfl rfl rfl (wr := [((ad 24), .inl (cI, 800, .inl m_buffer)), (a_m_fam, .inl (cJ, 130, .inr (.inl m_fam)))]) [1] [0, 2] rfl rfl rfl rfl (by decide) (As := [.int (bI false), .int (5 : Int32)]) (rest := []) rfl hl.1 rfl (Nat.le_of_ble_eq_true rfl) dX10_readUnion_66 (fun H locs hP hD hS => ?_)
          refine W.eq (g2 := F0 m 69 ls []) rfl ?_
          have hP : va_P (dC, dI) vwCl [((ad 24), .inl (cI, 800, .inl m_buffer)), (a_m_fam, .inl (cJ, 130, .inr (.inl m_fam))), (ad 0, .inr (10, oM ad m_undoCount m_thrown m_hasSnapshot a_m_fam m_rows m_lineLength m_formattedLength m_bufferLength m_limit m_next_29 m_beginsAt_29 m_token_29 m_error_66 m_errorAt_66 m_errorPosition m_nested m_codeCount))] H := hP
          have hD : va_D A [((ad 24), .inl (cI, 800, .inl m_buffer)), (a_m_fam, .inl (cJ, 130, .inr (.inl m_fam))), (ad 0, .inr (10, oM ad m_undoCount m_thrown m_hasSnapshot a_m_fam m_rows m_lineLength m_formattedLength m_bufferLength m_limit m_next_29 m_beginsAt_29 m_token_29 m_error_66 m_errorAt_66 m_errorPosition m_nested m_codeCount))] := hD
          exact J69 r24 r33 m_next_29 m_beginsAt_29 m_token_29 m_error_66 m_errorAt_66 H locs ls hf (hP.sub [2, 0, 1] rfl) (hD.sub [2, 0, 1] (by decide) rfl) hS (lv_sub hl [2, 1, 0] rfl)
        · have hf := itt h9 hf
          refine lv_iconst (v := 1) hx hb dX10_readUnion_60 (by decide) ?_
          refine lv_goto (tgt := 65) hx hb dX10_readUnion_61 (by decide) ?_
          refine lv_iconst (v := 5) hx hb dX10_readUnion_65 (by decide) ?_
          obtain ⟨m_error_66, m_errorAt_66, h9⟩ : ∃ m_error_66 m_errorAt_66, p10_check m_beginsAt_29 m_error_33 m_errorAt_33 true (5 : Int32) = (m_error_66, m_errorAt_66) := ⟨_, _, rfl⟩
          have hf := uc2_e (lb_e h9.symm hf)
          refine gcV (index := 415) S hE (c_X10_check ad a_m_fam m_undoCount m_thrown m_hasSnapshot m_rows m_lineLength m_formattedLength m_bufferLength m_limit m_next_29 m_beginsAt_29 m_token_29 m_error_33 m_errorAt_33 m_errorPosition m_nested m_codeCount true (5 : Int32) m_error_66 m_errorAt_66 h9) mX10_check tw1968 ⟨Nat.le_of_ble_eq_true rfl, Nat.le_of_ble_eq_true rfl⟩ hP hD hS hA ⟨Nat.zero_le _, Nat.zero_le _⟩ 1 10 rfl rfl rfl (wr := [((ad 24), .inl (cI, 800, .inl m_buffer)), (a_m_fam, .inl (cJ, 130, .inr (.inl m_fam)))]) [1] [0, 2] rfl rfl rfl rfl (by decide) (As := [.int (bI true), .int (5 : Int32)]) (rest := []) rfl hl.1 rfl (Nat.le_of_ble_eq_true rfl) dX10_readUnion_66 (fun H locs hP hD hS => ?_)
          refine W.eq (g2 := F0 m 69 ls []) rfl ?_
          have hP : va_P (dC, dI) vwCl [((ad 24), .inl (cI, 800, .inl m_buffer)), (a_m_fam, .inl (cJ, 130, .inr (.inl m_fam))), (ad 0, .inr (10, oM ad m_undoCount m_thrown m_hasSnapshot a_m_fam m_rows m_lineLength m_formattedLength m_bufferLength m_limit m_next_29 m_beginsAt_29 m_token_29 m_error_66 m_errorAt_66 m_errorPosition m_nested m_codeCount))] H := hP
          have hD : va_D A [((ad 24), .inl (cI, 800, .inl m_buffer)), (a_m_fam, .inl (cJ, 130, .inr (.inl m_fam))), (ad 0, .inr (10, oM ad m_undoCount m_thrown m_hasSnapshot a_m_fam m_rows m_lineLength m_formattedLength m_bufferLength m_limit m_next_29 m_beginsAt_29 m_token_29 m_error_66 m_errorAt_66 m_errorPosition m_nested m_codeCount))] := hD
          exact J69 r24 r33 m_next_29 m_beginsAt_29 m_token_29 m_error_66 m_errorAt_66 H locs ls hf (hP.sub [2, 0, 1] rfl) (hD.sub [2, 0, 1] (by decide) rfl) hS (lv_sub hl [2, 1, 0] rfl)
  refine lv_aload_n hx hb dX10_readUnion_0 rfl (lv_at hl 0 rfl) ?_
  refine lv_aload_n hx hb dX10_readUnion_1 rfl (lv_at hl 0 rfl) ?_
  obtain ⟨r2, h9, hf⟩ := ob_s hf
  refine gcV (index := 110) S hE (c_X10_unions ad a_m_fam m_undoCount m_thrown m_hasSnapshot m_rows m_lineLength m_formattedLength m_bufferLength m_limit m_next m_beginsAt m_token m_error m_errorAt m_errorPosition m_nested m_codeCount m_fam r2 h9) mX10_unions tw1532 ⟨Nat.le_of_ble_eq_true rfl, Nat.le_of_ble_eq_true rfl⟩ hP hD hS hA ⟨Nat.zero_le _, Nat.zero_le _⟩ 0 10 rfl rfl rfl (wr := [((ad 24), .inl (cI, 800, .inl m_buffer))]) [0, 2] [1] rfl rfl rfl rfl (by decide) (As := []) (rest := [.ref (ad 0)]) rfl hl.1 rfl (Nat.le_of_ble_eq_true rfl) dX10_readUnion_2 (fun H locs hP hD hS => ?_)
  refine W.eq (g2 := F0 m 5 ls [.int r2, .ref (ad 0)]) rfl ?_
  have hP : va_P (dC, dI) vwCl [((ad 24), .inl (cI, 800, .inl m_buffer)), (ad 0, .inr (10, oM ad m_undoCount m_thrown m_hasSnapshot a_m_fam m_rows m_lineLength m_formattedLength m_bufferLength m_limit m_next m_beginsAt m_token m_error m_errorAt m_errorPosition m_nested m_codeCount)), (a_m_fam, .inl (cJ, 130, .inr (.inl m_fam)))] H := hP
  have hD : va_D A [((ad 24), .inl (cI, 800, .inl m_buffer)), (ad 0, .inr (10, oM ad m_undoCount m_thrown m_hasSnapshot a_m_fam m_rows m_lineLength m_formattedLength m_bufferLength m_limit m_next m_beginsAt m_token m_error m_errorAt m_errorPosition m_nested m_codeCount)), (a_m_fam, .inl (cJ, 130, .inr (.inl m_fam)))] := hD
  refine lv_bipush (v := 12) hx hb dX10_readUnion_5 (by decide) ?_
  refine lv_icmp_ge (tgt := 14) hx hb dX10_readUnion_7 (by decide) (fun h9 => ?_) (fun h9 => ?_)
  · have hf := itt h9 hf
    refine lv_iconst (v := 0) hx hb dX10_readUnion_14 (by decide) ?_
    refine lv_iconst (v := 3) hx hb dX10_readUnion_15 (by decide) ?_
    obtain ⟨m_error_16, m_errorAt_16, h9⟩ : ∃ m_error_16 m_errorAt_16, p10_check m_beginsAt m_error m_errorAt false (3 : Int32) = (m_error_16, m_errorAt_16) := ⟨_, _, rfl⟩
    have hf := uc2_e (lb_e h9.symm hf)
    refine gcV (index := 415) S hE (c_X10_check ad a_m_fam m_undoCount m_thrown m_hasSnapshot m_rows m_lineLength m_formattedLength m_bufferLength m_limit m_next m_beginsAt m_token m_error m_errorAt m_errorPosition m_nested m_codeCount false (3 : Int32) m_error_16 m_errorAt_16 h9) mX10_check tw1968 ⟨Nat.le_of_ble_eq_true rfl, Nat.le_of_ble_eq_true rfl⟩ hP hD hS hA ⟨Nat.zero_le _, Nat.zero_le _⟩ 1 10 rfl rfl rfl (wr := [((ad 24), .inl (cI, 800, .inl m_buffer)), (a_m_fam, .inl (cJ, 130, .inr (.inl m_fam)))]) [1] [0, 2] rfl rfl rfl rfl (by decide) (As := [.int (bI false), .int (3 : Int32)]) (rest := []) rfl hl.1 rfl (Nat.le_of_ble_eq_true rfl) dX10_readUnion_16 (fun H locs hP hD hS => ?_)
    refine W.eq (g2 := F0 m 19 ls []) rfl ?_
    have hP : va_P (dC, dI) vwCl [((ad 24), .inl (cI, 800, .inl m_buffer)), (a_m_fam, .inl (cJ, 130, .inr (.inl m_fam))), (ad 0, .inr (10, oM ad m_undoCount m_thrown m_hasSnapshot a_m_fam m_rows m_lineLength m_formattedLength m_bufferLength m_limit m_next m_beginsAt m_token m_error_16 m_errorAt_16 m_errorPosition m_nested m_codeCount))] H := hP
    have hD : va_D A [((ad 24), .inl (cI, 800, .inl m_buffer)), (a_m_fam, .inl (cJ, 130, .inr (.inl m_fam))), (ad 0, .inr (10, oM ad m_undoCount m_thrown m_hasSnapshot a_m_fam m_rows m_lineLength m_formattedLength m_bufferLength m_limit m_next m_beginsAt m_token m_error_16 m_errorAt_16 m_errorPosition m_nested m_codeCount))] := hD
    exact J19 m_error_16 m_errorAt_16 H locs ls hf (hP.sub [2, 0, 1] rfl) (hD.sub [2, 0, 1] (by decide) rfl) hS (lv_sub hl [0] rfl)
  · have hf := itf h9 hf
    refine lv_iconst (v := 1) hx hb dX10_readUnion_10 (by decide) ?_
    refine lv_goto (tgt := 15) hx hb dX10_readUnion_11 (by decide) ?_
    refine lv_iconst (v := 3) hx hb dX10_readUnion_15 (by decide) ?_
    obtain ⟨m_error_16, m_errorAt_16, h9⟩ : ∃ m_error_16 m_errorAt_16, p10_check m_beginsAt m_error m_errorAt true (3 : Int32) = (m_error_16, m_errorAt_16) := ⟨_, _, rfl⟩
    have hf := uc2_e (lb_e h9.symm hf)
    refine gcV (index := 415) S hE (c_X10_check ad a_m_fam m_undoCount m_thrown m_hasSnapshot m_rows m_lineLength m_formattedLength m_bufferLength m_limit m_next m_beginsAt m_token m_error m_errorAt m_errorPosition m_nested m_codeCount true (3 : Int32) m_error_16 m_errorAt_16 h9) mX10_check tw1968 ⟨Nat.le_of_ble_eq_true rfl, Nat.le_of_ble_eq_true rfl⟩ hP hD hS hA ⟨Nat.zero_le _, Nat.zero_le _⟩ 1 10 rfl rfl rfl (wr := [((ad 24), .inl (cI, 800, .inl m_buffer)), (a_m_fam, .inl (cJ, 130, .inr (.inl m_fam)))]) [1] [0, 2] rfl rfl rfl rfl (by decide) (As := [.int (bI true), .int (3 : Int32)]) (rest := []) rfl hl.1 rfl (Nat.le_of_ble_eq_true rfl) dX10_readUnion_16 (fun H locs hP hD hS => ?_)
    refine W.eq (g2 := F0 m 19 ls []) rfl ?_
    have hP : va_P (dC, dI) vwCl [((ad 24), .inl (cI, 800, .inl m_buffer)), (a_m_fam, .inl (cJ, 130, .inr (.inl m_fam))), (ad 0, .inr (10, oM ad m_undoCount m_thrown m_hasSnapshot a_m_fam m_rows m_lineLength m_formattedLength m_bufferLength m_limit m_next m_beginsAt m_token m_error_16 m_errorAt_16 m_errorPosition m_nested m_codeCount))] H := hP
    have hD : va_D A [((ad 24), .inl (cI, 800, .inl m_buffer)), (a_m_fam, .inl (cJ, 130, .inr (.inl m_fam))), (ad 0, .inr (10, oM ad m_undoCount m_thrown m_hasSnapshot a_m_fam m_rows m_lineLength m_formattedLength m_bufferLength m_limit m_next m_beginsAt m_token m_error_16 m_errorAt_16 m_errorPosition m_nested m_codeCount))] := hD
    exact J19 m_error_16 m_errorAt_16 H locs ls hf (hP.sub [2, 0, 1] rfl) (hD.sub [2, 0, 1] (by decide) rfl) hS (lv_sub hl [0] rfl)
end G_31_FamilyChartModel03
