section G_31_FamilyChartModel00
variable {l : Launch} {dC : Nat → ClassId} {dI : Nat → Nat → Nat} {cI cJ cZ : ClassId} {adK adV : Nat → Nat}
set_option maxHeartbeats 4000000 in
set_option maxRecDepth 100000 in
theorem c_X10_thrown (ad : Nat → Nat) (a_m_fam : Nat) (m_undoCount : Int32) (m_thrown : Int32) (m_hasSnapshot : Bool) (m_rows : Int32) (m_lineLength : Int32) (m_formattedLength : Int32) (m_bufferLength : Int32) (m_limit : Int32) (m_next : Int32) (m_beginsAt : Int32) (m_token : Int32) (m_error : Int32) (m_errorAt : Int32) (m_errorPosition : Int32) (m_nested : Int32) (m_codeCount : Int32) (r9 : Int32) (hf : p10_thrown m_thrown = r9) : gM l dC dI cI cJ cZ yX10_thrown cX10_thrown 1 (some .int) (0) (0) [.ref (ad 0)] [(ad 0, .inr (10, oM ad m_undoCount m_thrown m_hasSnapshot a_m_fam m_rows m_lineLength m_formattedLength m_bufferLength m_limit m_next m_beginsAt m_token m_error m_errorAt m_errorPosition m_nested m_codeCount))] [(ad 0, .inr (10, oM ad m_undoCount m_thrown m_hasSnapshot a_m_fam m_rows m_lineLength m_formattedLength m_bufferLength m_limit m_next m_beginsAt m_token m_error m_errorAt m_errorPosition m_nested m_codeCount))] (some (.int r9)) := by
  refine g_start (own := RX10) (by decide +kernel) rfl (Nat.le_of_ble_eq_true rfl) ?_
  intro p e s m below meth c A ls S hr hlocks hE hP hD hS hA hl hin
  have hx := S.1
  have hb := S.2.1
  have hml := S.2.2.1
  have hown := S.2.2.2.1
  have htg : ∀ z ∈ gw, z.before ([.ref (ad 0)] : List Value).toArray s = true := fun w h => S.2.2.2.2 w (List.mem_cons_of_mem _ h)
  have hl : lv_has ls 1 [(0, .ref (ad 0))] := hl
  have hS0 := hS
  obtain ⟨H, hH⟩ : ∃ H, H = s.heap := ⟨_, rfl⟩
  obtain ⟨locs, hlc⟩ : ∃ locs : List Loc, locs = [] := ⟨_, rfl⟩
  have hS : va_S A s.heap H locs := by rw [hH, hlc]; exact hS0
  have hP : va_P (dC, dI) vwCl [(ad 0, .inr (10, oM ad m_undoCount m_thrown m_hasSnapshot a_m_fam m_rows m_lineLength m_formattedLength m_bufferLength m_limit m_next m_beginsAt m_token m_error m_errorAt m_errorPosition m_nested m_codeCount))] H := by rw [hH]; exact hP
  suffices hgo : W p l e ({ frames := 0, cells := 0, slots := 0, locals := 0 }) s m ([.ref (ad 0)] : List Value).toArray below meth c H locs 0 0 (MQ below (gQ dC dI (some (.int r9)) A [(ad 0, .inr (10, oM ad m_undoCount m_thrown m_hasSnapshot a_m_fam m_rows m_lineLength m_formattedLength m_bufferLength m_limit m_next m_beginsAt m_token m_error m_errorAt m_errorPosition m_nested m_codeCount))]) ([.ref (ad 0)] : List Value).toArray s 0 0 A) (F0 m 0 ls []) by rw [hH, hlc] at hgo; exact hgo
  rw [p10_thrown] at hf
  refine lv_aload_n hx hb dX10_thrown_0 rfl (lv_at hl 0 rfl) ?_
  refine va_get (D := (dC, dI)) (ci := 10) (v := .int m_thrown) (C := RX10) (T := TX10) (N := 37) hx hb htg inX10 hown hE.1 hP 0 rfl rfl 5 (by decide) (htg _ tw1387) (fun _ h9 => h9) rfl dX10_thrown_1 ?_
  cases hf
  exact g_iret S hr hlocks hP hD hS dX10_thrown_4
set_option maxHeartbeats 4000000 in
set_option maxRecDepth 100000 in
theorem c_X10_raise (ad : Nat → Nat) (a_m_fam : Nat) (m_undoCount : Int32) (m_thrown : Int32) (m_hasSnapshot : Bool) (m_rows : Int32) (m_lineLength : Int32) (m_formattedLength : Int32) (m_bufferLength : Int32) (m_limit : Int32) (m_next : Int32) (m_beginsAt : Int32) (m_token : Int32) (m_error : Int32) (m_errorAt : Int32) (m_errorPosition : Int32) (m_nested : Int32) (m_codeCount : Int32) (v1 : Int32) (r9 : Int32) (m_thrown_9 : Int32) (hf : p10_raise v1 = (r9, m_thrown_9)) : gM l dC dI cI cJ cZ yX10_raise cX10_raise 2 (some .int) (0) (0) [.ref (ad 0), .int v1] [(ad 0, .inr (10, oM ad m_undoCount m_thrown m_hasSnapshot a_m_fam m_rows m_lineLength m_formattedLength m_bufferLength m_limit m_next m_beginsAt m_token m_error m_errorAt m_errorPosition m_nested m_codeCount))] [(ad 0, .inr (10, oM ad m_undoCount m_thrown_9 m_hasSnapshot a_m_fam m_rows m_lineLength m_formattedLength m_bufferLength m_limit m_next m_beginsAt m_token m_error m_errorAt m_errorPosition m_nested m_codeCount))] (some (.int r9)) := by
  refine g_start (own := RX10) (by decide +kernel) rfl (Nat.le_of_ble_eq_true rfl) ?_
  intro p e s m below meth c A ls S hr hlocks hE hP hD hS hA hl hin
  have hx := S.1
  have hb := S.2.1
  have hml := S.2.2.1
  have hown := S.2.2.2.1
  have htg : ∀ z ∈ gw, z.before ([.ref (ad 0), .int v1] : List Value).toArray s = true := fun w h => S.2.2.2.2 w (List.mem_cons_of_mem _ h)
  have hl : lv_has ls 2 [(0, .ref (ad 0)), (1, .int v1)] := hl
  have hS0 := hS
  obtain ⟨H, hH⟩ : ∃ H, H = s.heap := ⟨_, rfl⟩
  obtain ⟨locs, hlc⟩ : ∃ locs : List Loc, locs = [] := ⟨_, rfl⟩
  have hS : va_S A s.heap H locs := by rw [hH, hlc]; exact hS0
  have hP : va_P (dC, dI) vwCl [(ad 0, .inr (10, oM ad m_undoCount m_thrown m_hasSnapshot a_m_fam m_rows m_lineLength m_formattedLength m_bufferLength m_limit m_next m_beginsAt m_token m_error m_errorAt m_errorPosition m_nested m_codeCount))] H := by rw [hH]; exact hP
  suffices hgo : W p l e ({ frames := 0, cells := 0, slots := 0, locals := 0 }) s m ([.ref (ad 0), .int v1] : List Value).toArray below meth c H locs 0 0 (MQ below (gQ dC dI (some (.int r9)) A [(ad 0, .inr (10, oM ad m_undoCount m_thrown_9 m_hasSnapshot a_m_fam m_rows m_lineLength m_formattedLength m_bufferLength m_limit m_next m_beginsAt m_token m_error m_errorAt m_errorPosition m_nested m_codeCount))]) ([.ref (ad 0), .int v1] : List Value).toArray s 0 0 A) (F0 m 0 ls []) by rw [hH, hlc] at hgo; exact hgo
  rw [p10_raise] at hf
  refine lv_aload_n hx hb dX10_raise_0 rfl (lv_at hl 0 rfl) ?_
  refine lv_iload_n hx hb dX10_raise_1 rfl (lv_at hl 1 rfl) ?_
  refine va_put (D := (dC, dI)) (ci := 10) (v := .int v1) (ty := .int) (C := RX10) (T := TX10) (N := 37) hx hb htg inX10 tyX10 tyX10_ok nmX10 hown hE.1 hP hD hS 0 rfl rfl 5 (by decide) (htg _ tw1387) (fun _ h9 => h9) rfl (by decide +kernel) rfl rfl (Nat.le_of_ble_eq_true rfl) dX10_raise_2 (fun H locs hP hD hS => ?_)
  have hP : va_P (dC, dI) vwCl [(ad 0, .inr (10, oM ad m_undoCount v1 m_hasSnapshot a_m_fam m_rows m_lineLength m_formattedLength m_bufferLength m_limit m_next m_beginsAt m_token m_error m_errorAt m_errorPosition m_nested m_codeCount))] H := hP
  have hD : va_D A [(ad 0, .inr (10, oM ad m_undoCount v1 m_hasSnapshot a_m_fam m_rows m_lineLength m_formattedLength m_bufferLength m_limit m_next m_beginsAt m_token m_error m_errorAt m_errorPosition m_nested m_codeCount))] := hD
  refine lv_iconst (v := 0) hx hb dX10_raise_5 (by decide) ?_
  cases hf
  exact g_iret S hr hlocks hP hD hS dX10_raise_6
set_option maxHeartbeats 4000000 in
set_option maxRecDepth 100000 in
theorem c_X10_inRange (v0 : Int64) (v2 : Int64) (v4 : Int64) (r9 : Bool) (hf : p10_inRange v0 v2 v4 = r9) : gM l dC dI cI cJ cZ yX10_inRange cX10_inRange 6 (some .boolean) (0) (0) [.long v0, .long v2, .long v4] [] [] (some (.int (bI r9))) := by
  refine g_start (own := RX10) (by decide +kernel) rfl (Nat.le_of_ble_eq_true rfl) ?_
  intro p e s m below meth c A ls S hr hlocks hE hP hD hS hA hl hin
  have hx := S.1
  have hb := S.2.1
  have hml := S.2.2.1
  have hown := S.2.2.2.1
  have htg : ∀ z ∈ gw, z.before ([.long v0, .long v2, .long v4] : List Value).toArray s = true := fun w h => S.2.2.2.2 w (List.mem_cons_of_mem _ h)
  have hl : lv_has ls 6 [(0, .long v0), (2, .long v2), (4, .long v4)] := hl
  have hS0 := hS
  obtain ⟨H, hH⟩ : ∃ H, H = s.heap := ⟨_, rfl⟩
  obtain ⟨locs, hlc⟩ : ∃ locs : List Loc, locs = [] := ⟨_, rfl⟩
  have hS : va_S A s.heap H locs := by rw [hH, hlc]; exact hS0
  have hP : va_P (dC, dI) vwCl [] H := by rw [hH]; exact hP
  suffices hgo : W p l e ({ frames := 0, cells := 0, slots := 0, locals := 0 }) s m ([.long v0, .long v2, .long v4] : List Value).toArray below meth c H locs 0 0 (MQ below (gQ dC dI (some (.int (bI r9))) A []) ([.long v0, .long v2, .long v4] : List Value).toArray s 0 0 A) (F0 m 0 ls []) by rw [hH, hlc] at hgo; exact hgo
  rw [p10_inRange] at hf
  refine lv_lload_n hx hb dX10_inRange_0 rfl (lv_at hl 0 rfl) ?_
  refine lv_lload_n hx hb dX10_inRange_1 rfl (lv_at hl 1 rfl) ?_
  refine W.lcmp hx hb dX10_inRange_2 ?_
  refine lv_if_lt (tgt := 17) hx hb dX10_inRange_3 (by decide) (fun h9 => ?_) (fun h9 => ?_)
  · have h9 := (lg_cmp_lt _ _).mp h9
    have hf := itt h9 hf
    refine lv_iconst (v := 0) hx hb dX10_inRange_17 (by decide) ?_
    cases hf
    exact g_zret S hr (nar_bI false) hlocks hP hD hS dX10_inRange_18
  · have h9 := fun q => h9 ((lg_cmp_lt _ _).mpr q)
    have hf := itf h9 hf
    refine lv_lload_n hx hb dX10_inRange_6 rfl (lv_at hl 0 rfl) ?_
    refine lv_lload hx hb dX10_inRange_7 (lv_at hl 2 rfl) ?_
    refine W.lcmp hx hb dX10_inRange_9 ?_
    refine lv_if_gt (tgt := 17) hx hb dX10_inRange_10 (by decide) (fun h9 => ?_) (fun h9 => ?_)
    · have h9 := (lg_cmp_gt _ _).mp h9
      have hf := itt h9 hf
      refine lv_iconst (v := 0) hx hb dX10_inRange_17 (by decide) ?_
      cases hf
      exact g_zret S hr (nar_bI false) hlocks hP hD hS dX10_inRange_18
    · have h9 := fun q => h9 ((lg_cmp_gt _ _).mpr q)
      have hf := itf h9 hf
      refine lv_iconst (v := 1) hx hb dX10_inRange_13 (by decide) ?_
      refine lv_goto (tgt := 18) hx hb dX10_inRange_14 (by decide) ?_
      cases hf
      exact g_zret S hr (nar_bI true) hlocks hP hD hS dX10_inRange_18
set_option maxHeartbeats 4000000 in
set_option maxRecDepth 100000 in
theorem c_X10_persons (ad : Nat → Nat) (a_m_fam : Nat) (m_undoCount : Int32) (m_thrown : Int32) (m_hasSnapshot : Bool) (m_rows : Int32) (m_lineLength : Int32) (m_formattedLength : Int32) (m_bufferLength : Int32) (m_limit : Int32) (m_next : Int32) (m_beginsAt : Int32) (m_token : Int32) (m_error : Int32) (m_errorAt : Int32) (m_errorPosition : Int32) (m_nested : Int32) (m_codeCount : Int32) (m_fam : Nat → Int64) (r9 : Int32) (hf : p10_persons m_fam = some r9) : gM l dC dI cI cJ cZ yX10_persons cX10_persons 1 (some .int) (0) (0) [.ref (ad 0)] [(ad 0, .inr (10, oM ad m_undoCount m_thrown m_hasSnapshot a_m_fam m_rows m_lineLength m_formattedLength m_bufferLength m_limit m_next m_beginsAt m_token m_error m_errorAt m_errorPosition m_nested m_codeCount)), (a_m_fam, .inl (cJ, 130, .inr (.inl m_fam)))] [(ad 0, .inr (10, oM ad m_undoCount m_thrown m_hasSnapshot a_m_fam m_rows m_lineLength m_formattedLength m_bufferLength m_limit m_next m_beginsAt m_token m_error m_errorAt m_errorPosition m_nested m_codeCount)), (a_m_fam, .inl (cJ, 130, .inr (.inl m_fam)))] (some (.int r9)) := by
  refine g_start (own := RX10) (by decide +kernel) rfl (Nat.le_of_ble_eq_true rfl) ?_
  intro p e s m below meth c A ls S hr hlocks hE hP hD hS hA hl hin
  have hx := S.1
  have hb := S.2.1
  have hml := S.2.2.1
  have hown := S.2.2.2.1
  have htg : ∀ z ∈ gw, z.before ([.ref (ad 0)] : List Value).toArray s = true := fun w h => S.2.2.2.2 w (List.mem_cons_of_mem _ h)
  have hl : lv_has ls 1 [(0, .ref (ad 0))] := hl
  have hS0 := hS
  obtain ⟨H, hH⟩ : ∃ H, H = s.heap := ⟨_, rfl⟩
  obtain ⟨locs, hlc⟩ : ∃ locs : List Loc, locs = [] := ⟨_, rfl⟩
  have hS : va_S A s.heap H locs := by rw [hH, hlc]; exact hS0
  have hP : va_P (dC, dI) vwCl [(ad 0, .inr (10, oM ad m_undoCount m_thrown m_hasSnapshot a_m_fam m_rows m_lineLength m_formattedLength m_bufferLength m_limit m_next m_beginsAt m_token m_error m_errorAt m_errorPosition m_nested m_codeCount)), (a_m_fam, .inl (cJ, 130, .inr (.inl m_fam)))] H := by rw [hH]; exact hP
  suffices hgo : W p l e ({ frames := 0, cells := 0, slots := 0, locals := 0 }) s m ([.ref (ad 0)] : List Value).toArray below meth c H locs 0 0 (MQ below (gQ dC dI (some (.int r9)) A [(ad 0, .inr (10, oM ad m_undoCount m_thrown m_hasSnapshot a_m_fam m_rows m_lineLength m_formattedLength m_bufferLength m_limit m_next m_beginsAt m_token m_error m_errorAt m_errorPosition m_nested m_codeCount)), (a_m_fam, .inl (cJ, 130, .inr (.inl m_fam)))]) ([.ref (ad 0)] : List Value).toArray s 0 0 A) (F0 m 0 ls []) by rw [hH, hlc] at hgo; exact hgo
  rw [p10_persons] at hf
  refine lv_aload_n hx hb dX10_persons_0 rfl (lv_at hl 0 rfl) ?_
  refine va_get (D := (dC, dI)) (ci := 10) (v := .ref a_m_fam) (C := RX10) (T := TX10) (N := 37) hx hb htg inX10 hown hE.1 hP 0 rfl rfl 7 (by decide) (htg _ tw1389) (fun _ h9 => h9) rfl dX10_persons_1 ?_
  refine lv_iconst (v := 0) hx hb dX10_persons_4 (by decide) ?_
  obtain ⟨h9, hf⟩ := gd_s hf
  refine va_lald hx hb hE.1 hP 1 1 rfl rfl h9 dX10_persons_5 ?_
  refine lv_l2i hx hb dX10_persons_6 rfl ?_
  cases hf
  exact g_iret S hr hlocks hP hD hS dX10_persons_7
set_option maxHeartbeats 4000000 in
set_option maxRecDepth 100000 in
theorem c_X10_unions (ad : Nat → Nat) (a_m_fam : Nat) (m_undoCount : Int32) (m_thrown : Int32) (m_hasSnapshot : Bool) (m_rows : Int32) (m_lineLength : Int32) (m_formattedLength : Int32) (m_bufferLength : Int32) (m_limit : Int32) (m_next : Int32) (m_beginsAt : Int32) (m_token : Int32) (m_error : Int32) (m_errorAt : Int32) (m_errorPosition : Int32) (m_nested : Int32) (m_codeCount : Int32) (m_fam : Nat → Int64) (r9 : Int32) (hf : p10_unions m_fam = some r9) : gM l dC dI cI cJ cZ yX10_unions cX10_unions 1 (some .int) (0) (0) [.ref (ad 0)] [(ad 0, .inr (10, oM ad m_undoCount m_thrown m_hasSnapshot a_m_fam m_rows m_lineLength m_formattedLength m_bufferLength m_limit m_next m_beginsAt m_token m_error m_errorAt m_errorPosition m_nested m_codeCount)), (a_m_fam, .inl (cJ, 130, .inr (.inl m_fam)))] [(ad 0, .inr (10, oM ad m_undoCount m_thrown m_hasSnapshot a_m_fam m_rows m_lineLength m_formattedLength m_bufferLength m_limit m_next m_beginsAt m_token m_error m_errorAt m_errorPosition m_nested m_codeCount)), (a_m_fam, .inl (cJ, 130, .inr (.inl m_fam)))] (some (.int r9)) := by
  refine g_start (own := RX10) (by decide +kernel) rfl (Nat.le_of_ble_eq_true rfl) ?_
  intro p e s m below meth c A ls S hr hlocks hE hP hD hS hA hl hin
  have hx := S.1
  have hb := S.2.1
  have hml := S.2.2.1
  have hown := S.2.2.2.1
  have htg : ∀ z ∈ gw, z.before ([.ref (ad 0)] : List Value).toArray s = true := fun w h => S.2.2.2.2 w (List.mem_cons_of_mem _ h)
  have hl : lv_has ls 1 [(0, .ref (ad 0))] := hl
  have hS0 := hS
  obtain ⟨H, hH⟩ : ∃ H, H = s.heap := ⟨_, rfl⟩
  obtain ⟨locs, hlc⟩ : ∃ locs : List Loc, locs = [] := ⟨_, rfl⟩
  have hS : va_S A s.heap H locs := by rw [hH, hlc]; exact hS0
  have hP : va_P (dC, dI) vwCl [(ad 0, .inr (10, oM ad m_undoCount m_thrown m_hasSnapshot a_m_fam m_rows m_lineLength m_formattedLength m_bufferLength m_limit m_next m_beginsAt m_token m_error m_errorAt m_errorPosition m_nested m_codeCount)), (a_m_fam, .inl (cJ, 130, .inr (.inl m_fam)))] H := by rw [hH]; exact hP
  suffices hgo : W p l e ({ frames := 0, cells := 0, slots := 0, locals := 0 }) s m ([.ref (ad 0)] : List Value).toArray below meth c H locs 0 0 (MQ below (gQ dC dI (some (.int r9)) A [(ad 0, .inr (10, oM ad m_undoCount m_thrown m_hasSnapshot a_m_fam m_rows m_lineLength m_formattedLength m_bufferLength m_limit m_next m_beginsAt m_token m_error m_errorAt m_errorPosition m_nested m_codeCount)), (a_m_fam, .inl (cJ, 130, .inr (.inl m_fam)))]) ([.ref (ad 0)] : List Value).toArray s 0 0 A) (F0 m 0 ls []) by rw [hH, hlc] at hgo; exact hgo
  rw [p10_unions] at hf
  refine lv_aload_n hx hb dX10_unions_0 rfl (lv_at hl 0 rfl) ?_
  refine va_get (D := (dC, dI)) (ci := 10) (v := .ref a_m_fam) (C := RX10) (T := TX10) (N := 37) hx hb htg inX10 hown hE.1 hP 0 rfl rfl 7 (by decide) (htg _ tw1389) (fun _ h9 => h9) rfl dX10_unions_1 ?_
  refine lv_iconst (v := 1) hx hb dX10_unions_4 (by decide) ?_
  obtain ⟨h9, hf⟩ := gd_s hf
  refine va_lald hx hb hE.1 hP 1 1 rfl rfl h9 dX10_unions_5 ?_
  refine lv_l2i hx hb dX10_unions_6 rfl ?_
  cases hf
  exact g_iret S hr hlocks hP hD hS dX10_unions_7
set_option maxHeartbeats 4000000 in
set_option maxRecDepth 100000 in
theorem c_X10_ofPerson (ad : Nat → Nat) (a_m_fam : Nat) (m_undoCount : Int32) (m_thrown : Int32) (m_hasSnapshot : Bool) (m_rows : Int32) (m_lineLength : Int32) (m_formattedLength : Int32) (m_bufferLength : Int32) (m_limit : Int32) (m_next : Int32) (m_beginsAt : Int32) (m_token : Int32) (m_error : Int32) (m_errorAt : Int32) (m_errorPosition : Int32) (m_nested : Int32) (m_codeCount : Int32) (m_fam : Nat → Int64) (v1 : Int32) (v2 : Int32) (r9 : Int64) (hf : p10_ofPerson m_fam v1 v2 = some r9) : gM l dC dI cI cJ cZ yX10_ofPerson cX10_ofPerson 3 (some .long) (0) (0) [.ref (ad 0), .int v1, .int v2] [(ad 0, .inr (10, oM ad m_undoCount m_thrown m_hasSnapshot a_m_fam m_rows m_lineLength m_formattedLength m_bufferLength m_limit m_next m_beginsAt m_token m_error m_errorAt m_errorPosition m_nested m_codeCount)), (a_m_fam, .inl (cJ, 130, .inr (.inl m_fam)))] [(ad 0, .inr (10, oM ad m_undoCount m_thrown m_hasSnapshot a_m_fam m_rows m_lineLength m_formattedLength m_bufferLength m_limit m_next m_beginsAt m_token m_error m_errorAt m_errorPosition m_nested m_codeCount)), (a_m_fam, .inl (cJ, 130, .inr (.inl m_fam)))] (some (.long r9)) := by
  refine g_start (own := RX10) (by decide +kernel) rfl (Nat.le_of_ble_eq_true rfl) ?_
  intro p e s m below meth c A ls S hr hlocks hE hP hD hS hA hl hin
  have hx := S.1
  have hb := S.2.1
  have hml := S.2.2.1
  have hown := S.2.2.2.1
  have htg : ∀ z ∈ gw, z.before ([.ref (ad 0), .int v1, .int v2] : List Value).toArray s = true := fun w h => S.2.2.2.2 w (List.mem_cons_of_mem _ h)
  have hl : lv_has ls 3 [(0, .ref (ad 0)), (1, .int v1), (2, .int v2)] := hl
  have hS0 := hS
  obtain ⟨H, hH⟩ : ∃ H, H = s.heap := ⟨_, rfl⟩
  obtain ⟨locs, hlc⟩ : ∃ locs : List Loc, locs = [] := ⟨_, rfl⟩
  have hS : va_S A s.heap H locs := by rw [hH, hlc]; exact hS0
  have hP : va_P (dC, dI) vwCl [(ad 0, .inr (10, oM ad m_undoCount m_thrown m_hasSnapshot a_m_fam m_rows m_lineLength m_formattedLength m_bufferLength m_limit m_next m_beginsAt m_token m_error m_errorAt m_errorPosition m_nested m_codeCount)), (a_m_fam, .inl (cJ, 130, .inr (.inl m_fam)))] H := by rw [hH]; exact hP
  suffices hgo : W p l e ({ frames := 0, cells := 0, slots := 0, locals := 0 }) s m ([.ref (ad 0), .int v1, .int v2] : List Value).toArray below meth c H locs 0 0 (MQ below (gQ dC dI (some (.long r9)) A [(ad 0, .inr (10, oM ad m_undoCount m_thrown m_hasSnapshot a_m_fam m_rows m_lineLength m_formattedLength m_bufferLength m_limit m_next m_beginsAt m_token m_error m_errorAt m_errorPosition m_nested m_codeCount)), (a_m_fam, .inl (cJ, 130, .inr (.inl m_fam)))]) ([.ref (ad 0), .int v1, .int v2] : List Value).toArray s 0 0 A) (F0 m 0 ls []) by rw [hH, hlc] at hgo; exact hgo
  rw [p10_ofPerson] at hf
  refine lv_aload_n hx hb dX10_ofPerson_0 rfl (lv_at hl 0 rfl) ?_
  refine va_get (D := (dC, dI)) (ci := 10) (v := .ref a_m_fam) (C := RX10) (T := TX10) (N := 37) hx hb htg inX10 hown hE.1 hP 0 rfl rfl 7 (by decide) (htg _ tw1389) (fun _ h9 => h9) rfl dX10_ofPerson_1 ?_
  refine lv_iconst (v := 2) hx hb dX10_ofPerson_4 (by decide) ?_
  refine lv_iconst (v := 4) hx hb dX10_ofPerson_5 (by decide) ?_
  refine lv_iload_n hx hb dX10_ofPerson_6 rfl (lv_at hl 1 rfl) ?_
  refine lv_imul hx hb dX10_ofPerson_7 ?_
  refine lv_iadd hx hb dX10_ofPerson_8 ?_
  refine lv_iload_n hx hb dX10_ofPerson_9 rfl (lv_at hl 2 rfl) ?_
  refine lv_iadd hx hb dX10_ofPerson_10 ?_
  obtain ⟨h9, hf⟩ := gd_s hf
  refine va_lald hx hb hE.1 hP 1 1 rfl rfl h9 dX10_ofPerson_11 ?_
  cases hf
  exact g_lret S hr hlocks hP hD hS dX10_ofPerson_12
set_option maxHeartbeats 4000000 in
set_option maxRecDepth 100000 in
theorem c_X10_putPerson (ad : Nat → Nat) (a_m_fam : Nat) (m_undoCount : Int32) (m_thrown : Int32) (m_hasSnapshot : Bool) (m_rows : Int32) (m_lineLength : Int32) (m_formattedLength : Int32) (m_bufferLength : Int32) (m_limit : Int32) (m_next : Int32) (m_beginsAt : Int32) (m_token : Int32) (m_error : Int32) (m_errorAt : Int32) (m_errorPosition : Int32) (m_nested : Int32) (m_codeCount : Int32) (m_fam : Nat → Int64) (v1 : Int32) (v2 : Int32) (v3 : Int64) (m_fam_9 : Nat → Int64) (hf : p10_putPerson m_fam v1 v2 v3 = some m_fam_9) : gM l dC dI cI cJ cZ yX10_putPerson cX10_putPerson 5 none (0) (0) [.ref (ad 0), .int v1, .int v2, .long v3] [(ad 0, .inr (10, oM ad m_undoCount m_thrown m_hasSnapshot a_m_fam m_rows m_lineLength m_formattedLength m_bufferLength m_limit m_next m_beginsAt m_token m_error m_errorAt m_errorPosition m_nested m_codeCount)), (a_m_fam, .inl (cJ, 130, .inr (.inl m_fam)))] [(ad 0, .inr (10, oM ad m_undoCount m_thrown m_hasSnapshot a_m_fam m_rows m_lineLength m_formattedLength m_bufferLength m_limit m_next m_beginsAt m_token m_error m_errorAt m_errorPosition m_nested m_codeCount)), (a_m_fam, .inl (cJ, 130, .inr (.inl m_fam_9)))] none := by
  refine g_start (own := RX10) (by decide +kernel) rfl (Nat.le_of_ble_eq_true rfl) ?_
  intro p e s m below meth c A ls S hr hlocks hE hP hD hS hA hl hin
  have hx := S.1
  have hb := S.2.1
  have hml := S.2.2.1
  have hown := S.2.2.2.1
  have htg : ∀ z ∈ gw, z.before ([.ref (ad 0), .int v1, .int v2, .long v3] : List Value).toArray s = true := fun w h => S.2.2.2.2 w (List.mem_cons_of_mem _ h)
  have hl : lv_has ls 5 [(0, .ref (ad 0)), (1, .int v1), (2, .int v2), (3, .long v3)] := hl
  have hS0 := hS
  obtain ⟨H, hH⟩ : ∃ H, H = s.heap := ⟨_, rfl⟩
  obtain ⟨locs, hlc⟩ : ∃ locs : List Loc, locs = [] := ⟨_, rfl⟩
  have hS : va_S A s.heap H locs := by rw [hH, hlc]; exact hS0
  have hP : va_P (dC, dI) vwCl [(ad 0, .inr (10, oM ad m_undoCount m_thrown m_hasSnapshot a_m_fam m_rows m_lineLength m_formattedLength m_bufferLength m_limit m_next m_beginsAt m_token m_error m_errorAt m_errorPosition m_nested m_codeCount)), (a_m_fam, .inl (cJ, 130, .inr (.inl m_fam)))] H := by rw [hH]; exact hP
  suffices hgo : W p l e ({ frames := 0, cells := 0, slots := 0, locals := 0 }) s m ([.ref (ad 0), .int v1, .int v2, .long v3] : List Value).toArray below meth c H locs 0 0 (MQ below (gQ dC dI none A [(ad 0, .inr (10, oM ad m_undoCount m_thrown m_hasSnapshot a_m_fam m_rows m_lineLength m_formattedLength m_bufferLength m_limit m_next m_beginsAt m_token m_error m_errorAt m_errorPosition m_nested m_codeCount)), (a_m_fam, .inl (cJ, 130, .inr (.inl m_fam_9)))]) ([.ref (ad 0), .int v1, .int v2, .long v3] : List Value).toArray s 0 0 A) (F0 m 0 ls []) by rw [hH, hlc] at hgo; exact hgo
  rw [p10_putPerson] at hf
  refine lv_aload_n hx hb dX10_putPerson_0 rfl (lv_at hl 0 rfl) ?_
  refine va_get (D := (dC, dI)) (ci := 10) (v := .ref a_m_fam) (C := RX10) (T := TX10) (N := 37) hx hb htg inX10 hown hE.1 hP 0 rfl rfl 7 (by decide) (htg _ tw1389) (fun _ h9 => h9) rfl dX10_putPerson_1 ?_
  refine lv_iconst (v := 2) hx hb dX10_putPerson_4 (by decide) ?_
  refine lv_iconst (v := 4) hx hb dX10_putPerson_5 (by decide) ?_
  refine lv_iload_n hx hb dX10_putPerson_6 rfl (lv_at hl 1 rfl) ?_
  refine lv_imul hx hb dX10_putPerson_7 ?_
  refine lv_iadd hx hb dX10_putPerson_8 ?_
  refine lv_iload_n hx hb dX10_putPerson_9 rfl (lv_at hl 2 rfl) ?_
  refine lv_iadd hx hb dX10_putPerson_10 ?_
  refine lv_lload_n hx hb dX10_putPerson_11 rfl (lv_at hl 3 rfl) ?_
  obtain ⟨h9, hf⟩ := gd_s hf
  refine va_last hx hb hE.1 hP hD hS 1 1 rfl rfl h9 dX10_putPerson_12 (fun H locs hP hD hS => ?_)
  obtain ⟨g12, h9⟩ : ∃ z, z = (vp_updL m_fam (((2 : Int32) + ((4 : Int32) * v1)) + v2).toNatClampNeg v3) := ⟨_, rfl⟩
  have hf := lb_e h9 hf
  have hP : va_P (dC, dI) vwCl [(ad 0, .inr (10, oM ad m_undoCount m_thrown m_hasSnapshot a_m_fam m_rows m_lineLength m_formattedLength m_bufferLength m_limit m_next m_beginsAt m_token m_error m_errorAt m_errorPosition m_nested m_codeCount)), (a_m_fam, .inl (cJ, 130, .inr (.inl g12)))] H := by rw [h9]; exact hP
  have hD : va_D A [(ad 0, .inr (10, oM ad m_undoCount m_thrown m_hasSnapshot a_m_fam m_rows m_lineLength m_formattedLength m_bufferLength m_limit m_next m_beginsAt m_token m_error m_errorAt m_errorPosition m_nested m_codeCount)), (a_m_fam, .inl (cJ, 130, .inr (.inl g12)))] := by rw [h9]; exact hD
  cases hf
  exact g_vret S hr hlocks hP hD hS dX10_putPerson_13
set_option maxHeartbeats 4000000 in
set_option maxRecDepth 100000 in
theorem c_X10_parentsOf (ad : Nat → Nat) (a_m_fam : Nat) (m_undoCount : Int32) (m_thrown : Int32) (m_hasSnapshot : Bool) (m_rows : Int32) (m_lineLength : Int32) (m_formattedLength : Int32) (m_bufferLength : Int32) (m_limit : Int32) (m_next : Int32) (m_beginsAt : Int32) (m_token : Int32) (m_error : Int32) (m_errorAt : Int32) (m_errorPosition : Int32) (m_nested : Int32) (m_codeCount : Int32) (m_fam : Nat → Int64) (v1 : Int32) (r9 : Int32) (hf : p10_parentsOf m_fam v1 = some r9) : gM l dC dI cI cJ cZ yX10_parentsOf cX10_parentsOf 2 (some .int) (1) (22) [.ref (ad 0), .int v1] [(ad 0, .inr (10, oM ad m_undoCount m_thrown m_hasSnapshot a_m_fam m_rows m_lineLength m_formattedLength m_bufferLength m_limit m_next m_beginsAt m_token m_error m_errorAt m_errorPosition m_nested m_codeCount)), (a_m_fam, .inl (cJ, 130, .inr (.inl m_fam)))] [(ad 0, .inr (10, oM ad m_undoCount m_thrown m_hasSnapshot a_m_fam m_rows m_lineLength m_formattedLength m_bufferLength m_limit m_next m_beginsAt m_token m_error m_errorAt m_errorPosition m_nested m_codeCount)), (a_m_fam, .inl (cJ, 130, .inr (.inl m_fam)))] (some (.int r9)) := by
  refine g_start (own := RX10) (by decide +kernel) rfl (Nat.le_of_ble_eq_true rfl) ?_
  intro p e s m below meth c A ls S hr hlocks hE hP hD hS hA hl hin
  have hx := S.1
  have hb := S.2.1
  have hml := S.2.2.1
  have hown := S.2.2.2.1
  have htg : ∀ z ∈ gw, z.before ([.ref (ad 0), .int v1] : List Value).toArray s = true := fun w h => S.2.2.2.2 w (List.mem_cons_of_mem _ h)
  have hl : lv_has ls 2 [(0, .ref (ad 0)), (1, .int v1)] := hl
  have hS0 := hS
  obtain ⟨H, hH⟩ : ∃ H, H = s.heap := ⟨_, rfl⟩
  obtain ⟨locs, hlc⟩ : ∃ locs : List Loc, locs = [] := ⟨_, rfl⟩
  have hS : va_S A s.heap H locs := by rw [hH, hlc]; exact hS0
  have hP : va_P (dC, dI) vwCl [(ad 0, .inr (10, oM ad m_undoCount m_thrown m_hasSnapshot a_m_fam m_rows m_lineLength m_formattedLength m_bufferLength m_limit m_next m_beginsAt m_token m_error m_errorAt m_errorPosition m_nested m_codeCount)), (a_m_fam, .inl (cJ, 130, .inr (.inl m_fam)))] H := by rw [hH]; exact hP
  suffices hgo : W p l e ({ frames := 1, cells := 0, slots := 0, locals := 22 }) s m ([.ref (ad 0), .int v1] : List Value).toArray below meth c H locs 0 0 (MQ below (gQ dC dI (some (.int r9)) A [(ad 0, .inr (10, oM ad m_undoCount m_thrown m_hasSnapshot a_m_fam m_rows m_lineLength m_formattedLength m_bufferLength m_limit m_next m_beginsAt m_token m_error m_errorAt m_errorPosition m_nested m_codeCount)), (a_m_fam, .inl (cJ, 130, .inr (.inl m_fam)))]) ([.ref (ad 0), .int v1] : List Value).toArray s 0 0 A) (F0 m 0 ls []) by rw [hH, hlc] at hgo; exact hgo
  rw [p10_parentsOf] at hf
  refine lv_aload_n hx hb dX10_parentsOf_0 rfl (lv_at hl 0 rfl) ?_
  refine lv_iload_n hx hb dX10_parentsOf_1 rfl (lv_at hl 1 rfl) ?_
  refine lv_iconst (v := 1) hx hb dX10_parentsOf_2 (by decide) ?_
  obtain ⟨r3, h9, hf⟩ := ob_s hf
  refine gcV (index := 98) S hE (c_X10_ofPerson ad a_m_fam m_undoCount m_thrown m_hasSnapshot m_rows m_lineLength m_formattedLength m_bufferLength m_limit m_next m_beginsAt m_token m_error m_errorAt m_errorPosition m_nested m_codeCount m_fam v1 (1 : Int32) r3 h9) mX10_ofPerson tw1519 ⟨Nat.le_of_ble_eq_true rfl, Nat.le_of_ble_eq_true rfl⟩ hP hD hS hA ⟨Nat.zero_le _, Nat.zero_le _⟩ 0 10 rfl rfl rfl (wr := []) [0, 1] [] rfl rfl rfl rfl (by decide) (As := [.int v1, .int (1 : Int32)]) (rest := []) rfl hl.1 rfl (Nat.le_of_ble_eq_true rfl) dX10_parentsOf_3 (fun H locs hP hD hS => ?_)
  refine W.eq (g2 := F0 m 6 ls [.long r3]) rfl ?_
  have hP : va_P (dC, dI) vwCl [(ad 0, .inr (10, oM ad m_undoCount m_thrown m_hasSnapshot a_m_fam m_rows m_lineLength m_formattedLength m_bufferLength m_limit m_next m_beginsAt m_token m_error m_errorAt m_errorPosition m_nested m_codeCount)), (a_m_fam, .inl (cJ, 130, .inr (.inl m_fam)))] H := hP
  have hD : va_D A [(ad 0, .inr (10, oM ad m_undoCount m_thrown m_hasSnapshot a_m_fam m_rows m_lineLength m_formattedLength m_bufferLength m_limit m_next m_beginsAt m_token m_error m_errorAt m_errorPosition m_nested m_codeCount)), (a_m_fam, .inl (cJ, 130, .inr (.inl m_fam)))] := hD
  refine lv_l2i hx hb dX10_parentsOf_6 rfl ?_
  cases hf
  exact g_iret S hr hlocks hP hD hS dX10_parentsOf_7
set_option maxHeartbeats 4000000 in
set_option maxRecDepth 100000 in
theorem c_X10_partner (ad : Nat → Nat) (a_m_fam : Nat) (m_undoCount : Int32) (m_thrown : Int32) (m_hasSnapshot : Bool) (m_rows : Int32) (m_lineLength : Int32) (m_formattedLength : Int32) (m_bufferLength : Int32) (m_limit : Int32) (m_next : Int32) (m_beginsAt : Int32) (m_token : Int32) (m_error : Int32) (m_errorAt : Int32) (m_errorPosition : Int32) (m_nested : Int32) (m_codeCount : Int32) (m_fam : Nat → Int64) (v1 : Int32) (v2 : Int32) (r9 : Int32) (hf : p10_partner m_fam v1 v2 = some r9) : gM l dC dI cI cJ cZ yX10_partner cX10_partner 3 (some .int) (0) (0) [.ref (ad 0), .int v1, .int v2] [(ad 0, .inr (10, oM ad m_undoCount m_thrown m_hasSnapshot a_m_fam m_rows m_lineLength m_formattedLength m_bufferLength m_limit m_next m_beginsAt m_token m_error m_errorAt m_errorPosition m_nested m_codeCount)), (a_m_fam, .inl (cJ, 130, .inr (.inl m_fam)))] [(ad 0, .inr (10, oM ad m_undoCount m_thrown m_hasSnapshot a_m_fam m_rows m_lineLength m_formattedLength m_bufferLength m_limit m_next m_beginsAt m_token m_error m_errorAt m_errorPosition m_nested m_codeCount)), (a_m_fam, .inl (cJ, 130, .inr (.inl m_fam)))] (some (.int r9)) := by
  refine g_start (own := RX10) (by decide +kernel) rfl (Nat.le_of_ble_eq_true rfl) ?_
  intro p e s m below meth c A ls S hr hlocks hE hP hD hS hA hl hin
  have hx := S.1
  have hb := S.2.1
  have hml := S.2.2.1
  have hown := S.2.2.2.1
  have htg : ∀ z ∈ gw, z.before ([.ref (ad 0), .int v1, .int v2] : List Value).toArray s = true := fun w h => S.2.2.2.2 w (List.mem_cons_of_mem _ h)
  have hl : lv_has ls 3 [(0, .ref (ad 0)), (1, .int v1), (2, .int v2)] := hl
  have hS0 := hS
  obtain ⟨H, hH⟩ : ∃ H, H = s.heap := ⟨_, rfl⟩
  obtain ⟨locs, hlc⟩ : ∃ locs : List Loc, locs = [] := ⟨_, rfl⟩
  have hS : va_S A s.heap H locs := by rw [hH, hlc]; exact hS0
  have hP : va_P (dC, dI) vwCl [(ad 0, .inr (10, oM ad m_undoCount m_thrown m_hasSnapshot a_m_fam m_rows m_lineLength m_formattedLength m_bufferLength m_limit m_next m_beginsAt m_token m_error m_errorAt m_errorPosition m_nested m_codeCount)), (a_m_fam, .inl (cJ, 130, .inr (.inl m_fam)))] H := by rw [hH]; exact hP
  suffices hgo : W p l e ({ frames := 0, cells := 0, slots := 0, locals := 0 }) s m ([.ref (ad 0), .int v1, .int v2] : List Value).toArray below meth c H locs 0 0 (MQ below (gQ dC dI (some (.int r9)) A [(ad 0, .inr (10, oM ad m_undoCount m_thrown m_hasSnapshot a_m_fam m_rows m_lineLength m_formattedLength m_bufferLength m_limit m_next m_beginsAt m_token m_error m_errorAt m_errorPosition m_nested m_codeCount)), (a_m_fam, .inl (cJ, 130, .inr (.inl m_fam)))]) ([.ref (ad 0), .int v1, .int v2] : List Value).toArray s 0 0 A) (F0 m 0 ls []) by rw [hH, hlc] at hgo; exact hgo
  rw [p10_partner] at hf
  refine lv_aload_n hx hb dX10_partner_0 rfl (lv_at hl 0 rfl) ?_
  refine va_get (D := (dC, dI)) (ci := 10) (v := .ref a_m_fam) (C := RX10) (T := TX10) (N := 37) hx hb htg inX10 hown hE.1 hP 0 rfl rfl 7 (by decide) (htg _ tw1389) (fun _ h9 => h9) rfl dX10_partner_1 ?_
  refine lv_bipush (v := 66) hx hb dX10_partner_4 (by decide) ?_
  refine lv_iconst (v := 3) hx hb dX10_partner_6 (by decide) ?_
  refine lv_iload_n hx hb dX10_partner_7 rfl (lv_at hl 1 rfl) ?_
  refine lv_imul hx hb dX10_partner_8 ?_
  refine lv_iadd hx hb dX10_partner_9 ?_
  refine lv_iload_n hx hb dX10_partner_10 rfl (lv_at hl 2 rfl) ?_
  refine lv_iadd hx hb dX10_partner_11 ?_
  obtain ⟨h9, hf⟩ := gd_s hf
  refine va_lald hx hb hE.1 hP 1 1 rfl rfl h9 dX10_partner_12 ?_
  refine lv_l2i hx hb dX10_partner_13 rfl ?_
  cases hf
  exact g_iret S hr hlocks hP hD hS dX10_partner_14
set_option maxHeartbeats 4000000 in
set_option maxRecDepth 100000 in
theorem c_X10_isPartner (ad : Nat → Nat) (a_m_fam : Nat) (m_undoCount : Int32) (m_thrown : Int32) (m_hasSnapshot : Bool) (m_rows : Int32) (m_lineLength : Int32) (m_formattedLength : Int32) (m_bufferLength : Int32) (m_limit : Int32) (m_next : Int32) (m_beginsAt : Int32) (m_token : Int32) (m_error : Int32) (m_errorAt : Int32) (m_errorPosition : Int32) (m_nested : Int32) (m_codeCount : Int32) (m_fam : Nat → Int64) (v1 : Int32) (v2 : Int32) (r9 : Bool) (hf : p10_isPartner m_fam v1 v2 = some r9) : gM l dC dI cI cJ cZ yX10_isPartner cX10_isPartner 3 (some .boolean) (1) (22) [.ref (ad 0), .int v1, .int v2] [(ad 0, .inr (10, oM ad m_undoCount m_thrown m_hasSnapshot a_m_fam m_rows m_lineLength m_formattedLength m_bufferLength m_limit m_next m_beginsAt m_token m_error m_errorAt m_errorPosition m_nested m_codeCount)), (a_m_fam, .inl (cJ, 130, .inr (.inl m_fam)))] [(ad 0, .inr (10, oM ad m_undoCount m_thrown m_hasSnapshot a_m_fam m_rows m_lineLength m_formattedLength m_bufferLength m_limit m_next m_beginsAt m_token m_error m_errorAt m_errorPosition m_nested m_codeCount)), (a_m_fam, .inl (cJ, 130, .inr (.inl m_fam)))] (some (.int (bI r9))) := by
  refine g_start (own := RX10) (by decide +kernel) rfl (Nat.le_of_ble_eq_true rfl) ?_
  intro p e s m below meth c A ls S hr hlocks hE hP hD hS hA hl hin
  have hx := S.1
  have hb := S.2.1
  have hml := S.2.2.1
  have hown := S.2.2.2.1
  have htg : ∀ z ∈ gw, z.before ([.ref (ad 0), .int v1, .int v2] : List Value).toArray s = true := fun w h => S.2.2.2.2 w (List.mem_cons_of_mem _ h)
  have hl : lv_has ls 3 [(0, .ref (ad 0)), (1, .int v1), (2, .int v2)] := hl
  have hS0 := hS
  obtain ⟨H, hH⟩ : ∃ H, H = s.heap := ⟨_, rfl⟩
  obtain ⟨locs, hlc⟩ : ∃ locs : List Loc, locs = [] := ⟨_, rfl⟩
  have hS : va_S A s.heap H locs := by rw [hH, hlc]; exact hS0
  have hP : va_P (dC, dI) vwCl [(ad 0, .inr (10, oM ad m_undoCount m_thrown m_hasSnapshot a_m_fam m_rows m_lineLength m_formattedLength m_bufferLength m_limit m_next m_beginsAt m_token m_error m_errorAt m_errorPosition m_nested m_codeCount)), (a_m_fam, .inl (cJ, 130, .inr (.inl m_fam)))] H := by rw [hH]; exact hP
  suffices hgo : W p l e ({ frames := 1, cells := 0, slots := 0, locals := 22 }) s m ([.ref (ad 0), .int v1, .int v2] : List Value).toArray below meth c H locs 0 0 (MQ below (gQ dC dI (some (.int (bI r9))) A [(ad 0, .inr (10, oM ad m_undoCount m_thrown m_hasSnapshot a_m_fam m_rows m_lineLength m_formattedLength m_bufferLength m_limit m_next m_beginsAt m_token m_error m_errorAt m_errorPosition m_nested m_codeCount)), (a_m_fam, .inl (cJ, 130, .inr (.inl m_fam)))]) ([.ref (ad 0), .int v1, .int v2] : List Value).toArray s 0 0 A) (F0 m 0 ls []) by rw [hH, hlc] at hgo; exact hgo
  rw [p10_isPartner] at hf
  refine lv_aload_n hx hb dX10_isPartner_0 rfl (lv_at hl 0 rfl) ?_
  refine lv_iload_n hx hb dX10_isPartner_1 rfl (lv_at hl 1 rfl) ?_
  refine lv_iconst (v := 0) hx hb dX10_isPartner_2 (by decide) ?_
  obtain ⟨r3, h9, hf⟩ := ob_s hf
  refine gcV (index := 102) S hE (c_X10_partner ad a_m_fam m_undoCount m_thrown m_hasSnapshot m_rows m_lineLength m_formattedLength m_bufferLength m_limit m_next m_beginsAt m_token m_error m_errorAt m_errorPosition m_nested m_codeCount m_fam v1 (0 : Int32) r3 h9) mX10_partner tw1527 ⟨Nat.le_of_ble_eq_true rfl, Nat.le_of_ble_eq_true rfl⟩ hP hD hS hA ⟨Nat.zero_le _, Nat.zero_le _⟩ 0 10 rfl rfl rfl (wr := []) [0, 1] [] rfl rfl rfl rfl (by decide) (As := [.int v1, .int (0 : Int32)]) (rest := []) rfl hl.1 rfl (Nat.le_of_ble_eq_true rfl) dX10_isPartner_3 (fun H locs hP hD hS => ?_)
  refine W.eq (g2 := F0 m 6 ls [.int r3]) rfl ?_
  have hP : va_P (dC, dI) vwCl [(ad 0, .inr (10, oM ad m_undoCount m_thrown m_hasSnapshot a_m_fam m_rows m_lineLength m_formattedLength m_bufferLength m_limit m_next m_beginsAt m_token m_error m_errorAt m_errorPosition m_nested m_codeCount)), (a_m_fam, .inl (cJ, 130, .inr (.inl m_fam)))] H := hP
  have hD : va_D A [(ad 0, .inr (10, oM ad m_undoCount m_thrown m_hasSnapshot a_m_fam m_rows m_lineLength m_formattedLength m_bufferLength m_limit m_next m_beginsAt m_token m_error m_errorAt m_errorPosition m_nested m_codeCount)), (a_m_fam, .inl (cJ, 130, .inr (.inl m_fam)))] := hD
  refine lv_iload_n hx hb dX10_isPartner_6 rfl (lv_at hl 2 rfl) ?_
  refine lv_icmp_eq (tgt := 20) hx hb dX10_isPartner_7 (by decide) (fun h9 => ?_) (fun h9 => ?_)
  · have hf := itt h9 hf
    refine lv_iconst (v := 1) hx hb dX10_isPartner_20 (by decide) ?_
    refine lv_goto (tgt := 25) hx hb dX10_isPartner_21 (by decide) ?_
    cases hf
    exact g_zret S hr (nar_bI true) hlocks hP hD hS dX10_isPartner_25
  · have hf := itf h9 hf
    refine lv_aload_n hx hb dX10_isPartner_10 rfl (lv_at hl 0 rfl) ?_
    refine lv_iload_n hx hb dX10_isPartner_11 rfl (lv_at hl 1 rfl) ?_
    refine lv_iconst (v := 1) hx hb dX10_isPartner_12 (by decide) ?_
    obtain ⟨r13, h9, hf⟩ := ob_s hf
    refine gcV (index := 102) S hE (c_X10_partner ad a_m_fam m_undoCount m_thrown m_hasSnapshot m_rows m_lineLength m_formattedLength m_bufferLength m_limit m_next m_beginsAt m_token m_error m_errorAt m_errorPosition m_nested m_codeCount m_fam v1 (1 : Int32) r13 h9) mX10_partner tw1527 ⟨Nat.le_of_ble_eq_true rfl, Nat.le_of_ble_eq_true rfl⟩ hP hD hS hA ⟨Nat.zero_le _, Nat.zero_le _⟩ 0 10 rfl rfl rfl (wr := []) [0, 1] [] rfl rfl rfl rfl (by decide) (As := [.int v1, .int (1 : Int32)]) (rest := []) rfl hl.1 rfl (Nat.le_of_ble_eq_true rfl) dX10_isPartner_13 (fun H locs hP hD hS => ?_)
    refine W.eq (g2 := F0 m 16 ls [.int r13]) rfl ?_
    have hP : va_P (dC, dI) vwCl [(ad 0, .inr (10, oM ad m_undoCount m_thrown m_hasSnapshot a_m_fam m_rows m_lineLength m_formattedLength m_bufferLength m_limit m_next m_beginsAt m_token m_error m_errorAt m_errorPosition m_nested m_codeCount)), (a_m_fam, .inl (cJ, 130, .inr (.inl m_fam)))] H := hP
    have hD : va_D A [(ad 0, .inr (10, oM ad m_undoCount m_thrown m_hasSnapshot a_m_fam m_rows m_lineLength m_formattedLength m_bufferLength m_limit m_next m_beginsAt m_token m_error m_errorAt m_errorPosition m_nested m_codeCount)), (a_m_fam, .inl (cJ, 130, .inr (.inl m_fam)))] := hD
    refine lv_iload_n hx hb dX10_isPartner_16 rfl (lv_at hl 2 rfl) ?_
    refine lv_icmp_ne (tgt := 24) hx hb dX10_isPartner_17 (by decide) (fun h9 => ?_) (fun h9 => ?_)
    · have hf := itf h9 hf
      refine lv_iconst (v := 0) hx hb dX10_isPartner_24 (by decide) ?_
      cases hf
      exact g_zret S hr (nar_bI false) hlocks hP hD hS dX10_isPartner_25
    · have hf := itt h9 hf
      refine lv_iconst (v := 1) hx hb dX10_isPartner_20 (by decide) ?_
      refine lv_goto (tgt := 25) hx hb dX10_isPartner_21 (by decide) ?_
      cases hf
      exact g_zret S hr (nar_bI true) hlocks hP hD hS dX10_isPartner_25
set_option maxHeartbeats 4000000 in
set_option maxRecDepth 100000 in
theorem c_X10_isPerson (ad : Nat → Nat) (a_m_fam : Nat) (m_undoCount : Int32) (m_thrown : Int32) (m_hasSnapshot : Bool) (m_rows : Int32) (m_lineLength : Int32) (m_formattedLength : Int32) (m_bufferLength : Int32) (m_limit : Int32) (m_next : Int32) (m_beginsAt : Int32) (m_token : Int32) (m_error : Int32) (m_errorAt : Int32) (m_errorPosition : Int32) (m_nested : Int32) (m_codeCount : Int32) (m_fam : Nat → Int64) (v1 : Int32) (r9 : Bool) (hf : p10_isPerson m_fam v1 = some r9) : gM l dC dI cI cJ cZ yX10_isPerson cX10_isPerson 2 (some .boolean) (1) (25) [.ref (ad 0), .int v1] [(ad 0, .inr (10, oM ad m_undoCount m_thrown m_hasSnapshot a_m_fam m_rows m_lineLength m_formattedLength m_bufferLength m_limit m_next m_beginsAt m_token m_error m_errorAt m_errorPosition m_nested m_codeCount)), (a_m_fam, .inl (cJ, 130, .inr (.inl m_fam)))] [(ad 0, .inr (10, oM ad m_undoCount m_thrown m_hasSnapshot a_m_fam m_rows m_lineLength m_formattedLength m_bufferLength m_limit m_next m_beginsAt m_token m_error m_errorAt m_errorPosition m_nested m_codeCount)), (a_m_fam, .inl (cJ, 130, .inr (.inl m_fam)))] (some (.int (bI r9))) := by
  refine g_start (own := RX10) (by decide +kernel) rfl (Nat.le_of_ble_eq_true rfl) ?_
  intro p e s m below meth c A ls S hr hlocks hE hP hD hS hA hl hin
  have hx := S.1
  have hb := S.2.1
  have hml := S.2.2.1
  have hown := S.2.2.2.1
  have htg : ∀ z ∈ gw, z.before ([.ref (ad 0), .int v1] : List Value).toArray s = true := fun w h => S.2.2.2.2 w (List.mem_cons_of_mem _ h)
  have hl : lv_has ls 2 [(0, .ref (ad 0)), (1, .int v1)] := hl
  have hS0 := hS
  obtain ⟨H, hH⟩ : ∃ H, H = s.heap := ⟨_, rfl⟩
  obtain ⟨locs, hlc⟩ : ∃ locs : List Loc, locs = [] := ⟨_, rfl⟩
  have hS : va_S A s.heap H locs := by rw [hH, hlc]; exact hS0
  have hP : va_P (dC, dI) vwCl [(ad 0, .inr (10, oM ad m_undoCount m_thrown m_hasSnapshot a_m_fam m_rows m_lineLength m_formattedLength m_bufferLength m_limit m_next m_beginsAt m_token m_error m_errorAt m_errorPosition m_nested m_codeCount)), (a_m_fam, .inl (cJ, 130, .inr (.inl m_fam)))] H := by rw [hH]; exact hP
  suffices hgo : W p l e ({ frames := 1, cells := 0, slots := 0, locals := 25 }) s m ([.ref (ad 0), .int v1] : List Value).toArray below meth c H locs 0 0 (MQ below (gQ dC dI (some (.int (bI r9))) A [(ad 0, .inr (10, oM ad m_undoCount m_thrown m_hasSnapshot a_m_fam m_rows m_lineLength m_formattedLength m_bufferLength m_limit m_next m_beginsAt m_token m_error m_errorAt m_errorPosition m_nested m_codeCount)), (a_m_fam, .inl (cJ, 130, .inr (.inl m_fam)))]) ([.ref (ad 0), .int v1] : List Value).toArray s 0 0 A) (F0 m 0 ls []) by rw [hH, hlc] at hgo; exact hgo
  rw [p10_isPerson] at hf
  refine lv_iload_n hx hb dX10_isPerson_0 rfl (lv_at hl 1 rfl) ?_
  refine lv_i2l hx hb dX10_isPerson_1 rfl ?_
  refine lv_lconst (v := 0) hx hb dX10_isPerson_2 (by decide) ?_
  refine lv_aload_n hx hb dX10_isPerson_3 rfl (lv_at hl 0 rfl) ?_
  refine va_get (D := (dC, dI)) (ci := 10) (v := .ref a_m_fam) (C := RX10) (T := TX10) (N := 37) hx hb htg inX10 hown hE.1 hP 0 rfl rfl 7 (by decide) (htg _ tw1389) (fun _ h9 => h9) rfl dX10_isPerson_4 ?_
  refine lv_iconst (v := 0) hx hb dX10_isPerson_7 (by decide) ?_
  obtain ⟨h9, hf⟩ := gd_s hf
  refine va_lald hx hb hE.1 hP 1 1 rfl rfl h9 dX10_isPerson_8 ?_
  refine lv_lconst (v := 1) hx hb dX10_isPerson_9 (by decide) ?_
  refine lv_lsub hx hb dX10_isPerson_10 ?_
  refine gcS (index := 106) S hE (c_X10_inRange v1.toInt64 (0 : Int64) ((m_fam (0 : Int32).toNatClampNeg) - (1 : Int64)) (p10_inRange v1.toInt64 (0 : Int64) ((m_fam (0 : Int32).toNatClampNeg) - (1 : Int64))) rfl) mX10_inRange tw1580 ⟨Nat.le_of_ble_eq_true rfl, Nat.le_of_ble_eq_true rfl⟩ hP hD hS hA ⟨Nat.zero_le _, Nat.zero_le _⟩ (wr := [(ad 0, .inr (10, oM ad m_undoCount m_thrown m_hasSnapshot a_m_fam m_rows m_lineLength m_formattedLength m_bufferLength m_limit m_next m_beginsAt m_token m_error m_errorAt m_errorPosition m_nested m_codeCount)), (a_m_fam, .inl (cJ, 130, .inr (.inl m_fam)))]) [] [0, 1] rfl rfl rfl rfl (by decide) (As := [.long v1.toInt64, .long (0 : Int64), .long ((m_fam (0 : Int32).toNatClampNeg) - (1 : Int64))]) (rest := []) rfl hl.1 rfl (Nat.le_of_ble_eq_true rfl) dX10_isPerson_11 (fun H locs hP hD hS => ?_)
  refine W.eq (g2 := F0 m 14 ls [.int (bI (p10_inRange v1.toInt64 (0 : Int64) ((m_fam (0 : Int32).toNatClampNeg) - (1 : Int64))))]) rfl ?_
  have hP : va_P (dC, dI) vwCl [(ad 0, .inr (10, oM ad m_undoCount m_thrown m_hasSnapshot a_m_fam m_rows m_lineLength m_formattedLength m_bufferLength m_limit m_next m_beginsAt m_token m_error m_errorAt m_errorPosition m_nested m_codeCount)), (a_m_fam, .inl (cJ, 130, .inr (.inl m_fam)))] H := hP
  have hD : va_D A [(ad 0, .inr (10, oM ad m_undoCount m_thrown m_hasSnapshot a_m_fam m_rows m_lineLength m_formattedLength m_bufferLength m_limit m_next m_beginsAt m_token m_error m_errorAt m_errorPosition m_nested m_codeCount)), (a_m_fam, .inl (cJ, 130, .inr (.inl m_fam)))] := hD
  cases hf
  exact g_zret S hr (nar_bI (p10_inRange v1.toInt64 (0 : Int64) ((m_fam (0 : Int32).toNatClampNeg) - (1 : Int64)))) hlocks hP hD hS dX10_isPerson_14
set_option maxHeartbeats 4000000 in
set_option maxRecDepth 100000 in
theorem c_X10_isUnion (ad : Nat → Nat) (a_m_fam : Nat) (m_undoCount : Int32) (m_thrown : Int32) (m_hasSnapshot : Bool) (m_rows : Int32) (m_lineLength : Int32) (m_formattedLength : Int32) (m_bufferLength : Int32) (m_limit : Int32) (m_next : Int32) (m_beginsAt : Int32) (m_token : Int32) (m_error : Int32) (m_errorAt : Int32) (m_errorPosition : Int32) (m_nested : Int32) (m_codeCount : Int32) (m_fam : Nat → Int64) (v1 : Int32) (r9 : Bool) (hf : p10_isUnion m_fam v1 = some r9) : gM l dC dI cI cJ cZ yX10_isUnion cX10_isUnion 2 (some .boolean) (1) (25) [.ref (ad 0), .int v1] [(ad 0, .inr (10, oM ad m_undoCount m_thrown m_hasSnapshot a_m_fam m_rows m_lineLength m_formattedLength m_bufferLength m_limit m_next m_beginsAt m_token m_error m_errorAt m_errorPosition m_nested m_codeCount)), (a_m_fam, .inl (cJ, 130, .inr (.inl m_fam)))] [(ad 0, .inr (10, oM ad m_undoCount m_thrown m_hasSnapshot a_m_fam m_rows m_lineLength m_formattedLength m_bufferLength m_limit m_next m_beginsAt m_token m_error m_errorAt m_errorPosition m_nested m_codeCount)), (a_m_fam, .inl (cJ, 130, .inr (.inl m_fam)))] (some (.int (bI r9))) := by
  refine g_start (own := RX10) (by decide +kernel) rfl (Nat.le_of_ble_eq_true rfl) ?_
  intro p e s m below meth c A ls S hr hlocks hE hP hD hS hA hl hin
  have hx := S.1
  have hb := S.2.1
  have hml := S.2.2.1
  have hown := S.2.2.2.1
  have htg : ∀ z ∈ gw, z.before ([.ref (ad 0), .int v1] : List Value).toArray s = true := fun w h => S.2.2.2.2 w (List.mem_cons_of_mem _ h)
  have hl : lv_has ls 2 [(0, .ref (ad 0)), (1, .int v1)] := hl
  have hS0 := hS
  obtain ⟨H, hH⟩ : ∃ H, H = s.heap := ⟨_, rfl⟩
  obtain ⟨locs, hlc⟩ : ∃ locs : List Loc, locs = [] := ⟨_, rfl⟩
  have hS : va_S A s.heap H locs := by rw [hH, hlc]; exact hS0
  have hP : va_P (dC, dI) vwCl [(ad 0, .inr (10, oM ad m_undoCount m_thrown m_hasSnapshot a_m_fam m_rows m_lineLength m_formattedLength m_bufferLength m_limit m_next m_beginsAt m_token m_error m_errorAt m_errorPosition m_nested m_codeCount)), (a_m_fam, .inl (cJ, 130, .inr (.inl m_fam)))] H := by rw [hH]; exact hP
  suffices hgo : W p l e ({ frames := 1, cells := 0, slots := 0, locals := 25 }) s m ([.ref (ad 0), .int v1] : List Value).toArray below meth c H locs 0 0 (MQ below (gQ dC dI (some (.int (bI r9))) A [(ad 0, .inr (10, oM ad m_undoCount m_thrown m_hasSnapshot a_m_fam m_rows m_lineLength m_formattedLength m_bufferLength m_limit m_next m_beginsAt m_token m_error m_errorAt m_errorPosition m_nested m_codeCount)), (a_m_fam, .inl (cJ, 130, .inr (.inl m_fam)))]) ([.ref (ad 0), .int v1] : List Value).toArray s 0 0 A) (F0 m 0 ls []) by rw [hH, hlc] at hgo; exact hgo
  rw [p10_isUnion] at hf
  refine lv_iload_n hx hb dX10_isUnion_0 rfl (lv_at hl 1 rfl) ?_
  refine lv_i2l hx hb dX10_isUnion_1 rfl ?_
  refine lv_lconst (v := 0) hx hb dX10_isUnion_2 (by decide) ?_
  refine lv_aload_n hx hb dX10_isUnion_3 rfl (lv_at hl 0 rfl) ?_
  refine va_get (D := (dC, dI)) (ci := 10) (v := .ref a_m_fam) (C := RX10) (T := TX10) (N := 37) hx hb htg inX10 hown hE.1 hP 0 rfl rfl 7 (by decide) (htg _ tw1389) (fun _ h9 => h9) rfl dX10_isUnion_4 ?_
  refine lv_iconst (v := 1) hx hb dX10_isUnion_7 (by decide) ?_
  obtain ⟨h9, hf⟩ := gd_s hf
  refine va_lald hx hb hE.1 hP 1 1 rfl rfl h9 dX10_isUnion_8 ?_
  refine lv_lconst (v := 1) hx hb dX10_isUnion_9 (by decide) ?_
  refine lv_lsub hx hb dX10_isUnion_10 ?_
  refine gcS (index := 106) S hE (c_X10_inRange v1.toInt64 (0 : Int64) ((m_fam (1 : Int32).toNatClampNeg) - (1 : Int64)) (p10_inRange v1.toInt64 (0 : Int64) ((m_fam (1 : Int32).toNatClampNeg) - (1 : Int64))) rfl) mX10_inRange tw1580 ⟨Nat.le_of_ble_eq_true rfl, Nat.le_of_ble_eq_true rfl⟩ hP hD hS hA ⟨Nat.zero_le _, Nat.zero_le _⟩ (wr := [(ad 0, .inr (10, oM ad m_undoCount m_thrown m_hasSnapshot a_m_fam m_rows m_lineLength m_formattedLength m_bufferLength m_limit m_next m_beginsAt m_token m_error m_errorAt m_errorPosition m_nested m_codeCount)), (a_m_fam, .inl (cJ, 130, .inr (.inl m_fam)))]) [] [0, 1] rfl rfl rfl rfl (by decide) (As := [.long v1.toInt64, .long (0 : Int64), .long ((m_fam (1 : Int32).toNatClampNeg) - (1 : Int64))]) (rest := []) rfl hl.1 rfl (Nat.le_of_ble_eq_true rfl) dX10_isUnion_11 (fun H locs hP hD hS => ?_)
  refine W.eq (g2 := F0 m 14 ls [.int (bI (p10_inRange v1.toInt64 (0 : Int64) ((m_fam (1 : Int32).toNatClampNeg) - (1 : Int64))))]) rfl ?_
  have hP : va_P (dC, dI) vwCl [(ad 0, .inr (10, oM ad m_undoCount m_thrown m_hasSnapshot a_m_fam m_rows m_lineLength m_formattedLength m_bufferLength m_limit m_next m_beginsAt m_token m_error m_errorAt m_errorPosition m_nested m_codeCount)), (a_m_fam, .inl (cJ, 130, .inr (.inl m_fam)))] H := hP
  have hD : va_D A [(ad 0, .inr (10, oM ad m_undoCount m_thrown m_hasSnapshot a_m_fam m_rows m_lineLength m_formattedLength m_bufferLength m_limit m_next m_beginsAt m_token m_error m_errorAt m_errorPosition m_nested m_codeCount)), (a_m_fam, .inl (cJ, 130, .inr (.inl m_fam)))] := hD
  cases hf
  exact g_zret S hr (nar_bI (p10_inRange v1.toInt64 (0 : Int64) ((m_fam (1 : Int32).toNatClampNeg) - (1 : Int64)))) hlocks hP hD hS dX10_isUnion_14
set_option maxHeartbeats 4000000 in
set_option maxRecDepth 100000 in
theorem c_X10_unionOf (ad : Nat → Nat) (a_m_fam : Nat) (m_undoCount : Int32) (m_thrown : Int32) (m_hasSnapshot : Bool) (m_rows : Int32) (m_lineLength : Int32) (m_formattedLength : Int32) (m_bufferLength : Int32) (m_limit : Int32) (m_next : Int32) (m_beginsAt : Int32) (m_token : Int32) (m_error : Int32) (m_errorAt : Int32) (m_errorPosition : Int32) (m_nested : Int32) (m_codeCount : Int32) (m_fam : Nat → Int64) (v1 : Int32) (v2 : Int32) (r9 : Int32) (hf : p10_unionOf m_fam v1 v2 = some r9) : gM l dC dI cI cJ cZ yX10_unionOf cX10_unionOf 4 (some .int) (2) (44) [.ref (ad 0), .int v1, .int v2] [(ad 0, .inr (10, oM ad m_undoCount m_thrown m_hasSnapshot a_m_fam m_rows m_lineLength m_formattedLength m_bufferLength m_limit m_next m_beginsAt m_token m_error m_errorAt m_errorPosition m_nested m_codeCount)), (a_m_fam, .inl (cJ, 130, .inr (.inl m_fam)))] [(ad 0, .inr (10, oM ad m_undoCount m_thrown m_hasSnapshot a_m_fam m_rows m_lineLength m_formattedLength m_bufferLength m_limit m_next m_beginsAt m_token m_error m_errorAt m_errorPosition m_nested m_codeCount)), (a_m_fam, .inl (cJ, 130, .inr (.inl m_fam)))] (some (.int r9)) := by
  refine g_start (own := RX10) (by decide +kernel) rfl (Nat.le_of_ble_eq_true rfl) ?_
  intro p e s m below meth c A ls S hr hlocks hE hP hD hS hA hl hin
  have hx := S.1
  have hb := S.2.1
  have hml := S.2.2.1
  have hown := S.2.2.2.1
  have htg : ∀ z ∈ gw, z.before ([.ref (ad 0), .int v1, .int v2] : List Value).toArray s = true := fun w h => S.2.2.2.2 w (List.mem_cons_of_mem _ h)
  have hl : lv_has ls 4 [(0, .ref (ad 0)), (1, .int v1), (2, .int v2)] := hl
  have hS0 := hS
  obtain ⟨H, hH⟩ : ∃ H, H = s.heap := ⟨_, rfl⟩
  obtain ⟨locs, hlc⟩ : ∃ locs : List Loc, locs = [] := ⟨_, rfl⟩
  have hS : va_S A s.heap H locs := by rw [hH, hlc]; exact hS0
  have hP : va_P (dC, dI) vwCl [(ad 0, .inr (10, oM ad m_undoCount m_thrown m_hasSnapshot a_m_fam m_rows m_lineLength m_formattedLength m_bufferLength m_limit m_next m_beginsAt m_token m_error m_errorAt m_errorPosition m_nested m_codeCount)), (a_m_fam, .inl (cJ, 130, .inr (.inl m_fam)))] H := by rw [hH]; exact hP
  suffices hgo : W p l e ({ frames := 2, cells := 0, slots := 0, locals := 44 }) s m ([.ref (ad 0), .int v1, .int v2] : List Value).toArray below meth c H locs 0 0 (MQ below (gQ dC dI (some (.int r9)) A [(ad 0, .inr (10, oM ad m_undoCount m_thrown m_hasSnapshot a_m_fam m_rows m_lineLength m_formattedLength m_bufferLength m_limit m_next m_beginsAt m_token m_error m_errorAt m_errorPosition m_nested m_codeCount)), (a_m_fam, .inl (cJ, 130, .inr (.inl m_fam)))]) ([.ref (ad 0), .int v1, .int v2] : List Value).toArray s 0 0 A) (F0 m 0 ls []) by rw [hH, hlc] at hgo; exact hgo
  rw [p10_unionOf] at hf
  have J41 : ∀  (H : Heap) (locs : List Loc) (ls : Array Slot), p10_unionOf_J41  = some r9 → va_P (dC, dI) vwCl [(ad 0, .inr (10, oM ad m_undoCount m_thrown m_hasSnapshot a_m_fam m_rows m_lineLength m_formattedLength m_bufferLength m_limit m_next m_beginsAt m_token m_error m_errorAt m_errorPosition m_nested m_codeCount)), (a_m_fam, .inl (cJ, 130, .inr (.inl m_fam)))] H → va_D A [(ad 0, .inr (10, oM ad m_undoCount m_thrown m_hasSnapshot a_m_fam m_rows m_lineLength m_formattedLength m_bufferLength m_limit m_next m_beginsAt m_token m_error m_errorAt m_errorPosition m_nested m_codeCount)), (a_m_fam, .inl (cJ, 130, .inr (.inl m_fam)))] → va_S A s.heap H locs → lv_has ls 4 [] → W p l e ({ frames := 2, cells := 0, slots := 0, locals := 44 }) s m ([.ref (ad 0), .int v1, .int v2] : List Value).toArray below meth c H locs 0 0 (MQ below (gQ dC dI (some (.int r9)) A [(ad 0, .inr (10, oM ad m_undoCount m_thrown m_hasSnapshot a_m_fam m_rows m_lineLength m_formattedLength m_bufferLength m_limit m_next m_beginsAt m_token m_error m_errorAt m_errorPosition m_nested m_codeCount)), (a_m_fam, .inl (cJ, 130, .inr (.inl m_fam)))]) ([.ref (ad 0), .int v1, .int v2] : List Value).toArray s 0 0 A) (F0 m 41 ls []) := by
    intro  H locs ls hf hP hD hS hl
    rw [p10_unionOf_J41] at hf
    refine lv_iconst (v := -1) hx hb dX10_unionOf_41 (by decide) ?_
    cases hf
    exact g_iret S hr hlocks hP hD hS dX10_unionOf_42
  refine lv_iconst (v := 0) hx hb dX10_unionOf_0 (by decide) ?_
  refine lv_istore_n (lv' := [(3, .int (0 : Int32)), (0, .ref (ad 0)), (1, .int v1), (2, .int v2)]) hx hb dX10_unionOf_1 rfl hl (by decide) rfl (fun ls hl => ?_)
  have K2 : ∀ (n2 : Nat) (v3_2 : Int32) (ex2 : (Int32) ⊕ (Unit)) (H : Heap) (locs : List Loc) (ls : Array Slot), p10_unionOf_L2 m_fam v1 v2 n2 v3_2 = some ex2 → oc ex2 (fun r_x2 => some r_x2) (fun _ => p10_unionOf_J41) = some r9 → va_P (dC, dI) vwCl [(ad 0, .inr (10, oM ad m_undoCount m_thrown m_hasSnapshot a_m_fam m_rows m_lineLength m_formattedLength m_bufferLength m_limit m_next m_beginsAt m_token m_error m_errorAt m_errorPosition m_nested m_codeCount)), (a_m_fam, .inl (cJ, 130, .inr (.inl m_fam)))] H → va_D A [(ad 0, .inr (10, oM ad m_undoCount m_thrown m_hasSnapshot a_m_fam m_rows m_lineLength m_formattedLength m_bufferLength m_limit m_next m_beginsAt m_token m_error m_errorAt m_errorPosition m_nested m_codeCount)), (a_m_fam, .inl (cJ, 130, .inr (.inl m_fam)))] → va_S A s.heap H locs → lv_has ls 4 [(0, .ref (ad 0)), (1, .int v1), (2, .int v2), (3, .int v3_2)] → W p l e ({ frames := 2, cells := 0, slots := 0, locals := 44 }) s m ([.ref (ad 0), .int v1, .int v2] : List Value).toArray below meth c H locs 0 0 (MQ below (gQ dC dI (some (.int r9)) A [(ad 0, .inr (10, oM ad m_undoCount m_thrown m_hasSnapshot a_m_fam m_rows m_lineLength m_formattedLength m_bufferLength m_limit m_next m_beginsAt m_token m_error m_errorAt m_errorPosition m_nested m_codeCount)), (a_m_fam, .inl (cJ, 130, .inr (.inl m_fam)))]) ([.ref (ad 0), .int v1, .int v2] : List Value).toArray s 0 0 A) (F0 m 2 ls []) := by
    intro n2
    induction n2 with
    | zero => intro v3_2 ex2 H locs ls hf; rw [p10_unionOf_L2] at hf; cases hf
    | succ n2 ih2 =>
      intro v3_2 ex2 H locs ls hf hk2 hP hD hS hl
      rw [p10_unionOf_L2, p10_unionOf_L2_B] at hf
      refine lv_iload_n hx hb dX10_unionOf_2 rfl (lv_at hl 3 rfl) ?_
      refine lv_aload_n hx hb dX10_unionOf_3 rfl (lv_at hl 0 rfl) ?_
      obtain ⟨r4, h9, hf⟩ := ob_s hf
      refine gcV (index := 110) S hE (c_X10_unions ad a_m_fam m_undoCount m_thrown m_hasSnapshot m_rows m_lineLength m_formattedLength m_bufferLength m_limit m_next m_beginsAt m_token m_error m_errorAt m_errorPosition m_nested m_codeCount m_fam r4 h9) mX10_unions tw1532 ⟨Nat.le_of_ble_eq_true rfl, Nat.le_of_ble_eq_true rfl⟩ hP hD hS hA ⟨Nat.zero_le _, Nat.zero_le _⟩ 0 10 rfl rfl rfl (wr := []) [0, 1] [] rfl rfl rfl rfl (by decide) (As := []) (rest := [.int v3_2]) rfl hl.1 rfl (Nat.le_of_ble_eq_true rfl) dX10_unionOf_4 (fun H locs hP hD hS => ?_)
      refine W.eq (g2 := F0 m 7 ls [.int r4, .int v3_2]) rfl ?_
      have hP : va_P (dC, dI) vwCl [(ad 0, .inr (10, oM ad m_undoCount m_thrown m_hasSnapshot a_m_fam m_rows m_lineLength m_formattedLength m_bufferLength m_limit m_next m_beginsAt m_token m_error m_errorAt m_errorPosition m_nested m_codeCount)), (a_m_fam, .inl (cJ, 130, .inr (.inl m_fam)))] H := hP
      have hD : va_D A [(ad 0, .inr (10, oM ad m_undoCount m_thrown m_hasSnapshot a_m_fam m_rows m_lineLength m_formattedLength m_bufferLength m_limit m_next m_beginsAt m_token m_error m_errorAt m_errorPosition m_nested m_codeCount)), (a_m_fam, .inl (cJ, 130, .inr (.inl m_fam)))] := hD
      refine lv_icmp_ge (tgt := 41) hx hb dX10_unionOf_7 (by decide) (fun h9 => ?_) (fun h9 => ?_)
      · have hf := itt h9 hf
        cases hf
        have hf := hk2
        dsimp only [oc] at hf
        exact J41 H locs ls hf hP hD hS (lv_sub hl [] rfl)
      · have hf := itf h9 hf
        refine lv_aload_n hx hb dX10_unionOf_10 rfl (lv_at hl 0 rfl) ?_
        refine lv_iload_n hx hb dX10_unionOf_11 rfl (lv_at hl 3 rfl) ?_
        refine lv_iload_n hx hb dX10_unionOf_12 rfl (lv_at hl 1 rfl) ?_
        obtain ⟨r13, h9, hf⟩ := ob_s hf
        refine gcV (index := 113) S hE (c_X10_isPartner ad a_m_fam m_undoCount m_thrown m_hasSnapshot m_rows m_lineLength m_formattedLength m_bufferLength m_limit m_next m_beginsAt m_token m_error m_errorAt m_errorPosition m_nested m_codeCount m_fam v3_2 v1 r13 h9) mX10_isPartner tw1564 ⟨Nat.le_of_ble_eq_true rfl, Nat.le_of_ble_eq_true rfl⟩ hP hD hS hA ⟨Nat.zero_le _, Nat.zero_le _⟩ 0 10 rfl rfl rfl (wr := []) [0, 1] [] rfl rfl rfl rfl (by decide) (As := [.int v3_2, .int v1]) (rest := []) rfl hl.1 rfl (Nat.le_of_ble_eq_true rfl) dX10_unionOf_13 (fun H locs hP hD hS => ?_)
        refine W.eq (g2 := F0 m 16 ls [.int (bI r13)]) rfl ?_
        have hP : va_P (dC, dI) vwCl [(ad 0, .inr (10, oM ad m_undoCount m_thrown m_hasSnapshot a_m_fam m_rows m_lineLength m_formattedLength m_bufferLength m_limit m_next m_beginsAt m_token m_error m_errorAt m_errorPosition m_nested m_codeCount)), (a_m_fam, .inl (cJ, 130, .inr (.inl m_fam)))] H := hP
        have hD : va_D A [(ad 0, .inr (10, oM ad m_undoCount m_thrown m_hasSnapshot a_m_fam m_rows m_lineLength m_formattedLength m_bufferLength m_limit m_next m_beginsAt m_token m_error m_errorAt m_errorPosition m_nested m_codeCount)), (a_m_fam, .inl (cJ, 130, .inr (.inl m_fam)))] := hD
        refine lv_if_eq (tgt := 35) hx hb dX10_unionOf_16 (by decide) (fun h9 => ?_) (fun h9 => ?_)
        · have hf := ctf (bI_0 h9) hf
          obtain ⟨t35, h9⟩ : ∃ z : Int32, z = (v3_2 + (1 : Int32)) := ⟨_, rfl⟩
          have hf := lb_e h9 hf
          refine lv_iinc (v := t35) (lv' := [(3, .int t35), (0, .ref (ad 0)), (1, .int v1), (2, .int v2)]) hx hb dX10_unionOf_35 hl (k := 3) rfl (by rw [h9]; rfl) (by decide) rfl (fun ls hl => ?_)
          refine lv_goto (tgt := 2) hx hb dX10_unionOf_38 (by decide) ?_
          exact ih2 t35 ex2 H locs ls hf hk2 hP hD hS (lv_sub hl [1, 2, 3, 0] rfl)
        · have hf := ctt (bI_1 h9) hf
          refine lv_aload_n hx hb dX10_unionOf_19 rfl (lv_at hl 0 rfl) ?_
          refine lv_iload_n hx hb dX10_unionOf_20 rfl (lv_at hl 3 rfl) ?_
          refine lv_iload_n hx hb dX10_unionOf_21 rfl (lv_at hl 2 rfl) ?_
          obtain ⟨r22, h9, hf⟩ := ob_s hf
          refine gcV (index := 113) S hE (c_X10_isPartner ad a_m_fam m_undoCount m_thrown m_hasSnapshot m_rows m_lineLength m_formattedLength m_bufferLength m_limit m_next m_beginsAt m_token m_error m_errorAt m_errorPosition m_nested m_codeCount m_fam v3_2 v2 r22 h9) mX10_isPartner tw1564 ⟨Nat.le_of_ble_eq_true rfl, Nat.le_of_ble_eq_true rfl⟩ hP hD hS hA ⟨Nat.zero_le _, Nat.zero_le _⟩ 0 10 rfl rfl rfl (wr := []) [0, 1] [] rfl rfl rfl rfl (by decide) (As := [.int v3_2, .int v2]) (rest := []) rfl hl.1 rfl (Nat.le_of_ble_eq_true rfl) dX10_unionOf_22 (fun H locs hP hD hS => ?_)
          refine W.eq (g2 := F0 m 25 ls [.int (bI r22)]) rfl ?_
          have hP : va_P (dC, dI) vwCl [(ad 0, .inr (10, oM ad m_undoCount m_thrown m_hasSnapshot a_m_fam m_rows m_lineLength m_formattedLength m_bufferLength m_limit m_next m_beginsAt m_token m_error m_errorAt m_errorPosition m_nested m_codeCount)), (a_m_fam, .inl (cJ, 130, .inr (.inl m_fam)))] H := hP
          have hD : va_D A [(ad 0, .inr (10, oM ad m_undoCount m_thrown m_hasSnapshot a_m_fam m_rows m_lineLength m_formattedLength m_bufferLength m_limit m_next m_beginsAt m_token m_error m_errorAt m_errorPosition m_nested m_codeCount)), (a_m_fam, .inl (cJ, 130, .inr (.inl m_fam)))] := hD
          refine lv_if_eq (tgt := 35) hx hb dX10_unionOf_25 (by decide) (fun h9 => ?_) (fun h9 => ?_)
          · have hf := ctf (bI_0 h9) hf
            obtain ⟨t35, h9⟩ : ∃ z : Int32, z = (v3_2 + (1 : Int32)) := ⟨_, rfl⟩
            have hf := lb_e h9 hf
            refine lv_iinc (v := t35) (lv' := [(3, .int t35), (0, .ref (ad 0)), (1, .int v1), (2, .int v2)]) hx hb dX10_unionOf_35 hl (k := 3) rfl (by rw [h9]; rfl) (by decide) rfl (fun ls hl => ?_)
            refine lv_goto (tgt := 2) hx hb dX10_unionOf_38 (by decide) ?_
            exact ih2 t35 ex2 H locs ls hf hk2 hP hD hS (lv_sub hl [1, 2, 3, 0] rfl)
          · have hf := ctt (bI_1 h9) hf
            refine lv_iload_n hx hb dX10_unionOf_28 rfl (lv_at hl 1 rfl) ?_
            refine lv_iload_n hx hb dX10_unionOf_29 rfl (lv_at hl 2 rfl) ?_
            refine lv_icmp_eq (tgt := 35) hx hb dX10_unionOf_30 (by decide) (fun h9 => ?_) (fun h9 => ?_)
            · have hf := itt h9 hf
              obtain ⟨t35, h9⟩ : ∃ z : Int32, z = (v3_2 + (1 : Int32)) := ⟨_, rfl⟩
              have hf := lb_e h9 hf
              refine lv_iinc (v := t35) (lv' := [(3, .int t35), (0, .ref (ad 0)), (1, .int v1), (2, .int v2)]) hx hb dX10_unionOf_35 hl (k := 3) rfl (by rw [h9]; rfl) (by decide) rfl (fun ls hl => ?_)
              refine lv_goto (tgt := 2) hx hb dX10_unionOf_38 (by decide) ?_
              exact ih2 t35 ex2 H locs ls hf hk2 hP hD hS (lv_sub hl [1, 2, 3, 0] rfl)
            · have hf := itf h9 hf
              refine lv_iload_n hx hb dX10_unionOf_33 rfl (lv_at hl 3 rfl) ?_
              cases hf
              have hf := hk2
              dsimp only [oc] at hf
              cases hf
              exact g_iret S hr hlocks hP hD hS dX10_unionOf_34
  obtain ⟨ex, h9, hf⟩ := os_s hf
  exact K2 FU (0 : Int32) ex H locs ls h9 hf hP hD hS (lv_sub hl [1, 2, 3, 0] rfl)
set_option maxHeartbeats 4000000 in
set_option maxRecDepth 100000 in
theorem c_X10_ancestorMask (ad : Nat → Nat) (a_m_fam : Nat) (m_undoCount : Int32) (m_thrown : Int32) (m_hasSnapshot : Bool) (m_rows : Int32) (m_lineLength : Int32) (m_formattedLength : Int32) (m_bufferLength : Int32) (m_limit : Int32) (m_next : Int32) (m_beginsAt : Int32) (m_token : Int32) (m_error : Int32) (m_errorAt : Int32) (m_errorPosition : Int32) (m_nested : Int32) (m_codeCount : Int32) (m_fam : Nat → Int64) (v1 : Int32) (r9 : Int32) (hf : p10_ancestorMask m_fam v1 = some r9) : gM l dC dI cI cJ cZ yX10_ancestorMask cX10_ancestorMask 8 (some .int) (2) (43) [.ref (ad 0), .int v1] [(ad 0, .inr (10, oM ad m_undoCount m_thrown m_hasSnapshot a_m_fam m_rows m_lineLength m_formattedLength m_bufferLength m_limit m_next m_beginsAt m_token m_error m_errorAt m_errorPosition m_nested m_codeCount)), (a_m_fam, .inl (cJ, 130, .inr (.inl m_fam)))] [(ad 0, .inr (10, oM ad m_undoCount m_thrown m_hasSnapshot a_m_fam m_rows m_lineLength m_formattedLength m_bufferLength m_limit m_next m_beginsAt m_token m_error m_errorAt m_errorPosition m_nested m_codeCount)), (a_m_fam, .inl (cJ, 130, .inr (.inl m_fam)))] (some (.int r9)) := by
  refine g_start (own := RX10) (by decide +kernel) rfl (Nat.le_of_ble_eq_true rfl) ?_
  intro p e s m below meth c A ls S hr hlocks hE hP hD hS hA hl hin
  have hx := S.1
  have hb := S.2.1
  have hml := S.2.2.1
  have hown := S.2.2.2.1
  have htg : ∀ z ∈ gw, z.before ([.ref (ad 0), .int v1] : List Value).toArray s = true := fun w h => S.2.2.2.2 w (List.mem_cons_of_mem _ h)
  have hl : lv_has ls 8 [(0, .ref (ad 0)), (1, .int v1)] := hl
  have hS0 := hS
  obtain ⟨H, hH⟩ : ∃ H, H = s.heap := ⟨_, rfl⟩
  obtain ⟨locs, hlc⟩ : ∃ locs : List Loc, locs = [] := ⟨_, rfl⟩
  have hS : va_S A s.heap H locs := by rw [hH, hlc]; exact hS0
  have hP : va_P (dC, dI) vwCl [(ad 0, .inr (10, oM ad m_undoCount m_thrown m_hasSnapshot a_m_fam m_rows m_lineLength m_formattedLength m_bufferLength m_limit m_next m_beginsAt m_token m_error m_errorAt m_errorPosition m_nested m_codeCount)), (a_m_fam, .inl (cJ, 130, .inr (.inl m_fam)))] H := by rw [hH]; exact hP
  suffices hgo : W p l e ({ frames := 2, cells := 0, slots := 0, locals := 43 }) s m ([.ref (ad 0), .int v1] : List Value).toArray below meth c H locs 0 0 (MQ below (gQ dC dI (some (.int r9)) A [(ad 0, .inr (10, oM ad m_undoCount m_thrown m_hasSnapshot a_m_fam m_rows m_lineLength m_formattedLength m_bufferLength m_limit m_next m_beginsAt m_token m_error m_errorAt m_errorPosition m_nested m_codeCount)), (a_m_fam, .inl (cJ, 130, .inr (.inl m_fam)))]) ([.ref (ad 0), .int v1] : List Value).toArray s 0 0 A) (F0 m 0 ls []) by rw [hH, hlc] at hgo; exact hgo
  rw [p10_ancestorMask] at hf
  have J102 : ∀ (v2_102 : Int32) (H : Heap) (locs : List Loc) (ls : Array Slot), p10_ancestorMask_J102 v2_102 = some r9 → va_P (dC, dI) vwCl [(ad 0, .inr (10, oM ad m_undoCount m_thrown m_hasSnapshot a_m_fam m_rows m_lineLength m_formattedLength m_bufferLength m_limit m_next m_beginsAt m_token m_error m_errorAt m_errorPosition m_nested m_codeCount)), (a_m_fam, .inl (cJ, 130, .inr (.inl m_fam)))] H → va_D A [(ad 0, .inr (10, oM ad m_undoCount m_thrown m_hasSnapshot a_m_fam m_rows m_lineLength m_formattedLength m_bufferLength m_limit m_next m_beginsAt m_token m_error m_errorAt m_errorPosition m_nested m_codeCount)), (a_m_fam, .inl (cJ, 130, .inr (.inl m_fam)))] → va_S A s.heap H locs → lv_has ls 8 [(2, .int v2_102)] → W p l e ({ frames := 2, cells := 0, slots := 0, locals := 43 }) s m ([.ref (ad 0), .int v1] : List Value).toArray below meth c H locs 0 0 (MQ below (gQ dC dI (some (.int r9)) A [(ad 0, .inr (10, oM ad m_undoCount m_thrown m_hasSnapshot a_m_fam m_rows m_lineLength m_formattedLength m_bufferLength m_limit m_next m_beginsAt m_token m_error m_errorAt m_errorPosition m_nested m_codeCount)), (a_m_fam, .inl (cJ, 130, .inr (.inl m_fam)))]) ([.ref (ad 0), .int v1] : List Value).toArray s 0 0 A) (F0 m 102 ls []) := by
    intro v2_102 H locs ls hf hP hD hS hl
    rw [p10_ancestorMask_J102] at hf
    refine lv_iload_n hx hb dX10_ancestorMask_102 rfl (lv_at hl 0 rfl) ?_
    cases hf
    exact g_iret S hr hlocks hP hD hS dX10_ancestorMask_103
  refine lv_iconst (v := 0) hx hb dX10_ancestorMask_0 (by decide) ?_
  refine lv_istore_n (lv' := [(2, .int (0 : Int32)), (0, .ref (ad 0)), (1, .int v1)]) hx hb dX10_ancestorMask_1 rfl hl (by decide) rfl (fun ls hl => ?_)
  refine lv_iconst (v := 1) hx hb dX10_ancestorMask_2 (by decide) ?_
  refine lv_iload_n hx hb dX10_ancestorMask_3 rfl (lv_at hl 2 rfl) ?_
  refine lv_ishl hx hb dX10_ancestorMask_4 ?_
  refine lv_topi (fun t5 h9 => ?_)
  have hf := lb_e h9 hf
  refine lv_istore_n (lv' := [(3, .int t5), (2, .int (0 : Int32)), (0, .ref (ad 0)), (1, .int v1)]) hx hb dX10_ancestorMask_5 rfl hl (by decide) rfl (fun ls hl => ?_)
  have K6 : ∀ (n6 : Nat) (v2_6 : Int32) (v3_6 : Int32) (ex6 : Int32) (H : Heap) (locs : List Loc) (ls : Array Slot), p10_ancestorMask_L6 m_fam n6 v2_6 v3_6 = some ex6 → (fun v2_x6 => p10_ancestorMask_J102 v2_x6) ex6 = some r9 → va_P (dC, dI) vwCl [(ad 0, .inr (10, oM ad m_undoCount m_thrown m_hasSnapshot a_m_fam m_rows m_lineLength m_formattedLength m_bufferLength m_limit m_next m_beginsAt m_token m_error m_errorAt m_errorPosition m_nested m_codeCount)), (a_m_fam, .inl (cJ, 130, .inr (.inl m_fam)))] H → va_D A [(ad 0, .inr (10, oM ad m_undoCount m_thrown m_hasSnapshot a_m_fam m_rows m_lineLength m_formattedLength m_bufferLength m_limit m_next m_beginsAt m_token m_error m_errorAt m_errorPosition m_nested m_codeCount)), (a_m_fam, .inl (cJ, 130, .inr (.inl m_fam)))] → va_S A s.heap H locs → lv_has ls 8 [(0, .ref (ad 0)), (2, .int v2_6), (3, .int v3_6)] → W p l e ({ frames := 2, cells := 0, slots := 0, locals := 43 }) s m ([.ref (ad 0), .int v1] : List Value).toArray below meth c H locs 0 0 (MQ below (gQ dC dI (some (.int r9)) A [(ad 0, .inr (10, oM ad m_undoCount m_thrown m_hasSnapshot a_m_fam m_rows m_lineLength m_formattedLength m_bufferLength m_limit m_next m_beginsAt m_token m_error m_errorAt m_errorPosition m_nested m_codeCount)), (a_m_fam, .inl (cJ, 130, .inr (.inl m_fam)))]) ([.ref (ad 0), .int v1] : List Value).toArray s 0 0 A) (F0 m 6 ls []) := by
    intro n6
    induction n6 with
    | zero => intro v2_6 v3_6 ex6 H locs ls hf; rw [p10_ancestorMask_L6] at hf; cases hf
    | succ n6 ih6 =>
      intro v2_6 v3_6 ex6 H locs ls hf hk6 hP hD hS hl
      rw [p10_ancestorMask_L6, p10_ancestorMask_L6_B] at hf
      have J99 : ∀ (v2_99 : Int32) (v3_99 : Int32) (H : Heap) (locs : List Loc) (ls : Array Slot), p10_ancestorMask_J99 (p10_ancestorMask_L6 m_fam n6) v2_99 v3_99 = some ex6 → va_P (dC, dI) vwCl [(ad 0, .inr (10, oM ad m_undoCount m_thrown m_hasSnapshot a_m_fam m_rows m_lineLength m_formattedLength m_bufferLength m_limit m_next m_beginsAt m_token m_error m_errorAt m_errorPosition m_nested m_codeCount)), (a_m_fam, .inl (cJ, 130, .inr (.inl m_fam)))] H → va_D A [(ad 0, .inr (10, oM ad m_undoCount m_thrown m_hasSnapshot a_m_fam m_rows m_lineLength m_formattedLength m_bufferLength m_limit m_next m_beginsAt m_token m_error m_errorAt m_errorPosition m_nested m_codeCount)), (a_m_fam, .inl (cJ, 130, .inr (.inl m_fam)))] → va_S A s.heap H locs → lv_has ls 8 [(0, .ref (ad 0)), (2, .int v2_99), (3, .int v3_99)] → W p l e ({ frames := 2, cells := 0, slots := 0, locals := 43 }) s m ([.ref (ad 0), .int v1] : List Value).toArray below meth c H locs 0 0 (MQ below (gQ dC dI (some (.int r9)) A [(ad 0, .inr (10, oM ad m_undoCount m_thrown m_hasSnapshot a_m_fam m_rows m_lineLength m_formattedLength m_bufferLength m_limit m_next m_beginsAt m_token m_error m_errorAt m_errorPosition m_nested m_codeCount)), (a_m_fam, .inl (cJ, 130, .inr (.inl m_fam)))]) ([.ref (ad 0), .int v1] : List Value).toArray s 0 0 A) (F0 m 99 ls []) := by
        intro v2_99 v3_99 H locs ls hf hP hD hS hl
        rw [p10_ancestorMask_J99] at hf
        refine lv_goto (tgt := 6) hx hb dX10_ancestorMask_99 (by decide) ?_
        exact ih6 v2_99 v3_99 ex6 H locs ls hf hk6 hP hD hS (lv_sub hl [0, 1, 2] rfl)
      have J28 : ∀ (v4_28 : Int32) (H : Heap) (locs : List Loc) (ls : Array Slot), p10_ancestorMask_J28 (p10_ancestorMask_L6 m_fam n6) m_fam v2_6 v3_6 v4_28 = some ex6 → va_P (dC, dI) vwCl [(ad 0, .inr (10, oM ad m_undoCount m_thrown m_hasSnapshot a_m_fam m_rows m_lineLength m_formattedLength m_bufferLength m_limit m_next m_beginsAt m_token m_error m_errorAt m_errorPosition m_nested m_codeCount)), (a_m_fam, .inl (cJ, 130, .inr (.inl m_fam)))] H → va_D A [(ad 0, .inr (10, oM ad m_undoCount m_thrown m_hasSnapshot a_m_fam m_rows m_lineLength m_formattedLength m_bufferLength m_limit m_next m_beginsAt m_token m_error m_errorAt m_errorPosition m_nested m_codeCount)), (a_m_fam, .inl (cJ, 130, .inr (.inl m_fam)))] → va_S A s.heap H locs → lv_has ls 8 [(0, .ref (ad 0)), (2, .int v2_6), (3, .int v3_6), (4, .int v4_28)] → W p l e ({ frames := 2, cells := 0, slots := 0, locals := 43 }) s m ([.ref (ad 0), .int v1] : List Value).toArray below meth c H locs 0 0 (MQ below (gQ dC dI (some (.int r9)) A [(ad 0, .inr (10, oM ad m_undoCount m_thrown m_hasSnapshot a_m_fam m_rows m_lineLength m_formattedLength m_bufferLength m_limit m_next m_beginsAt m_token m_error m_errorAt m_errorPosition m_nested m_codeCount)), (a_m_fam, .inl (cJ, 130, .inr (.inl m_fam)))]) ([.ref (ad 0), .int v1] : List Value).toArray s 0 0 A) (F0 m 28 ls []) := by
        intro v4_28 H locs ls hf hP hD hS hl
        rw [p10_ancestorMask_J28] at hf
        refine lv_iload_n hx hb dX10_ancestorMask_28 rfl (lv_at hl 2 rfl) ?_
        refine lv_iconst (v := 1) hx hb dX10_ancestorMask_29 (by decide) ?_
        refine lv_iload hx hb dX10_ancestorMask_30 (lv_at hl 3 rfl) ?_
        refine lv_ishl hx hb dX10_ancestorMask_32 ?_
        refine lv_iconst (v := -1) hx hb dX10_ancestorMask_33 (by decide) ?_
        refine lv_ixor hx hb dX10_ancestorMask_34 ?_
        refine lv_iand hx hb dX10_ancestorMask_35 ?_
        refine lv_topi (fun t36 h9 => ?_)
        have hf := lb_e h9 hf
        refine lv_istore_n (lv' := [(3, .int t36), (0, .ref (ad 0)), (2, .int v2_6), (4, .int v4_28)]) hx hb dX10_ancestorMask_36 rfl hl (by decide) rfl (fun ls hl => ?_)
        refine lv_aload_n hx hb dX10_ancestorMask_37 rfl (lv_at hl 1 rfl) ?_
        refine lv_iload hx hb dX10_ancestorMask_38 (lv_at hl 3 rfl) ?_
        obtain ⟨r40, h9, hf⟩ := ob_s hf
        refine gcV (index := 117) S hE (c_X10_parentsOf ad a_m_fam m_undoCount m_thrown m_hasSnapshot m_rows m_lineLength m_formattedLength m_bufferLength m_limit m_next m_beginsAt m_token m_error m_errorAt m_errorPosition m_nested m_codeCount m_fam v4_28 r40 h9) mX10_parentsOf tw1515 ⟨Nat.le_of_ble_eq_true rfl, Nat.le_of_ble_eq_true rfl⟩ hP hD hS hA ⟨Nat.zero_le _, Nat.zero_le _⟩ 0 10 rfl rfl rfl (wr := []) [0, 1] [] rfl rfl rfl rfl (by decide) (As := [.int v4_28]) (rest := []) rfl hl.1 rfl (Nat.le_of_ble_eq_true rfl) dX10_ancestorMask_40 (fun H locs hP hD hS => ?_)
        refine W.eq (g2 := F0 m 43 ls [.int r40]) rfl ?_
        have hP : va_P (dC, dI) vwCl [(ad 0, .inr (10, oM ad m_undoCount m_thrown m_hasSnapshot a_m_fam m_rows m_lineLength m_formattedLength m_bufferLength m_limit m_next m_beginsAt m_token m_error m_errorAt m_errorPosition m_nested m_codeCount)), (a_m_fam, .inl (cJ, 130, .inr (.inl m_fam)))] H := hP
        have hD : va_D A [(ad 0, .inr (10, oM ad m_undoCount m_thrown m_hasSnapshot a_m_fam m_rows m_lineLength m_formattedLength m_bufferLength m_limit m_next m_beginsAt m_token m_error m_errorAt m_errorPosition m_nested m_codeCount)), (a_m_fam, .inl (cJ, 130, .inr (.inl m_fam)))] := hD
        refine lv_istore (lv' := [(5, .int r40), (3, .int t36), (0, .ref (ad 0)), (2, .int v2_6), (4, .int v4_28)]) hx hb dX10_ancestorMask_43 hl (by decide) rfl (fun ls hl => ?_)
        refine lv_iconst (v := 0) hx hb dX10_ancestorMask_45 (by decide) ?_
        refine lv_istore (lv' := [(6, .int (0 : Int32)), (5, .int r40), (3, .int t36), (0, .ref (ad 0)), (2, .int v2_6), (4, .int v4_28)]) hx hb dX10_ancestorMask_46 hl (by decide) rfl (fun ls hl => ?_)
        have K48 : ∀ (n48 : Nat) (v2_48 : Int32) (v3_48 : Int32) (v6_48 : Int32) (ex48 : Int32 × Int32) (H : Heap) (locs : List Loc) (ls : Array Slot), p10_ancestorMask_L48 m_fam r40 n48 v2_48 v3_48 v6_48 = some ex48 → (uc2 fun v2_x48 v3_x48 => p10_ancestorMask_J99 (p10_ancestorMask_L6 m_fam n6) v2_x48 v3_x48) ex48 = some ex6 → va_P (dC, dI) vwCl [(ad 0, .inr (10, oM ad m_undoCount m_thrown m_hasSnapshot a_m_fam m_rows m_lineLength m_formattedLength m_bufferLength m_limit m_next m_beginsAt m_token m_error m_errorAt m_errorPosition m_nested m_codeCount)), (a_m_fam, .inl (cJ, 130, .inr (.inl m_fam)))] H → va_D A [(ad 0, .inr (10, oM ad m_undoCount m_thrown m_hasSnapshot a_m_fam m_rows m_lineLength m_formattedLength m_bufferLength m_limit m_next m_beginsAt m_token m_error m_errorAt m_errorPosition m_nested m_codeCount)), (a_m_fam, .inl (cJ, 130, .inr (.inl m_fam)))] → va_S A s.heap H locs → lv_has ls 8 [(0, .ref (ad 0)), (2, .int v2_48), (3, .int v3_48), (5, .int r40), (6, .int v6_48)] → W p l e ({ frames := 2, cells := 0, slots := 0, locals := 43 }) s m ([.ref (ad 0), .int v1] : List Value).toArray below meth c H locs 0 0 (MQ below (gQ dC dI (some (.int r9)) A [(ad 0, .inr (10, oM ad m_undoCount m_thrown m_hasSnapshot a_m_fam m_rows m_lineLength m_formattedLength m_bufferLength m_limit m_next m_beginsAt m_token m_error m_errorAt m_errorPosition m_nested m_codeCount)), (a_m_fam, .inl (cJ, 130, .inr (.inl m_fam)))]) ([.ref (ad 0), .int v1] : List Value).toArray s 0 0 A) (F0 m 48 ls []) := by
          intro n48
          induction n48 with
          | zero => intro v2_48 v3_48 v6_48 ex48 H locs ls hf; rw [p10_ancestorMask_L48] at hf; cases hf
          | succ n48 ih48 =>
            intro v2_48 v3_48 v6_48 ex48 H locs ls hf hk48 hP hD hS hl
            rw [p10_ancestorMask_L48, p10_ancestorMask_L48_B] at hf
            have J88 : ∀ (v3_88 : Int32) (v7_88 : Int32) (H : Heap) (locs : List Loc) (ls : Array Slot), p10_ancestorMask_J88 (p10_ancestorMask_L48 m_fam r40 n48) v2_48 v6_48 v3_88 v7_88 = some ex48 → va_P (dC, dI) vwCl [(ad 0, .inr (10, oM ad m_undoCount m_thrown m_hasSnapshot a_m_fam m_rows m_lineLength m_formattedLength m_bufferLength m_limit m_next m_beginsAt m_token m_error m_errorAt m_errorPosition m_nested m_codeCount)), (a_m_fam, .inl (cJ, 130, .inr (.inl m_fam)))] H → va_D A [(ad 0, .inr (10, oM ad m_undoCount m_thrown m_hasSnapshot a_m_fam m_rows m_lineLength m_formattedLength m_bufferLength m_limit m_next m_beginsAt m_token m_error m_errorAt m_errorPosition m_nested m_codeCount)), (a_m_fam, .inl (cJ, 130, .inr (.inl m_fam)))] → va_S A s.heap H locs → lv_has ls 8 [(0, .ref (ad 0)), (2, .int v2_48), (3, .int v3_88), (5, .int r40), (6, .int v6_48), (7, .int v7_88)] → W p l e ({ frames := 2, cells := 0, slots := 0, locals := 43 }) s m ([.ref (ad 0), .int v1] : List Value).toArray below meth c H locs 0 0 (MQ below (gQ dC dI (some (.int r9)) A [(ad 0, .inr (10, oM ad m_undoCount m_thrown m_hasSnapshot a_m_fam m_rows m_lineLength m_formattedLength m_bufferLength m_limit m_next m_beginsAt m_token m_error m_errorAt m_errorPosition m_nested m_codeCount)), (a_m_fam, .inl (cJ, 130, .inr (.inl m_fam)))]) ([.ref (ad 0), .int v1] : List Value).toArray s 0 0 A) (F0 m 88 ls []) := by
              intro v3_88 v7_88 H locs ls hf hP hD hS hl
              rw [p10_ancestorMask_J88] at hf
              refine lv_iload_n hx hb dX10_ancestorMask_88 rfl (lv_at hl 1 rfl) ?_
              refine lv_iload hx hb dX10_ancestorMask_89 (lv_at hl 5 rfl) ?_
              refine lv_ior hx hb dX10_ancestorMask_91 ?_
              refine lv_topi (fun t92 h9 => ?_)
              have hf := lb_e h9 hf
              refine lv_istore_n (lv' := [(2, .int t92), (0, .ref (ad 0)), (3, .int v3_88), (5, .int r40), (6, .int v6_48), (7, .int v7_88)]) hx hb dX10_ancestorMask_92 rfl hl (by decide) rfl (fun ls hl => ?_)
              obtain ⟨t93, h9⟩ : ∃ z : Int32, z = (v6_48 + (1 : Int32)) := ⟨_, rfl⟩
              have hf := lb_e h9 hf
              refine lv_iinc (v := t93) (lv' := [(6, .int t93), (2, .int t92), (0, .ref (ad 0)), (3, .int v3_88), (5, .int r40), (7, .int v7_88)]) hx hb dX10_ancestorMask_93 hl (k := 4) rfl (by rw [h9]; rfl) (by decide) rfl (fun ls hl => ?_)
              refine lv_goto (tgt := 48) hx hb dX10_ancestorMask_96 (by decide) ?_
              exact ih48 t92 v3_88 t93 ex48 H locs ls hf hk48 hP hD hS (lv_sub hl [2, 1, 3, 4, 0] rfl)
            refine lv_iload hx hb dX10_ancestorMask_48 (lv_at hl 4 rfl) ?_
            refine lv_iconst (v := 2) hx hb dX10_ancestorMask_50 (by decide) ?_
            refine lv_icmp_ge (tgt := 99) hx hb dX10_ancestorMask_51 (by decide) (fun h9 => ?_) (fun h9 => ?_)
            · have hf := itt h9 hf
              cases hf
              have hf := hk48
              have hf := uc2_e hf
              exact J99 v2_48 v3_48 H locs ls hf hP hD hS (lv_sub hl [0, 1, 2] rfl)
            · have hf := itf h9 hf
              refine lv_iload hx hb dX10_ancestorMask_54 (lv_at hl 3 rfl) ?_
              refine lv_iconst (v := -1) hx hb dX10_ancestorMask_56 (by decide) ?_
              refine lv_icmp_eq (tgt := 99) hx hb dX10_ancestorMask_57 (by decide) (fun h9 => ?_) (fun h9 => ?_)
              · have hf := itt h9 hf
                cases hf
                have hf := hk48
                have hf := uc2_e hf
                exact J99 v2_48 v3_48 H locs ls hf hP hD hS (lv_sub hl [0, 1, 2] rfl)
              · have hf := itf h9 hf
                refine lv_iconst (v := 1) hx hb dX10_ancestorMask_60 (by decide) ?_
                refine lv_aload_n hx hb dX10_ancestorMask_61 rfl (lv_at hl 0 rfl) ?_
                refine lv_iload hx hb dX10_ancestorMask_62 (lv_at hl 3 rfl) ?_
                refine lv_iload hx hb dX10_ancestorMask_64 (lv_at hl 4 rfl) ?_
                obtain ⟨r66, h9, hf⟩ := ob_s hf
                refine gcV (index := 102) S hE (c_X10_partner ad a_m_fam m_undoCount m_thrown m_hasSnapshot m_rows m_lineLength m_formattedLength m_bufferLength m_limit m_next m_beginsAt m_token m_error m_errorAt m_errorPosition m_nested m_codeCount m_fam r40 v6_48 r66 h9) mX10_partner tw1527 ⟨Nat.le_of_ble_eq_true rfl, Nat.le_of_ble_eq_true rfl⟩ hP hD hS hA ⟨Nat.zero_le _, Nat.zero_le _⟩ 0 10 rfl rfl rfl (wr := []) [0, 1] [] rfl rfl rfl rfl (by decide) (As := [.int r40, .int v6_48]) (rest := [.int (1 : Int32)]) rfl hl.1 rfl (Nat.le_of_ble_eq_true rfl) dX10_ancestorMask_66 (fun H locs hP hD hS => ?_)
                refine W.eq (g2 := F0 m 69 ls [.int r66, .int (1 : Int32)]) rfl ?_
                have hP : va_P (dC, dI) vwCl [(ad 0, .inr (10, oM ad m_undoCount m_thrown m_hasSnapshot a_m_fam m_rows m_lineLength m_formattedLength m_bufferLength m_limit m_next m_beginsAt m_token m_error m_errorAt m_errorPosition m_nested m_codeCount)), (a_m_fam, .inl (cJ, 130, .inr (.inl m_fam)))] H := hP
                have hD : va_D A [(ad 0, .inr (10, oM ad m_undoCount m_thrown m_hasSnapshot a_m_fam m_rows m_lineLength m_formattedLength m_bufferLength m_limit m_next m_beginsAt m_token m_error m_errorAt m_errorPosition m_nested m_codeCount)), (a_m_fam, .inl (cJ, 130, .inr (.inl m_fam)))] := hD
                refine lv_ishl hx hb dX10_ancestorMask_69 ?_
                refine lv_topi (fun t70 h9 => ?_)
                have hf := lb_e h9 hf
                refine lv_istore (lv' := [(7, .int t70), (0, .ref (ad 0)), (2, .int v2_48), (3, .int v3_48), (5, .int r40), (6, .int v6_48)]) hx hb dX10_ancestorMask_70 hl (by decide) rfl (fun ls hl => ?_)
                refine lv_iload_n hx hb dX10_ancestorMask_72 rfl (lv_at hl 3 rfl) ?_
                refine lv_iload_n hx hb dX10_ancestorMask_73 rfl (lv_at hl 2 rfl) ?_
                refine lv_iload hx hb dX10_ancestorMask_74 (lv_at hl 0 rfl) ?_
                refine lv_iand hx hb dX10_ancestorMask_76 ?_
                refine lv_if_ne (tgt := 85) hx hb dX10_ancestorMask_77 (by decide) (fun h9 => ?_) (fun h9 => ?_)
                · have hf := itf h9 hf
                  refine lv_iconst (v := 0) hx hb dX10_ancestorMask_85 (by decide) ?_
                  refine lv_ior hx hb dX10_ancestorMask_86 ?_
                  refine lv_topi (fun t87 h9 => ?_)
                  have hf := lb_e h9 hf
                  refine lv_istore_n (lv' := [(3, .int t87), (7, .int t70), (0, .ref (ad 0)), (2, .int v2_48), (5, .int r40), (6, .int v6_48)]) hx hb dX10_ancestorMask_87 rfl hl (by decide) rfl (fun ls hl => ?_)
                  exact J88 t87 t70 H locs ls hf hP hD hS (lv_sub hl [2, 3, 0, 4, 5, 1] rfl)
                · have hf := itt h9 hf
                  refine lv_iload hx hb dX10_ancestorMask_80 (lv_at hl 0 rfl) ?_
                  refine lv_goto (tgt := 86) hx hb dX10_ancestorMask_82 (by decide) ?_
                  refine lv_ior hx hb dX10_ancestorMask_86 ?_
                  refine lv_topi (fun t87 h9 => ?_)
                  have hf := lb_e h9 hf
                  refine lv_istore_n (lv' := [(3, .int t87), (7, .int t70), (0, .ref (ad 0)), (2, .int v2_48), (5, .int r40), (6, .int v6_48)]) hx hb dX10_ancestorMask_87 rfl hl (by decide) rfl (fun ls hl => ?_)
                  exact J88 t87 t70 H locs ls hf hP hD hS (lv_sub hl [2, 3, 0, 4, 5, 1] rfl)
        obtain ⟨ex, h9, hf⟩ := ob_s hf
        exact K48 FU v2_6 t36 (0 : Int32) ex H locs ls h9 hf hP hD hS (lv_sub hl [3, 4, 2, 1, 0] rfl)
      refine lv_iload_n hx hb dX10_ancestorMask_6 rfl (lv_at hl 2 rfl) ?_
      refine lv_if_eq (tgt := 102) hx hb dX10_ancestorMask_7 (by decide) (fun h9 => ?_) (fun h9 => ?_)
      · have hf := itt h9 hf
        cases hf
        have hf := hk6
        exact J102 v2_6 H locs ls hf hP hD hS (lv_sub hl [1] rfl)
      · have hf := itf h9 hf
        refine lv_iconst (v := 0) hx hb dX10_ancestorMask_10 (by decide) ?_
        refine lv_istore (lv' := [(4, .int (0 : Int32)), (0, .ref (ad 0)), (2, .int v2_6), (3, .int v3_6)]) hx hb dX10_ancestorMask_11 hl (by decide) rfl (fun ls hl => ?_)
        have K13 : ∀ (n13 : Nat) (v4_13 : Int32) (ex13 : Int32) (H : Heap) (locs : List Loc) (ls : Array Slot), p10_ancestorMask_L13 v3_6 n13 v4_13 = some ex13 → (fun v4_x13 => p10_ancestorMask_J28 (p10_ancestorMask_L6 m_fam n6) m_fam v2_6 v3_6 v4_x13) ex13 = some ex6 → va_P (dC, dI) vwCl [(ad 0, .inr (10, oM ad m_undoCount m_thrown m_hasSnapshot a_m_fam m_rows m_lineLength m_formattedLength m_bufferLength m_limit m_next m_beginsAt m_token m_error m_errorAt m_errorPosition m_nested m_codeCount)), (a_m_fam, .inl (cJ, 130, .inr (.inl m_fam)))] H → va_D A [(ad 0, .inr (10, oM ad m_undoCount m_thrown m_hasSnapshot a_m_fam m_rows m_lineLength m_formattedLength m_bufferLength m_limit m_next m_beginsAt m_token m_error m_errorAt m_errorPosition m_nested m_codeCount)), (a_m_fam, .inl (cJ, 130, .inr (.inl m_fam)))] → va_S A s.heap H locs → lv_has ls 8 [(0, .ref (ad 0)), (2, .int v2_6), (3, .int v3_6), (4, .int v4_13)] → W p l e ({ frames := 2, cells := 0, slots := 0, locals := 43 }) s m ([.ref (ad 0), .int v1] : List Value).toArray below meth c H locs 0 0 (MQ below (gQ dC dI (some (.int r9)) A [(ad 0, .inr (10, oM ad m_undoCount m_thrown m_hasSnapshot a_m_fam m_rows m_lineLength m_formattedLength m_bufferLength m_limit m_next m_beginsAt m_token m_error m_errorAt m_errorPosition m_nested m_codeCount)), (a_m_fam, .inl (cJ, 130, .inr (.inl m_fam)))]) ([.ref (ad 0), .int v1] : List Value).toArray s 0 0 A) (F0 m 13 ls []) := by
          intro n13
          induction n13 with
          | zero => intro v4_13 ex13 H locs ls hf; rw [p10_ancestorMask_L13] at hf; cases hf
          | succ n13 ih13 =>
            intro v4_13 ex13 H locs ls hf hk13 hP hD hS hl
            rw [p10_ancestorMask_L13, p10_ancestorMask_L13_B] at hf
            refine lv_iload_n hx hb dX10_ancestorMask_13 rfl (lv_at hl 2 rfl) ?_
            refine lv_iload hx hb dX10_ancestorMask_14 (lv_at hl 3 rfl) ?_
            refine lv_ishr hx hb dX10_ancestorMask_16 ?_
            refine lv_iconst (v := 1) hx hb dX10_ancestorMask_17 (by decide) ?_
            refine lv_iand hx hb dX10_ancestorMask_18 ?_
            refine lv_if_ne (tgt := 28) hx hb dX10_ancestorMask_19 (by decide) (fun h9 => ?_) (fun h9 => ?_)
            · have hf := itf h9 hf
              cases hf
              have hf := hk13
              exact J28 v4_13 H locs ls hf hP hD hS (lv_sub hl [0, 1, 2, 3] rfl)
            · have hf := itt h9 hf
              obtain ⟨t22, h9⟩ : ∃ z : Int32, z = (v4_13 + (1 : Int32)) := ⟨_, rfl⟩
              have hf := lb_e h9 hf
              refine lv_iinc (v := t22) (lv' := [(4, .int t22), (0, .ref (ad 0)), (2, .int v2_6), (3, .int v3_6)]) hx hb dX10_ancestorMask_22 hl (k := 3) rfl (by rw [h9]; rfl) (by decide) rfl (fun ls hl => ?_)
              refine lv_goto (tgt := 13) hx hb dX10_ancestorMask_25 (by decide) ?_
              exact ih13 t22 ex13 H locs ls hf hk13 hP hD hS (lv_sub hl [1, 2, 3, 0] rfl)
        obtain ⟨ex, h9, hf⟩ := ob_s hf
        exact K13 FU (0 : Int32) ex H locs ls h9 hf hP hD hS (lv_sub hl [1, 2, 3, 0] rfl)
  obtain ⟨ex, h9, hf⟩ := ob_s hf
  exact K6 FU (0 : Int32) t5 ex H locs ls h9 hf hP hD hS (lv_sub hl [2, 1, 0] rfl)
set_option maxHeartbeats 4000000 in
set_option maxRecDepth 100000 in
theorem c_X10_childMask (ad : Nat → Nat) (a_m_fam : Nat) (m_undoCount : Int32) (m_thrown : Int32) (m_hasSnapshot : Bool) (m_rows : Int32) (m_lineLength : Int32) (m_formattedLength : Int32) (m_bufferLength : Int32) (m_limit : Int32) (m_next : Int32) (m_beginsAt : Int32) (m_token : Int32) (m_error : Int32) (m_errorAt : Int32) (m_errorPosition : Int32) (m_nested : Int32) (m_codeCount : Int32) (m_fam : Nat → Int64) (v1 : Int32) (r9 : Int32) (hf : p10_childMask m_fam v1 = some r9) : gM l dC dI cI cJ cZ yX10_childMask cX10_childMask 4 (some .int) (2) (43) [.ref (ad 0), .int v1] [(ad 0, .inr (10, oM ad m_undoCount m_thrown m_hasSnapshot a_m_fam m_rows m_lineLength m_formattedLength m_bufferLength m_limit m_next m_beginsAt m_token m_error m_errorAt m_errorPosition m_nested m_codeCount)), (a_m_fam, .inl (cJ, 130, .inr (.inl m_fam)))] [(ad 0, .inr (10, oM ad m_undoCount m_thrown m_hasSnapshot a_m_fam m_rows m_lineLength m_formattedLength m_bufferLength m_limit m_next m_beginsAt m_token m_error m_errorAt m_errorPosition m_nested m_codeCount)), (a_m_fam, .inl (cJ, 130, .inr (.inl m_fam)))] (some (.int r9)) := by
  refine g_start (own := RX10) (by decide +kernel) rfl (Nat.le_of_ble_eq_true rfl) ?_
  intro p e s m below meth c A ls S hr hlocks hE hP hD hS hA hl hin
  have hx := S.1
  have hb := S.2.1
  have hml := S.2.2.1
  have hown := S.2.2.2.1
  have htg : ∀ z ∈ gw, z.before ([.ref (ad 0), .int v1] : List Value).toArray s = true := fun w h => S.2.2.2.2 w (List.mem_cons_of_mem _ h)
  have hl : lv_has ls 4 [(0, .ref (ad 0)), (1, .int v1)] := hl
  have hS0 := hS
  obtain ⟨H, hH⟩ : ∃ H, H = s.heap := ⟨_, rfl⟩
  obtain ⟨locs, hlc⟩ : ∃ locs : List Loc, locs = [] := ⟨_, rfl⟩
  have hS : va_S A s.heap H locs := by rw [hH, hlc]; exact hS0
  have hP : va_P (dC, dI) vwCl [(ad 0, .inr (10, oM ad m_undoCount m_thrown m_hasSnapshot a_m_fam m_rows m_lineLength m_formattedLength m_bufferLength m_limit m_next m_beginsAt m_token m_error m_errorAt m_errorPosition m_nested m_codeCount)), (a_m_fam, .inl (cJ, 130, .inr (.inl m_fam)))] H := by rw [hH]; exact hP
  suffices hgo : W p l e ({ frames := 2, cells := 0, slots := 0, locals := 43 }) s m ([.ref (ad 0), .int v1] : List Value).toArray below meth c H locs 0 0 (MQ below (gQ dC dI (some (.int r9)) A [(ad 0, .inr (10, oM ad m_undoCount m_thrown m_hasSnapshot a_m_fam m_rows m_lineLength m_formattedLength m_bufferLength m_limit m_next m_beginsAt m_token m_error m_errorAt m_errorPosition m_nested m_codeCount)), (a_m_fam, .inl (cJ, 130, .inr (.inl m_fam)))]) ([.ref (ad 0), .int v1] : List Value).toArray s 0 0 A) (F0 m 0 ls []) by rw [hH, hlc] at hgo; exact hgo
  rw [p10_childMask] at hf
  have J37 : ∀ (v2_37 : Int32) (H : Heap) (locs : List Loc) (ls : Array Slot), p10_childMask_J37 v2_37 = some r9 → va_P (dC, dI) vwCl [(ad 0, .inr (10, oM ad m_undoCount m_thrown m_hasSnapshot a_m_fam m_rows m_lineLength m_formattedLength m_bufferLength m_limit m_next m_beginsAt m_token m_error m_errorAt m_errorPosition m_nested m_codeCount)), (a_m_fam, .inl (cJ, 130, .inr (.inl m_fam)))] H → va_D A [(ad 0, .inr (10, oM ad m_undoCount m_thrown m_hasSnapshot a_m_fam m_rows m_lineLength m_formattedLength m_bufferLength m_limit m_next m_beginsAt m_token m_error m_errorAt m_errorPosition m_nested m_codeCount)), (a_m_fam, .inl (cJ, 130, .inr (.inl m_fam)))] → va_S A s.heap H locs → lv_has ls 4 [(2, .int v2_37)] → W p l e ({ frames := 2, cells := 0, slots := 0, locals := 43 }) s m ([.ref (ad 0), .int v1] : List Value).toArray below meth c H locs 0 0 (MQ below (gQ dC dI (some (.int r9)) A [(ad 0, .inr (10, oM ad m_undoCount m_thrown m_hasSnapshot a_m_fam m_rows m_lineLength m_formattedLength m_bufferLength m_limit m_next m_beginsAt m_token m_error m_errorAt m_errorPosition m_nested m_codeCount)), (a_m_fam, .inl (cJ, 130, .inr (.inl m_fam)))]) ([.ref (ad 0), .int v1] : List Value).toArray s 0 0 A) (F0 m 37 ls []) := by
    intro v2_37 H locs ls hf hP hD hS hl
    rw [p10_childMask_J37] at hf
    refine lv_iload_n hx hb dX10_childMask_37 rfl (lv_at hl 0 rfl) ?_
    cases hf
    exact g_iret S hr hlocks hP hD hS dX10_childMask_38
  refine lv_iconst (v := 0) hx hb dX10_childMask_0 (by decide) ?_
  refine lv_istore_n (lv' := [(2, .int (0 : Int32)), (0, .ref (ad 0)), (1, .int v1)]) hx hb dX10_childMask_1 rfl hl (by decide) rfl (fun ls hl => ?_)
  refine lv_iconst (v := 0) hx hb dX10_childMask_2 (by decide) ?_
  refine lv_istore_n (lv' := [(3, .int (0 : Int32)), (2, .int (0 : Int32)), (0, .ref (ad 0)), (1, .int v1)]) hx hb dX10_childMask_3 rfl hl (by decide) rfl (fun ls hl => ?_)
  have K4 : ∀ (n4 : Nat) (v2_4 : Int32) (v3_4 : Int32) (ex4 : Int32) (H : Heap) (locs : List Loc) (ls : Array Slot), p10_childMask_L4 m_fam v1 n4 v2_4 v3_4 = some ex4 → (fun v2_x4 => p10_childMask_J37 v2_x4) ex4 = some r9 → va_P (dC, dI) vwCl [(ad 0, .inr (10, oM ad m_undoCount m_thrown m_hasSnapshot a_m_fam m_rows m_lineLength m_formattedLength m_bufferLength m_limit m_next m_beginsAt m_token m_error m_errorAt m_errorPosition m_nested m_codeCount)), (a_m_fam, .inl (cJ, 130, .inr (.inl m_fam)))] H → va_D A [(ad 0, .inr (10, oM ad m_undoCount m_thrown m_hasSnapshot a_m_fam m_rows m_lineLength m_formattedLength m_bufferLength m_limit m_next m_beginsAt m_token m_error m_errorAt m_errorPosition m_nested m_codeCount)), (a_m_fam, .inl (cJ, 130, .inr (.inl m_fam)))] → va_S A s.heap H locs → lv_has ls 4 [(0, .ref (ad 0)), (1, .int v1), (2, .int v2_4), (3, .int v3_4)] → W p l e ({ frames := 2, cells := 0, slots := 0, locals := 43 }) s m ([.ref (ad 0), .int v1] : List Value).toArray below meth c H locs 0 0 (MQ below (gQ dC dI (some (.int r9)) A [(ad 0, .inr (10, oM ad m_undoCount m_thrown m_hasSnapshot a_m_fam m_rows m_lineLength m_formattedLength m_bufferLength m_limit m_next m_beginsAt m_token m_error m_errorAt m_errorPosition m_nested m_codeCount)), (a_m_fam, .inl (cJ, 130, .inr (.inl m_fam)))]) ([.ref (ad 0), .int v1] : List Value).toArray s 0 0 A) (F0 m 4 ls []) := by
    intro n4
    induction n4 with
    | zero => intro v2_4 v3_4 ex4 H locs ls hf; rw [p10_childMask_L4] at hf; cases hf
    | succ n4 ih4 =>
      intro v2_4 v3_4 ex4 H locs ls hf hk4 hP hD hS hl
      rw [p10_childMask_L4, p10_childMask_L4_B] at hf
      refine lv_iload_n hx hb dX10_childMask_4 rfl (lv_at hl 3 rfl) ?_
      refine lv_aload_n hx hb dX10_childMask_5 rfl (lv_at hl 0 rfl) ?_
      obtain ⟨r6, h9, hf⟩ := ob_s hf
      refine gcV (index := 121) S hE (c_X10_persons ad a_m_fam m_undoCount m_thrown m_hasSnapshot m_rows m_lineLength m_formattedLength m_bufferLength m_limit m_next m_beginsAt m_token m_error m_errorAt m_errorPosition m_nested m_codeCount m_fam r6 h9) mX10_persons tw1511 ⟨Nat.le_of_ble_eq_true rfl, Nat.le_of_ble_eq_true rfl⟩ hP hD hS hA ⟨Nat.zero_le _, Nat.zero_le _⟩ 0 10 rfl rfl rfl (wr := []) [0, 1] [] rfl rfl rfl rfl (by decide) (As := []) (rest := [.int v3_4]) rfl hl.1 rfl (Nat.le_of_ble_eq_true rfl) dX10_childMask_6 (fun H locs hP hD hS => ?_)
      refine W.eq (g2 := F0 m 9 ls [.int r6, .int v3_4]) rfl ?_
      have hP : va_P (dC, dI) vwCl [(ad 0, .inr (10, oM ad m_undoCount m_thrown m_hasSnapshot a_m_fam m_rows m_lineLength m_formattedLength m_bufferLength m_limit m_next m_beginsAt m_token m_error m_errorAt m_errorPosition m_nested m_codeCount)), (a_m_fam, .inl (cJ, 130, .inr (.inl m_fam)))] H := hP
      have hD : va_D A [(ad 0, .inr (10, oM ad m_undoCount m_thrown m_hasSnapshot a_m_fam m_rows m_lineLength m_formattedLength m_bufferLength m_limit m_next m_beginsAt m_token m_error m_errorAt m_errorPosition m_nested m_codeCount)), (a_m_fam, .inl (cJ, 130, .inr (.inl m_fam)))] := hD
      refine lv_icmp_ge (tgt := 37) hx hb dX10_childMask_9 (by decide) (fun h9 => ?_) (fun h9 => ?_)
      · have hf := itt h9 hf
        cases hf
        have hf := hk4
        exact J37 v2_4 H locs ls hf hP hD hS (lv_sub hl [2] rfl)
      · have hf := itf h9 hf
        refine lv_iload_n hx hb dX10_childMask_12 rfl (lv_at hl 2 rfl) ?_
        refine lv_aload_n hx hb dX10_childMask_13 rfl (lv_at hl 0 rfl) ?_
        refine lv_iload_n hx hb dX10_childMask_14 rfl (lv_at hl 3 rfl) ?_
        obtain ⟨r15, h9, hf⟩ := ob_s hf
        refine gcV (index := 117) S hE (c_X10_parentsOf ad a_m_fam m_undoCount m_thrown m_hasSnapshot m_rows m_lineLength m_formattedLength m_bufferLength m_limit m_next m_beginsAt m_token m_error m_errorAt m_errorPosition m_nested m_codeCount m_fam v3_4 r15 h9) mX10_parentsOf tw1515 ⟨Nat.le_of_ble_eq_true rfl, Nat.le_of_ble_eq_true rfl⟩ hP hD hS hA ⟨Nat.zero_le _, Nat.zero_le _⟩ 0 10 rfl rfl rfl (wr := []) [0, 1] [] rfl rfl rfl rfl (by decide) (As := [.int v3_4]) (rest := [.int v2_4]) rfl hl.1 rfl (Nat.le_of_ble_eq_true rfl) dX10_childMask_15 (fun H locs hP hD hS => ?_)
        refine W.eq (g2 := F0 m 18 ls [.int r15, .int v2_4]) rfl ?_
        have hP : va_P (dC, dI) vwCl [(ad 0, .inr (10, oM ad m_undoCount m_thrown m_hasSnapshot a_m_fam m_rows m_lineLength m_formattedLength m_bufferLength m_limit m_next m_beginsAt m_token m_error m_errorAt m_errorPosition m_nested m_codeCount)), (a_m_fam, .inl (cJ, 130, .inr (.inl m_fam)))] H := hP
        have hD : va_D A [(ad 0, .inr (10, oM ad m_undoCount m_thrown m_hasSnapshot a_m_fam m_rows m_lineLength m_formattedLength m_bufferLength m_limit m_next m_beginsAt m_token m_error m_errorAt m_errorPosition m_nested m_codeCount)), (a_m_fam, .inl (cJ, 130, .inr (.inl m_fam)))] := hD
        refine lv_iload_n hx hb dX10_childMask_18 rfl (lv_at hl 1 rfl) ?_
        refine lv_icmp_ne (tgt := 28) hx hb dX10_childMask_19 (by decide) (fun h9 => ?_) (fun h9 => ?_)
        · have hf := itf h9 hf
          refine lv_iconst (v := 0) hx hb dX10_childMask_28 (by decide) ?_
          refine lv_ior hx hb dX10_childMask_29 ?_
          refine lv_topi (fun t30 h9 => ?_)
          have hf := lb_e h9 hf
          refine lv_istore_n (lv' := [(2, .int t30), (0, .ref (ad 0)), (1, .int v1), (3, .int v3_4)]) hx hb dX10_childMask_30 rfl hl (by decide) rfl (fun ls hl => ?_)
          obtain ⟨t31, h9⟩ : ∃ z : Int32, z = (v3_4 + (1 : Int32)) := ⟨_, rfl⟩
          have hf := lb_e h9 hf
          refine lv_iinc (v := t31) (lv' := [(3, .int t31), (2, .int t30), (0, .ref (ad 0)), (1, .int v1)]) hx hb dX10_childMask_31 hl (k := 3) rfl (by rw [h9]; rfl) (by decide) rfl (fun ls hl => ?_)
          refine lv_goto (tgt := 4) hx hb dX10_childMask_34 (by decide) ?_
          exact ih4 t30 t31 ex4 H locs ls hf hk4 hP hD hS (lv_sub hl [2, 3, 1, 0] rfl)
        · have hf := itt h9 hf
          refine lv_iconst (v := 1) hx hb dX10_childMask_22 (by decide) ?_
          refine lv_iload_n hx hb dX10_childMask_23 rfl (lv_at hl 3 rfl) ?_
          refine lv_ishl hx hb dX10_childMask_24 ?_
          refine lv_goto (tgt := 29) hx hb dX10_childMask_25 (by decide) ?_
          refine lv_ior hx hb dX10_childMask_29 ?_
          refine lv_topi (fun t30 h9 => ?_)
          have hf := lb_e h9 hf
          refine lv_istore_n (lv' := [(2, .int t30), (0, .ref (ad 0)), (1, .int v1), (3, .int v3_4)]) hx hb dX10_childMask_30 rfl hl (by decide) rfl (fun ls hl => ?_)
          obtain ⟨t31, h9⟩ : ∃ z : Int32, z = (v3_4 + (1 : Int32)) := ⟨_, rfl⟩
          have hf := lb_e h9 hf
          refine lv_iinc (v := t31) (lv' := [(3, .int t31), (2, .int t30), (0, .ref (ad 0)), (1, .int v1)]) hx hb dX10_childMask_31 hl (k := 3) rfl (by rw [h9]; rfl) (by decide) rfl (fun ls hl => ?_)
          refine lv_goto (tgt := 4) hx hb dX10_childMask_34 (by decide) ?_
          exact ih4 t30 t31 ex4 H locs ls hf hk4 hP hD hS (lv_sub hl [2, 3, 1, 0] rfl)
  obtain ⟨ex, h9, hf⟩ := ob_s hf
  exact K4 FU (0 : Int32) (0 : Int32) ex H locs ls h9 hf hP hD hS (lv_sub hl [2, 3, 1, 0] rfl)
set_option maxHeartbeats 4000000 in
set_option maxRecDepth 100000 in
theorem c_X10_members (v0 : Int32) (r9 : Int32) (hf : p10_members v0 = some r9) : gM l dC dI cI cJ cZ yX10_members cX10_members 3 (some .int) (0) (0) [.int v0] [] [] (some (.int r9)) := by
  refine g_start (own := RX10) (by decide +kernel) rfl (Nat.le_of_ble_eq_true rfl) ?_
  intro p e s m below meth c A ls S hr hlocks hE hP hD hS hA hl hin
  have hx := S.1
  have hb := S.2.1
  have hml := S.2.2.1
  have hown := S.2.2.2.1
  have htg : ∀ z ∈ gw, z.before ([.int v0] : List Value).toArray s = true := fun w h => S.2.2.2.2 w (List.mem_cons_of_mem _ h)
  have hl : lv_has ls 3 [(0, .int v0)] := hl
  have hS0 := hS
  obtain ⟨H, hH⟩ : ∃ H, H = s.heap := ⟨_, rfl⟩
  obtain ⟨locs, hlc⟩ : ∃ locs : List Loc, locs = [] := ⟨_, rfl⟩
  have hS : va_S A s.heap H locs := by rw [hH, hlc]; exact hS0
  have hP : va_P (dC, dI) vwCl [] H := by rw [hH]; exact hP
  suffices hgo : W p l e ({ frames := 0, cells := 0, slots := 0, locals := 0 }) s m ([.int v0] : List Value).toArray below meth c H locs 0 0 (MQ below (gQ dC dI (some (.int r9)) A []) ([.int v0] : List Value).toArray s 0 0 A) (F0 m 0 ls []) by rw [hH, hlc] at hgo; exact hgo
  rw [p10_members] at hf
  have J20 : ∀ (v1_20 : Int32) (H : Heap) (locs : List Loc) (ls : Array Slot), p10_members_J20 v1_20 = some r9 → va_P (dC, dI) vwCl [] H → va_D A [] → va_S A s.heap H locs → lv_has ls 3 [(1, .int v1_20)] → W p l e ({ frames := 0, cells := 0, slots := 0, locals := 0 }) s m ([.int v0] : List Value).toArray below meth c H locs 0 0 (MQ below (gQ dC dI (some (.int r9)) A []) ([.int v0] : List Value).toArray s 0 0 A) (F0 m 20 ls []) := by
    intro v1_20 H locs ls hf hP hD hS hl
    rw [p10_members_J20] at hf
    refine lv_iload_n hx hb dX10_members_20 rfl (lv_at hl 0 rfl) ?_
    cases hf
    exact g_iret S hr hlocks hP hD hS dX10_members_21
  refine lv_iconst (v := 0) hx hb dX10_members_0 (by decide) ?_
  refine lv_istore_n (lv' := [(1, .int (0 : Int32)), (0, .int v0)]) hx hb dX10_members_1 rfl hl (by decide) rfl (fun ls hl => ?_)
  refine lv_iload_n hx hb dX10_members_2 rfl (lv_at hl 1 rfl) ?_
  refine lv_istore_n (lv' := [(2, .int v0), (1, .int (0 : Int32)), (0, .int v0)]) hx hb dX10_members_3 rfl hl (by decide) rfl (fun ls hl => ?_)
  have K4 : ∀ (n4 : Nat) (v1_4 : Int32) (v2_4 : Int32) (ex4 : Int32) (H : Heap) (locs : List Loc) (ls : Array Slot), p10_members_L4 n4 v1_4 v2_4 = some ex4 → (fun v1_x4 => p10_members_J20 v1_x4) ex4 = some r9 → va_P (dC, dI) vwCl [] H → va_D A [] → va_S A s.heap H locs → lv_has ls 3 [(1, .int v1_4), (2, .int v2_4)] → W p l e ({ frames := 0, cells := 0, slots := 0, locals := 0 }) s m ([.int v0] : List Value).toArray below meth c H locs 0 0 (MQ below (gQ dC dI (some (.int r9)) A []) ([.int v0] : List Value).toArray s 0 0 A) (F0 m 4 ls []) := by
    intro n4
    induction n4 with
    | zero => intro v1_4 v2_4 ex4 H locs ls hf; rw [p10_members_L4] at hf; cases hf
    | succ n4 ih4 =>
      intro v1_4 v2_4 ex4 H locs ls hf hk4 hP hD hS hl
      rw [p10_members_L4, p10_members_L4_B] at hf
      refine lv_iload_n hx hb dX10_members_4 rfl (lv_at hl 1 rfl) ?_
      refine lv_if_eq (tgt := 20) hx hb dX10_members_5 (by decide) (fun h9 => ?_) (fun h9 => ?_)
      · have hf := itt h9 hf
        cases hf
        have hf := hk4
        exact J20 v1_4 H locs ls hf hP hD hS (lv_sub hl [0] rfl)
      · have hf := itf h9 hf
        obtain ⟨t8, h9⟩ : ∃ z : Int32, z = (v1_4 + (1 : Int32)) := ⟨_, rfl⟩
        have hf := lb_e h9 hf
        refine lv_iinc (v := t8) (lv' := [(1, .int t8), (2, .int v2_4)]) hx hb dX10_members_8 hl (k := 0) rfl (by rw [h9]; rfl) (by decide) rfl (fun ls hl => ?_)
        refine lv_iload_n hx hb dX10_members_11 rfl (lv_at hl 1 rfl) ?_
        refine lv_iload_n hx hb dX10_members_12 rfl (lv_at hl 1 rfl) ?_
        refine lv_iconst (v := 1) hx hb dX10_members_13 (by decide) ?_
        refine lv_isub hx hb dX10_members_14 ?_
        refine lv_iand hx hb dX10_members_15 ?_
        refine lv_topi (fun t16 h9 => ?_)
        have hf := lb_e h9 hf
        refine lv_istore_n (lv' := [(2, .int t16), (1, .int t8)]) hx hb dX10_members_16 rfl hl (by decide) rfl (fun ls hl => ?_)
        refine lv_goto (tgt := 4) hx hb dX10_members_17 (by decide) ?_
        exact ih4 t8 t16 ex4 H locs ls hf hk4 hP hD hS (lv_sub hl [1, 0] rfl)
  obtain ⟨ex, h9, hf⟩ := ob_s hf
  exact K4 FU (0 : Int32) v0 ex H locs ls h9 hf hP hD hS (lv_sub hl [1, 0] rfl)
set_option maxHeartbeats 4000000 in
set_option maxRecDepth 100000 in
theorem c_X10_levelOf (ad : Nat → Nat) (a_m_fam : Nat) (m_undoCount : Int32) (m_thrown : Int32) (m_hasSnapshot : Bool) (m_rows : Int32) (m_lineLength : Int32) (m_formattedLength : Int32) (m_bufferLength : Int32) (m_limit : Int32) (m_next : Int32) (m_beginsAt : Int32) (m_token : Int32) (m_error : Int32) (m_errorAt : Int32) (m_errorPosition : Int32) (m_nested : Int32) (m_codeCount : Int32) (m_fam : Nat → Int64) (m_generation : Nat → Int32) (v1 : Int32) (r9 : Int32) (hf : p10_levelOf m_fam m_generation v1 = some r9) : gM l dC dI cI cJ cZ yX10_levelOf cX10_levelOf 2 (some .int) (1) (22) [.ref (ad 0), .int v1] [(ad 0, .inr (10, oM ad m_undoCount m_thrown m_hasSnapshot a_m_fam m_rows m_lineLength m_formattedLength m_bufferLength m_limit m_next m_beginsAt m_token m_error m_errorAt m_errorPosition m_nested m_codeCount)), (a_m_fam, .inl (cJ, 130, .inr (.inl m_fam))), ((ad 9), .inl (cI, 16, .inl m_generation))] [(ad 0, .inr (10, oM ad m_undoCount m_thrown m_hasSnapshot a_m_fam m_rows m_lineLength m_formattedLength m_bufferLength m_limit m_next m_beginsAt m_token m_error m_errorAt m_errorPosition m_nested m_codeCount)), (a_m_fam, .inl (cJ, 130, .inr (.inl m_fam))), ((ad 9), .inl (cI, 16, .inl m_generation))] (some (.int r9)) := by
  refine g_start (own := RX10) (by decide +kernel) rfl (Nat.le_of_ble_eq_true rfl) ?_
  intro p e s m below meth c A ls S hr hlocks hE hP hD hS hA hl hin
  have hx := S.1
  have hb := S.2.1
  have hml := S.2.2.1
  have hown := S.2.2.2.1
  have htg : ∀ z ∈ gw, z.before ([.ref (ad 0), .int v1] : List Value).toArray s = true := fun w h => S.2.2.2.2 w (List.mem_cons_of_mem _ h)
  have hl : lv_has ls 2 [(0, .ref (ad 0)), (1, .int v1)] := hl
  have hS0 := hS
  obtain ⟨H, hH⟩ : ∃ H, H = s.heap := ⟨_, rfl⟩
  obtain ⟨locs, hlc⟩ : ∃ locs : List Loc, locs = [] := ⟨_, rfl⟩
  have hS : va_S A s.heap H locs := by rw [hH, hlc]; exact hS0
  have hP : va_P (dC, dI) vwCl [(ad 0, .inr (10, oM ad m_undoCount m_thrown m_hasSnapshot a_m_fam m_rows m_lineLength m_formattedLength m_bufferLength m_limit m_next m_beginsAt m_token m_error m_errorAt m_errorPosition m_nested m_codeCount)), (a_m_fam, .inl (cJ, 130, .inr (.inl m_fam))), ((ad 9), .inl (cI, 16, .inl m_generation))] H := by rw [hH]; exact hP
  suffices hgo : W p l e ({ frames := 1, cells := 0, slots := 0, locals := 22 }) s m ([.ref (ad 0), .int v1] : List Value).toArray below meth c H locs 0 0 (MQ below (gQ dC dI (some (.int r9)) A [(ad 0, .inr (10, oM ad m_undoCount m_thrown m_hasSnapshot a_m_fam m_rows m_lineLength m_formattedLength m_bufferLength m_limit m_next m_beginsAt m_token m_error m_errorAt m_errorPosition m_nested m_codeCount)), (a_m_fam, .inl (cJ, 130, .inr (.inl m_fam))), ((ad 9), .inl (cI, 16, .inl m_generation))]) ([.ref (ad 0), .int v1] : List Value).toArray s 0 0 A) (F0 m 0 ls []) by rw [hH, hlc] at hgo; exact hgo
  rw [p10_levelOf] at hf
  refine lv_aload_n hx hb dX10_levelOf_0 rfl (lv_at hl 0 rfl) ?_
  refine va_get (D := (dC, dI)) (ci := 10) (v := .ref (ad 9)) (C := RX10) (T := TX10) (N := 37) hx hb htg inX10 hown hE.1 hP 0 rfl rfl 8 (by decide) (htg _ tw1390) (fun _ h9 => h9) rfl dX10_levelOf_1 ?_
  refine lv_aload_n hx hb dX10_levelOf_4 rfl (lv_at hl 0 rfl) ?_
  refine lv_iload_n hx hb dX10_levelOf_5 rfl (lv_at hl 1 rfl) ?_
  refine lv_iconst (v := 0) hx hb dX10_levelOf_6 (by decide) ?_
  obtain ⟨r7, h9, hf⟩ := ob_s hf
  refine gcV (index := 102) S hE (c_X10_partner ad a_m_fam m_undoCount m_thrown m_hasSnapshot m_rows m_lineLength m_formattedLength m_bufferLength m_limit m_next m_beginsAt m_token m_error m_errorAt m_errorPosition m_nested m_codeCount m_fam v1 (0 : Int32) r7 h9) mX10_partner tw1527 ⟨Nat.le_of_ble_eq_true rfl, Nat.le_of_ble_eq_true rfl⟩ hP hD hS hA ⟨Nat.zero_le _, Nat.zero_le _⟩ 0 10 rfl rfl rfl (wr := [((ad 9), .inl (cI, 16, .inl m_generation))]) [0, 1] [2] rfl rfl rfl rfl (by decide) (As := [.int v1, .int (0 : Int32)]) (rest := [.ref (ad 9)]) rfl hl.1 rfl (Nat.le_of_ble_eq_true rfl) dX10_levelOf_7 (fun H locs hP hD hS => ?_)
  refine W.eq (g2 := F0 m 10 ls [.int r7, .ref (ad 9)]) rfl ?_
  have hP : va_P (dC, dI) vwCl [((ad 9), .inl (cI, 16, .inl m_generation)), (ad 0, .inr (10, oM ad m_undoCount m_thrown m_hasSnapshot a_m_fam m_rows m_lineLength m_formattedLength m_bufferLength m_limit m_next m_beginsAt m_token m_error m_errorAt m_errorPosition m_nested m_codeCount)), (a_m_fam, .inl (cJ, 130, .inr (.inl m_fam)))] H := hP
  have hD : va_D A [((ad 9), .inl (cI, 16, .inl m_generation)), (ad 0, .inr (10, oM ad m_undoCount m_thrown m_hasSnapshot a_m_fam m_rows m_lineLength m_formattedLength m_bufferLength m_limit m_next m_beginsAt m_token m_error m_errorAt m_errorPosition m_nested m_codeCount)), (a_m_fam, .inl (cJ, 130, .inr (.inl m_fam)))] := hD
  obtain ⟨h9, hf⟩ := gd_s hf
  refine va_iald hx hb hE.1 hP 0 0 rfl rfl h9 dX10_levelOf_10 ?_
  refine lv_aload_n hx hb dX10_levelOf_11 rfl (lv_at hl 0 rfl) ?_
  refine va_get (D := (dC, dI)) (ci := 10) (v := .ref (ad 9)) (C := RX10) (T := TX10) (N := 37) hx hb htg inX10 hown hE.1 hP 1 rfl rfl 8 (by decide) (htg _ tw1390) (fun _ h9 => h9) rfl dX10_levelOf_12 ?_
  refine lv_aload_n hx hb dX10_levelOf_15 rfl (lv_at hl 0 rfl) ?_
  refine lv_iload_n hx hb dX10_levelOf_16 rfl (lv_at hl 1 rfl) ?_
  refine lv_iconst (v := 1) hx hb dX10_levelOf_17 (by decide) ?_
  obtain ⟨r18, h9, hf⟩ := ob_s hf
  refine gcV (index := 102) S hE (c_X10_partner ad a_m_fam m_undoCount m_thrown m_hasSnapshot m_rows m_lineLength m_formattedLength m_bufferLength m_limit m_next m_beginsAt m_token m_error m_errorAt m_errorPosition m_nested m_codeCount m_fam v1 (1 : Int32) r18 h9) mX10_partner tw1527 ⟨Nat.le_of_ble_eq_true rfl, Nat.le_of_ble_eq_true rfl⟩ hP hD hS hA ⟨Nat.zero_le _, Nat.zero_le _⟩ 1 10 rfl rfl rfl (wr := [((ad 9), .inl (cI, 16, .inl m_generation))]) [1, 2] [0] rfl rfl rfl rfl (by decide) (As := [.int v1, .int (1 : Int32)]) (rest := [.ref (ad 9), .int (m_generation r7.toNatClampNeg)]) rfl hl.1 rfl (Nat.le_of_ble_eq_true rfl) dX10_levelOf_18 (fun H locs hP hD hS => ?_)
  refine W.eq (g2 := F0 m 21 ls [.int r18, .ref (ad 9), .int (m_generation r7.toNatClampNeg)]) rfl ?_
  have hP : va_P (dC, dI) vwCl [((ad 9), .inl (cI, 16, .inl m_generation)), (ad 0, .inr (10, oM ad m_undoCount m_thrown m_hasSnapshot a_m_fam m_rows m_lineLength m_formattedLength m_bufferLength m_limit m_next m_beginsAt m_token m_error m_errorAt m_errorPosition m_nested m_codeCount)), (a_m_fam, .inl (cJ, 130, .inr (.inl m_fam)))] H := hP
  have hD : va_D A [((ad 9), .inl (cI, 16, .inl m_generation)), (ad 0, .inr (10, oM ad m_undoCount m_thrown m_hasSnapshot a_m_fam m_rows m_lineLength m_formattedLength m_bufferLength m_limit m_next m_beginsAt m_token m_error m_errorAt m_errorPosition m_nested m_codeCount)), (a_m_fam, .inl (cJ, 130, .inr (.inl m_fam)))] := hD
  obtain ⟨h9, hf⟩ := gd_s hf
  refine va_iald hx hb hE.1 hP 0 0 rfl rfl h9 dX10_levelOf_21 ?_
  refine va_mmax hx hb (hml.trans hl.1.symm) hown (htg _ tw1531) (htg _ tw457) (htg _ tw16) (htg _ tw458) (Nat.le_of_ble_eq_true rfl) (Nat.le_of_ble_eq_true rfl) (Nat.zero_le _) (Nat.zero_le _) dX10_levelOf_22 ?_
  refine W.eq (g2 := F0 m 25 ls [.int (imax ((m_generation r7.toNatClampNeg)) ((m_generation r18.toNatClampNeg)))]) rfl ?_
  cases hf
  exact g_iret S hr hlocks (hP.sub [1, 2, 0] rfl) (hD.sub [1, 2, 0] (by decide) rfl) hS dX10_levelOf_25
set_option maxHeartbeats 4000000 in
set_option maxRecDepth 100000 in
theorem c_X10_layGenerations (ad : Nat → Nat) (a_m_fam : Nat) (m_undoCount : Int32) (m_thrown : Int32) (m_hasSnapshot : Bool) (m_rows : Int32) (m_lineLength : Int32) (m_formattedLength : Int32) (m_bufferLength : Int32) (m_limit : Int32) (m_next : Int32) (m_beginsAt : Int32) (m_token : Int32) (m_error : Int32) (m_errorAt : Int32) (m_errorPosition : Int32) (m_nested : Int32) (m_codeCount : Int32) (m_fam : Nat → Int64) (m_generation : Nat → Int32) (m_level : Nat → Int32) (m_generation_9 : Nat → Int32) (m_level_9 : Nat → Int32) (m_rows_9 : Int32) (hf : p10_layGenerations m_fam m_generation m_level = some (m_generation_9, m_level_9, m_rows_9)) : gM l dC dI cI cJ cZ yX10_layGenerations cX10_layGenerations 4 none (2) (43) [.ref (ad 0)] [(ad 0, .inr (10, oM ad m_undoCount m_thrown m_hasSnapshot a_m_fam m_rows m_lineLength m_formattedLength m_bufferLength m_limit m_next m_beginsAt m_token m_error m_errorAt m_errorPosition m_nested m_codeCount)), (a_m_fam, .inl (cJ, 130, .inr (.inl m_fam))), ((ad 9), .inl (cI, 16, .inl m_generation)), ((ad 10), .inl (cI, 12, .inl m_level))] [(ad 0, .inr (10, oM ad m_undoCount m_thrown m_hasSnapshot a_m_fam m_rows_9 m_lineLength m_formattedLength m_bufferLength m_limit m_next m_beginsAt m_token m_error m_errorAt m_errorPosition m_nested m_codeCount)), (a_m_fam, .inl (cJ, 130, .inr (.inl m_fam))), ((ad 9), .inl (cI, 16, .inl m_generation_9)), ((ad 10), .inl (cI, 12, .inl m_level_9))] none := by
  refine g_start (own := RX10) (by decide +kernel) rfl (Nat.le_of_ble_eq_true rfl) ?_
  intro p e s m below meth c A ls S hr hlocks hE hP hD hS hA hl hin
  have hx := S.1
  have hb := S.2.1
  have hml := S.2.2.1
  have hown := S.2.2.2.1
  have htg : ∀ z ∈ gw, z.before ([.ref (ad 0)] : List Value).toArray s = true := fun w h => S.2.2.2.2 w (List.mem_cons_of_mem _ h)
  have hl : lv_has ls 4 [(0, .ref (ad 0))] := hl
  have hS0 := hS
  obtain ⟨H, hH⟩ : ∃ H, H = s.heap := ⟨_, rfl⟩
  obtain ⟨locs, hlc⟩ : ∃ locs : List Loc, locs = [] := ⟨_, rfl⟩
  have hS : va_S A s.heap H locs := by rw [hH, hlc]; exact hS0
  have hP : va_P (dC, dI) vwCl [(ad 0, .inr (10, oM ad m_undoCount m_thrown m_hasSnapshot a_m_fam m_rows m_lineLength m_formattedLength m_bufferLength m_limit m_next m_beginsAt m_token m_error m_errorAt m_errorPosition m_nested m_codeCount)), (a_m_fam, .inl (cJ, 130, .inr (.inl m_fam))), ((ad 9), .inl (cI, 16, .inl m_generation)), ((ad 10), .inl (cI, 12, .inl m_level))] H := by rw [hH]; exact hP
  suffices hgo : W p l e ({ frames := 2, cells := 0, slots := 0, locals := 43 }) s m ([.ref (ad 0)] : List Value).toArray below meth c H locs 0 0 (MQ below (gQ dC dI none A [(ad 0, .inr (10, oM ad m_undoCount m_thrown m_hasSnapshot a_m_fam m_rows_9 m_lineLength m_formattedLength m_bufferLength m_limit m_next m_beginsAt m_token m_error m_errorAt m_errorPosition m_nested m_codeCount)), (a_m_fam, .inl (cJ, 130, .inr (.inl m_fam))), ((ad 9), .inl (cI, 16, .inl m_generation_9)), ((ad 10), .inl (cI, 12, .inl m_level_9))]) ([.ref (ad 0)] : List Value).toArray s 0 0 A) (F0 m 0 ls []) by rw [hH, hlc] at hgo; exact hgo
  rw [p10_layGenerations] at hf
  have J169 : ∀ (m_rows_169 : Int32) (m_generation_169 : Nat → Int32) (m_level_169 : Nat → Int32) (H : Heap) (locs : List Loc) (ls : Array Slot), p10_layGenerations_J169 m_rows_169 m_generation_169 m_level_169 = some (m_generation_9, m_level_9, m_rows_9) → va_P (dC, dI) vwCl [(ad 0, .inr (10, oM ad m_undoCount m_thrown m_hasSnapshot a_m_fam m_rows_169 m_lineLength m_formattedLength m_bufferLength m_limit m_next m_beginsAt m_token m_error m_errorAt m_errorPosition m_nested m_codeCount)), (a_m_fam, .inl (cJ, 130, .inr (.inl m_fam))), ((ad 9), .inl (cI, 16, .inl m_generation_169)), ((ad 10), .inl (cI, 12, .inl m_level_169))] H → va_D A [(ad 0, .inr (10, oM ad m_undoCount m_thrown m_hasSnapshot a_m_fam m_rows_169 m_lineLength m_formattedLength m_bufferLength m_limit m_next m_beginsAt m_token m_error m_errorAt m_errorPosition m_nested m_codeCount)), (a_m_fam, .inl (cJ, 130, .inr (.inl m_fam))), ((ad 9), .inl (cI, 16, .inl m_generation_169)), ((ad 10), .inl (cI, 12, .inl m_level_169))] → va_S A s.heap H locs → lv_has ls 4 [] → W p l e ({ frames := 2, cells := 0, slots := 0, locals := 43 }) s m ([.ref (ad 0)] : List Value).toArray below meth c H locs 0 0 (MQ below (gQ dC dI none A [(ad 0, .inr (10, oM ad m_undoCount m_thrown m_hasSnapshot a_m_fam m_rows_9 m_lineLength m_formattedLength m_bufferLength m_limit m_next m_beginsAt m_token m_error m_errorAt m_errorPosition m_nested m_codeCount)), (a_m_fam, .inl (cJ, 130, .inr (.inl m_fam))), ((ad 9), .inl (cI, 16, .inl m_generation_9)), ((ad 10), .inl (cI, 12, .inl m_level_9))]) ([.ref (ad 0)] : List Value).toArray s 0 0 A) (F0 m 169 ls []) := by
    intro m_rows_169 m_generation_169 m_level_169 H locs ls hf hP hD hS hl
    rw [p10_layGenerations_J169] at hf
    cases hf
    exact g_vret S hr hlocks hP hD hS dX10_layGenerations_169
  have J142 : ∀ (m_rows_142 : Int32) (m_generation_142 : Nat → Int32) (H : Heap) (locs : List Loc) (ls : Array Slot), p10_layGenerations_J142 m_fam m_level m_rows_142 m_generation_142 = some (m_generation_9, m_level_9, m_rows_9) → va_P (dC, dI) vwCl [(ad 0, .inr (10, oM ad m_undoCount m_thrown m_hasSnapshot a_m_fam m_rows_142 m_lineLength m_formattedLength m_bufferLength m_limit m_next m_beginsAt m_token m_error m_errorAt m_errorPosition m_nested m_codeCount)), (a_m_fam, .inl (cJ, 130, .inr (.inl m_fam))), ((ad 9), .inl (cI, 16, .inl m_generation_142)), ((ad 10), .inl (cI, 12, .inl m_level))] H → va_D A [(ad 0, .inr (10, oM ad m_undoCount m_thrown m_hasSnapshot a_m_fam m_rows_142 m_lineLength m_formattedLength m_bufferLength m_limit m_next m_beginsAt m_token m_error m_errorAt m_errorPosition m_nested m_codeCount)), (a_m_fam, .inl (cJ, 130, .inr (.inl m_fam))), ((ad 9), .inl (cI, 16, .inl m_generation_142)), ((ad 10), .inl (cI, 12, .inl m_level))] → va_S A s.heap H locs → lv_has ls 4 [(0, .ref (ad 0))] → W p l e ({ frames := 2, cells := 0, slots := 0, locals := 43 }) s m ([.ref (ad 0)] : List Value).toArray below meth c H locs 0 0 (MQ below (gQ dC dI none A [(ad 0, .inr (10, oM ad m_undoCount m_thrown m_hasSnapshot a_m_fam m_rows_9 m_lineLength m_formattedLength m_bufferLength m_limit m_next m_beginsAt m_token m_error m_errorAt m_errorPosition m_nested m_codeCount)), (a_m_fam, .inl (cJ, 130, .inr (.inl m_fam))), ((ad 9), .inl (cI, 16, .inl m_generation_9)), ((ad 10), .inl (cI, 12, .inl m_level_9))]) ([.ref (ad 0)] : List Value).toArray s 0 0 A) (F0 m 142 ls []) := by
    intro m_rows_142 m_generation_142 H locs ls hf hP hD hS hl
    rw [p10_layGenerations_J142] at hf
    refine lv_iconst (v := 0) hx hb dX10_layGenerations_142 (by decide) ?_
    refine lv_istore_n (lv' := [(2, .int (0 : Int32)), (0, .ref (ad 0))]) hx hb dX10_layGenerations_143 rfl hl (by decide) rfl (fun ls hl => ?_)
    have K144 : ∀ (n144 : Nat) (v2_144 : Int32) (m_level_144 : Nat → Int32) (ex144 : (Nat → Int32)) (H : Heap) (locs : List Loc) (ls : Array Slot), p10_layGenerations_L144 m_fam m_generation_142 n144 v2_144 m_level_144 = some ex144 → (fun m_level_x144 => p10_layGenerations_J169 m_rows_142 m_generation_142 m_level_x144) ex144 = some (m_generation_9, m_level_9, m_rows_9) → va_P (dC, dI) vwCl [(ad 0, .inr (10, oM ad m_undoCount m_thrown m_hasSnapshot a_m_fam m_rows_142 m_lineLength m_formattedLength m_bufferLength m_limit m_next m_beginsAt m_token m_error m_errorAt m_errorPosition m_nested m_codeCount)), (a_m_fam, .inl (cJ, 130, .inr (.inl m_fam))), ((ad 9), .inl (cI, 16, .inl m_generation_142)), ((ad 10), .inl (cI, 12, .inl m_level_144))] H → va_D A [(ad 0, .inr (10, oM ad m_undoCount m_thrown m_hasSnapshot a_m_fam m_rows_142 m_lineLength m_formattedLength m_bufferLength m_limit m_next m_beginsAt m_token m_error m_errorAt m_errorPosition m_nested m_codeCount)), (a_m_fam, .inl (cJ, 130, .inr (.inl m_fam))), ((ad 9), .inl (cI, 16, .inl m_generation_142)), ((ad 10), .inl (cI, 12, .inl m_level_144))] → va_S A s.heap H locs → lv_has ls 4 [(0, .ref (ad 0)), (2, .int v2_144)] → W p l e ({ frames := 2, cells := 0, slots := 0, locals := 43 }) s m ([.ref (ad 0)] : List Value).toArray below meth c H locs 0 0 (MQ below (gQ dC dI none A [(ad 0, .inr (10, oM ad m_undoCount m_thrown m_hasSnapshot a_m_fam m_rows_9 m_lineLength m_formattedLength m_bufferLength m_limit m_next m_beginsAt m_token m_error m_errorAt m_errorPosition m_nested m_codeCount)), (a_m_fam, .inl (cJ, 130, .inr (.inl m_fam))), ((ad 9), .inl (cI, 16, .inl m_generation_9)), ((ad 10), .inl (cI, 12, .inl m_level_9))]) ([.ref (ad 0)] : List Value).toArray s 0 0 A) (F0 m 144 ls []) := by
      intro n144
      induction n144 with
      | zero => intro v2_144 m_level_144 ex144 H locs ls hf; rw [p10_layGenerations_L144] at hf; cases hf
      | succ n144 ih144 =>
        intro v2_144 m_level_144 ex144 H locs ls hf hk144 hP hD hS hl
        rw [p10_layGenerations_L144, p10_layGenerations_L144_B] at hf
        refine lv_iload_n hx hb dX10_layGenerations_144 rfl (lv_at hl 1 rfl) ?_
        refine lv_aload_n hx hb dX10_layGenerations_145 rfl (lv_at hl 0 rfl) ?_
        obtain ⟨r146, h9, hf⟩ := ob_s hf
        refine gcV (index := 110) S hE (c_X10_unions ad a_m_fam m_undoCount m_thrown m_hasSnapshot m_rows_142 m_lineLength m_formattedLength m_bufferLength m_limit m_next m_beginsAt m_token m_error m_errorAt m_errorPosition m_nested m_codeCount m_fam r146 h9) mX10_unions tw1532 ⟨Nat.le_of_ble_eq_true rfl, Nat.le_of_ble_eq_true rfl⟩ hP hD hS hA ⟨Nat.zero_le _, Nat.zero_le _⟩ 0 10 rfl rfl rfl (wr := [((ad 9), .inl (cI, 16, .inl m_generation_142)), ((ad 10), .inl (cI, 12, .inl m_level_144))]) [0, 1] [2, 3] rfl rfl rfl rfl (by decide) (As := []) (rest := [.int v2_144]) rfl hl.1 rfl (Nat.le_of_ble_eq_true rfl) dX10_layGenerations_146 (fun H locs hP hD hS => ?_)
        refine W.eq (g2 := F0 m 149 ls [.int r146, .int v2_144]) rfl ?_
        have hP : va_P (dC, dI) vwCl [((ad 9), .inl (cI, 16, .inl m_generation_142)), ((ad 10), .inl (cI, 12, .inl m_level_144)), (ad 0, .inr (10, oM ad m_undoCount m_thrown m_hasSnapshot a_m_fam m_rows_142 m_lineLength m_formattedLength m_bufferLength m_limit m_next m_beginsAt m_token m_error m_errorAt m_errorPosition m_nested m_codeCount)), (a_m_fam, .inl (cJ, 130, .inr (.inl m_fam)))] H := hP
        have hD : va_D A [((ad 9), .inl (cI, 16, .inl m_generation_142)), ((ad 10), .inl (cI, 12, .inl m_level_144)), (ad 0, .inr (10, oM ad m_undoCount m_thrown m_hasSnapshot a_m_fam m_rows_142 m_lineLength m_formattedLength m_bufferLength m_limit m_next m_beginsAt m_token m_error m_errorAt m_errorPosition m_nested m_codeCount)), (a_m_fam, .inl (cJ, 130, .inr (.inl m_fam)))] := hD
        refine lv_icmp_ge (tgt := 169) hx hb dX10_layGenerations_149 (by decide) (fun h9 => ?_) (fun h9 => ?_)
        · have hf := itt h9 hf
          cases hf
          have hf := hk144
          exact J169 m_rows_142 m_generation_142 m_level_144 H locs ls hf (hP.sub [2, 3, 0, 1] rfl) (hD.sub [2, 3, 0, 1] (by decide) rfl) hS (lv_sub hl [] rfl)
        · have hf := itf h9 hf
          refine lv_aload_n hx hb dX10_layGenerations_152 rfl (lv_at hl 0 rfl) ?_
          refine va_get (D := (dC, dI)) (ci := 10) (v := .ref (ad 10)) (C := RX10) (T := TX10) (N := 37) hx hb htg inX10 hown hE.1 hP 2 rfl rfl 9 (by decide) (htg _ tw1391) (fun _ h9 => h9) rfl dX10_layGenerations_153 ?_
          refine lv_iload_n hx hb dX10_layGenerations_156 rfl (lv_at hl 1 rfl) ?_
          refine lv_aload_n hx hb dX10_layGenerations_157 rfl (lv_at hl 0 rfl) ?_
          refine lv_iload_n hx hb dX10_layGenerations_158 rfl (lv_at hl 1 rfl) ?_
          obtain ⟨r159, h9, hf⟩ := ob_s hf
          refine gcV (index := 129) S hE (c_X10_levelOf ad a_m_fam m_undoCount m_thrown m_hasSnapshot m_rows_142 m_lineLength m_formattedLength m_bufferLength m_limit m_next m_beginsAt m_token m_error m_errorAt m_errorPosition m_nested m_codeCount m_fam m_generation_142 v2_144 r159 h9) mX10_levelOf tw1523 ⟨Nat.le_of_ble_eq_true rfl, Nat.le_of_ble_eq_true rfl⟩ hP hD hS hA ⟨Nat.zero_le _, Nat.zero_le _⟩ 2 10 rfl rfl rfl (wr := [((ad 10), .inl (cI, 12, .inl m_level_144))]) [2, 3, 0] [1] rfl rfl rfl rfl (by decide) (As := [.int v2_144]) (rest := [.int v2_144, .ref (ad 10)]) rfl hl.1 rfl (Nat.le_of_ble_eq_true rfl) dX10_layGenerations_159 (fun H locs hP hD hS => ?_)
          refine W.eq (g2 := F0 m 162 ls [.int r159, .int v2_144, .ref (ad 10)]) rfl ?_
          have hP : va_P (dC, dI) vwCl [((ad 10), .inl (cI, 12, .inl m_level_144)), (ad 0, .inr (10, oM ad m_undoCount m_thrown m_hasSnapshot a_m_fam m_rows_142 m_lineLength m_formattedLength m_bufferLength m_limit m_next m_beginsAt m_token m_error m_errorAt m_errorPosition m_nested m_codeCount)), (a_m_fam, .inl (cJ, 130, .inr (.inl m_fam))), ((ad 9), .inl (cI, 16, .inl m_generation_142))] H := hP
          have hD : va_D A [((ad 10), .inl (cI, 12, .inl m_level_144)), (ad 0, .inr (10, oM ad m_undoCount m_thrown m_hasSnapshot a_m_fam m_rows_142 m_lineLength m_formattedLength m_bufferLength m_limit m_next m_beginsAt m_token m_error m_errorAt m_errorPosition m_nested m_codeCount)), (a_m_fam, .inl (cJ, 130, .inr (.inl m_fam))), ((ad 9), .inl (cI, 16, .inl m_generation_142))] := hD
          obtain ⟨h9, hf⟩ := gd_s hf
          refine va_iast hx hb hE.1 hP hD hS 0 0 rfl rfl h9 dX10_layGenerations_162 (fun H locs hP hD hS => ?_)
          obtain ⟨g162, h9⟩ : ∃ z, z = (upd m_level_144 v2_144.toNatClampNeg r159) := ⟨_, rfl⟩
          have hf := lb_e h9 hf
          have hP : va_P (dC, dI) vwCl [((ad 10), .inl (cI, 12, .inl g162)), (ad 0, .inr (10, oM ad m_undoCount m_thrown m_hasSnapshot a_m_fam m_rows_142 m_lineLength m_formattedLength m_bufferLength m_limit m_next m_beginsAt m_token m_error m_errorAt m_errorPosition m_nested m_codeCount)), (a_m_fam, .inl (cJ, 130, .inr (.inl m_fam))), ((ad 9), .inl (cI, 16, .inl m_generation_142))] H := by rw [h9]; exact hP
          have hD : va_D A [((ad 10), .inl (cI, 12, .inl g162)), (ad 0, .inr (10, oM ad m_undoCount m_thrown m_hasSnapshot a_m_fam m_rows_142 m_lineLength m_formattedLength m_bufferLength m_limit m_next m_beginsAt m_token m_error m_errorAt m_errorPosition m_nested m_codeCount)), (a_m_fam, .inl (cJ, 130, .inr (.inl m_fam))), ((ad 9), .inl (cI, 16, .inl m_generation_142))] := by rw [h9]; exact hD
          obtain ⟨t163, h9⟩ : ∃ z : Int32, z = (v2_144 + (1 : Int32)) := ⟨_, rfl⟩
          have hf := lb_e h9 hf
          refine lv_iinc (v := t163) (lv' := [(2, .int t163), (0, .ref (ad 0))]) hx hb dX10_layGenerations_163 hl (k := 1) rfl (by rw [h9]; rfl) (by decide) rfl (fun ls hl => ?_)
          refine lv_goto (tgt := 144) hx hb dX10_layGenerations_166 (by decide) ?_
          exact ih144 t163 g162 ex144 H locs ls hf hk144 (hP.sub [1, 2, 3, 0] rfl) (hD.sub [1, 2, 3, 0] (by decide) rfl) hS (lv_sub hl [1, 0] rfl)
    obtain ⟨ex, h9, hf⟩ := ob_s hf
    exact K144 FU (0 : Int32) m_level ex H locs ls h9 hf hP hD hS (lv_sub hl [1, 0] rfl)
  have J102 : ∀ (m_generation_102 : Nat → Int32) (H : Heap) (locs : List Loc) (ls : Array Slot), p10_layGenerations_J102 m_fam m_level m_generation_102 = some (m_generation_9, m_level_9, m_rows_9) → va_P (dC, dI) vwCl [(ad 0, .inr (10, oM ad m_undoCount m_thrown m_hasSnapshot a_m_fam m_rows m_lineLength m_formattedLength m_bufferLength m_limit m_next m_beginsAt m_token m_error m_errorAt m_errorPosition m_nested m_codeCount)), (a_m_fam, .inl (cJ, 130, .inr (.inl m_fam))), ((ad 9), .inl (cI, 16, .inl m_generation_102)), ((ad 10), .inl (cI, 12, .inl m_level))] H → va_D A [(ad 0, .inr (10, oM ad m_undoCount m_thrown m_hasSnapshot a_m_fam m_rows m_lineLength m_formattedLength m_bufferLength m_limit m_next m_beginsAt m_token m_error m_errorAt m_errorPosition m_nested m_codeCount)), (a_m_fam, .inl (cJ, 130, .inr (.inl m_fam))), ((ad 9), .inl (cI, 16, .inl m_generation_102)), ((ad 10), .inl (cI, 12, .inl m_level))] → va_S A s.heap H locs → lv_has ls 4 [(0, .ref (ad 0))] → W p l e ({ frames := 2, cells := 0, slots := 0, locals := 43 }) s m ([.ref (ad 0)] : List Value).toArray below meth c H locs 0 0 (MQ below (gQ dC dI none A [(ad 0, .inr (10, oM ad m_undoCount m_thrown m_hasSnapshot a_m_fam m_rows_9 m_lineLength m_formattedLength m_bufferLength m_limit m_next m_beginsAt m_token m_error m_errorAt m_errorPosition m_nested m_codeCount)), (a_m_fam, .inl (cJ, 130, .inr (.inl m_fam))), ((ad 9), .inl (cI, 16, .inl m_generation_9)), ((ad 10), .inl (cI, 12, .inl m_level_9))]) ([.ref (ad 0)] : List Value).toArray s 0 0 A) (F0 m 102 ls []) := by
    intro m_generation_102 H locs ls hf hP hD hS hl
    rw [p10_layGenerations_J102] at hf
    refine lv_aload_n hx hb dX10_layGenerations_102 rfl (lv_at hl 0 rfl) ?_
    refine lv_iconst (v := 0) hx hb dX10_layGenerations_103 (by decide) ?_
    refine va_put (D := (dC, dI)) (ci := 10) (v := .int (0 : Int32)) (ty := .int) (C := RX10) (T := TX10) (N := 37) hx hb htg inX10 tyX10 tyX10_ok nmX10 hown hE.1 hP hD hS 0 rfl rfl 14 (by decide) (htg _ tw1396) (fun _ h9 => h9) rfl (by decide +kernel) rfl rfl (Nat.le_of_ble_eq_true rfl) dX10_layGenerations_104 (fun H locs hP hD hS => ?_)
    have hP : va_P (dC, dI) vwCl [(ad 0, .inr (10, oM ad m_undoCount m_thrown m_hasSnapshot a_m_fam (0 : Int32) m_lineLength m_formattedLength m_bufferLength m_limit m_next m_beginsAt m_token m_error m_errorAt m_errorPosition m_nested m_codeCount)), (a_m_fam, .inl (cJ, 130, .inr (.inl m_fam))), ((ad 9), .inl (cI, 16, .inl m_generation_102)), ((ad 10), .inl (cI, 12, .inl m_level))] H := hP
    have hD : va_D A [(ad 0, .inr (10, oM ad m_undoCount m_thrown m_hasSnapshot a_m_fam (0 : Int32) m_lineLength m_formattedLength m_bufferLength m_limit m_next m_beginsAt m_token m_error m_errorAt m_errorPosition m_nested m_codeCount)), (a_m_fam, .inl (cJ, 130, .inr (.inl m_fam))), ((ad 9), .inl (cI, 16, .inl m_generation_102)), ((ad 10), .inl (cI, 12, .inl m_level))] := hD
    refine lv_iconst (v := 0) hx hb dX10_layGenerations_107 (by decide) ?_
    refine lv_istore_n (lv' := [(2, .int (0 : Int32)), (0, .ref (ad 0))]) hx hb dX10_layGenerations_108 rfl hl (by decide) rfl (fun ls hl => ?_)
    have K109 : ∀ (n109 : Nat) (v2_109 : Int32) (m_rows_109 : Int32) (ex109 : Int32) (H : Heap) (locs : List Loc) (ls : Array Slot), p10_layGenerations_L109 m_fam m_generation_102 n109 v2_109 m_rows_109 = some ex109 → (fun m_rows_x109 => p10_layGenerations_J142 m_fam m_level m_rows_x109 m_generation_102) ex109 = some (m_generation_9, m_level_9, m_rows_9) → va_P (dC, dI) vwCl [(ad 0, .inr (10, oM ad m_undoCount m_thrown m_hasSnapshot a_m_fam m_rows_109 m_lineLength m_formattedLength m_bufferLength m_limit m_next m_beginsAt m_token m_error m_errorAt m_errorPosition m_nested m_codeCount)), (a_m_fam, .inl (cJ, 130, .inr (.inl m_fam))), ((ad 9), .inl (cI, 16, .inl m_generation_102)), ((ad 10), .inl (cI, 12, .inl m_level))] H → va_D A [(ad 0, .inr (10, oM ad m_undoCount m_thrown m_hasSnapshot a_m_fam m_rows_109 m_lineLength m_formattedLength m_bufferLength m_limit m_next m_beginsAt m_token m_error m_errorAt m_errorPosition m_nested m_codeCount)), (a_m_fam, .inl (cJ, 130, .inr (.inl m_fam))), ((ad 9), .inl (cI, 16, .inl m_generation_102)), ((ad 10), .inl (cI, 12, .inl m_level))] → va_S A s.heap H locs → lv_has ls 4 [(0, .ref (ad 0)), (2, .int v2_109)] → W p l e ({ frames := 2, cells := 0, slots := 0, locals := 43 }) s m ([.ref (ad 0)] : List Value).toArray below meth c H locs 0 0 (MQ below (gQ dC dI none A [(ad 0, .inr (10, oM ad m_undoCount m_thrown m_hasSnapshot a_m_fam m_rows_9 m_lineLength m_formattedLength m_bufferLength m_limit m_next m_beginsAt m_token m_error m_errorAt m_errorPosition m_nested m_codeCount)), (a_m_fam, .inl (cJ, 130, .inr (.inl m_fam))), ((ad 9), .inl (cI, 16, .inl m_generation_9)), ((ad 10), .inl (cI, 12, .inl m_level_9))]) ([.ref (ad 0)] : List Value).toArray s 0 0 A) (F0 m 109 ls []) := by
      intro n109
      induction n109 with
      | zero => intro v2_109 m_rows_109 ex109 H locs ls hf; rw [p10_layGenerations_L109] at hf; cases hf
      | succ n109 ih109 =>
        intro v2_109 m_rows_109 ex109 H locs ls hf hk109 hP hD hS hl
        rw [p10_layGenerations_L109, p10_layGenerations_L109_B] at hf
        refine lv_iload_n hx hb dX10_layGenerations_109 rfl (lv_at hl 1 rfl) ?_
        refine lv_aload_n hx hb dX10_layGenerations_110 rfl (lv_at hl 0 rfl) ?_
        obtain ⟨r111, h9, hf⟩ := ob_s hf
        refine gcV (index := 121) S hE (c_X10_persons ad a_m_fam m_undoCount m_thrown m_hasSnapshot m_rows_109 m_lineLength m_formattedLength m_bufferLength m_limit m_next m_beginsAt m_token m_error m_errorAt m_errorPosition m_nested m_codeCount m_fam r111 h9) mX10_persons tw1511 ⟨Nat.le_of_ble_eq_true rfl, Nat.le_of_ble_eq_true rfl⟩ hP hD hS hA ⟨Nat.zero_le _, Nat.zero_le _⟩ 0 10 rfl rfl rfl (wr := [((ad 9), .inl (cI, 16, .inl m_generation_102)), ((ad 10), .inl (cI, 12, .inl m_level))]) [0, 1] [2, 3] rfl rfl rfl rfl (by decide) (As := []) (rest := [.int v2_109]) rfl hl.1 rfl (Nat.le_of_ble_eq_true rfl) dX10_layGenerations_111 (fun H locs hP hD hS => ?_)
        refine W.eq (g2 := F0 m 114 ls [.int r111, .int v2_109]) rfl ?_
        have hP : va_P (dC, dI) vwCl [((ad 9), .inl (cI, 16, .inl m_generation_102)), ((ad 10), .inl (cI, 12, .inl m_level)), (ad 0, .inr (10, oM ad m_undoCount m_thrown m_hasSnapshot a_m_fam m_rows_109 m_lineLength m_formattedLength m_bufferLength m_limit m_next m_beginsAt m_token m_error m_errorAt m_errorPosition m_nested m_codeCount)), (a_m_fam, .inl (cJ, 130, .inr (.inl m_fam)))] H := hP
        have hD : va_D A [((ad 9), .inl (cI, 16, .inl m_generation_102)), ((ad 10), .inl (cI, 12, .inl m_level)), (ad 0, .inr (10, oM ad m_undoCount m_thrown m_hasSnapshot a_m_fam m_rows_109 m_lineLength m_formattedLength m_bufferLength m_limit m_next m_beginsAt m_token m_error m_errorAt m_errorPosition m_nested m_codeCount)), (a_m_fam, .inl (cJ, 130, .inr (.inl m_fam)))] := hD
        refine lv_icmp_ge (tgt := 142) hx hb dX10_layGenerations_114 (by decide) (fun h9 => ?_) (fun h9 => ?_)
        · have hf := itt h9 hf
          cases hf
          have hf := hk109
          exact J142 m_rows_109 m_generation_102 H locs ls hf (hP.sub [2, 3, 0, 1] rfl) (hD.sub [2, 3, 0, 1] (by decide) rfl) hS (lv_sub hl [0] rfl)
        · have hf := itf h9 hf
          refine lv_aload_n hx hb dX10_layGenerations_117 rfl (lv_at hl 0 rfl) ?_
          refine lv_aload_n hx hb dX10_layGenerations_118 rfl (lv_at hl 0 rfl) ?_
          refine va_get (D := (dC, dI)) (ci := 10) (v := .int m_rows_109) (C := RX10) (T := TX10) (N := 37) hx hb htg inX10 hown hE.1 hP 2 rfl rfl 14 (by decide) (htg _ tw1396) (fun _ h9 => h9) rfl dX10_layGenerations_119 ?_
          refine lv_aload_n hx hb dX10_layGenerations_122 rfl (lv_at hl 0 rfl) ?_
          refine va_get (D := (dC, dI)) (ci := 10) (v := .ref (ad 9)) (C := RX10) (T := TX10) (N := 37) hx hb htg inX10 hown hE.1 hP 2 rfl rfl 8 (by decide) (htg _ tw1390) (fun _ h9 => h9) rfl dX10_layGenerations_123 ?_
          refine lv_iload_n hx hb dX10_layGenerations_126 rfl (lv_at hl 1 rfl) ?_
          obtain ⟨h9, hf⟩ := gd_s hf
          refine va_iald hx hb hE.1 hP 0 0 rfl rfl h9 dX10_layGenerations_127 ?_
          refine lv_iconst (v := 1) hx hb dX10_layGenerations_128 (by decide) ?_
          refine lv_iadd hx hb dX10_layGenerations_129 ?_
          refine va_mmax hx hb (hml.trans hl.1.symm) hown (htg _ tw1531) (htg _ tw457) (htg _ tw16) (htg _ tw458) (Nat.le_of_ble_eq_true rfl) (Nat.le_of_ble_eq_true rfl) (Nat.zero_le _) (Nat.zero_le _) dX10_layGenerations_130 ?_
          refine W.eq (g2 := F0 m 133 ls [.int (imax m_rows_109 (((m_generation_102 v2_109.toNatClampNeg) + (1 : Int32)))), .ref (ad 0)]) rfl ?_
          refine lv_topi (fun t133 h9 => ?_)
          have hf := lb_e h9 hf
          refine va_put (D := (dC, dI)) (ci := 10) (v := .int t133) (ty := .int) (C := RX10) (T := TX10) (N := 37) hx hb htg inX10 tyX10 tyX10_ok nmX10 hown hE.1 hP hD hS 2 rfl rfl 14 (by decide) (htg _ tw1396) (fun _ h9 => h9) rfl (by decide +kernel) rfl rfl (Nat.le_of_ble_eq_true rfl) dX10_layGenerations_133 (fun H locs hP hD hS => ?_)
          have hP : va_P (dC, dI) vwCl [((ad 9), .inl (cI, 16, .inl m_generation_102)), ((ad 10), .inl (cI, 12, .inl m_level)), (ad 0, .inr (10, oM ad m_undoCount m_thrown m_hasSnapshot a_m_fam t133 m_lineLength m_formattedLength m_bufferLength m_limit m_next m_beginsAt m_token m_error m_errorAt m_errorPosition m_nested m_codeCount)), (a_m_fam, .inl (cJ, 130, .inr (.inl m_fam)))] H := hP
          have hD : va_D A [((ad 9), .inl (cI, 16, .inl m_generation_102)), ((ad 10), .inl (cI, 12, .inl m_level)), (ad 0, .inr (10, oM ad m_undoCount m_thrown m_hasSnapshot a_m_fam t133 m_lineLength m_formattedLength m_bufferLength m_limit m_next m_beginsAt m_token m_error m_errorAt m_errorPosition m_nested m_codeCount)), (a_m_fam, .inl (cJ, 130, .inr (.inl m_fam)))] := hD
          obtain ⟨t136, h9⟩ : ∃ z : Int32, z = (v2_109 + (1 : Int32)) := ⟨_, rfl⟩
          have hf := lb_e h9 hf
          refine lv_iinc (v := t136) (lv' := [(2, .int t136), (0, .ref (ad 0))]) hx hb dX10_layGenerations_136 hl (k := 1) rfl (by rw [h9]; rfl) (by decide) rfl (fun ls hl => ?_)
          refine lv_goto (tgt := 109) hx hb dX10_layGenerations_139 (by decide) ?_
          exact ih109 t136 t133 ex109 H locs ls hf hk109 (hP.sub [2, 3, 0, 1] rfl) (hD.sub [2, 3, 0, 1] (by decide) rfl) hS (lv_sub hl [1, 0] rfl)
    obtain ⟨ex, h9, hf⟩ := ob_s hf
    exact K109 FU (0 : Int32) (0 : Int32) ex H locs ls h9 hf hP hD hS (lv_sub hl [1, 0] rfl)
  have J23 : ∀ (m_generation_23 : Nat → Int32) (H : Heap) (locs : List Loc) (ls : Array Slot), p10_layGenerations_J23 m_fam m_level m_generation_23 = some (m_generation_9, m_level_9, m_rows_9) → va_P (dC, dI) vwCl [(ad 0, .inr (10, oM ad m_undoCount m_thrown m_hasSnapshot a_m_fam m_rows m_lineLength m_formattedLength m_bufferLength m_limit m_next m_beginsAt m_token m_error m_errorAt m_errorPosition m_nested m_codeCount)), (a_m_fam, .inl (cJ, 130, .inr (.inl m_fam))), ((ad 9), .inl (cI, 16, .inl m_generation_23)), ((ad 10), .inl (cI, 12, .inl m_level))] H → va_D A [(ad 0, .inr (10, oM ad m_undoCount m_thrown m_hasSnapshot a_m_fam m_rows m_lineLength m_formattedLength m_bufferLength m_limit m_next m_beginsAt m_token m_error m_errorAt m_errorPosition m_nested m_codeCount)), (a_m_fam, .inl (cJ, 130, .inr (.inl m_fam))), ((ad 9), .inl (cI, 16, .inl m_generation_23)), ((ad 10), .inl (cI, 12, .inl m_level))] → va_S A s.heap H locs → lv_has ls 4 [(0, .ref (ad 0))] → W p l e ({ frames := 2, cells := 0, slots := 0, locals := 43 }) s m ([.ref (ad 0)] : List Value).toArray below meth c H locs 0 0 (MQ below (gQ dC dI none A [(ad 0, .inr (10, oM ad m_undoCount m_thrown m_hasSnapshot a_m_fam m_rows_9 m_lineLength m_formattedLength m_bufferLength m_limit m_next m_beginsAt m_token m_error m_errorAt m_errorPosition m_nested m_codeCount)), (a_m_fam, .inl (cJ, 130, .inr (.inl m_fam))), ((ad 9), .inl (cI, 16, .inl m_generation_9)), ((ad 10), .inl (cI, 12, .inl m_level_9))]) ([.ref (ad 0)] : List Value).toArray s 0 0 A) (F0 m 23 ls []) := by
    intro m_generation_23 H locs ls hf hP hD hS hl
    rw [p10_layGenerations_J23] at hf
    refine lv_iconst (v := 1) hx hb dX10_layGenerations_23 (by decide) ?_
    refine lv_istore_n (lv' := [(1, .int (1 : Int32)), (0, .ref (ad 0))]) hx hb dX10_layGenerations_24 rfl hl (by decide) rfl (fun ls hl => ?_)
    have K25 : ∀ (n25 : Nat) (v1_25 : Bool) (m_generation_25 : Nat → Int32) (ex25 : (Nat → Int32)) (H : Heap) (locs : List Loc) (ls : Array Slot), p10_layGenerations_L25 m_fam n25 v1_25 m_generation_25 = some ex25 → (fun m_generation_x25 => p10_layGenerations_J102 m_fam m_level m_generation_x25) ex25 = some (m_generation_9, m_level_9, m_rows_9) → va_P (dC, dI) vwCl [(ad 0, .inr (10, oM ad m_undoCount m_thrown m_hasSnapshot a_m_fam m_rows m_lineLength m_formattedLength m_bufferLength m_limit m_next m_beginsAt m_token m_error m_errorAt m_errorPosition m_nested m_codeCount)), (a_m_fam, .inl (cJ, 130, .inr (.inl m_fam))), ((ad 9), .inl (cI, 16, .inl m_generation_25)), ((ad 10), .inl (cI, 12, .inl m_level))] H → va_D A [(ad 0, .inr (10, oM ad m_undoCount m_thrown m_hasSnapshot a_m_fam m_rows m_lineLength m_formattedLength m_bufferLength m_limit m_next m_beginsAt m_token m_error m_errorAt m_errorPosition m_nested m_codeCount)), (a_m_fam, .inl (cJ, 130, .inr (.inl m_fam))), ((ad 9), .inl (cI, 16, .inl m_generation_25)), ((ad 10), .inl (cI, 12, .inl m_level))] → va_S A s.heap H locs → lv_has ls 4 [(0, .ref (ad 0)), (1, .int (bI v1_25))] → W p l e ({ frames := 2, cells := 0, slots := 0, locals := 43 }) s m ([.ref (ad 0)] : List Value).toArray below meth c H locs 0 0 (MQ below (gQ dC dI none A [(ad 0, .inr (10, oM ad m_undoCount m_thrown m_hasSnapshot a_m_fam m_rows_9 m_lineLength m_formattedLength m_bufferLength m_limit m_next m_beginsAt m_token m_error m_errorAt m_errorPosition m_nested m_codeCount)), (a_m_fam, .inl (cJ, 130, .inr (.inl m_fam))), ((ad 9), .inl (cI, 16, .inl m_generation_9)), ((ad 10), .inl (cI, 12, .inl m_level_9))]) ([.ref (ad 0)] : List Value).toArray s 0 0 A) (F0 m 25 ls []) := by
      intro n25
      induction n25 with
      | zero => intro v1_25 m_generation_25 ex25 H locs ls hf; rw [p10_layGenerations_L25] at hf; cases hf
      | succ n25 ih25 =>
        intro v1_25 m_generation_25 ex25 H locs ls hf hk25 hP hD hS hl
        rw [p10_layGenerations_L25, p10_layGenerations_L25_B] at hf
        have J99 : ∀ (v1_99 : Bool) (m_generation_99 : Nat → Int32) (H : Heap) (locs : List Loc) (ls : Array Slot), p10_layGenerations_J99 (p10_layGenerations_L25 m_fam n25) v1_99 m_generation_99 = some ex25 → va_P (dC, dI) vwCl [(ad 0, .inr (10, oM ad m_undoCount m_thrown m_hasSnapshot a_m_fam m_rows m_lineLength m_formattedLength m_bufferLength m_limit m_next m_beginsAt m_token m_error m_errorAt m_errorPosition m_nested m_codeCount)), (a_m_fam, .inl (cJ, 130, .inr (.inl m_fam))), ((ad 9), .inl (cI, 16, .inl m_generation_99)), ((ad 10), .inl (cI, 12, .inl m_level))] H → va_D A [(ad 0, .inr (10, oM ad m_undoCount m_thrown m_hasSnapshot a_m_fam m_rows m_lineLength m_formattedLength m_bufferLength m_limit m_next m_beginsAt m_token m_error m_errorAt m_errorPosition m_nested m_codeCount)), (a_m_fam, .inl (cJ, 130, .inr (.inl m_fam))), ((ad 9), .inl (cI, 16, .inl m_generation_99)), ((ad 10), .inl (cI, 12, .inl m_level))] → va_S A s.heap H locs → lv_has ls 4 [(0, .ref (ad 0)), (1, .int (bI v1_99))] → W p l e ({ frames := 2, cells := 0, slots := 0, locals := 43 }) s m ([.ref (ad 0)] : List Value).toArray below meth c H locs 0 0 (MQ below (gQ dC dI none A [(ad 0, .inr (10, oM ad m_undoCount m_thrown m_hasSnapshot a_m_fam m_rows_9 m_lineLength m_formattedLength m_bufferLength m_limit m_next m_beginsAt m_token m_error m_errorAt m_errorPosition m_nested m_codeCount)), (a_m_fam, .inl (cJ, 130, .inr (.inl m_fam))), ((ad 9), .inl (cI, 16, .inl m_generation_9)), ((ad 10), .inl (cI, 12, .inl m_level_9))]) ([.ref (ad 0)] : List Value).toArray s 0 0 A) (F0 m 99 ls []) := by
          intro v1_99 m_generation_99 H locs ls hf hP hD hS hl
          rw [p10_layGenerations_J99] at hf
          refine lv_goto (tgt := 25) hx hb dX10_layGenerations_99 (by decide) ?_
          exact ih25 v1_99 m_generation_99 ex25 H locs ls hf hk25 hP hD hS (lv_sub hl [0, 1] rfl)
        refine lv_iload_n hx hb dX10_layGenerations_25 rfl (lv_at hl 1 rfl) ?_
        refine lv_if_eq (tgt := 102) hx hb dX10_layGenerations_26 (by decide) (fun h9 => ?_) (fun h9 => ?_)
        · have hf := ctf (bI_0 h9) hf
          cases hf
          have hf := hk25
          exact J102 m_generation_25 H locs ls hf hP hD hS (lv_sub hl [0] rfl)
        · have hf := ctt (bI_1 h9) hf
          refine lv_iconst (v := 0) hx hb dX10_layGenerations_29 (by decide) ?_
          refine lv_istore_n (lv' := [(1, .int (0 : Int32)), (0, .ref (ad 0))]) hx hb dX10_layGenerations_30 rfl hl (by decide) rfl (fun ls hl => ?_)
          refine lv_iconst (v := 0) hx hb dX10_layGenerations_31 (by decide) ?_
          refine lv_istore_n (lv' := [(2, .int (0 : Int32)), (1, .int (0 : Int32)), (0, .ref (ad 0))]) hx hb dX10_layGenerations_32 rfl hl (by decide) rfl (fun ls hl => ?_)
          have K33 : ∀ (n33 : Nat) (v1_33 : Bool) (v2_33 : Int32) (m_generation_33 : Nat → Int32) (ex33 : Bool × (Nat → Int32)) (H : Heap) (locs : List Loc) (ls : Array Slot), p10_layGenerations_L33 m_fam n33 v1_33 v2_33 m_generation_33 = some ex33 → (uc2 fun v1_x33 m_generation_x33 => p10_layGenerations_J99 (p10_layGenerations_L25 m_fam n25) v1_x33 m_generation_x33) ex33 = some ex25 → va_P (dC, dI) vwCl [(ad 0, .inr (10, oM ad m_undoCount m_thrown m_hasSnapshot a_m_fam m_rows m_lineLength m_formattedLength m_bufferLength m_limit m_next m_beginsAt m_token m_error m_errorAt m_errorPosition m_nested m_codeCount)), (a_m_fam, .inl (cJ, 130, .inr (.inl m_fam))), ((ad 9), .inl (cI, 16, .inl m_generation_33)), ((ad 10), .inl (cI, 12, .inl m_level))] H → va_D A [(ad 0, .inr (10, oM ad m_undoCount m_thrown m_hasSnapshot a_m_fam m_rows m_lineLength m_formattedLength m_bufferLength m_limit m_next m_beginsAt m_token m_error m_errorAt m_errorPosition m_nested m_codeCount)), (a_m_fam, .inl (cJ, 130, .inr (.inl m_fam))), ((ad 9), .inl (cI, 16, .inl m_generation_33)), ((ad 10), .inl (cI, 12, .inl m_level))] → va_S A s.heap H locs → lv_has ls 4 [(0, .ref (ad 0)), (1, .int (bI v1_33)), (2, .int v2_33)] → W p l e ({ frames := 2, cells := 0, slots := 0, locals := 43 }) s m ([.ref (ad 0)] : List Value).toArray below meth c H locs 0 0 (MQ below (gQ dC dI none A [(ad 0, .inr (10, oM ad m_undoCount m_thrown m_hasSnapshot a_m_fam m_rows_9 m_lineLength m_formattedLength m_bufferLength m_limit m_next m_beginsAt m_token m_error m_errorAt m_errorPosition m_nested m_codeCount)), (a_m_fam, .inl (cJ, 130, .inr (.inl m_fam))), ((ad 9), .inl (cI, 16, .inl m_generation_9)), ((ad 10), .inl (cI, 12, .inl m_level_9))]) ([.ref (ad 0)] : List Value).toArray s 0 0 A) (F0 m 33 ls []) := by
            intro n33
            induction n33 with
            | zero => intro v1_33 v2_33 m_generation_33 ex33 H locs ls hf; rw [p10_layGenerations_L33] at hf; cases hf
            | succ n33 ih33 =>
              intro v1_33 v2_33 m_generation_33 ex33 H locs ls hf hk33 hP hD hS hl
              rw [p10_layGenerations_L33, p10_layGenerations_L33_B] at hf
              have J86 : ∀ (v1_86 : Bool) (v3_86 : Int32) (H : Heap) (locs : List Loc) (ls : Array Slot), p10_layGenerations_J86 (p10_layGenerations_L33 m_fam n33) m_generation_33 v2_33 v1_86 v3_86 = some ex33 → va_P (dC, dI) vwCl [(ad 0, .inr (10, oM ad m_undoCount m_thrown m_hasSnapshot a_m_fam m_rows m_lineLength m_formattedLength m_bufferLength m_limit m_next m_beginsAt m_token m_error m_errorAt m_errorPosition m_nested m_codeCount)), (a_m_fam, .inl (cJ, 130, .inr (.inl m_fam))), ((ad 9), .inl (cI, 16, .inl m_generation_33)), ((ad 10), .inl (cI, 12, .inl m_level))] H → va_D A [(ad 0, .inr (10, oM ad m_undoCount m_thrown m_hasSnapshot a_m_fam m_rows m_lineLength m_formattedLength m_bufferLength m_limit m_next m_beginsAt m_token m_error m_errorAt m_errorPosition m_nested m_codeCount)), (a_m_fam, .inl (cJ, 130, .inr (.inl m_fam))), ((ad 9), .inl (cI, 16, .inl m_generation_33)), ((ad 10), .inl (cI, 12, .inl m_level))] → va_S A s.heap H locs → lv_has ls 4 [(0, .ref (ad 0)), (1, .int (bI v1_86)), (2, .int v2_33), (3, .int v3_86)] → W p l e ({ frames := 2, cells := 0, slots := 0, locals := 43 }) s m ([.ref (ad 0)] : List Value).toArray below meth c H locs 0 0 (MQ below (gQ dC dI none A [(ad 0, .inr (10, oM ad m_undoCount m_thrown m_hasSnapshot a_m_fam m_rows_9 m_lineLength m_formattedLength m_bufferLength m_limit m_next m_beginsAt m_token m_error m_errorAt m_errorPosition m_nested m_codeCount)), (a_m_fam, .inl (cJ, 130, .inr (.inl m_fam))), ((ad 9), .inl (cI, 16, .inl m_generation_9)), ((ad 10), .inl (cI, 12, .inl m_level_9))]) ([.ref (ad 0)] : List Value).toArray s 0 0 A) (F0 m 86 ls []) := by
                intro v1_86 v3_86 H locs ls hf hP hD hS hl
                rw [p10_layGenerations_J86] at hf
                refine lv_aload_n hx hb dX10_layGenerations_86 rfl (lv_at hl 0 rfl) ?_
                refine va_get (D := (dC, dI)) (ci := 10) (v := .ref (ad 9)) (C := RX10) (T := TX10) (N := 37) hx hb htg inX10 hown hE.1 hP 0 rfl rfl 8 (by decide) (htg _ tw1390) (fun _ h9 => h9) rfl dX10_layGenerations_87 ?_
                refine lv_iload_n hx hb dX10_layGenerations_90 rfl (lv_at hl 2 rfl) ?_
                refine lv_iload_n hx hb dX10_layGenerations_91 rfl (lv_at hl 3 rfl) ?_
                obtain ⟨h9, hf⟩ := gd_s hf
                refine va_iast hx hb hE.1 hP hD hS 2 0 rfl rfl h9 dX10_layGenerations_92 (fun H locs hP hD hS => ?_)
                obtain ⟨g92, h9⟩ : ∃ z, z = (upd m_generation_33 v2_33.toNatClampNeg v3_86) := ⟨_, rfl⟩
                have hf := lb_e h9 hf
                have hP : va_P (dC, dI) vwCl [(ad 0, .inr (10, oM ad m_undoCount m_thrown m_hasSnapshot a_m_fam m_rows m_lineLength m_formattedLength m_bufferLength m_limit m_next m_beginsAt m_token m_error m_errorAt m_errorPosition m_nested m_codeCount)), (a_m_fam, .inl (cJ, 130, .inr (.inl m_fam))), ((ad 9), .inl (cI, 16, .inl g92)), ((ad 10), .inl (cI, 12, .inl m_level))] H := by rw [h9]; exact hP
                have hD : va_D A [(ad 0, .inr (10, oM ad m_undoCount m_thrown m_hasSnapshot a_m_fam m_rows m_lineLength m_formattedLength m_bufferLength m_limit m_next m_beginsAt m_token m_error m_errorAt m_errorPosition m_nested m_codeCount)), (a_m_fam, .inl (cJ, 130, .inr (.inl m_fam))), ((ad 9), .inl (cI, 16, .inl g92)), ((ad 10), .inl (cI, 12, .inl m_level))] := by rw [h9]; exact hD
                obtain ⟨t93, h9⟩ : ∃ z : Int32, z = (v2_33 + (1 : Int32)) := ⟨_, rfl⟩
                have hf := lb_e h9 hf
                refine lv_iinc (v := t93) (lv' := [(2, .int t93), (0, .ref (ad 0)), (1, .int (bI v1_86)), (3, .int v3_86)]) hx hb dX10_layGenerations_93 hl (k := 2) rfl (by rw [h9]; rfl) (by decide) rfl (fun ls hl => ?_)
                refine lv_goto (tgt := 33) hx hb dX10_layGenerations_96 (by decide) ?_
                exact ih33 v1_86 t93 g92 ex33 H locs ls hf hk33 hP hD hS (lv_sub hl [1, 2, 0] rfl)
              have J80 : ∀ (v3_80 : Int32) (H : Heap) (locs : List Loc) (ls : Array Slot), p10_layGenerations_J80 (p10_layGenerations_L33 m_fam n33) m_generation_33 v2_33 v3_80 = some ex33 → va_P (dC, dI) vwCl [(ad 0, .inr (10, oM ad m_undoCount m_thrown m_hasSnapshot a_m_fam m_rows m_lineLength m_formattedLength m_bufferLength m_limit m_next m_beginsAt m_token m_error m_errorAt m_errorPosition m_nested m_codeCount)), (a_m_fam, .inl (cJ, 130, .inr (.inl m_fam))), ((ad 9), .inl (cI, 16, .inl m_generation_33)), ((ad 10), .inl (cI, 12, .inl m_level))] H → va_D A [(ad 0, .inr (10, oM ad m_undoCount m_thrown m_hasSnapshot a_m_fam m_rows m_lineLength m_formattedLength m_bufferLength m_limit m_next m_beginsAt m_token m_error m_errorAt m_errorPosition m_nested m_codeCount)), (a_m_fam, .inl (cJ, 130, .inr (.inl m_fam))), ((ad 9), .inl (cI, 16, .inl m_generation_33)), ((ad 10), .inl (cI, 12, .inl m_level))] → va_S A s.heap H locs → lv_has ls 4 [(0, .ref (ad 0)), (2, .int v2_33), (3, .int v3_80)] → W p l e ({ frames := 2, cells := 0, slots := 0, locals := 43 }) s m ([.ref (ad 0)] : List Value).toArray below meth c H locs 0 0 (MQ below (gQ dC dI none A [(ad 0, .inr (10, oM ad m_undoCount m_thrown m_hasSnapshot a_m_fam m_rows_9 m_lineLength m_formattedLength m_bufferLength m_limit m_next m_beginsAt m_token m_error m_errorAt m_errorPosition m_nested m_codeCount)), (a_m_fam, .inl (cJ, 130, .inr (.inl m_fam))), ((ad 9), .inl (cI, 16, .inl m_generation_9)), ((ad 10), .inl (cI, 12, .inl m_level_9))]) ([.ref (ad 0)] : List Value).toArray s 0 0 A) (F0 m 80 ls []) := by
                intro v3_80 H locs ls hf hP hD hS hl
                rw [p10_layGenerations_J80] at hf
                refine lv_iconst (v := 1) hx hb dX10_layGenerations_80 (by decide) ?_
                refine lv_goto (tgt := 85) hx hb dX10_layGenerations_81 (by decide) ?_
                refine lv_istore_n (lv' := [(1, .int (1 : Int32)), (0, .ref (ad 0)), (2, .int v2_33), (3, .int v3_80)]) hx hb dX10_layGenerations_85 rfl hl (by decide) rfl (fun ls hl => ?_)
                exact J86 true v3_80 H locs ls hf hP hD hS (lv_sub hl [1, 0, 2, 3] rfl)
              have J66 : ∀ (v3_66 : Int32) (H : Heap) (locs : List Loc) (ls : Array Slot), p10_layGenerations_J66 (p10_layGenerations_L33 m_fam n33) m_generation_33 v1_33 v2_33 v3_66 = some ex33 → va_P (dC, dI) vwCl [(ad 0, .inr (10, oM ad m_undoCount m_thrown m_hasSnapshot a_m_fam m_rows m_lineLength m_formattedLength m_bufferLength m_limit m_next m_beginsAt m_token m_error m_errorAt m_errorPosition m_nested m_codeCount)), (a_m_fam, .inl (cJ, 130, .inr (.inl m_fam))), ((ad 9), .inl (cI, 16, .inl m_generation_33)), ((ad 10), .inl (cI, 12, .inl m_level))] H → va_D A [(ad 0, .inr (10, oM ad m_undoCount m_thrown m_hasSnapshot a_m_fam m_rows m_lineLength m_formattedLength m_bufferLength m_limit m_next m_beginsAt m_token m_error m_errorAt m_errorPosition m_nested m_codeCount)), (a_m_fam, .inl (cJ, 130, .inr (.inl m_fam))), ((ad 9), .inl (cI, 16, .inl m_generation_33)), ((ad 10), .inl (cI, 12, .inl m_level))] → va_S A s.heap H locs → lv_has ls 4 [(0, .ref (ad 0)), (1, .int (bI v1_33)), (2, .int v2_33), (3, .int v3_66)] → W p l e ({ frames := 2, cells := 0, slots := 0, locals := 43 }) s m ([.ref (ad 0)] : List Value).toArray below meth c H locs 0 0 (MQ below (gQ dC dI none A [(ad 0, .inr (10, oM ad m_undoCount m_thrown m_hasSnapshot a_m_fam m_rows_9 m_lineLength m_formattedLength m_bufferLength m_limit m_next m_beginsAt m_token m_error m_errorAt m_errorPosition m_nested m_codeCount)), (a_m_fam, .inl (cJ, 130, .inr (.inl m_fam))), ((ad 9), .inl (cI, 16, .inl m_generation_9)), ((ad 10), .inl (cI, 12, .inl m_level_9))]) ([.ref (ad 0)] : List Value).toArray s 0 0 A) (F0 m 66 ls []) := by
                intro v3_66 H locs ls hf hP hD hS hl
                rw [p10_layGenerations_J66] at hf
                refine lv_iload_n hx hb dX10_layGenerations_66 rfl (lv_at hl 1 rfl) ?_
                refine lv_if_ne (tgt := 80) hx hb dX10_layGenerations_67 (by decide) (fun h9 => ?_) (fun h9 => ?_)
                · have hf := ctt (bI_1 h9) hf
                  exact J80 v3_66 H locs ls hf hP hD hS (lv_sub hl [0, 2, 3] rfl)
                · have hf := ctf (bI_0 h9) hf
                  refine lv_iload_n hx hb dX10_layGenerations_70 rfl (lv_at hl 3 rfl) ?_
                  refine lv_aload_n hx hb dX10_layGenerations_71 rfl (lv_at hl 0 rfl) ?_
                  refine va_get (D := (dC, dI)) (ci := 10) (v := .ref (ad 9)) (C := RX10) (T := TX10) (N := 37) hx hb htg inX10 hown hE.1 hP 0 rfl rfl 8 (by decide) (htg _ tw1390) (fun _ h9 => h9) rfl dX10_layGenerations_72 ?_
                  refine lv_iload_n hx hb dX10_layGenerations_75 rfl (lv_at hl 2 rfl) ?_
                  obtain ⟨h9, hf⟩ := gd_s hf
                  refine va_iald hx hb hE.1 hP 2 0 rfl rfl h9 dX10_layGenerations_76 ?_
                  refine lv_icmp_eq (tgt := 84) hx hb dX10_layGenerations_77 (by decide) (fun h9 => ?_) (fun h9 => ?_)
                  · have hf := itt h9 hf
                    refine lv_iconst (v := 0) hx hb dX10_layGenerations_84 (by decide) ?_
                    refine lv_istore_n (lv' := [(1, .int (0 : Int32)), (0, .ref (ad 0)), (2, .int v2_33), (3, .int v3_66)]) hx hb dX10_layGenerations_85 rfl hl (by decide) rfl (fun ls hl => ?_)
                    exact J86 false v3_66 H locs ls hf hP hD hS (lv_sub hl [1, 0, 2, 3] rfl)
                  · have hf := itf h9 hf
                    exact J80 v3_66 H locs ls hf hP hD hS (lv_sub hl [0, 2, 3] rfl)
              refine lv_iload_n hx hb dX10_layGenerations_33 rfl (lv_at hl 2 rfl) ?_
              refine lv_aload_n hx hb dX10_layGenerations_34 rfl (lv_at hl 0 rfl) ?_
              obtain ⟨r35, h9, hf⟩ := ob_s hf
              refine gcV (index := 121) S hE (c_X10_persons ad a_m_fam m_undoCount m_thrown m_hasSnapshot m_rows m_lineLength m_formattedLength m_bufferLength m_limit m_next m_beginsAt m_token m_error m_errorAt m_errorPosition m_nested m_codeCount m_fam r35 h9) mX10_persons tw1511 ⟨Nat.le_of_ble_eq_true rfl, Nat.le_of_ble_eq_true rfl⟩ hP hD hS hA ⟨Nat.zero_le _, Nat.zero_le _⟩ 0 10 rfl rfl rfl (wr := [((ad 9), .inl (cI, 16, .inl m_generation_33)), ((ad 10), .inl (cI, 12, .inl m_level))]) [0, 1] [2, 3] rfl rfl rfl rfl (by decide) (As := []) (rest := [.int v2_33]) rfl hl.1 rfl (Nat.le_of_ble_eq_true rfl) dX10_layGenerations_35 (fun H locs hP hD hS => ?_)
              refine W.eq (g2 := F0 m 38 ls [.int r35, .int v2_33]) rfl ?_
              have hP : va_P (dC, dI) vwCl [((ad 9), .inl (cI, 16, .inl m_generation_33)), ((ad 10), .inl (cI, 12, .inl m_level)), (ad 0, .inr (10, oM ad m_undoCount m_thrown m_hasSnapshot a_m_fam m_rows m_lineLength m_formattedLength m_bufferLength m_limit m_next m_beginsAt m_token m_error m_errorAt m_errorPosition m_nested m_codeCount)), (a_m_fam, .inl (cJ, 130, .inr (.inl m_fam)))] H := hP
              have hD : va_D A [((ad 9), .inl (cI, 16, .inl m_generation_33)), ((ad 10), .inl (cI, 12, .inl m_level)), (ad 0, .inr (10, oM ad m_undoCount m_thrown m_hasSnapshot a_m_fam m_rows m_lineLength m_formattedLength m_bufferLength m_limit m_next m_beginsAt m_token m_error m_errorAt m_errorPosition m_nested m_codeCount)), (a_m_fam, .inl (cJ, 130, .inr (.inl m_fam)))] := hD
              refine lv_icmp_ge (tgt := 99) hx hb dX10_layGenerations_38 (by decide) (fun h9 => ?_) (fun h9 => ?_)
              · have hf := itt h9 hf
                cases hf
                have hf := hk33
                have hf := uc2_e hf
                exact J99 v1_33 m_generation_33 H locs ls hf (hP.sub [2, 3, 0, 1] rfl) (hD.sub [2, 3, 0, 1] (by decide) rfl) hS (lv_sub hl [0, 1] rfl)
              · have hf := itf h9 hf
                refine lv_aload_n hx hb dX10_layGenerations_41 rfl (lv_at hl 0 rfl) ?_
                refine lv_iload_n hx hb dX10_layGenerations_42 rfl (lv_at hl 2 rfl) ?_
                obtain ⟨r43, h9, hf⟩ := ob_s hf
                refine gcV (index := 117) S hE (c_X10_parentsOf ad a_m_fam m_undoCount m_thrown m_hasSnapshot m_rows m_lineLength m_formattedLength m_bufferLength m_limit m_next m_beginsAt m_token m_error m_errorAt m_errorPosition m_nested m_codeCount m_fam v2_33 r43 h9) mX10_parentsOf tw1515 ⟨Nat.le_of_ble_eq_true rfl, Nat.le_of_ble_eq_true rfl⟩ hP hD hS hA ⟨Nat.zero_le _, Nat.zero_le _⟩ 2 10 rfl rfl rfl (wr := [((ad 9), .inl (cI, 16, .inl m_generation_33)), ((ad 10), .inl (cI, 12, .inl m_level))]) [2, 3] [0, 1] rfl rfl rfl rfl (by decide) (As := [.int v2_33]) (rest := []) rfl hl.1 rfl (Nat.le_of_ble_eq_true rfl) dX10_layGenerations_43 (fun H locs hP hD hS => ?_)
                refine W.eq (g2 := F0 m 46 ls [.int r43]) rfl ?_
                have hP : va_P (dC, dI) vwCl [((ad 9), .inl (cI, 16, .inl m_generation_33)), ((ad 10), .inl (cI, 12, .inl m_level)), (ad 0, .inr (10, oM ad m_undoCount m_thrown m_hasSnapshot a_m_fam m_rows m_lineLength m_formattedLength m_bufferLength m_limit m_next m_beginsAt m_token m_error m_errorAt m_errorPosition m_nested m_codeCount)), (a_m_fam, .inl (cJ, 130, .inr (.inl m_fam)))] H := hP
                have hD : va_D A [((ad 9), .inl (cI, 16, .inl m_generation_33)), ((ad 10), .inl (cI, 12, .inl m_level)), (ad 0, .inr (10, oM ad m_undoCount m_thrown m_hasSnapshot a_m_fam m_rows m_lineLength m_formattedLength m_bufferLength m_limit m_next m_beginsAt m_token m_error m_errorAt m_errorPosition m_nested m_codeCount)), (a_m_fam, .inl (cJ, 130, .inr (.inl m_fam)))] := hD
                refine lv_iconst (v := -1) hx hb dX10_layGenerations_46 (by decide) ?_
                refine lv_icmp_ne (tgt := 54) hx hb dX10_layGenerations_47 (by decide) (fun h9 => ?_) (fun h9 => ?_)
                · have hf := itf h9 hf
                  refine lv_aload_n hx hb dX10_layGenerations_54 rfl (lv_at hl 0 rfl) ?_
                  refine lv_aload_n hx hb dX10_layGenerations_55 rfl (lv_at hl 0 rfl) ?_
                  refine lv_iload_n hx hb dX10_layGenerations_56 rfl (lv_at hl 2 rfl) ?_
                  obtain ⟨r57, h9, hf⟩ := ob_s hf
                  refine gcV (index := 117) S hE (c_X10_parentsOf ad a_m_fam m_undoCount m_thrown m_hasSnapshot m_rows m_lineLength m_formattedLength m_bufferLength m_limit m_next m_beginsAt m_token m_error m_errorAt m_errorPosition m_nested m_codeCount m_fam v2_33 r57 h9) mX10_parentsOf tw1515 ⟨Nat.le_of_ble_eq_true rfl, Nat.le_of_ble_eq_true rfl⟩ hP hD hS hA ⟨Nat.zero_le _, Nat.zero_le _⟩ 2 10 rfl rfl rfl (wr := [((ad 9), .inl (cI, 16, .inl m_generation_33)), ((ad 10), .inl (cI, 12, .inl m_level))]) [2, 3] [0, 1] rfl rfl rfl rfl (by decide) (As := [.int v2_33]) (rest := [.ref (ad 0)]) rfl hl.1 rfl (Nat.le_of_ble_eq_true rfl) dX10_layGenerations_57 (fun H locs hP hD hS => ?_)
                  refine W.eq (g2 := F0 m 60 ls [.int r57, .ref (ad 0)]) rfl ?_
                  have hP : va_P (dC, dI) vwCl [((ad 9), .inl (cI, 16, .inl m_generation_33)), ((ad 10), .inl (cI, 12, .inl m_level)), (ad 0, .inr (10, oM ad m_undoCount m_thrown m_hasSnapshot a_m_fam m_rows m_lineLength m_formattedLength m_bufferLength m_limit m_next m_beginsAt m_token m_error m_errorAt m_errorPosition m_nested m_codeCount)), (a_m_fam, .inl (cJ, 130, .inr (.inl m_fam)))] H := hP
                  have hD : va_D A [((ad 9), .inl (cI, 16, .inl m_generation_33)), ((ad 10), .inl (cI, 12, .inl m_level)), (ad 0, .inr (10, oM ad m_undoCount m_thrown m_hasSnapshot a_m_fam m_rows m_lineLength m_formattedLength m_bufferLength m_limit m_next m_beginsAt m_token m_error m_errorAt m_errorPosition m_nested m_codeCount)), (a_m_fam, .inl (cJ, 130, .inr (.inl m_fam)))] := hD
                  obtain ⟨r60, h9, hf⟩ := ob_s hf
                  refine gcV (index := 129) S hE (c_X10_levelOf ad a_m_fam m_undoCount m_thrown m_hasSnapshot m_rows m_lineLength m_formattedLength m_bufferLength m_limit m_next m_beginsAt m_token m_error m_errorAt m_errorPosition m_nested m_codeCount m_fam m_generation_33 r57 r60 h9) mX10_levelOf tw1523 ⟨Nat.le_of_ble_eq_true rfl, Nat.le_of_ble_eq_true rfl⟩ hP hD hS hA ⟨Nat.zero_le _, Nat.zero_le _⟩ 2 10 rfl rfl rfl (wr := [((ad 10), .inl (cI, 12, .inl m_level))]) [2, 3, 0] [1] rfl rfl rfl rfl (by decide) (As := [.int r57]) (rest := []) rfl hl.1 rfl (Nat.le_of_ble_eq_true rfl) dX10_layGenerations_60 (fun H locs hP hD hS => ?_)
                  refine W.eq (g2 := F0 m 63 ls [.int r60]) rfl ?_
                  have hP : va_P (dC, dI) vwCl [((ad 10), .inl (cI, 12, .inl m_level)), (ad 0, .inr (10, oM ad m_undoCount m_thrown m_hasSnapshot a_m_fam m_rows m_lineLength m_formattedLength m_bufferLength m_limit m_next m_beginsAt m_token m_error m_errorAt m_errorPosition m_nested m_codeCount)), (a_m_fam, .inl (cJ, 130, .inr (.inl m_fam))), ((ad 9), .inl (cI, 16, .inl m_generation_33))] H := hP
                  have hD : va_D A [((ad 10), .inl (cI, 12, .inl m_level)), (ad 0, .inr (10, oM ad m_undoCount m_thrown m_hasSnapshot a_m_fam m_rows m_lineLength m_formattedLength m_bufferLength m_limit m_next m_beginsAt m_token m_error m_errorAt m_errorPosition m_nested m_codeCount)), (a_m_fam, .inl (cJ, 130, .inr (.inl m_fam))), ((ad 9), .inl (cI, 16, .inl m_generation_33))] := hD
                  refine lv_iconst (v := 1) hx hb dX10_layGenerations_63 (by decide) ?_
                  refine lv_iadd hx hb dX10_layGenerations_64 ?_
                  refine lv_topi (fun t65 h9 => ?_)
                  have hf := lb_e h9 hf
                  refine lv_istore_n (lv' := [(3, .int t65), (0, .ref (ad 0)), (1, .int (bI v1_33)), (2, .int v2_33)]) hx hb dX10_layGenerations_65 rfl hl (by decide) rfl (fun ls hl => ?_)
                  exact J66 t65 H locs ls hf (hP.sub [1, 2, 3, 0] rfl) (hD.sub [1, 2, 3, 0] (by decide) rfl) hS (lv_sub hl [1, 2, 3, 0] rfl)
                · have hf := itt h9 hf
                  refine lv_iconst (v := 0) hx hb dX10_layGenerations_50 (by decide) ?_
                  refine lv_goto (tgt := 65) hx hb dX10_layGenerations_51 (by decide) ?_
                  refine lv_istore_n (lv' := [(3, .int (0 : Int32)), (0, .ref (ad 0)), (1, .int (bI v1_33)), (2, .int v2_33)]) hx hb dX10_layGenerations_65 rfl hl (by decide) rfl (fun ls hl => ?_)
                  exact J66 (0 : Int32) H locs ls hf (hP.sub [2, 3, 0, 1] rfl) (hD.sub [2, 3, 0, 1] (by decide) rfl) hS (lv_sub hl [1, 2, 3, 0] rfl)
          obtain ⟨ex, h9, hf⟩ := ob_s hf
          exact K33 FU false (0 : Int32) m_generation_25 ex H locs ls h9 hf hP hD hS (lv_sub hl [2, 1, 0] rfl)
    obtain ⟨ex, h9, hf⟩ := ob_s hf
    exact K25 FU true m_generation_23 ex H locs ls h9 hf hP hD hS (lv_sub hl [1, 0] rfl)
  refine lv_iconst (v := 0) hx hb dX10_layGenerations_0 (by decide) ?_
  refine lv_istore_n (lv' := [(1, .int (0 : Int32)), (0, .ref (ad 0))]) hx hb dX10_layGenerations_1 rfl hl (by decide) rfl (fun ls hl => ?_)
  have K2 : ∀ (n2 : Nat) (v1_2 : Int32) (m_generation_2 : Nat → Int32) (ex2 : (Nat → Int32)) (H : Heap) (locs : List Loc) (ls : Array Slot), p10_layGenerations_L2 m_fam n2 v1_2 m_generation_2 = some ex2 → (fun m_generation_x2 => p10_layGenerations_J23 m_fam m_level m_generation_x2) ex2 = some (m_generation_9, m_level_9, m_rows_9) → va_P (dC, dI) vwCl [(ad 0, .inr (10, oM ad m_undoCount m_thrown m_hasSnapshot a_m_fam m_rows m_lineLength m_formattedLength m_bufferLength m_limit m_next m_beginsAt m_token m_error m_errorAt m_errorPosition m_nested m_codeCount)), (a_m_fam, .inl (cJ, 130, .inr (.inl m_fam))), ((ad 9), .inl (cI, 16, .inl m_generation_2)), ((ad 10), .inl (cI, 12, .inl m_level))] H → va_D A [(ad 0, .inr (10, oM ad m_undoCount m_thrown m_hasSnapshot a_m_fam m_rows m_lineLength m_formattedLength m_bufferLength m_limit m_next m_beginsAt m_token m_error m_errorAt m_errorPosition m_nested m_codeCount)), (a_m_fam, .inl (cJ, 130, .inr (.inl m_fam))), ((ad 9), .inl (cI, 16, .inl m_generation_2)), ((ad 10), .inl (cI, 12, .inl m_level))] → va_S A s.heap H locs → lv_has ls 4 [(0, .ref (ad 0)), (1, .int v1_2)] → W p l e ({ frames := 2, cells := 0, slots := 0, locals := 43 }) s m ([.ref (ad 0)] : List Value).toArray below meth c H locs 0 0 (MQ below (gQ dC dI none A [(ad 0, .inr (10, oM ad m_undoCount m_thrown m_hasSnapshot a_m_fam m_rows_9 m_lineLength m_formattedLength m_bufferLength m_limit m_next m_beginsAt m_token m_error m_errorAt m_errorPosition m_nested m_codeCount)), (a_m_fam, .inl (cJ, 130, .inr (.inl m_fam))), ((ad 9), .inl (cI, 16, .inl m_generation_9)), ((ad 10), .inl (cI, 12, .inl m_level_9))]) ([.ref (ad 0)] : List Value).toArray s 0 0 A) (F0 m 2 ls []) := by
    intro n2
    induction n2 with
    | zero => intro v1_2 m_generation_2 ex2 H locs ls hf; rw [p10_layGenerations_L2] at hf; cases hf
    | succ n2 ih2 =>
      intro v1_2 m_generation_2 ex2 H locs ls hf hk2 hP hD hS hl
      rw [p10_layGenerations_L2, p10_layGenerations_L2_B] at hf
      refine lv_iload_n hx hb dX10_layGenerations_2 rfl (lv_at hl 1 rfl) ?_
      refine lv_aload_n hx hb dX10_layGenerations_3 rfl (lv_at hl 0 rfl) ?_
      obtain ⟨r4, h9, hf⟩ := ob_s hf
      refine gcV (index := 121) S hE (c_X10_persons ad a_m_fam m_undoCount m_thrown m_hasSnapshot m_rows m_lineLength m_formattedLength m_bufferLength m_limit m_next m_beginsAt m_token m_error m_errorAt m_errorPosition m_nested m_codeCount m_fam r4 h9) mX10_persons tw1511 ⟨Nat.le_of_ble_eq_true rfl, Nat.le_of_ble_eq_true rfl⟩ hP hD hS hA ⟨Nat.zero_le _, Nat.zero_le _⟩ 0 10 rfl rfl rfl (wr := [((ad 9), .inl (cI, 16, .inl m_generation_2)), ((ad 10), .inl (cI, 12, .inl m_level))]) [0, 1] [2, 3] rfl rfl rfl rfl (by decide) (As := []) (rest := [.int v1_2]) rfl hl.1 rfl (Nat.le_of_ble_eq_true rfl) dX10_layGenerations_4 (fun H locs hP hD hS => ?_)
      refine W.eq (g2 := F0 m 7 ls [.int r4, .int v1_2]) rfl ?_
      have hP : va_P (dC, dI) vwCl [((ad 9), .inl (cI, 16, .inl m_generation_2)), ((ad 10), .inl (cI, 12, .inl m_level)), (ad 0, .inr (10, oM ad m_undoCount m_thrown m_hasSnapshot a_m_fam m_rows m_lineLength m_formattedLength m_bufferLength m_limit m_next m_beginsAt m_token m_error m_errorAt m_errorPosition m_nested m_codeCount)), (a_m_fam, .inl (cJ, 130, .inr (.inl m_fam)))] H := hP
      have hD : va_D A [((ad 9), .inl (cI, 16, .inl m_generation_2)), ((ad 10), .inl (cI, 12, .inl m_level)), (ad 0, .inr (10, oM ad m_undoCount m_thrown m_hasSnapshot a_m_fam m_rows m_lineLength m_formattedLength m_bufferLength m_limit m_next m_beginsAt m_token m_error m_errorAt m_errorPosition m_nested m_codeCount)), (a_m_fam, .inl (cJ, 130, .inr (.inl m_fam)))] := hD
      refine lv_icmp_ge (tgt := 23) hx hb dX10_layGenerations_7 (by decide) (fun h9 => ?_) (fun h9 => ?_)
      · have hf := itt h9 hf
        cases hf
        have hf := hk2
        exact J23 m_generation_2 H locs ls hf (hP.sub [2, 3, 0, 1] rfl) (hD.sub [2, 3, 0, 1] (by decide) rfl) hS (lv_sub hl [0] rfl)
      · have hf := itf h9 hf
        refine lv_aload_n hx hb dX10_layGenerations_10 rfl (lv_at hl 0 rfl) ?_
        refine va_get (D := (dC, dI)) (ci := 10) (v := .ref (ad 9)) (C := RX10) (T := TX10) (N := 37) hx hb htg inX10 hown hE.1 hP 2 rfl rfl 8 (by decide) (htg _ tw1390) (fun _ h9 => h9) rfl dX10_layGenerations_11 ?_
        refine lv_iload_n hx hb dX10_layGenerations_14 rfl (lv_at hl 1 rfl) ?_
        refine lv_iconst (v := 0) hx hb dX10_layGenerations_15 (by decide) ?_
        obtain ⟨h9, hf⟩ := gd_s hf
        refine va_iast hx hb hE.1 hP hD hS 0 0 rfl rfl h9 dX10_layGenerations_16 (fun H locs hP hD hS => ?_)
        obtain ⟨g16, h9⟩ : ∃ z, z = (upd m_generation_2 v1_2.toNatClampNeg (0 : Int32)) := ⟨_, rfl⟩
        have hf := lb_e h9 hf
        have hP : va_P (dC, dI) vwCl [((ad 9), .inl (cI, 16, .inl g16)), ((ad 10), .inl (cI, 12, .inl m_level)), (ad 0, .inr (10, oM ad m_undoCount m_thrown m_hasSnapshot a_m_fam m_rows m_lineLength m_formattedLength m_bufferLength m_limit m_next m_beginsAt m_token m_error m_errorAt m_errorPosition m_nested m_codeCount)), (a_m_fam, .inl (cJ, 130, .inr (.inl m_fam)))] H := by rw [h9]; exact hP
        have hD : va_D A [((ad 9), .inl (cI, 16, .inl g16)), ((ad 10), .inl (cI, 12, .inl m_level)), (ad 0, .inr (10, oM ad m_undoCount m_thrown m_hasSnapshot a_m_fam m_rows m_lineLength m_formattedLength m_bufferLength m_limit m_next m_beginsAt m_token m_error m_errorAt m_errorPosition m_nested m_codeCount)), (a_m_fam, .inl (cJ, 130, .inr (.inl m_fam)))] := by rw [h9]; exact hD
        obtain ⟨t17, h9⟩ : ∃ z : Int32, z = (v1_2 + (1 : Int32)) := ⟨_, rfl⟩
        have hf := lb_e h9 hf
        refine lv_iinc (v := t17) (lv' := [(1, .int t17), (0, .ref (ad 0))]) hx hb dX10_layGenerations_17 hl (k := 1) rfl (by rw [h9]; rfl) (by decide) rfl (fun ls hl => ?_)
        refine lv_goto (tgt := 2) hx hb dX10_layGenerations_20 (by decide) ?_
        exact ih2 t17 g16 ex2 H locs ls hf hk2 (hP.sub [2, 3, 0, 1] rfl) (hD.sub [2, 3, 0, 1] (by decide) rfl) hS (lv_sub hl [1, 0] rfl)
  obtain ⟨ex, h9, hf⟩ := ob_s hf
  exact K2 FU (0 : Int32) m_generation ex H locs ls h9 hf hP hD hS (lv_sub hl [1, 0] rfl)
set_option maxHeartbeats 4000000 in
set_option maxRecDepth 100000 in
theorem c_X10_referred (ad : Nat → Nat) (a_m_fam : Nat) (m_undoCount : Int32) (m_thrown : Int32) (m_hasSnapshot : Bool) (m_rows : Int32) (m_lineLength : Int32) (m_formattedLength : Int32) (m_bufferLength : Int32) (m_limit : Int32) (m_next : Int32) (m_beginsAt : Int32) (m_token : Int32) (m_error : Int32) (m_errorAt : Int32) (m_errorPosition : Int32) (m_nested : Int32) (m_codeCount : Int32) (m_fam : Nat → Int64) (m_generation : Nat → Int32) (m_level : Nat → Int32) (v1 : Int32) (r9 : Int32) (hf : p10_referred m_fam m_generation m_level v1 = some r9) : gM l dC dI cI cJ cZ yX10_referred cX10_referred 4 (some .int) (1) (22) [.ref (ad 0), .int v1] [(ad 0, .inr (10, oM ad m_undoCount m_thrown m_hasSnapshot a_m_fam m_rows m_lineLength m_formattedLength m_bufferLength m_limit m_next m_beginsAt m_token m_error m_errorAt m_errorPosition m_nested m_codeCount)), (a_m_fam, .inl (cJ, 130, .inr (.inl m_fam))), ((ad 9), .inl (cI, 16, .inl m_generation)), ((ad 10), .inl (cI, 12, .inl m_level))] [(ad 0, .inr (10, oM ad m_undoCount m_thrown m_hasSnapshot a_m_fam m_rows m_lineLength m_formattedLength m_bufferLength m_limit m_next m_beginsAt m_token m_error m_errorAt m_errorPosition m_nested m_codeCount)), (a_m_fam, .inl (cJ, 130, .inr (.inl m_fam))), ((ad 9), .inl (cI, 16, .inl m_generation)), ((ad 10), .inl (cI, 12, .inl m_level))] (some (.int r9)) := by
  refine g_start (own := RX10) (by decide +kernel) rfl (Nat.le_of_ble_eq_true rfl) ?_
  intro p e s m below meth c A ls S hr hlocks hE hP hD hS hA hl hin
  have hx := S.1
  have hb := S.2.1
  have hml := S.2.2.1
  have hown := S.2.2.2.1
  have htg : ∀ z ∈ gw, z.before ([.ref (ad 0), .int v1] : List Value).toArray s = true := fun w h => S.2.2.2.2 w (List.mem_cons_of_mem _ h)
  have hl : lv_has ls 4 [(0, .ref (ad 0)), (1, .int v1)] := hl
  have hS0 := hS
  obtain ⟨H, hH⟩ : ∃ H, H = s.heap := ⟨_, rfl⟩
  obtain ⟨locs, hlc⟩ : ∃ locs : List Loc, locs = [] := ⟨_, rfl⟩
  have hS : va_S A s.heap H locs := by rw [hH, hlc]; exact hS0
  have hP : va_P (dC, dI) vwCl [(ad 0, .inr (10, oM ad m_undoCount m_thrown m_hasSnapshot a_m_fam m_rows m_lineLength m_formattedLength m_bufferLength m_limit m_next m_beginsAt m_token m_error m_errorAt m_errorPosition m_nested m_codeCount)), (a_m_fam, .inl (cJ, 130, .inr (.inl m_fam))), ((ad 9), .inl (cI, 16, .inl m_generation)), ((ad 10), .inl (cI, 12, .inl m_level))] H := by rw [hH]; exact hP
  suffices hgo : W p l e ({ frames := 1, cells := 0, slots := 0, locals := 22 }) s m ([.ref (ad 0), .int v1] : List Value).toArray below meth c H locs 0 0 (MQ below (gQ dC dI (some (.int r9)) A [(ad 0, .inr (10, oM ad m_undoCount m_thrown m_hasSnapshot a_m_fam m_rows m_lineLength m_formattedLength m_bufferLength m_limit m_next m_beginsAt m_token m_error m_errorAt m_errorPosition m_nested m_codeCount)), (a_m_fam, .inl (cJ, 130, .inr (.inl m_fam))), ((ad 9), .inl (cI, 16, .inl m_generation)), ((ad 10), .inl (cI, 12, .inl m_level))]) ([.ref (ad 0), .int v1] : List Value).toArray s 0 0 A) (F0 m 0 ls []) by rw [hH, hlc] at hgo; exact hgo
  rw [p10_referred] at hf
  refine lv_aload_n hx hb dX10_referred_0 rfl (lv_at hl 0 rfl) ?_
  refine lv_iload_n hx hb dX10_referred_1 rfl (lv_at hl 1 rfl) ?_
  refine lv_iconst (v := 0) hx hb dX10_referred_2 (by decide) ?_
  obtain ⟨r3, h9, hf⟩ := ob_s hf
  refine gcV (index := 102) S hE (c_X10_partner ad a_m_fam m_undoCount m_thrown m_hasSnapshot m_rows m_lineLength m_formattedLength m_bufferLength m_limit m_next m_beginsAt m_token m_error m_errorAt m_errorPosition m_nested m_codeCount m_fam v1 (0 : Int32) r3 h9) mX10_partner tw1527 ⟨Nat.le_of_ble_eq_true rfl, Nat.le_of_ble_eq_true rfl⟩ hP hD hS hA ⟨Nat.zero_le _, Nat.zero_le _⟩ 0 10 rfl rfl rfl (wr := [((ad 9), .inl (cI, 16, .inl m_generation)), ((ad 10), .inl (cI, 12, .inl m_level))]) [0, 1] [2, 3] rfl rfl rfl rfl (by decide) (As := [.int v1, .int (0 : Int32)]) (rest := []) rfl hl.1 rfl (Nat.le_of_ble_eq_true rfl) dX10_referred_3 (fun H locs hP hD hS => ?_)
  refine W.eq (g2 := F0 m 6 ls [.int r3]) rfl ?_
  have hP : va_P (dC, dI) vwCl [((ad 9), .inl (cI, 16, .inl m_generation)), ((ad 10), .inl (cI, 12, .inl m_level)), (ad 0, .inr (10, oM ad m_undoCount m_thrown m_hasSnapshot a_m_fam m_rows m_lineLength m_formattedLength m_bufferLength m_limit m_next m_beginsAt m_token m_error m_errorAt m_errorPosition m_nested m_codeCount)), (a_m_fam, .inl (cJ, 130, .inr (.inl m_fam)))] H := hP
  have hD : va_D A [((ad 9), .inl (cI, 16, .inl m_generation)), ((ad 10), .inl (cI, 12, .inl m_level)), (ad 0, .inr (10, oM ad m_undoCount m_thrown m_hasSnapshot a_m_fam m_rows m_lineLength m_formattedLength m_bufferLength m_limit m_next m_beginsAt m_token m_error m_errorAt m_errorPosition m_nested m_codeCount)), (a_m_fam, .inl (cJ, 130, .inr (.inl m_fam)))] := hD
  refine lv_istore_n (lv' := [(2, .int r3), (0, .ref (ad 0)), (1, .int v1)]) hx hb dX10_referred_6 rfl hl (by decide) rfl (fun ls hl => ?_)
  refine lv_aload_n hx hb dX10_referred_7 rfl (lv_at hl 1 rfl) ?_
  refine lv_iload_n hx hb dX10_referred_8 rfl (lv_at hl 2 rfl) ?_
  refine lv_iconst (v := 1) hx hb dX10_referred_9 (by decide) ?_
  obtain ⟨r10, h9, hf⟩ := ob_s hf
  refine gcV (index := 102) S hE (c_X10_partner ad a_m_fam m_undoCount m_thrown m_hasSnapshot m_rows m_lineLength m_formattedLength m_bufferLength m_limit m_next m_beginsAt m_token m_error m_errorAt m_errorPosition m_nested m_codeCount m_fam v1 (1 : Int32) r10 h9) mX10_partner tw1527 ⟨Nat.le_of_ble_eq_true rfl, Nat.le_of_ble_eq_true rfl⟩ hP hD hS hA ⟨Nat.zero_le _, Nat.zero_le _⟩ 2 10 rfl rfl rfl (wr := [((ad 9), .inl (cI, 16, .inl m_generation)), ((ad 10), .inl (cI, 12, .inl m_level))]) [2, 3] [0, 1] rfl rfl rfl rfl (by decide) (As := [.int v1, .int (1 : Int32)]) (rest := []) rfl hl.1 rfl (Nat.le_of_ble_eq_true rfl) dX10_referred_10 (fun H locs hP hD hS => ?_)
  refine W.eq (g2 := F0 m 13 ls [.int r10]) rfl ?_
  have hP : va_P (dC, dI) vwCl [((ad 9), .inl (cI, 16, .inl m_generation)), ((ad 10), .inl (cI, 12, .inl m_level)), (ad 0, .inr (10, oM ad m_undoCount m_thrown m_hasSnapshot a_m_fam m_rows m_lineLength m_formattedLength m_bufferLength m_limit m_next m_beginsAt m_token m_error m_errorAt m_errorPosition m_nested m_codeCount)), (a_m_fam, .inl (cJ, 130, .inr (.inl m_fam)))] H := hP
  have hD : va_D A [((ad 9), .inl (cI, 16, .inl m_generation)), ((ad 10), .inl (cI, 12, .inl m_level)), (ad 0, .inr (10, oM ad m_undoCount m_thrown m_hasSnapshot a_m_fam m_rows m_lineLength m_formattedLength m_bufferLength m_limit m_next m_beginsAt m_token m_error m_errorAt m_errorPosition m_nested m_codeCount)), (a_m_fam, .inl (cJ, 130, .inr (.inl m_fam)))] := hD
  refine lv_istore_n (lv' := [(3, .int r10), (2, .int r3), (0, .ref (ad 0)), (1, .int v1)]) hx hb dX10_referred_13 rfl hl (by decide) rfl (fun ls hl => ?_)
  refine lv_aload_n hx hb dX10_referred_14 rfl (lv_at hl 2 rfl) ?_
  refine va_get (D := (dC, dI)) (ci := 10) (v := .ref (ad 9)) (C := RX10) (T := TX10) (N := 37) hx hb htg inX10 hown hE.1 hP 2 rfl rfl 8 (by decide) (htg _ tw1390) (fun _ h9 => h9) rfl dX10_referred_15 ?_
  refine lv_iload_n hx hb dX10_referred_18 rfl (lv_at hl 1 rfl) ?_
  obtain ⟨h9, hf⟩ := gd_s hf
  refine va_iald hx hb hE.1 hP 0 0 rfl rfl h9 dX10_referred_19 ?_
  refine lv_aload_n hx hb dX10_referred_20 rfl (lv_at hl 2 rfl) ?_
  refine va_get (D := (dC, dI)) (ci := 10) (v := .ref (ad 10)) (C := RX10) (T := TX10) (N := 37) hx hb htg inX10 hown hE.1 hP 2 rfl rfl 9 (by decide) (htg _ tw1391) (fun _ h9 => h9) rfl dX10_referred_21 ?_
  refine lv_iload_n hx hb dX10_referred_24 rfl (lv_at hl 3 rfl) ?_
  obtain ⟨h9, hf⟩ := gd_s hf
  refine va_iald hx hb hE.1 hP 1 0 rfl rfl h9 dX10_referred_25 ?_
  refine lv_icmp_ge (tgt := 33) hx hb dX10_referred_26 (by decide) (fun h9 => ?_) (fun h9 => ?_)
  · have hf := itt h9 hf
    refine lv_aload_n hx hb dX10_referred_33 rfl (lv_at hl 2 rfl) ?_
    refine va_get (D := (dC, dI)) (ci := 10) (v := .ref (ad 9)) (C := RX10) (T := TX10) (N := 37) hx hb htg inX10 hown hE.1 hP 2 rfl rfl 8 (by decide) (htg _ tw1390) (fun _ h9 => h9) rfl dX10_referred_34 ?_
    refine lv_iload_n hx hb dX10_referred_37 rfl (lv_at hl 0 rfl) ?_
    obtain ⟨h9, hf⟩ := gd_s hf
    refine va_iald hx hb hE.1 hP 0 0 rfl rfl h9 dX10_referred_38 ?_
    refine lv_aload_n hx hb dX10_referred_39 rfl (lv_at hl 2 rfl) ?_
    refine va_get (D := (dC, dI)) (ci := 10) (v := .ref (ad 10)) (C := RX10) (T := TX10) (N := 37) hx hb htg inX10 hown hE.1 hP 2 rfl rfl 9 (by decide) (htg _ tw1391) (fun _ h9 => h9) rfl dX10_referred_40 ?_
    refine lv_iload_n hx hb dX10_referred_43 rfl (lv_at hl 3 rfl) ?_
    obtain ⟨h9, hf⟩ := gd_s hf
    refine va_iald hx hb hE.1 hP 1 0 rfl rfl h9 dX10_referred_44 ?_
    refine lv_icmp_ge (tgt := 52) hx hb dX10_referred_45 (by decide) (fun h9 => ?_) (fun h9 => ?_)
    · have hf := itt h9 hf
      refine lv_iconst (v := -1) hx hb dX10_referred_52 (by decide) ?_
      cases hf
      exact g_iret S hr hlocks (hP.sub [2, 3, 0, 1] rfl) (hD.sub [2, 3, 0, 1] (by decide) rfl) hS dX10_referred_53
    · have hf := itf h9 hf
      refine lv_iload_n hx hb dX10_referred_48 rfl (lv_at hl 0 rfl) ?_
      refine lv_goto (tgt := 53) hx hb dX10_referred_49 (by decide) ?_
      cases hf
      exact g_iret S hr hlocks (hP.sub [2, 3, 0, 1] rfl) (hD.sub [2, 3, 0, 1] (by decide) rfl) hS dX10_referred_53
  · have hf := itf h9 hf
    refine lv_iload_n hx hb dX10_referred_29 rfl (lv_at hl 1 rfl) ?_
    refine lv_goto (tgt := 53) hx hb dX10_referred_30 (by decide) ?_
    cases hf
    exact g_iret S hr hlocks (hP.sub [2, 3, 0, 1] rfl) (hD.sub [2, 3, 0, 1] (by decide) rfl) hS dX10_referred_53
set_option maxHeartbeats 4000000 in
set_option maxRecDepth 100000 in
theorem c_X10_layBoxes (ad : Nat → Nat) (a_m_fam : Nat) (m_undoCount : Int32) (m_thrown : Int32) (m_hasSnapshot : Bool) (m_rows : Int32) (m_lineLength : Int32) (m_formattedLength : Int32) (m_bufferLength : Int32) (m_limit : Int32) (m_next : Int32) (m_beginsAt : Int32) (m_token : Int32) (m_error : Int32) (m_errorAt : Int32) (m_errorPosition : Int32) (m_nested : Int32) (m_codeCount : Int32) (m_fam : Nat → Int64) (m_generation : Nat → Int32) (m_isThere : Nat → Bool) (m_level : Nat → Int32) (m_rowOf : Nat → Int32) (m_rowSize : Nat → Int32) (m_isThere_9 : Nat → Bool) (m_rowOf_9 : Nat → Int32) (m_rowSize_9 : Nat → Int32) (hf : p10_layBoxes m_fam m_generation m_isThere m_level m_rowOf m_rowSize = some (m_isThere_9, m_rowOf_9, m_rowSize_9)) : gM l dC dI cI cJ cZ yX10_layBoxes cX10_layBoxes 3 none (2) (45) [.ref (ad 0)] [(ad 0, .inr (10, oM ad m_undoCount m_thrown m_hasSnapshot a_m_fam m_rows m_lineLength m_formattedLength m_bufferLength m_limit m_next m_beginsAt m_token m_error m_errorAt m_errorPosition m_nested m_codeCount)), (a_m_fam, .inl (cJ, 130, .inr (.inl m_fam))), ((ad 9), .inl (cI, 16, .inl m_generation)), ((ad 13), .inl (cZ, 28, .inl (bF m_isThere))), ((ad 10), .inl (cI, 12, .inl m_level)), ((ad 12), .inl (cI, 28, .inl m_rowOf)), ((ad 11), .inl (cI, 16, .inl m_rowSize))] [(ad 0, .inr (10, oM ad m_undoCount m_thrown m_hasSnapshot a_m_fam m_rows m_lineLength m_formattedLength m_bufferLength m_limit m_next m_beginsAt m_token m_error m_errorAt m_errorPosition m_nested m_codeCount)), (a_m_fam, .inl (cJ, 130, .inr (.inl m_fam))), ((ad 9), .inl (cI, 16, .inl m_generation)), ((ad 13), .inl (cZ, 28, .inl (bF m_isThere_9))), ((ad 10), .inl (cI, 12, .inl m_level)), ((ad 12), .inl (cI, 28, .inl m_rowOf_9)), ((ad 11), .inl (cI, 16, .inl m_rowSize_9))] none := by
  refine g_start (own := RX10) (by decide +kernel) rfl (Nat.le_of_ble_eq_true rfl) ?_
  intro p e s m below meth c A ls S hr hlocks hE hP hD hS hA hl hin
  have hx := S.1
  have hb := S.2.1
  have hml := S.2.2.1
  have hown := S.2.2.2.1
  have htg : ∀ z ∈ gw, z.before ([.ref (ad 0)] : List Value).toArray s = true := fun w h => S.2.2.2.2 w (List.mem_cons_of_mem _ h)
  have hl : lv_has ls 3 [(0, .ref (ad 0))] := hl
  have hS0 := hS
  obtain ⟨H, hH⟩ : ∃ H, H = s.heap := ⟨_, rfl⟩
  obtain ⟨locs, hlc⟩ : ∃ locs : List Loc, locs = [] := ⟨_, rfl⟩
  have hS : va_S A s.heap H locs := by rw [hH, hlc]; exact hS0
  have hP : va_P (dC, dI) vwCl [(ad 0, .inr (10, oM ad m_undoCount m_thrown m_hasSnapshot a_m_fam m_rows m_lineLength m_formattedLength m_bufferLength m_limit m_next m_beginsAt m_token m_error m_errorAt m_errorPosition m_nested m_codeCount)), (a_m_fam, .inl (cJ, 130, .inr (.inl m_fam))), ((ad 9), .inl (cI, 16, .inl m_generation)), ((ad 13), .inl (cZ, 28, .inl (bF m_isThere))), ((ad 10), .inl (cI, 12, .inl m_level)), ((ad 12), .inl (cI, 28, .inl m_rowOf)), ((ad 11), .inl (cI, 16, .inl m_rowSize))] H := by rw [hH]; exact hP
  suffices hgo : W p l e ({ frames := 2, cells := 0, slots := 0, locals := 45 }) s m ([.ref (ad 0)] : List Value).toArray below meth c H locs 0 0 (MQ below (gQ dC dI none A [(ad 0, .inr (10, oM ad m_undoCount m_thrown m_hasSnapshot a_m_fam m_rows m_lineLength m_formattedLength m_bufferLength m_limit m_next m_beginsAt m_token m_error m_errorAt m_errorPosition m_nested m_codeCount)), (a_m_fam, .inl (cJ, 130, .inr (.inl m_fam))), ((ad 9), .inl (cI, 16, .inl m_generation)), ((ad 13), .inl (cZ, 28, .inl (bF m_isThere_9))), ((ad 10), .inl (cI, 12, .inl m_level)), ((ad 12), .inl (cI, 28, .inl m_rowOf_9)), ((ad 11), .inl (cI, 16, .inl m_rowSize_9))]) ([.ref (ad 0)] : List Value).toArray s 0 0 A) (F0 m 0 ls []) by rw [hH, hlc] at hgo; exact hgo
  rw [p10_layBoxes] at hf
  have J168 : ∀ (m_isThere_168 : Nat → Bool) (m_rowOf_168 : Nat → Int32) (m_rowSize_168 : Nat → Int32) (H : Heap) (locs : List Loc) (ls : Array Slot), p10_layBoxes_J168 m_isThere_168 m_rowOf_168 m_rowSize_168 = some (m_isThere_9, m_rowOf_9, m_rowSize_9) → va_P (dC, dI) vwCl [(ad 0, .inr (10, oM ad m_undoCount m_thrown m_hasSnapshot a_m_fam m_rows m_lineLength m_formattedLength m_bufferLength m_limit m_next m_beginsAt m_token m_error m_errorAt m_errorPosition m_nested m_codeCount)), (a_m_fam, .inl (cJ, 130, .inr (.inl m_fam))), ((ad 9), .inl (cI, 16, .inl m_generation)), ((ad 13), .inl (cZ, 28, .inl (bF m_isThere_168))), ((ad 10), .inl (cI, 12, .inl m_level)), ((ad 12), .inl (cI, 28, .inl m_rowOf_168)), ((ad 11), .inl (cI, 16, .inl m_rowSize_168))] H → va_D A [(ad 0, .inr (10, oM ad m_undoCount m_thrown m_hasSnapshot a_m_fam m_rows m_lineLength m_formattedLength m_bufferLength m_limit m_next m_beginsAt m_token m_error m_errorAt m_errorPosition m_nested m_codeCount)), (a_m_fam, .inl (cJ, 130, .inr (.inl m_fam))), ((ad 9), .inl (cI, 16, .inl m_generation)), ((ad 13), .inl (cZ, 28, .inl (bF m_isThere_168))), ((ad 10), .inl (cI, 12, .inl m_level)), ((ad 12), .inl (cI, 28, .inl m_rowOf_168)), ((ad 11), .inl (cI, 16, .inl m_rowSize_168))] → va_S A s.heap H locs → lv_has ls 3 [] → W p l e ({ frames := 2, cells := 0, slots := 0, locals := 45 }) s m ([.ref (ad 0)] : List Value).toArray below meth c H locs 0 0 (MQ below (gQ dC dI none A [(ad 0, .inr (10, oM ad m_undoCount m_thrown m_hasSnapshot a_m_fam m_rows m_lineLength m_formattedLength m_bufferLength m_limit m_next m_beginsAt m_token m_error m_errorAt m_errorPosition m_nested m_codeCount)), (a_m_fam, .inl (cJ, 130, .inr (.inl m_fam))), ((ad 9), .inl (cI, 16, .inl m_generation)), ((ad 13), .inl (cZ, 28, .inl (bF m_isThere_9))), ((ad 10), .inl (cI, 12, .inl m_level)), ((ad 12), .inl (cI, 28, .inl m_rowOf_9)), ((ad 11), .inl (cI, 16, .inl m_rowSize_9))]) ([.ref (ad 0)] : List Value).toArray s 0 0 A) (F0 m 168 ls []) := by
    intro m_isThere_168 m_rowOf_168 m_rowSize_168 H locs ls hf hP hD hS hl
    rw [p10_layBoxes_J168] at hf
    cases hf
    exact g_vret S hr hlocks hP hD hS dX10_layBoxes_168
  have J130 : ∀ (m_isThere_130 : Nat → Bool) (m_rowOf_130 : Nat → Int32) (m_rowSize_130 : Nat → Int32) (H : Heap) (locs : List Loc) (ls : Array Slot), p10_layBoxes_J130 m_isThere_130 m_rowOf_130 m_rowSize_130 = some (m_isThere_9, m_rowOf_9, m_rowSize_9) → va_P (dC, dI) vwCl [(ad 0, .inr (10, oM ad m_undoCount m_thrown m_hasSnapshot a_m_fam m_rows m_lineLength m_formattedLength m_bufferLength m_limit m_next m_beginsAt m_token m_error m_errorAt m_errorPosition m_nested m_codeCount)), (a_m_fam, .inl (cJ, 130, .inr (.inl m_fam))), ((ad 9), .inl (cI, 16, .inl m_generation)), ((ad 13), .inl (cZ, 28, .inl (bF m_isThere_130))), ((ad 10), .inl (cI, 12, .inl m_level)), ((ad 12), .inl (cI, 28, .inl m_rowOf_130)), ((ad 11), .inl (cI, 16, .inl m_rowSize_130))] H → va_D A [(ad 0, .inr (10, oM ad m_undoCount m_thrown m_hasSnapshot a_m_fam m_rows m_lineLength m_formattedLength m_bufferLength m_limit m_next m_beginsAt m_token m_error m_errorAt m_errorPosition m_nested m_codeCount)), (a_m_fam, .inl (cJ, 130, .inr (.inl m_fam))), ((ad 9), .inl (cI, 16, .inl m_generation)), ((ad 13), .inl (cZ, 28, .inl (bF m_isThere_130))), ((ad 10), .inl (cI, 12, .inl m_level)), ((ad 12), .inl (cI, 28, .inl m_rowOf_130)), ((ad 11), .inl (cI, 16, .inl m_rowSize_130))] → va_S A s.heap H locs → lv_has ls 3 [(0, .ref (ad 0))] → W p l e ({ frames := 2, cells := 0, slots := 0, locals := 45 }) s m ([.ref (ad 0)] : List Value).toArray below meth c H locs 0 0 (MQ below (gQ dC dI none A [(ad 0, .inr (10, oM ad m_undoCount m_thrown m_hasSnapshot a_m_fam m_rows m_lineLength m_formattedLength m_bufferLength m_limit m_next m_beginsAt m_token m_error m_errorAt m_errorPosition m_nested m_codeCount)), (a_m_fam, .inl (cJ, 130, .inr (.inl m_fam))), ((ad 9), .inl (cI, 16, .inl m_generation)), ((ad 13), .inl (cZ, 28, .inl (bF m_isThere_9))), ((ad 10), .inl (cI, 12, .inl m_level)), ((ad 12), .inl (cI, 28, .inl m_rowOf_9)), ((ad 11), .inl (cI, 16, .inl m_rowSize_9))]) ([.ref (ad 0)] : List Value).toArray s 0 0 A) (F0 m 130 ls []) := by
    intro m_isThere_130 m_rowOf_130 m_rowSize_130 H locs ls hf hP hD hS hl
    rw [p10_layBoxes_J130] at hf
    refine lv_iconst (v := 0) hx hb dX10_layBoxes_130 (by decide) ?_
    refine lv_istore_n (lv' := [(1, .int (0 : Int32)), (0, .ref (ad 0))]) hx hb dX10_layBoxes_131 rfl hl (by decide) rfl (fun ls hl => ?_)
    have K132 : ∀ (n132 : Nat) (v1_132 : Int32) (m_rowSize_132 : Nat → Int32) (ex132 : (Nat → Int32)) (H : Heap) (locs : List Loc) (ls : Array Slot), p10_layBoxes_L132 m_isThere_130 m_rowOf_130 n132 v1_132 m_rowSize_132 = some ex132 → (fun m_rowSize_x132 => p10_layBoxes_J168 m_isThere_130 m_rowOf_130 m_rowSize_x132) ex132 = some (m_isThere_9, m_rowOf_9, m_rowSize_9) → va_P (dC, dI) vwCl [(ad 0, .inr (10, oM ad m_undoCount m_thrown m_hasSnapshot a_m_fam m_rows m_lineLength m_formattedLength m_bufferLength m_limit m_next m_beginsAt m_token m_error m_errorAt m_errorPosition m_nested m_codeCount)), (a_m_fam, .inl (cJ, 130, .inr (.inl m_fam))), ((ad 9), .inl (cI, 16, .inl m_generation)), ((ad 13), .inl (cZ, 28, .inl (bF m_isThere_130))), ((ad 10), .inl (cI, 12, .inl m_level)), ((ad 12), .inl (cI, 28, .inl m_rowOf_130)), ((ad 11), .inl (cI, 16, .inl m_rowSize_132))] H → va_D A [(ad 0, .inr (10, oM ad m_undoCount m_thrown m_hasSnapshot a_m_fam m_rows m_lineLength m_formattedLength m_bufferLength m_limit m_next m_beginsAt m_token m_error m_errorAt m_errorPosition m_nested m_codeCount)), (a_m_fam, .inl (cJ, 130, .inr (.inl m_fam))), ((ad 9), .inl (cI, 16, .inl m_generation)), ((ad 13), .inl (cZ, 28, .inl (bF m_isThere_130))), ((ad 10), .inl (cI, 12, .inl m_level)), ((ad 12), .inl (cI, 28, .inl m_rowOf_130)), ((ad 11), .inl (cI, 16, .inl m_rowSize_132))] → va_S A s.heap H locs → lv_has ls 3 [(0, .ref (ad 0)), (1, .int v1_132)] → W p l e ({ frames := 2, cells := 0, slots := 0, locals := 45 }) s m ([.ref (ad 0)] : List Value).toArray below meth c H locs 0 0 (MQ below (gQ dC dI none A [(ad 0, .inr (10, oM ad m_undoCount m_thrown m_hasSnapshot a_m_fam m_rows m_lineLength m_formattedLength m_bufferLength m_limit m_next m_beginsAt m_token m_error m_errorAt m_errorPosition m_nested m_codeCount)), (a_m_fam, .inl (cJ, 130, .inr (.inl m_fam))), ((ad 9), .inl (cI, 16, .inl m_generation)), ((ad 13), .inl (cZ, 28, .inl (bF m_isThere_9))), ((ad 10), .inl (cI, 12, .inl m_level)), ((ad 12), .inl (cI, 28, .inl m_rowOf_9)), ((ad 11), .inl (cI, 16, .inl m_rowSize_9))]) ([.ref (ad 0)] : List Value).toArray s 0 0 A) (F0 m 132 ls []) := by
      intro n132
      induction n132 with
      | zero => intro v1_132 m_rowSize_132 ex132 H locs ls hf; rw [p10_layBoxes_L132] at hf; cases hf
      | succ n132 ih132 =>
        intro v1_132 m_rowSize_132 ex132 H locs ls hf hk132 hP hD hS hl
        rw [p10_layBoxes_L132, p10_layBoxes_L132_B] at hf
        refine lv_iload_n hx hb dX10_layBoxes_132 rfl (lv_at hl 1 rfl) ?_
        refine lv_bipush (v := 28) hx hb dX10_layBoxes_133 (by decide) ?_
        refine lv_icmp_ge (tgt := 168) hx hb dX10_layBoxes_135 (by decide) (fun h9 => ?_) (fun h9 => ?_)
        · have hf := itt h9 hf
          cases hf
          have hf := hk132
          exact J168 m_isThere_130 m_rowOf_130 m_rowSize_132 H locs ls hf hP hD hS (lv_sub hl [] rfl)
        · have hf := itf h9 hf
          refine lv_aload_n hx hb dX10_layBoxes_138 rfl (lv_at hl 0 rfl) ?_
          refine va_get (D := (dC, dI)) (ci := 10) (v := .ref (ad 13)) (C := RX10) (T := TX10) (N := 37) hx hb htg inX10 hown hE.1 hP 0 rfl rfl 12 (by decide) (htg _ tw1394) (fun _ h9 => h9) rfl dX10_layBoxes_139 ?_
          refine lv_iload_n hx hb dX10_layBoxes_142 rfl (lv_at hl 1 rfl) ?_
          obtain ⟨h9, hf⟩ := gd_s hf
          refine va_zald hx hb hE.1 hP 3 2 rfl rfl h9 dX10_layBoxes_143 ?_
          refine W.eq (g2 := F0 m 144 ls [.int (bI (m_isThere_130 v1_132.toNatClampNeg))]) rfl ?_
          refine lv_if_eq (tgt := 162) hx hb dX10_layBoxes_144 (by decide) (fun h9 => ?_) (fun h9 => ?_)
          · have hf := ctf (bI_0 h9) hf
            obtain ⟨t162, h9⟩ : ∃ z : Int32, z = (v1_132 + (1 : Int32)) := ⟨_, rfl⟩
            have hf := lb_e h9 hf
            refine lv_iinc (v := t162) (lv' := [(1, .int t162), (0, .ref (ad 0))]) hx hb dX10_layBoxes_162 hl (k := 1) rfl (by rw [h9]; rfl) (by decide) rfl (fun ls hl => ?_)
            refine lv_goto (tgt := 132) hx hb dX10_layBoxes_165 (by decide) ?_
            exact ih132 t162 m_rowSize_132 ex132 H locs ls hf hk132 hP hD hS (lv_sub hl [1, 0] rfl)
          · have hf := ctt (bI_1 h9) hf
            refine lv_aload_n hx hb dX10_layBoxes_147 rfl (lv_at hl 0 rfl) ?_
            refine va_get (D := (dC, dI)) (ci := 10) (v := .ref (ad 11)) (C := RX10) (T := TX10) (N := 37) hx hb htg inX10 hown hE.1 hP 0 rfl rfl 10 (by decide) (htg _ tw1392) (fun _ h9 => h9) rfl dX10_layBoxes_148 ?_
            refine lv_aload_n hx hb dX10_layBoxes_151 rfl (lv_at hl 0 rfl) ?_
            refine va_get (D := (dC, dI)) (ci := 10) (v := .ref (ad 12)) (C := RX10) (T := TX10) (N := 37) hx hb htg inX10 hown hE.1 hP 0 rfl rfl 11 (by decide) (htg _ tw1393) (fun _ h9 => h9) rfl dX10_layBoxes_152 ?_
            refine lv_iload_n hx hb dX10_layBoxes_155 rfl (lv_at hl 1 rfl) ?_
            obtain ⟨h9, hf⟩ := gd_s hf
            refine va_iald hx hb hE.1 hP 5 0 rfl rfl h9 dX10_layBoxes_156 ?_
            refine lv_dup2_11 hx hb dX10_layBoxes_157 rfl rfl ?_
            obtain ⟨h9, hf⟩ := gd_s hf
            refine va_iald hx hb hE.1 hP 6 0 rfl rfl h9 dX10_layBoxes_158 ?_
            refine lv_iconst (v := 1) hx hb dX10_layBoxes_159 (by decide) ?_
            refine lv_iadd hx hb dX10_layBoxes_160 ?_
            obtain ⟨h9, hf⟩ := gd_s hf
            refine va_iast hx hb hE.1 hP hD hS 6 0 rfl rfl h9 dX10_layBoxes_161 (fun H locs hP hD hS => ?_)
            obtain ⟨g161, h9⟩ : ∃ z, z = (upd m_rowSize_132 (m_rowOf_130 v1_132.toNatClampNeg).toNatClampNeg ((m_rowSize_132 (m_rowOf_130 v1_132.toNatClampNeg).toNatClampNeg) + (1 : Int32))) := ⟨_, rfl⟩
            have hf := lb_e h9 hf
            have hP : va_P (dC, dI) vwCl [(ad 0, .inr (10, oM ad m_undoCount m_thrown m_hasSnapshot a_m_fam m_rows m_lineLength m_formattedLength m_bufferLength m_limit m_next m_beginsAt m_token m_error m_errorAt m_errorPosition m_nested m_codeCount)), (a_m_fam, .inl (cJ, 130, .inr (.inl m_fam))), ((ad 9), .inl (cI, 16, .inl m_generation)), ((ad 13), .inl (cZ, 28, .inl (bF m_isThere_130))), ((ad 10), .inl (cI, 12, .inl m_level)), ((ad 12), .inl (cI, 28, .inl m_rowOf_130)), ((ad 11), .inl (cI, 16, .inl g161))] H := by rw [h9]; exact hP
            have hD : va_D A [(ad 0, .inr (10, oM ad m_undoCount m_thrown m_hasSnapshot a_m_fam m_rows m_lineLength m_formattedLength m_bufferLength m_limit m_next m_beginsAt m_token m_error m_errorAt m_errorPosition m_nested m_codeCount)), (a_m_fam, .inl (cJ, 130, .inr (.inl m_fam))), ((ad 9), .inl (cI, 16, .inl m_generation)), ((ad 13), .inl (cZ, 28, .inl (bF m_isThere_130))), ((ad 10), .inl (cI, 12, .inl m_level)), ((ad 12), .inl (cI, 28, .inl m_rowOf_130)), ((ad 11), .inl (cI, 16, .inl g161))] := by rw [h9]; exact hD
            obtain ⟨t162, h9⟩ : ∃ z : Int32, z = (v1_132 + (1 : Int32)) := ⟨_, rfl⟩
            have hf := lb_e h9 hf
            refine lv_iinc (v := t162) (lv' := [(1, .int t162), (0, .ref (ad 0))]) hx hb dX10_layBoxes_162 hl (k := 1) rfl (by rw [h9]; rfl) (by decide) rfl (fun ls hl => ?_)
            refine lv_goto (tgt := 132) hx hb dX10_layBoxes_165 (by decide) ?_
            exact ih132 t162 g161 ex132 H locs ls hf hk132 hP hD hS (lv_sub hl [1, 0] rfl)
    obtain ⟨ex, h9, hf⟩ := ob_s hf
    exact K132 FU (0 : Int32) m_rowSize_130 ex H locs ls h9 hf hP hD hS (lv_sub hl [1, 0] rfl)
  have J109 : ∀ (m_isThere_109 : Nat → Bool) (m_rowOf_109 : Nat → Int32) (H : Heap) (locs : List Loc) (ls : Array Slot), p10_layBoxes_J109 m_rowSize m_isThere_109 m_rowOf_109 = some (m_isThere_9, m_rowOf_9, m_rowSize_9) → va_P (dC, dI) vwCl [(ad 0, .inr (10, oM ad m_undoCount m_thrown m_hasSnapshot a_m_fam m_rows m_lineLength m_formattedLength m_bufferLength m_limit m_next m_beginsAt m_token m_error m_errorAt m_errorPosition m_nested m_codeCount)), (a_m_fam, .inl (cJ, 130, .inr (.inl m_fam))), ((ad 9), .inl (cI, 16, .inl m_generation)), ((ad 13), .inl (cZ, 28, .inl (bF m_isThere_109))), ((ad 10), .inl (cI, 12, .inl m_level)), ((ad 12), .inl (cI, 28, .inl m_rowOf_109)), ((ad 11), .inl (cI, 16, .inl m_rowSize))] H → va_D A [(ad 0, .inr (10, oM ad m_undoCount m_thrown m_hasSnapshot a_m_fam m_rows m_lineLength m_formattedLength m_bufferLength m_limit m_next m_beginsAt m_token m_error m_errorAt m_errorPosition m_nested m_codeCount)), (a_m_fam, .inl (cJ, 130, .inr (.inl m_fam))), ((ad 9), .inl (cI, 16, .inl m_generation)), ((ad 13), .inl (cZ, 28, .inl (bF m_isThere_109))), ((ad 10), .inl (cI, 12, .inl m_level)), ((ad 12), .inl (cI, 28, .inl m_rowOf_109)), ((ad 11), .inl (cI, 16, .inl m_rowSize))] → va_S A s.heap H locs → lv_has ls 3 [(0, .ref (ad 0))] → W p l e ({ frames := 2, cells := 0, slots := 0, locals := 45 }) s m ([.ref (ad 0)] : List Value).toArray below meth c H locs 0 0 (MQ below (gQ dC dI none A [(ad 0, .inr (10, oM ad m_undoCount m_thrown m_hasSnapshot a_m_fam m_rows m_lineLength m_formattedLength m_bufferLength m_limit m_next m_beginsAt m_token m_error m_errorAt m_errorPosition m_nested m_codeCount)), (a_m_fam, .inl (cJ, 130, .inr (.inl m_fam))), ((ad 9), .inl (cI, 16, .inl m_generation)), ((ad 13), .inl (cZ, 28, .inl (bF m_isThere_9))), ((ad 10), .inl (cI, 12, .inl m_level)), ((ad 12), .inl (cI, 28, .inl m_rowOf_9)), ((ad 11), .inl (cI, 16, .inl m_rowSize_9))]) ([.ref (ad 0)] : List Value).toArray s 0 0 A) (F0 m 109 ls []) := by
    intro m_isThere_109 m_rowOf_109 H locs ls hf hP hD hS hl
    rw [p10_layBoxes_J109] at hf
    refine lv_iconst (v := 0) hx hb dX10_layBoxes_109 (by decide) ?_
    refine lv_istore_n (lv' := [(1, .int (0 : Int32)), (0, .ref (ad 0))]) hx hb dX10_layBoxes_110 rfl hl (by decide) rfl (fun ls hl => ?_)
    have K111 : ∀ (n111 : Nat) (v1_111 : Int32) (m_rowSize_111 : Nat → Int32) (ex111 : (Nat → Int32)) (H : Heap) (locs : List Loc) (ls : Array Slot), p10_layBoxes_L111 n111 v1_111 m_rowSize_111 = some ex111 → (fun m_rowSize_x111 => p10_layBoxes_J130 m_isThere_109 m_rowOf_109 m_rowSize_x111) ex111 = some (m_isThere_9, m_rowOf_9, m_rowSize_9) → va_P (dC, dI) vwCl [(ad 0, .inr (10, oM ad m_undoCount m_thrown m_hasSnapshot a_m_fam m_rows m_lineLength m_formattedLength m_bufferLength m_limit m_next m_beginsAt m_token m_error m_errorAt m_errorPosition m_nested m_codeCount)), (a_m_fam, .inl (cJ, 130, .inr (.inl m_fam))), ((ad 9), .inl (cI, 16, .inl m_generation)), ((ad 13), .inl (cZ, 28, .inl (bF m_isThere_109))), ((ad 10), .inl (cI, 12, .inl m_level)), ((ad 12), .inl (cI, 28, .inl m_rowOf_109)), ((ad 11), .inl (cI, 16, .inl m_rowSize_111))] H → va_D A [(ad 0, .inr (10, oM ad m_undoCount m_thrown m_hasSnapshot a_m_fam m_rows m_lineLength m_formattedLength m_bufferLength m_limit m_next m_beginsAt m_token m_error m_errorAt m_errorPosition m_nested m_codeCount)), (a_m_fam, .inl (cJ, 130, .inr (.inl m_fam))), ((ad 9), .inl (cI, 16, .inl m_generation)), ((ad 13), .inl (cZ, 28, .inl (bF m_isThere_109))), ((ad 10), .inl (cI, 12, .inl m_level)), ((ad 12), .inl (cI, 28, .inl m_rowOf_109)), ((ad 11), .inl (cI, 16, .inl m_rowSize_111))] → va_S A s.heap H locs → lv_has ls 3 [(0, .ref (ad 0)), (1, .int v1_111)] → W p l e ({ frames := 2, cells := 0, slots := 0, locals := 45 }) s m ([.ref (ad 0)] : List Value).toArray below meth c H locs 0 0 (MQ below (gQ dC dI none A [(ad 0, .inr (10, oM ad m_undoCount m_thrown m_hasSnapshot a_m_fam m_rows m_lineLength m_formattedLength m_bufferLength m_limit m_next m_beginsAt m_token m_error m_errorAt m_errorPosition m_nested m_codeCount)), (a_m_fam, .inl (cJ, 130, .inr (.inl m_fam))), ((ad 9), .inl (cI, 16, .inl m_generation)), ((ad 13), .inl (cZ, 28, .inl (bF m_isThere_9))), ((ad 10), .inl (cI, 12, .inl m_level)), ((ad 12), .inl (cI, 28, .inl m_rowOf_9)), ((ad 11), .inl (cI, 16, .inl m_rowSize_9))]) ([.ref (ad 0)] : List Value).toArray s 0 0 A) (F0 m 111 ls []) := by
      intro n111
      induction n111 with
      | zero => intro v1_111 m_rowSize_111 ex111 H locs ls hf; rw [p10_layBoxes_L111] at hf; cases hf
      | succ n111 ih111 =>
        intro v1_111 m_rowSize_111 ex111 H locs ls hf hk111 hP hD hS hl
        rw [p10_layBoxes_L111, p10_layBoxes_L111_B] at hf
        refine lv_iload_n hx hb dX10_layBoxes_111 rfl (lv_at hl 1 rfl) ?_
        refine lv_bipush (v := 16) hx hb dX10_layBoxes_112 (by decide) ?_
        refine lv_icmp_ge (tgt := 130) hx hb dX10_layBoxes_114 (by decide) (fun h9 => ?_) (fun h9 => ?_)
        · have hf := itt h9 hf
          cases hf
          have hf := hk111
          exact J130 m_isThere_109 m_rowOf_109 m_rowSize_111 H locs ls hf hP hD hS (lv_sub hl [0] rfl)
        · have hf := itf h9 hf
          refine lv_aload_n hx hb dX10_layBoxes_117 rfl (lv_at hl 0 rfl) ?_
          refine va_get (D := (dC, dI)) (ci := 10) (v := .ref (ad 11)) (C := RX10) (T := TX10) (N := 37) hx hb htg inX10 hown hE.1 hP 0 rfl rfl 10 (by decide) (htg _ tw1392) (fun _ h9 => h9) rfl dX10_layBoxes_118 ?_
          refine lv_iload_n hx hb dX10_layBoxes_121 rfl (lv_at hl 1 rfl) ?_
          refine lv_iconst (v := 0) hx hb dX10_layBoxes_122 (by decide) ?_
          obtain ⟨h9, hf⟩ := gd_s hf
          refine va_iast hx hb hE.1 hP hD hS 6 0 rfl rfl h9 dX10_layBoxes_123 (fun H locs hP hD hS => ?_)
          obtain ⟨g123, h9⟩ : ∃ z, z = (upd m_rowSize_111 v1_111.toNatClampNeg (0 : Int32)) := ⟨_, rfl⟩
          have hf := lb_e h9 hf
          have hP : va_P (dC, dI) vwCl [(ad 0, .inr (10, oM ad m_undoCount m_thrown m_hasSnapshot a_m_fam m_rows m_lineLength m_formattedLength m_bufferLength m_limit m_next m_beginsAt m_token m_error m_errorAt m_errorPosition m_nested m_codeCount)), (a_m_fam, .inl (cJ, 130, .inr (.inl m_fam))), ((ad 9), .inl (cI, 16, .inl m_generation)), ((ad 13), .inl (cZ, 28, .inl (bF m_isThere_109))), ((ad 10), .inl (cI, 12, .inl m_level)), ((ad 12), .inl (cI, 28, .inl m_rowOf_109)), ((ad 11), .inl (cI, 16, .inl g123))] H := by rw [h9]; exact hP
          have hD : va_D A [(ad 0, .inr (10, oM ad m_undoCount m_thrown m_hasSnapshot a_m_fam m_rows m_lineLength m_formattedLength m_bufferLength m_limit m_next m_beginsAt m_token m_error m_errorAt m_errorPosition m_nested m_codeCount)), (a_m_fam, .inl (cJ, 130, .inr (.inl m_fam))), ((ad 9), .inl (cI, 16, .inl m_generation)), ((ad 13), .inl (cZ, 28, .inl (bF m_isThere_109))), ((ad 10), .inl (cI, 12, .inl m_level)), ((ad 12), .inl (cI, 28, .inl m_rowOf_109)), ((ad 11), .inl (cI, 16, .inl g123))] := by rw [h9]; exact hD
          obtain ⟨t124, h9⟩ : ∃ z : Int32, z = (v1_111 + (1 : Int32)) := ⟨_, rfl⟩
          have hf := lb_e h9 hf
          refine lv_iinc (v := t124) (lv' := [(1, .int t124), (0, .ref (ad 0))]) hx hb dX10_layBoxes_124 hl (k := 1) rfl (by rw [h9]; rfl) (by decide) rfl (fun ls hl => ?_)
          refine lv_goto (tgt := 111) hx hb dX10_layBoxes_127 (by decide) ?_
          exact ih111 t124 g123 ex111 H locs ls hf hk111 hP hD hS (lv_sub hl [1, 0] rfl)
    obtain ⟨ex, h9, hf⟩ := ob_s hf
    exact K111 FU (0 : Int32) m_rowSize ex H locs ls h9 hf hP hD hS (lv_sub hl [1, 0] rfl)
  refine lv_iconst (v := 0) hx hb dX10_layBoxes_0 (by decide) ?_
  refine lv_istore_n (lv' := [(1, .int (0 : Int32)), (0, .ref (ad 0))]) hx hb dX10_layBoxes_1 rfl hl (by decide) rfl (fun ls hl => ?_)
  have K2 : ∀ (n2 : Nat) (v1_2 : Int32) (m_isThere_2 : Nat → Bool) (m_rowOf_2 : Nat → Int32) (ex2 : (Nat → Bool) × (Nat → Int32)) (H : Heap) (locs : List Loc) (ls : Array Slot), p10_layBoxes_L2 m_fam m_generation m_level n2 v1_2 m_isThere_2 m_rowOf_2 = some ex2 → (uc2 fun m_isThere_x2 m_rowOf_x2 => p10_layBoxes_J109 m_rowSize m_isThere_x2 m_rowOf_x2) ex2 = some (m_isThere_9, m_rowOf_9, m_rowSize_9) → va_P (dC, dI) vwCl [(ad 0, .inr (10, oM ad m_undoCount m_thrown m_hasSnapshot a_m_fam m_rows m_lineLength m_formattedLength m_bufferLength m_limit m_next m_beginsAt m_token m_error m_errorAt m_errorPosition m_nested m_codeCount)), (a_m_fam, .inl (cJ, 130, .inr (.inl m_fam))), ((ad 9), .inl (cI, 16, .inl m_generation)), ((ad 13), .inl (cZ, 28, .inl (bF m_isThere_2))), ((ad 10), .inl (cI, 12, .inl m_level)), ((ad 12), .inl (cI, 28, .inl m_rowOf_2)), ((ad 11), .inl (cI, 16, .inl m_rowSize))] H → va_D A [(ad 0, .inr (10, oM ad m_undoCount m_thrown m_hasSnapshot a_m_fam m_rows m_lineLength m_formattedLength m_bufferLength m_limit m_next m_beginsAt m_token m_error m_errorAt m_errorPosition m_nested m_codeCount)), (a_m_fam, .inl (cJ, 130, .inr (.inl m_fam))), ((ad 9), .inl (cI, 16, .inl m_generation)), ((ad 13), .inl (cZ, 28, .inl (bF m_isThere_2))), ((ad 10), .inl (cI, 12, .inl m_level)), ((ad 12), .inl (cI, 28, .inl m_rowOf_2)), ((ad 11), .inl (cI, 16, .inl m_rowSize))] → va_S A s.heap H locs → lv_has ls 3 [(0, .ref (ad 0)), (1, .int v1_2)] → W p l e ({ frames := 2, cells := 0, slots := 0, locals := 45 }) s m ([.ref (ad 0)] : List Value).toArray below meth c H locs 0 0 (MQ below (gQ dC dI none A [(ad 0, .inr (10, oM ad m_undoCount m_thrown m_hasSnapshot a_m_fam m_rows m_lineLength m_formattedLength m_bufferLength m_limit m_next m_beginsAt m_token m_error m_errorAt m_errorPosition m_nested m_codeCount)), (a_m_fam, .inl (cJ, 130, .inr (.inl m_fam))), ((ad 9), .inl (cI, 16, .inl m_generation)), ((ad 13), .inl (cZ, 28, .inl (bF m_isThere_9))), ((ad 10), .inl (cI, 12, .inl m_level)), ((ad 12), .inl (cI, 28, .inl m_rowOf_9)), ((ad 11), .inl (cI, 16, .inl m_rowSize_9))]) ([.ref (ad 0)] : List Value).toArray s 0 0 A) (F0 m 2 ls []) := by
    intro n2
    induction n2 with
    | zero => intro v1_2 m_isThere_2 m_rowOf_2 ex2 H locs ls hf; rw [p10_layBoxes_L2] at hf; cases hf
    | succ n2 ih2 =>
      intro v1_2 m_isThere_2 m_rowOf_2 ex2 H locs ls hf hk2 hP hD hS hl
      rw [p10_layBoxes_L2, p10_layBoxes_L2_B] at hf
      have J63 : ∀ (v2_63 : Int32) (m_isThere_63 : Nat → Bool) (H : Heap) (locs : List Loc) (ls : Array Slot), p10_layBoxes_J63 (p10_layBoxes_L2 m_fam m_generation m_level n2) m_generation m_level m_rowOf_2 v1_2 v2_63 m_isThere_63 = some ex2 → va_P (dC, dI) vwCl [(ad 0, .inr (10, oM ad m_undoCount m_thrown m_hasSnapshot a_m_fam m_rows m_lineLength m_formattedLength m_bufferLength m_limit m_next m_beginsAt m_token m_error m_errorAt m_errorPosition m_nested m_codeCount)), (a_m_fam, .inl (cJ, 130, .inr (.inl m_fam))), ((ad 9), .inl (cI, 16, .inl m_generation)), ((ad 13), .inl (cZ, 28, .inl (bF m_isThere_63))), ((ad 10), .inl (cI, 12, .inl m_level)), ((ad 12), .inl (cI, 28, .inl m_rowOf_2)), ((ad 11), .inl (cI, 16, .inl m_rowSize))] H → va_D A [(ad 0, .inr (10, oM ad m_undoCount m_thrown m_hasSnapshot a_m_fam m_rows m_lineLength m_formattedLength m_bufferLength m_limit m_next m_beginsAt m_token m_error m_errorAt m_errorPosition m_nested m_codeCount)), (a_m_fam, .inl (cJ, 130, .inr (.inl m_fam))), ((ad 9), .inl (cI, 16, .inl m_generation)), ((ad 13), .inl (cZ, 28, .inl (bF m_isThere_63))), ((ad 10), .inl (cI, 12, .inl m_level)), ((ad 12), .inl (cI, 28, .inl m_rowOf_2)), ((ad 11), .inl (cI, 16, .inl m_rowSize))] → va_S A s.heap H locs → lv_has ls 3 [(0, .ref (ad 0)), (1, .int v1_2), (2, .int v2_63)] → W p l e ({ frames := 2, cells := 0, slots := 0, locals := 45 }) s m ([.ref (ad 0)] : List Value).toArray below meth c H locs 0 0 (MQ below (gQ dC dI none A [(ad 0, .inr (10, oM ad m_undoCount m_thrown m_hasSnapshot a_m_fam m_rows m_lineLength m_formattedLength m_bufferLength m_limit m_next m_beginsAt m_token m_error m_errorAt m_errorPosition m_nested m_codeCount)), (a_m_fam, .inl (cJ, 130, .inr (.inl m_fam))), ((ad 9), .inl (cI, 16, .inl m_generation)), ((ad 13), .inl (cZ, 28, .inl (bF m_isThere_9))), ((ad 10), .inl (cI, 12, .inl m_level)), ((ad 12), .inl (cI, 28, .inl m_rowOf_9)), ((ad 11), .inl (cI, 16, .inl m_rowSize_9))]) ([.ref (ad 0)] : List Value).toArray s 0 0 A) (F0 m 63 ls []) := by
        intro v2_63 m_isThere_63 H locs ls hf hP hD hS hl
        rw [p10_layBoxes_J63] at hf
        refine lv_aload_n hx hb dX10_layBoxes_63 rfl (lv_at hl 0 rfl) ?_
        refine va_get (D := (dC, dI)) (ci := 10) (v := .ref (ad 12)) (C := RX10) (T := TX10) (N := 37) hx hb htg inX10 hown hE.1 hP 0 rfl rfl 11 (by decide) (htg _ tw1393) (fun _ h9 => h9) rfl dX10_layBoxes_64 ?_
        refine lv_iload_n hx hb dX10_layBoxes_67 rfl (lv_at hl 1 rfl) ?_
        refine lv_aload_n hx hb dX10_layBoxes_68 rfl (lv_at hl 0 rfl) ?_
        refine va_get (D := (dC, dI)) (ci := 10) (v := .ref (ad 13)) (C := RX10) (T := TX10) (N := 37) hx hb htg inX10 hown hE.1 hP 0 rfl rfl 12 (by decide) (htg _ tw1394) (fun _ h9 => h9) rfl dX10_layBoxes_69 ?_
        refine lv_iload_n hx hb dX10_layBoxes_72 rfl (lv_at hl 1 rfl) ?_
        obtain ⟨h9, hf⟩ := gd_s hf
        refine va_zald hx hb hE.1 hP 3 2 rfl rfl h9 dX10_layBoxes_73 ?_
        refine W.eq (g2 := F0 m 74 ls [.int (bI (m_isThere_63 v1_2.toNatClampNeg)), .int v1_2, .ref (ad 12)]) rfl ?_
        refine lv_if_ne (tgt := 81) hx hb dX10_layBoxes_74 (by decide) (fun h9 => ?_) (fun h9 => ?_)
        · have hf := ctt (bI_1 h9) hf
          refine lv_iload_n hx hb dX10_layBoxes_81 rfl (lv_at hl 1 rfl) ?_
          refine lv_bipush (v := 16) hx hb dX10_layBoxes_82 (by decide) ?_
          refine lv_icmp_ge (tgt := 96) hx hb dX10_layBoxes_84 (by decide) (fun h9 => ?_) (fun h9 => ?_)
          · have hf := itt h9 hf
            refine lv_aload_n hx hb dX10_layBoxes_96 rfl (lv_at hl 0 rfl) ?_
            refine va_get (D := (dC, dI)) (ci := 10) (v := .ref (ad 10)) (C := RX10) (T := TX10) (N := 37) hx hb htg inX10 hown hE.1 hP 0 rfl rfl 9 (by decide) (htg _ tw1391) (fun _ h9 => h9) rfl dX10_layBoxes_97 ?_
            refine lv_iload_n hx hb dX10_layBoxes_100 rfl (lv_at hl 2 rfl) ?_
            obtain ⟨h9, hf⟩ := gd_s hf
            refine va_iald hx hb hE.1 hP 4 0 rfl rfl h9 dX10_layBoxes_101 ?_
            obtain ⟨h9, hf⟩ := gd_s hf
            refine va_iast hx hb hE.1 hP hD hS 5 0 rfl rfl h9 dX10_layBoxes_102 (fun H locs hP hD hS => ?_)
            obtain ⟨g102, h9⟩ : ∃ z, z = (upd m_rowOf_2 v1_2.toNatClampNeg (m_level v2_63.toNatClampNeg)) := ⟨_, rfl⟩
            have hf := lb_e h9 hf
            have hP : va_P (dC, dI) vwCl [(ad 0, .inr (10, oM ad m_undoCount m_thrown m_hasSnapshot a_m_fam m_rows m_lineLength m_formattedLength m_bufferLength m_limit m_next m_beginsAt m_token m_error m_errorAt m_errorPosition m_nested m_codeCount)), (a_m_fam, .inl (cJ, 130, .inr (.inl m_fam))), ((ad 9), .inl (cI, 16, .inl m_generation)), ((ad 13), .inl (cZ, 28, .inl (bF m_isThere_63))), ((ad 10), .inl (cI, 12, .inl m_level)), ((ad 12), .inl (cI, 28, .inl g102)), ((ad 11), .inl (cI, 16, .inl m_rowSize))] H := by rw [h9]; exact hP
            have hD : va_D A [(ad 0, .inr (10, oM ad m_undoCount m_thrown m_hasSnapshot a_m_fam m_rows m_lineLength m_formattedLength m_bufferLength m_limit m_next m_beginsAt m_token m_error m_errorAt m_errorPosition m_nested m_codeCount)), (a_m_fam, .inl (cJ, 130, .inr (.inl m_fam))), ((ad 9), .inl (cI, 16, .inl m_generation)), ((ad 13), .inl (cZ, 28, .inl (bF m_isThere_63))), ((ad 10), .inl (cI, 12, .inl m_level)), ((ad 12), .inl (cI, 28, .inl g102)), ((ad 11), .inl (cI, 16, .inl m_rowSize))] := by rw [h9]; exact hD
            obtain ⟨t103, h9⟩ : ∃ z : Int32, z = (v1_2 + (1 : Int32)) := ⟨_, rfl⟩
            have hf := lb_e h9 hf
            refine lv_iinc (v := t103) (lv' := [(1, .int t103), (0, .ref (ad 0)), (2, .int v2_63)]) hx hb dX10_layBoxes_103 hl (k := 1) rfl (by rw [h9]; rfl) (by decide) rfl (fun ls hl => ?_)
            refine lv_goto (tgt := 2) hx hb dX10_layBoxes_106 (by decide) ?_
            exact ih2 t103 m_isThere_63 g102 ex2 H locs ls hf hk2 hP hD hS (lv_sub hl [1, 0] rfl)
          · have hf := itf h9 hf
            refine lv_aload_n hx hb dX10_layBoxes_87 rfl (lv_at hl 0 rfl) ?_
            refine va_get (D := (dC, dI)) (ci := 10) (v := .ref (ad 9)) (C := RX10) (T := TX10) (N := 37) hx hb htg inX10 hown hE.1 hP 0 rfl rfl 8 (by decide) (htg _ tw1390) (fun _ h9 => h9) rfl dX10_layBoxes_88 ?_
            refine lv_iload_n hx hb dX10_layBoxes_91 rfl (lv_at hl 1 rfl) ?_
            obtain ⟨h9, hf⟩ := gd_s hf
            refine va_iald hx hb hE.1 hP 2 0 rfl rfl h9 dX10_layBoxes_92 ?_
            refine lv_goto (tgt := 102) hx hb dX10_layBoxes_93 (by decide) ?_
            obtain ⟨h9, hf⟩ := gd_s hf
            refine va_iast hx hb hE.1 hP hD hS 5 0 rfl rfl h9 dX10_layBoxes_102 (fun H locs hP hD hS => ?_)
            obtain ⟨g102, h9⟩ : ∃ z, z = (upd m_rowOf_2 v1_2.toNatClampNeg (m_generation v1_2.toNatClampNeg)) := ⟨_, rfl⟩
            have hf := lb_e h9 hf
            have hP : va_P (dC, dI) vwCl [(ad 0, .inr (10, oM ad m_undoCount m_thrown m_hasSnapshot a_m_fam m_rows m_lineLength m_formattedLength m_bufferLength m_limit m_next m_beginsAt m_token m_error m_errorAt m_errorPosition m_nested m_codeCount)), (a_m_fam, .inl (cJ, 130, .inr (.inl m_fam))), ((ad 9), .inl (cI, 16, .inl m_generation)), ((ad 13), .inl (cZ, 28, .inl (bF m_isThere_63))), ((ad 10), .inl (cI, 12, .inl m_level)), ((ad 12), .inl (cI, 28, .inl g102)), ((ad 11), .inl (cI, 16, .inl m_rowSize))] H := by rw [h9]; exact hP
            have hD : va_D A [(ad 0, .inr (10, oM ad m_undoCount m_thrown m_hasSnapshot a_m_fam m_rows m_lineLength m_formattedLength m_bufferLength m_limit m_next m_beginsAt m_token m_error m_errorAt m_errorPosition m_nested m_codeCount)), (a_m_fam, .inl (cJ, 130, .inr (.inl m_fam))), ((ad 9), .inl (cI, 16, .inl m_generation)), ((ad 13), .inl (cZ, 28, .inl (bF m_isThere_63))), ((ad 10), .inl (cI, 12, .inl m_level)), ((ad 12), .inl (cI, 28, .inl g102)), ((ad 11), .inl (cI, 16, .inl m_rowSize))] := by rw [h9]; exact hD
            obtain ⟨t103, h9⟩ : ∃ z : Int32, z = (v1_2 + (1 : Int32)) := ⟨_, rfl⟩
            have hf := lb_e h9 hf
            refine lv_iinc (v := t103) (lv' := [(1, .int t103), (0, .ref (ad 0)), (2, .int v2_63)]) hx hb dX10_layBoxes_103 hl (k := 1) rfl (by rw [h9]; rfl) (by decide) rfl (fun ls hl => ?_)
            refine lv_goto (tgt := 2) hx hb dX10_layBoxes_106 (by decide) ?_
            exact ih2 t103 m_isThere_63 g102 ex2 H locs ls hf hk2 hP hD hS (lv_sub hl [1, 0] rfl)
        · have hf := ctf (bI_0 h9) hf
          refine lv_iconst (v := -1) hx hb dX10_layBoxes_77 (by decide) ?_
          refine lv_goto (tgt := 102) hx hb dX10_layBoxes_78 (by decide) ?_
          obtain ⟨h9, hf⟩ := gd_s hf
          refine va_iast hx hb hE.1 hP hD hS 5 0 rfl rfl h9 dX10_layBoxes_102 (fun H locs hP hD hS => ?_)
          obtain ⟨g102, h9⟩ : ∃ z, z = (upd m_rowOf_2 v1_2.toNatClampNeg (-1 : Int32)) := ⟨_, rfl⟩
          have hf := lb_e h9 hf
          have hP : va_P (dC, dI) vwCl [(ad 0, .inr (10, oM ad m_undoCount m_thrown m_hasSnapshot a_m_fam m_rows m_lineLength m_formattedLength m_bufferLength m_limit m_next m_beginsAt m_token m_error m_errorAt m_errorPosition m_nested m_codeCount)), (a_m_fam, .inl (cJ, 130, .inr (.inl m_fam))), ((ad 9), .inl (cI, 16, .inl m_generation)), ((ad 13), .inl (cZ, 28, .inl (bF m_isThere_63))), ((ad 10), .inl (cI, 12, .inl m_level)), ((ad 12), .inl (cI, 28, .inl g102)), ((ad 11), .inl (cI, 16, .inl m_rowSize))] H := by rw [h9]; exact hP
          have hD : va_D A [(ad 0, .inr (10, oM ad m_undoCount m_thrown m_hasSnapshot a_m_fam m_rows m_lineLength m_formattedLength m_bufferLength m_limit m_next m_beginsAt m_token m_error m_errorAt m_errorPosition m_nested m_codeCount)), (a_m_fam, .inl (cJ, 130, .inr (.inl m_fam))), ((ad 9), .inl (cI, 16, .inl m_generation)), ((ad 13), .inl (cZ, 28, .inl (bF m_isThere_63))), ((ad 10), .inl (cI, 12, .inl m_level)), ((ad 12), .inl (cI, 28, .inl g102)), ((ad 11), .inl (cI, 16, .inl m_rowSize))] := by rw [h9]; exact hD
          obtain ⟨t103, h9⟩ : ∃ z : Int32, z = (v1_2 + (1 : Int32)) := ⟨_, rfl⟩
          have hf := lb_e h9 hf
          refine lv_iinc (v := t103) (lv' := [(1, .int t103), (0, .ref (ad 0)), (2, .int v2_63)]) hx hb dX10_layBoxes_103 hl (k := 1) rfl (by rw [h9]; rfl) (by decide) rfl (fun ls hl => ?_)
          refine lv_goto (tgt := 2) hx hb dX10_layBoxes_106 (by decide) ?_
          exact ih2 t103 m_isThere_63 g102 ex2 H locs ls hf hk2 hP hD hS (lv_sub hl [1, 0] rfl)
      refine lv_iload_n hx hb dX10_layBoxes_2 rfl (lv_at hl 1 rfl) ?_
      refine lv_bipush (v := 28) hx hb dX10_layBoxes_3 (by decide) ?_
      refine lv_icmp_ge (tgt := 109) hx hb dX10_layBoxes_5 (by decide) (fun h9 => ?_) (fun h9 => ?_)
      · have hf := itt h9 hf
        cases hf
        have hf := hk2
        have hf := uc2_e hf
        exact J109 m_isThere_2 m_rowOf_2 H locs ls hf hP hD hS (lv_sub hl [0] rfl)
      · have hf := itf h9 hf
        refine lv_iload_n hx hb dX10_layBoxes_8 rfl (lv_at hl 1 rfl) ?_
        refine lv_bipush (v := 16) hx hb dX10_layBoxes_9 (by decide) ?_
        refine lv_isub hx hb dX10_layBoxes_11 ?_
        refine lv_topi (fun t12 h9 => ?_)
        have hf := lb_e h9 hf
        refine lv_istore_n (lv' := [(2, .int t12), (0, .ref (ad 0)), (1, .int v1_2)]) hx hb dX10_layBoxes_12 rfl hl (by decide) rfl (fun ls hl => ?_)
        refine lv_aload_n hx hb dX10_layBoxes_13 rfl (lv_at hl 1 rfl) ?_
        refine va_get (D := (dC, dI)) (ci := 10) (v := .ref (ad 13)) (C := RX10) (T := TX10) (N := 37) hx hb htg inX10 hown hE.1 hP 0 rfl rfl 12 (by decide) (htg _ tw1394) (fun _ h9 => h9) rfl dX10_layBoxes_14 ?_
        refine lv_iload_n hx hb dX10_layBoxes_17 rfl (lv_at hl 2 rfl) ?_
        refine lv_iload_n hx hb dX10_layBoxes_18 rfl (lv_at hl 2 rfl) ?_
        refine lv_bipush (v := 16) hx hb dX10_layBoxes_19 (by decide) ?_
        refine lv_icmp_ge (tgt := 40) hx hb dX10_layBoxes_21 (by decide) (fun h9 => ?_) (fun h9 => ?_)
        · have hf := itt h9 hf
          refine lv_iload_n hx hb dX10_layBoxes_40 rfl (lv_at hl 0 rfl) ?_
          refine lv_aload_n hx hb dX10_layBoxes_41 rfl (lv_at hl 1 rfl) ?_
          obtain ⟨r42, h9, hf⟩ := ob_s hf
          refine gcV (index := 110) S hE (c_X10_unions ad a_m_fam m_undoCount m_thrown m_hasSnapshot m_rows m_lineLength m_formattedLength m_bufferLength m_limit m_next m_beginsAt m_token m_error m_errorAt m_errorPosition m_nested m_codeCount m_fam r42 h9) mX10_unions tw1532 ⟨Nat.le_of_ble_eq_true rfl, Nat.le_of_ble_eq_true rfl⟩ hP hD hS hA ⟨Nat.zero_le _, Nat.zero_le _⟩ 0 10 rfl rfl rfl (wr := [((ad 9), .inl (cI, 16, .inl m_generation)), ((ad 13), .inl (cZ, 28, .inl (bF m_isThere_2))), ((ad 10), .inl (cI, 12, .inl m_level)), ((ad 12), .inl (cI, 28, .inl m_rowOf_2)), ((ad 11), .inl (cI, 16, .inl m_rowSize))]) [0, 1] [2, 3, 4, 5, 6] rfl rfl rfl rfl (by decide) (As := []) (rest := [.int t12, .int v1_2, .ref (ad 13)]) rfl hl.1 rfl (Nat.le_of_ble_eq_true rfl) dX10_layBoxes_42 (fun H locs hP hD hS => ?_)
          refine W.eq (g2 := F0 m 45 ls [.int r42, .int t12, .int v1_2, .ref (ad 13)]) rfl ?_
          have hP : va_P (dC, dI) vwCl [((ad 9), .inl (cI, 16, .inl m_generation)), ((ad 13), .inl (cZ, 28, .inl (bF m_isThere_2))), ((ad 10), .inl (cI, 12, .inl m_level)), ((ad 12), .inl (cI, 28, .inl m_rowOf_2)), ((ad 11), .inl (cI, 16, .inl m_rowSize)), (ad 0, .inr (10, oM ad m_undoCount m_thrown m_hasSnapshot a_m_fam m_rows m_lineLength m_formattedLength m_bufferLength m_limit m_next m_beginsAt m_token m_error m_errorAt m_errorPosition m_nested m_codeCount)), (a_m_fam, .inl (cJ, 130, .inr (.inl m_fam)))] H := hP
          have hD : va_D A [((ad 9), .inl (cI, 16, .inl m_generation)), ((ad 13), .inl (cZ, 28, .inl (bF m_isThere_2))), ((ad 10), .inl (cI, 12, .inl m_level)), ((ad 12), .inl (cI, 28, .inl m_rowOf_2)), ((ad 11), .inl (cI, 16, .inl m_rowSize)), (ad 0, .inr (10, oM ad m_undoCount m_thrown m_hasSnapshot a_m_fam m_rows m_lineLength m_formattedLength m_bufferLength m_limit m_next m_beginsAt m_token m_error m_errorAt m_errorPosition m_nested m_codeCount)), (a_m_fam, .inl (cJ, 130, .inr (.inl m_fam)))] := hD
          refine lv_icmp_ge (tgt := 61) hx hb dX10_layBoxes_45 (by decide) (fun h9 => ?_) (fun h9 => ?_)
          · have hf := itt h9 hf
            refine lv_iconst (v := 0) hx hb dX10_layBoxes_61 (by decide) ?_
            obtain ⟨h9, hf⟩ := gd_s hf
            refine va_zast (x := bI false) hx hb hE.1 hP hD hS 1 2 rfl rfl h9 dX10_layBoxes_62 (fun H locs hP hD hS => ?_)
            obtain ⟨g62, h9⟩ : ∃ z, z = (updB m_isThere_2 v1_2.toNatClampNeg false) := ⟨_, rfl⟩
            have hf := lb_e h9 hf
            rw [bF_up] at hP hD
            have hP : va_P (dC, dI) vwCl [((ad 9), .inl (cI, 16, .inl m_generation)), ((ad 13), .inl (cZ, 28, .inl (bF g62))), ((ad 10), .inl (cI, 12, .inl m_level)), ((ad 12), .inl (cI, 28, .inl m_rowOf_2)), ((ad 11), .inl (cI, 16, .inl m_rowSize)), (ad 0, .inr (10, oM ad m_undoCount m_thrown m_hasSnapshot a_m_fam m_rows m_lineLength m_formattedLength m_bufferLength m_limit m_next m_beginsAt m_token m_error m_errorAt m_errorPosition m_nested m_codeCount)), (a_m_fam, .inl (cJ, 130, .inr (.inl m_fam)))] H := by rw [h9]; exact hP
            have hD : va_D A [((ad 9), .inl (cI, 16, .inl m_generation)), ((ad 13), .inl (cZ, 28, .inl (bF g62))), ((ad 10), .inl (cI, 12, .inl m_level)), ((ad 12), .inl (cI, 28, .inl m_rowOf_2)), ((ad 11), .inl (cI, 16, .inl m_rowSize)), (ad 0, .inr (10, oM ad m_undoCount m_thrown m_hasSnapshot a_m_fam m_rows m_lineLength m_formattedLength m_bufferLength m_limit m_next m_beginsAt m_token m_error m_errorAt m_errorPosition m_nested m_codeCount)), (a_m_fam, .inl (cJ, 130, .inr (.inl m_fam)))] := by rw [h9]; exact hD
            exact J63 t12 g62 H locs ls hf (hP.sub [5, 6, 0, 1, 2, 3, 4] rfl) (hD.sub [5, 6, 0, 1, 2, 3, 4] (by decide) rfl) hS (lv_sub hl [1, 2, 0] rfl)
          · have hf := itf h9 hf
            refine lv_aload_n hx hb dX10_layBoxes_48 rfl (lv_at hl 1 rfl) ?_
            refine lv_iload_n hx hb dX10_layBoxes_49 rfl (lv_at hl 0 rfl) ?_
            obtain ⟨r50, h9, hf⟩ := ob_s hf
            refine gcV (index := 135) S hE (c_X10_referred ad a_m_fam m_undoCount m_thrown m_hasSnapshot m_rows m_lineLength m_formattedLength m_bufferLength m_limit m_next m_beginsAt m_token m_error m_errorAt m_errorPosition m_nested m_codeCount m_fam m_generation m_level t12 r50 h9) mX10_referred tw1540 ⟨Nat.le_of_ble_eq_true rfl, Nat.le_of_ble_eq_true rfl⟩ hP hD hS hA ⟨Nat.zero_le _, Nat.zero_le _⟩ 5 10 rfl rfl rfl (wr := [((ad 13), .inl (cZ, 28, .inl (bF m_isThere_2))), ((ad 12), .inl (cI, 28, .inl m_rowOf_2)), ((ad 11), .inl (cI, 16, .inl m_rowSize))]) [5, 6, 0, 2] [1, 3, 4] rfl rfl rfl rfl (by decide) (As := [.int t12]) (rest := [.int v1_2, .ref (ad 13)]) rfl hl.1 rfl (Nat.le_of_ble_eq_true rfl) dX10_layBoxes_50 (fun H locs hP hD hS => ?_)
            refine W.eq (g2 := F0 m 53 ls [.int r50, .int v1_2, .ref (ad 13)]) rfl ?_
            have hP : va_P (dC, dI) vwCl [((ad 13), .inl (cZ, 28, .inl (bF m_isThere_2))), ((ad 12), .inl (cI, 28, .inl m_rowOf_2)), ((ad 11), .inl (cI, 16, .inl m_rowSize)), (ad 0, .inr (10, oM ad m_undoCount m_thrown m_hasSnapshot a_m_fam m_rows m_lineLength m_formattedLength m_bufferLength m_limit m_next m_beginsAt m_token m_error m_errorAt m_errorPosition m_nested m_codeCount)), (a_m_fam, .inl (cJ, 130, .inr (.inl m_fam))), ((ad 9), .inl (cI, 16, .inl m_generation)), ((ad 10), .inl (cI, 12, .inl m_level))] H := hP
            have hD : va_D A [((ad 13), .inl (cZ, 28, .inl (bF m_isThere_2))), ((ad 12), .inl (cI, 28, .inl m_rowOf_2)), ((ad 11), .inl (cI, 16, .inl m_rowSize)), (ad 0, .inr (10, oM ad m_undoCount m_thrown m_hasSnapshot a_m_fam m_rows m_lineLength m_formattedLength m_bufferLength m_limit m_next m_beginsAt m_token m_error m_errorAt m_errorPosition m_nested m_codeCount)), (a_m_fam, .inl (cJ, 130, .inr (.inl m_fam))), ((ad 9), .inl (cI, 16, .inl m_generation)), ((ad 10), .inl (cI, 12, .inl m_level))] := hD
            refine lv_iconst (v := -1) hx hb dX10_layBoxes_53 (by decide) ?_
            refine lv_icmp_eq (tgt := 61) hx hb dX10_layBoxes_54 (by decide) (fun h9 => ?_) (fun h9 => ?_)
            · have hf := itt h9 hf
              refine lv_iconst (v := 0) hx hb dX10_layBoxes_61 (by decide) ?_
              obtain ⟨h9, hf⟩ := gd_s hf
              refine va_zast (x := bI false) hx hb hE.1 hP hD hS 0 2 rfl rfl h9 dX10_layBoxes_62 (fun H locs hP hD hS => ?_)
              obtain ⟨g62, h9⟩ : ∃ z, z = (updB m_isThere_2 v1_2.toNatClampNeg false) := ⟨_, rfl⟩
              have hf := lb_e h9 hf
              rw [bF_up] at hP hD
              have hP : va_P (dC, dI) vwCl [((ad 13), .inl (cZ, 28, .inl (bF g62))), ((ad 12), .inl (cI, 28, .inl m_rowOf_2)), ((ad 11), .inl (cI, 16, .inl m_rowSize)), (ad 0, .inr (10, oM ad m_undoCount m_thrown m_hasSnapshot a_m_fam m_rows m_lineLength m_formattedLength m_bufferLength m_limit m_next m_beginsAt m_token m_error m_errorAt m_errorPosition m_nested m_codeCount)), (a_m_fam, .inl (cJ, 130, .inr (.inl m_fam))), ((ad 9), .inl (cI, 16, .inl m_generation)), ((ad 10), .inl (cI, 12, .inl m_level))] H := by rw [h9]; exact hP
              have hD : va_D A [((ad 13), .inl (cZ, 28, .inl (bF g62))), ((ad 12), .inl (cI, 28, .inl m_rowOf_2)), ((ad 11), .inl (cI, 16, .inl m_rowSize)), (ad 0, .inr (10, oM ad m_undoCount m_thrown m_hasSnapshot a_m_fam m_rows m_lineLength m_formattedLength m_bufferLength m_limit m_next m_beginsAt m_token m_error m_errorAt m_errorPosition m_nested m_codeCount)), (a_m_fam, .inl (cJ, 130, .inr (.inl m_fam))), ((ad 9), .inl (cI, 16, .inl m_generation)), ((ad 10), .inl (cI, 12, .inl m_level))] := by rw [h9]; exact hD
              exact J63 t12 g62 H locs ls hf (hP.sub [3, 4, 5, 0, 6, 1, 2] rfl) (hD.sub [3, 4, 5, 0, 6, 1, 2] (by decide) rfl) hS (lv_sub hl [1, 2, 0] rfl)
            · have hf := itf h9 hf
              refine lv_iconst (v := 1) hx hb dX10_layBoxes_57 (by decide) ?_
              refine lv_goto (tgt := 62) hx hb dX10_layBoxes_58 (by decide) ?_
              obtain ⟨h9, hf⟩ := gd_s hf
              refine va_zast (x := bI true) hx hb hE.1 hP hD hS 0 2 rfl rfl h9 dX10_layBoxes_62 (fun H locs hP hD hS => ?_)
              obtain ⟨g62, h9⟩ : ∃ z, z = (updB m_isThere_2 v1_2.toNatClampNeg true) := ⟨_, rfl⟩
              have hf := lb_e h9 hf
              rw [bF_up] at hP hD
              have hP : va_P (dC, dI) vwCl [((ad 13), .inl (cZ, 28, .inl (bF g62))), ((ad 12), .inl (cI, 28, .inl m_rowOf_2)), ((ad 11), .inl (cI, 16, .inl m_rowSize)), (ad 0, .inr (10, oM ad m_undoCount m_thrown m_hasSnapshot a_m_fam m_rows m_lineLength m_formattedLength m_bufferLength m_limit m_next m_beginsAt m_token m_error m_errorAt m_errorPosition m_nested m_codeCount)), (a_m_fam, .inl (cJ, 130, .inr (.inl m_fam))), ((ad 9), .inl (cI, 16, .inl m_generation)), ((ad 10), .inl (cI, 12, .inl m_level))] H := by rw [h9]; exact hP
              have hD : va_D A [((ad 13), .inl (cZ, 28, .inl (bF g62))), ((ad 12), .inl (cI, 28, .inl m_rowOf_2)), ((ad 11), .inl (cI, 16, .inl m_rowSize)), (ad 0, .inr (10, oM ad m_undoCount m_thrown m_hasSnapshot a_m_fam m_rows m_lineLength m_formattedLength m_bufferLength m_limit m_next m_beginsAt m_token m_error m_errorAt m_errorPosition m_nested m_codeCount)), (a_m_fam, .inl (cJ, 130, .inr (.inl m_fam))), ((ad 9), .inl (cI, 16, .inl m_generation)), ((ad 10), .inl (cI, 12, .inl m_level))] := by rw [h9]; exact hD
              exact J63 t12 g62 H locs ls hf (hP.sub [3, 4, 5, 0, 6, 1, 2] rfl) (hD.sub [3, 4, 5, 0, 6, 1, 2] (by decide) rfl) hS (lv_sub hl [1, 2, 0] rfl)
        · have hf := itf h9 hf
          refine lv_iload_n hx hb dX10_layBoxes_24 rfl (lv_at hl 2 rfl) ?_
          refine lv_aload_n hx hb dX10_layBoxes_25 rfl (lv_at hl 1 rfl) ?_
          obtain ⟨r26, h9, hf⟩ := ob_s hf
          refine gcV (index := 121) S hE (c_X10_persons ad a_m_fam m_undoCount m_thrown m_hasSnapshot m_rows m_lineLength m_formattedLength m_bufferLength m_limit m_next m_beginsAt m_token m_error m_errorAt m_errorPosition m_nested m_codeCount m_fam r26 h9) mX10_persons tw1511 ⟨Nat.le_of_ble_eq_true rfl, Nat.le_of_ble_eq_true rfl⟩ hP hD hS hA ⟨Nat.zero_le _, Nat.zero_le _⟩ 0 10 rfl rfl rfl (wr := [((ad 9), .inl (cI, 16, .inl m_generation)), ((ad 13), .inl (cZ, 28, .inl (bF m_isThere_2))), ((ad 10), .inl (cI, 12, .inl m_level)), ((ad 12), .inl (cI, 28, .inl m_rowOf_2)), ((ad 11), .inl (cI, 16, .inl m_rowSize))]) [0, 1] [2, 3, 4, 5, 6] rfl rfl rfl rfl (by decide) (As := []) (rest := [.int v1_2, .int v1_2, .ref (ad 13)]) rfl hl.1 rfl (Nat.le_of_ble_eq_true rfl) dX10_layBoxes_26 (fun H locs hP hD hS => ?_)
          refine W.eq (g2 := F0 m 29 ls [.int r26, .int v1_2, .int v1_2, .ref (ad 13)]) rfl ?_
          have hP : va_P (dC, dI) vwCl [((ad 9), .inl (cI, 16, .inl m_generation)), ((ad 13), .inl (cZ, 28, .inl (bF m_isThere_2))), ((ad 10), .inl (cI, 12, .inl m_level)), ((ad 12), .inl (cI, 28, .inl m_rowOf_2)), ((ad 11), .inl (cI, 16, .inl m_rowSize)), (ad 0, .inr (10, oM ad m_undoCount m_thrown m_hasSnapshot a_m_fam m_rows m_lineLength m_formattedLength m_bufferLength m_limit m_next m_beginsAt m_token m_error m_errorAt m_errorPosition m_nested m_codeCount)), (a_m_fam, .inl (cJ, 130, .inr (.inl m_fam)))] H := hP
          have hD : va_D A [((ad 9), .inl (cI, 16, .inl m_generation)), ((ad 13), .inl (cZ, 28, .inl (bF m_isThere_2))), ((ad 10), .inl (cI, 12, .inl m_level)), ((ad 12), .inl (cI, 28, .inl m_rowOf_2)), ((ad 11), .inl (cI, 16, .inl m_rowSize)), (ad 0, .inr (10, oM ad m_undoCount m_thrown m_hasSnapshot a_m_fam m_rows m_lineLength m_formattedLength m_bufferLength m_limit m_next m_beginsAt m_token m_error m_errorAt m_errorPosition m_nested m_codeCount)), (a_m_fam, .inl (cJ, 130, .inr (.inl m_fam)))] := hD
          refine lv_icmp_ge (tgt := 36) hx hb dX10_layBoxes_29 (by decide) (fun h9 => ?_) (fun h9 => ?_)
          · have hf := itt h9 hf
            refine lv_iconst (v := 0) hx hb dX10_layBoxes_36 (by decide) ?_
            refine lv_goto (tgt := 62) hx hb dX10_layBoxes_37 (by decide) ?_
            obtain ⟨h9, hf⟩ := gd_s hf
            refine va_zast (x := bI false) hx hb hE.1 hP hD hS 1 2 rfl rfl h9 dX10_layBoxes_62 (fun H locs hP hD hS => ?_)
            obtain ⟨g62, h9⟩ : ∃ z, z = (updB m_isThere_2 v1_2.toNatClampNeg false) := ⟨_, rfl⟩
            have hf := lb_e h9 hf
            rw [bF_up] at hP hD
            have hP : va_P (dC, dI) vwCl [((ad 9), .inl (cI, 16, .inl m_generation)), ((ad 13), .inl (cZ, 28, .inl (bF g62))), ((ad 10), .inl (cI, 12, .inl m_level)), ((ad 12), .inl (cI, 28, .inl m_rowOf_2)), ((ad 11), .inl (cI, 16, .inl m_rowSize)), (ad 0, .inr (10, oM ad m_undoCount m_thrown m_hasSnapshot a_m_fam m_rows m_lineLength m_formattedLength m_bufferLength m_limit m_next m_beginsAt m_token m_error m_errorAt m_errorPosition m_nested m_codeCount)), (a_m_fam, .inl (cJ, 130, .inr (.inl m_fam)))] H := by rw [h9]; exact hP
            have hD : va_D A [((ad 9), .inl (cI, 16, .inl m_generation)), ((ad 13), .inl (cZ, 28, .inl (bF g62))), ((ad 10), .inl (cI, 12, .inl m_level)), ((ad 12), .inl (cI, 28, .inl m_rowOf_2)), ((ad 11), .inl (cI, 16, .inl m_rowSize)), (ad 0, .inr (10, oM ad m_undoCount m_thrown m_hasSnapshot a_m_fam m_rows m_lineLength m_formattedLength m_bufferLength m_limit m_next m_beginsAt m_token m_error m_errorAt m_errorPosition m_nested m_codeCount)), (a_m_fam, .inl (cJ, 130, .inr (.inl m_fam)))] := by rw [h9]; exact hD
            exact J63 t12 g62 H locs ls hf (hP.sub [5, 6, 0, 1, 2, 3, 4] rfl) (hD.sub [5, 6, 0, 1, 2, 3, 4] (by decide) rfl) hS (lv_sub hl [1, 2, 0] rfl)
          · have hf := itf h9 hf
            refine lv_iconst (v := 1) hx hb dX10_layBoxes_32 (by decide) ?_
            refine lv_goto (tgt := 62) hx hb dX10_layBoxes_33 (by decide) ?_
            obtain ⟨h9, hf⟩ := gd_s hf
            refine va_zast (x := bI true) hx hb hE.1 hP hD hS 1 2 rfl rfl h9 dX10_layBoxes_62 (fun H locs hP hD hS => ?_)
            obtain ⟨g62, h9⟩ : ∃ z, z = (updB m_isThere_2 v1_2.toNatClampNeg true) := ⟨_, rfl⟩
            have hf := lb_e h9 hf
            rw [bF_up] at hP hD
            have hP : va_P (dC, dI) vwCl [((ad 9), .inl (cI, 16, .inl m_generation)), ((ad 13), .inl (cZ, 28, .inl (bF g62))), ((ad 10), .inl (cI, 12, .inl m_level)), ((ad 12), .inl (cI, 28, .inl m_rowOf_2)), ((ad 11), .inl (cI, 16, .inl m_rowSize)), (ad 0, .inr (10, oM ad m_undoCount m_thrown m_hasSnapshot a_m_fam m_rows m_lineLength m_formattedLength m_bufferLength m_limit m_next m_beginsAt m_token m_error m_errorAt m_errorPosition m_nested m_codeCount)), (a_m_fam, .inl (cJ, 130, .inr (.inl m_fam)))] H := by rw [h9]; exact hP
            have hD : va_D A [((ad 9), .inl (cI, 16, .inl m_generation)), ((ad 13), .inl (cZ, 28, .inl (bF g62))), ((ad 10), .inl (cI, 12, .inl m_level)), ((ad 12), .inl (cI, 28, .inl m_rowOf_2)), ((ad 11), .inl (cI, 16, .inl m_rowSize)), (ad 0, .inr (10, oM ad m_undoCount m_thrown m_hasSnapshot a_m_fam m_rows m_lineLength m_formattedLength m_bufferLength m_limit m_next m_beginsAt m_token m_error m_errorAt m_errorPosition m_nested m_codeCount)), (a_m_fam, .inl (cJ, 130, .inr (.inl m_fam)))] := by rw [h9]; exact hD
            exact J63 t12 g62 H locs ls hf (hP.sub [5, 6, 0, 1, 2, 3, 4] rfl) (hD.sub [5, 6, 0, 1, 2, 3, 4] (by decide) rfl) hS (lv_sub hl [1, 2, 0] rfl)
  obtain ⟨ex, h9, hf⟩ := ob_s hf
  exact K2 FU (0 : Int32) m_isThere m_rowOf ex H locs ls h9 hf hP hD hS (lv_sub hl [1, 0] rfl)
set_option maxHeartbeats 4000000 in
set_option maxRecDepth 100000 in
theorem c_X10_placeOf (ad : Nat → Nat) (a_m_fam : Nat) (m_undoCount : Int32) (m_thrown : Int32) (m_hasSnapshot : Bool) (m_rows : Int32) (m_lineLength : Int32) (m_formattedLength : Int32) (m_bufferLength : Int32) (m_limit : Int32) (m_next : Int32) (m_beginsAt : Int32) (m_token : Int32) (m_error : Int32) (m_errorAt : Int32) (m_errorPosition : Int32) (m_nested : Int32) (m_codeCount : Int32) (m_fam : Nat → Int64) (v1 : Int32) (r9 : Int32) (hf : p10_placeOf m_fam v1 = some r9) : gM l dC dI cI cJ cZ yX10_placeOf cX10_placeOf 2 (some .int) (0) (0) [.ref (ad 0), .int v1] [(ad 0, .inr (10, oM ad m_undoCount m_thrown m_hasSnapshot a_m_fam m_rows m_lineLength m_formattedLength m_bufferLength m_limit m_next m_beginsAt m_token m_error m_errorAt m_errorPosition m_nested m_codeCount)), (a_m_fam, .inl (cJ, 130, .inr (.inl m_fam)))] [(ad 0, .inr (10, oM ad m_undoCount m_thrown m_hasSnapshot a_m_fam m_rows m_lineLength m_formattedLength m_bufferLength m_limit m_next m_beginsAt m_token m_error m_errorAt m_errorPosition m_nested m_codeCount)), (a_m_fam, .inl (cJ, 130, .inr (.inl m_fam)))] (some (.int r9)) := by
  refine g_start (own := RX10) (by decide +kernel) rfl (Nat.le_of_ble_eq_true rfl) ?_
  intro p e s m below meth c A ls S hr hlocks hE hP hD hS hA hl hin
  have hx := S.1
  have hb := S.2.1
  have hml := S.2.2.1
  have hown := S.2.2.2.1
  have htg : ∀ z ∈ gw, z.before ([.ref (ad 0), .int v1] : List Value).toArray s = true := fun w h => S.2.2.2.2 w (List.mem_cons_of_mem _ h)
  have hl : lv_has ls 2 [(0, .ref (ad 0)), (1, .int v1)] := hl
  have hS0 := hS
  obtain ⟨H, hH⟩ : ∃ H, H = s.heap := ⟨_, rfl⟩
  obtain ⟨locs, hlc⟩ : ∃ locs : List Loc, locs = [] := ⟨_, rfl⟩
  have hS : va_S A s.heap H locs := by rw [hH, hlc]; exact hS0
  have hP : va_P (dC, dI) vwCl [(ad 0, .inr (10, oM ad m_undoCount m_thrown m_hasSnapshot a_m_fam m_rows m_lineLength m_formattedLength m_bufferLength m_limit m_next m_beginsAt m_token m_error m_errorAt m_errorPosition m_nested m_codeCount)), (a_m_fam, .inl (cJ, 130, .inr (.inl m_fam)))] H := by rw [hH]; exact hP
  suffices hgo : W p l e ({ frames := 0, cells := 0, slots := 0, locals := 0 }) s m ([.ref (ad 0), .int v1] : List Value).toArray below meth c H locs 0 0 (MQ below (gQ dC dI (some (.int r9)) A [(ad 0, .inr (10, oM ad m_undoCount m_thrown m_hasSnapshot a_m_fam m_rows m_lineLength m_formattedLength m_bufferLength m_limit m_next m_beginsAt m_token m_error m_errorAt m_errorPosition m_nested m_codeCount)), (a_m_fam, .inl (cJ, 130, .inr (.inl m_fam)))]) ([.ref (ad 0), .int v1] : List Value).toArray s 0 0 A) (F0 m 0 ls []) by rw [hH, hlc] at hgo; exact hgo
  rw [p10_placeOf] at hf
  refine lv_aload_n hx hb dX10_placeOf_0 rfl (lv_at hl 0 rfl) ?_
  refine va_get (D := (dC, dI)) (ci := 10) (v := .ref a_m_fam) (C := RX10) (T := TX10) (N := 37) hx hb htg inX10 hown hE.1 hP 0 rfl rfl 7 (by decide) (htg _ tw1389) (fun _ h9 => h9) rfl dX10_placeOf_1 ?_
  refine lv_bipush (v := 102) hx hb dX10_placeOf_4 (by decide) ?_
  refine lv_iload_n hx hb dX10_placeOf_6 rfl (lv_at hl 1 rfl) ?_
  refine lv_iadd hx hb dX10_placeOf_7 ?_
  obtain ⟨h9, hf⟩ := gd_s hf
  refine va_lald hx hb hE.1 hP 1 1 rfl rfl h9 dX10_placeOf_8 ?_
  refine lv_l2i hx hb dX10_placeOf_9 rfl ?_
  cases hf
  exact g_iret S hr hlocks hP hD hS dX10_placeOf_10
set_option maxHeartbeats 4000000 in
set_option maxRecDepth 100000 in
theorem c_X10_boxIn (ad : Nat → Nat) (a_m_fam : Nat) (m_undoCount : Int32) (m_thrown : Int32) (m_hasSnapshot : Bool) (m_rows : Int32) (m_lineLength : Int32) (m_formattedLength : Int32) (m_bufferLength : Int32) (m_limit : Int32) (m_next : Int32) (m_beginsAt : Int32) (m_token : Int32) (m_error : Int32) (m_errorAt : Int32) (m_errorPosition : Int32) (m_nested : Int32) (m_codeCount : Int32) (m_boxAt : Nat → Int32) (v1 : Int32) (v2 : Int32) (r9 : Int32) (hf : p10_boxIn m_boxAt v1 v2 = some r9) : gM l dC dI cI cJ cZ yX10_boxIn cX10_boxIn 3 (some .int) (0) (0) [.ref (ad 0), .int v1, .int v2] [(ad 0, .inr (10, oM ad m_undoCount m_thrown m_hasSnapshot a_m_fam m_rows m_lineLength m_formattedLength m_bufferLength m_limit m_next m_beginsAt m_token m_error m_errorAt m_errorPosition m_nested m_codeCount)), ((ad 14), .inl (cI, 448, .inl m_boxAt))] [(ad 0, .inr (10, oM ad m_undoCount m_thrown m_hasSnapshot a_m_fam m_rows m_lineLength m_formattedLength m_bufferLength m_limit m_next m_beginsAt m_token m_error m_errorAt m_errorPosition m_nested m_codeCount)), ((ad 14), .inl (cI, 448, .inl m_boxAt))] (some (.int r9)) := by
  refine g_start (own := RX10) (by decide +kernel) rfl (Nat.le_of_ble_eq_true rfl) ?_
  intro p e s m below meth c A ls S hr hlocks hE hP hD hS hA hl hin
  have hx := S.1
  have hb := S.2.1
  have hml := S.2.2.1
  have hown := S.2.2.2.1
  have htg : ∀ z ∈ gw, z.before ([.ref (ad 0), .int v1, .int v2] : List Value).toArray s = true := fun w h => S.2.2.2.2 w (List.mem_cons_of_mem _ h)
  have hl : lv_has ls 3 [(0, .ref (ad 0)), (1, .int v1), (2, .int v2)] := hl
  have hS0 := hS
  obtain ⟨H, hH⟩ : ∃ H, H = s.heap := ⟨_, rfl⟩
  obtain ⟨locs, hlc⟩ : ∃ locs : List Loc, locs = [] := ⟨_, rfl⟩
  have hS : va_S A s.heap H locs := by rw [hH, hlc]; exact hS0
  have hP : va_P (dC, dI) vwCl [(ad 0, .inr (10, oM ad m_undoCount m_thrown m_hasSnapshot a_m_fam m_rows m_lineLength m_formattedLength m_bufferLength m_limit m_next m_beginsAt m_token m_error m_errorAt m_errorPosition m_nested m_codeCount)), ((ad 14), .inl (cI, 448, .inl m_boxAt))] H := by rw [hH]; exact hP
  suffices hgo : W p l e ({ frames := 0, cells := 0, slots := 0, locals := 0 }) s m ([.ref (ad 0), .int v1, .int v2] : List Value).toArray below meth c H locs 0 0 (MQ below (gQ dC dI (some (.int r9)) A [(ad 0, .inr (10, oM ad m_undoCount m_thrown m_hasSnapshot a_m_fam m_rows m_lineLength m_formattedLength m_bufferLength m_limit m_next m_beginsAt m_token m_error m_errorAt m_errorPosition m_nested m_codeCount)), ((ad 14), .inl (cI, 448, .inl m_boxAt))]) ([.ref (ad 0), .int v1, .int v2] : List Value).toArray s 0 0 A) (F0 m 0 ls []) by rw [hH, hlc] at hgo; exact hgo
  rw [p10_boxIn] at hf
  refine lv_aload_n hx hb dX10_boxIn_0 rfl (lv_at hl 0 rfl) ?_
  refine va_get (D := (dC, dI)) (ci := 10) (v := .ref (ad 14)) (C := RX10) (T := TX10) (N := 37) hx hb htg inX10 hown hE.1 hP 0 rfl rfl 13 (by decide) (htg _ tw1395) (fun _ h9 => h9) rfl dX10_boxIn_1 ?_
  refine lv_bipush (v := 28) hx hb dX10_boxIn_4 (by decide) ?_
  refine lv_iload_n hx hb dX10_boxIn_6 rfl (lv_at hl 1 rfl) ?_
  refine lv_imul hx hb dX10_boxIn_7 ?_
  refine lv_iload_n hx hb dX10_boxIn_8 rfl (lv_at hl 2 rfl) ?_
  refine lv_iadd hx hb dX10_boxIn_9 ?_
  obtain ⟨h9, hf⟩ := gd_s hf
  refine va_iald hx hb hE.1 hP 1 0 rfl rfl h9 dX10_boxIn_10 ?_
  cases hf
  exact g_iret S hr hlocks hP hD hS dX10_boxIn_11
set_option maxHeartbeats 4000000 in
set_option maxRecDepth 100000 in
theorem c_X10_personOf (ad : Nat → Nat) (a_m_fam : Nat) (m_undoCount : Int32) (m_thrown : Int32) (m_hasSnapshot : Bool) (m_rows : Int32) (m_lineLength : Int32) (m_formattedLength : Int32) (m_bufferLength : Int32) (m_limit : Int32) (m_next : Int32) (m_beginsAt : Int32) (m_token : Int32) (m_error : Int32) (m_errorAt : Int32) (m_errorPosition : Int32) (m_nested : Int32) (m_codeCount : Int32) (m_fam : Nat → Int64) (m_generation : Nat → Int32) (m_level : Nat → Int32) (v1 : Int32) (r9 : Int32) (hf : p10_personOf m_fam m_generation m_level v1 = some r9) : gM l dC dI cI cJ cZ yX10_personOf cX10_personOf 2 (some .int) (2) (45) [.ref (ad 0), .int v1] [(ad 0, .inr (10, oM ad m_undoCount m_thrown m_hasSnapshot a_m_fam m_rows m_lineLength m_formattedLength m_bufferLength m_limit m_next m_beginsAt m_token m_error m_errorAt m_errorPosition m_nested m_codeCount)), (a_m_fam, .inl (cJ, 130, .inr (.inl m_fam))), ((ad 9), .inl (cI, 16, .inl m_generation)), ((ad 10), .inl (cI, 12, .inl m_level))] [(ad 0, .inr (10, oM ad m_undoCount m_thrown m_hasSnapshot a_m_fam m_rows m_lineLength m_formattedLength m_bufferLength m_limit m_next m_beginsAt m_token m_error m_errorAt m_errorPosition m_nested m_codeCount)), (a_m_fam, .inl (cJ, 130, .inr (.inl m_fam))), ((ad 9), .inl (cI, 16, .inl m_generation)), ((ad 10), .inl (cI, 12, .inl m_level))] (some (.int r9)) := by
  refine g_start (own := RX10) (by decide +kernel) rfl (Nat.le_of_ble_eq_true rfl) ?_
  intro p e s m below meth c A ls S hr hlocks hE hP hD hS hA hl hin
  have hx := S.1
  have hb := S.2.1
  have hml := S.2.2.1
  have hown := S.2.2.2.1
  have htg : ∀ z ∈ gw, z.before ([.ref (ad 0), .int v1] : List Value).toArray s = true := fun w h => S.2.2.2.2 w (List.mem_cons_of_mem _ h)
  have hl : lv_has ls 2 [(0, .ref (ad 0)), (1, .int v1)] := hl
  have hS0 := hS
  obtain ⟨H, hH⟩ : ∃ H, H = s.heap := ⟨_, rfl⟩
  obtain ⟨locs, hlc⟩ : ∃ locs : List Loc, locs = [] := ⟨_, rfl⟩
  have hS : va_S A s.heap H locs := by rw [hH, hlc]; exact hS0
  have hP : va_P (dC, dI) vwCl [(ad 0, .inr (10, oM ad m_undoCount m_thrown m_hasSnapshot a_m_fam m_rows m_lineLength m_formattedLength m_bufferLength m_limit m_next m_beginsAt m_token m_error m_errorAt m_errorPosition m_nested m_codeCount)), (a_m_fam, .inl (cJ, 130, .inr (.inl m_fam))), ((ad 9), .inl (cI, 16, .inl m_generation)), ((ad 10), .inl (cI, 12, .inl m_level))] H := by rw [hH]; exact hP
  suffices hgo : W p l e ({ frames := 2, cells := 0, slots := 0, locals := 45 }) s m ([.ref (ad 0), .int v1] : List Value).toArray below meth c H locs 0 0 (MQ below (gQ dC dI (some (.int r9)) A [(ad 0, .inr (10, oM ad m_undoCount m_thrown m_hasSnapshot a_m_fam m_rows m_lineLength m_formattedLength m_bufferLength m_limit m_next m_beginsAt m_token m_error m_errorAt m_errorPosition m_nested m_codeCount)), (a_m_fam, .inl (cJ, 130, .inr (.inl m_fam))), ((ad 9), .inl (cI, 16, .inl m_generation)), ((ad 10), .inl (cI, 12, .inl m_level))]) ([.ref (ad 0), .int v1] : List Value).toArray s 0 0 A) (F0 m 0 ls []) by rw [hH, hlc] at hgo; exact hgo
  rw [p10_personOf] at hf
  refine lv_iload_n hx hb dX10_personOf_0 rfl (lv_at hl 1 rfl) ?_
  refine lv_bipush (v := 16) hx hb dX10_personOf_1 (by decide) ?_
  refine lv_icmp_ge (tgt := 10) hx hb dX10_personOf_3 (by decide) (fun h9 => ?_) (fun h9 => ?_)
  · have hf := itt h9 hf
    refine lv_aload_n hx hb dX10_personOf_10 rfl (lv_at hl 0 rfl) ?_
    refine lv_iload_n hx hb dX10_personOf_11 rfl (lv_at hl 1 rfl) ?_
    refine lv_bipush (v := 16) hx hb dX10_personOf_12 (by decide) ?_
    refine lv_isub hx hb dX10_personOf_14 ?_
    obtain ⟨r15, h9, hf⟩ := ob_s hf
    refine gcV (index := 135) S hE (c_X10_referred ad a_m_fam m_undoCount m_thrown m_hasSnapshot m_rows m_lineLength m_formattedLength m_bufferLength m_limit m_next m_beginsAt m_token m_error m_errorAt m_errorPosition m_nested m_codeCount m_fam m_generation m_level (v1 - (16 : Int32)) r15 h9) mX10_referred tw1540 ⟨Nat.le_of_ble_eq_true rfl, Nat.le_of_ble_eq_true rfl⟩ hP hD hS hA ⟨Nat.zero_le _, Nat.zero_le _⟩ 0 10 rfl rfl rfl (wr := []) [0, 1, 2, 3] [] rfl rfl rfl rfl (by decide) (As := [.int (v1 - (16 : Int32))]) (rest := []) rfl hl.1 rfl (Nat.le_of_ble_eq_true rfl) dX10_personOf_15 (fun H locs hP hD hS => ?_)
    refine W.eq (g2 := F0 m 18 ls [.int r15]) rfl ?_
    have hP : va_P (dC, dI) vwCl [(ad 0, .inr (10, oM ad m_undoCount m_thrown m_hasSnapshot a_m_fam m_rows m_lineLength m_formattedLength m_bufferLength m_limit m_next m_beginsAt m_token m_error m_errorAt m_errorPosition m_nested m_codeCount)), (a_m_fam, .inl (cJ, 130, .inr (.inl m_fam))), ((ad 9), .inl (cI, 16, .inl m_generation)), ((ad 10), .inl (cI, 12, .inl m_level))] H := hP
    have hD : va_D A [(ad 0, .inr (10, oM ad m_undoCount m_thrown m_hasSnapshot a_m_fam m_rows m_lineLength m_formattedLength m_bufferLength m_limit m_next m_beginsAt m_token m_error m_errorAt m_errorPosition m_nested m_codeCount)), (a_m_fam, .inl (cJ, 130, .inr (.inl m_fam))), ((ad 9), .inl (cI, 16, .inl m_generation)), ((ad 10), .inl (cI, 12, .inl m_level))] := hD
    cases hf
    exact g_iret S hr hlocks hP hD hS dX10_personOf_18
  · have hf := itf h9 hf
    refine lv_iload_n hx hb dX10_personOf_6 rfl (lv_at hl 1 rfl) ?_
    refine lv_goto (tgt := 18) hx hb dX10_personOf_7 (by decide) ?_
    cases hf
    exact g_iret S hr hlocks hP hD hS dX10_personOf_18
set_option maxHeartbeats 4000000 in
set_option maxRecDepth 100000 in
theorem c_X10_partnerBox (ad : Nat → Nat) (a_m_fam : Nat) (m_undoCount : Int32) (m_thrown : Int32) (m_hasSnapshot : Bool) (m_rows : Int32) (m_lineLength : Int32) (m_formattedLength : Int32) (m_bufferLength : Int32) (m_limit : Int32) (m_next : Int32) (m_beginsAt : Int32) (m_token : Int32) (m_error : Int32) (m_errorAt : Int32) (m_errorPosition : Int32) (m_nested : Int32) (m_codeCount : Int32) (m_fam : Nat → Int64) (m_generation : Nat → Int32) (m_level : Nat → Int32) (v1 : Int32) (v2 : Int32) (r9 : Int32) (hf : p10_partnerBox m_fam m_generation m_level v1 v2 = some r9) : gM l dC dI cI cJ cZ yX10_partnerBox cX10_partnerBox 4 (some .int) (1) (22) [.ref (ad 0), .int v1, .int v2] [(ad 0, .inr (10, oM ad m_undoCount m_thrown m_hasSnapshot a_m_fam m_rows m_lineLength m_formattedLength m_bufferLength m_limit m_next m_beginsAt m_token m_error m_errorAt m_errorPosition m_nested m_codeCount)), (a_m_fam, .inl (cJ, 130, .inr (.inl m_fam))), ((ad 9), .inl (cI, 16, .inl m_generation)), ((ad 10), .inl (cI, 12, .inl m_level))] [(ad 0, .inr (10, oM ad m_undoCount m_thrown m_hasSnapshot a_m_fam m_rows m_lineLength m_formattedLength m_bufferLength m_limit m_next m_beginsAt m_token m_error m_errorAt m_errorPosition m_nested m_codeCount)), (a_m_fam, .inl (cJ, 130, .inr (.inl m_fam))), ((ad 9), .inl (cI, 16, .inl m_generation)), ((ad 10), .inl (cI, 12, .inl m_level))] (some (.int r9)) := by
  refine g_start (own := RX10) (by decide +kernel) rfl (Nat.le_of_ble_eq_true rfl) ?_
  intro p e s m below meth c A ls S hr hlocks hE hP hD hS hA hl hin
  have hx := S.1
  have hb := S.2.1
  have hml := S.2.2.1
  have hown := S.2.2.2.1
  have htg : ∀ z ∈ gw, z.before ([.ref (ad 0), .int v1, .int v2] : List Value).toArray s = true := fun w h => S.2.2.2.2 w (List.mem_cons_of_mem _ h)
  have hl : lv_has ls 4 [(0, .ref (ad 0)), (1, .int v1), (2, .int v2)] := hl
  have hS0 := hS
  obtain ⟨H, hH⟩ : ∃ H, H = s.heap := ⟨_, rfl⟩
  obtain ⟨locs, hlc⟩ : ∃ locs : List Loc, locs = [] := ⟨_, rfl⟩
  have hS : va_S A s.heap H locs := by rw [hH, hlc]; exact hS0
  have hP : va_P (dC, dI) vwCl [(ad 0, .inr (10, oM ad m_undoCount m_thrown m_hasSnapshot a_m_fam m_rows m_lineLength m_formattedLength m_bufferLength m_limit m_next m_beginsAt m_token m_error m_errorAt m_errorPosition m_nested m_codeCount)), (a_m_fam, .inl (cJ, 130, .inr (.inl m_fam))), ((ad 9), .inl (cI, 16, .inl m_generation)), ((ad 10), .inl (cI, 12, .inl m_level))] H := by rw [hH]; exact hP
  suffices hgo : W p l e ({ frames := 1, cells := 0, slots := 0, locals := 22 }) s m ([.ref (ad 0), .int v1, .int v2] : List Value).toArray below meth c H locs 0 0 (MQ below (gQ dC dI (some (.int r9)) A [(ad 0, .inr (10, oM ad m_undoCount m_thrown m_hasSnapshot a_m_fam m_rows m_lineLength m_formattedLength m_bufferLength m_limit m_next m_beginsAt m_token m_error m_errorAt m_errorPosition m_nested m_codeCount)), (a_m_fam, .inl (cJ, 130, .inr (.inl m_fam))), ((ad 9), .inl (cI, 16, .inl m_generation)), ((ad 10), .inl (cI, 12, .inl m_level))]) ([.ref (ad 0), .int v1, .int v2] : List Value).toArray s 0 0 A) (F0 m 0 ls []) by rw [hH, hlc] at hgo; exact hgo
  rw [p10_partnerBox] at hf
  refine lv_aload_n hx hb dX10_partnerBox_0 rfl (lv_at hl 0 rfl) ?_
  refine lv_iload_n hx hb dX10_partnerBox_1 rfl (lv_at hl 1 rfl) ?_
  refine lv_iload_n hx hb dX10_partnerBox_2 rfl (lv_at hl 2 rfl) ?_
  obtain ⟨r3, h9, hf⟩ := ob_s hf
  refine gcV (index := 102) S hE (c_X10_partner ad a_m_fam m_undoCount m_thrown m_hasSnapshot m_rows m_lineLength m_formattedLength m_bufferLength m_limit m_next m_beginsAt m_token m_error m_errorAt m_errorPosition m_nested m_codeCount m_fam v1 v2 r3 h9) mX10_partner tw1527 ⟨Nat.le_of_ble_eq_true rfl, Nat.le_of_ble_eq_true rfl⟩ hP hD hS hA ⟨Nat.zero_le _, Nat.zero_le _⟩ 0 10 rfl rfl rfl (wr := [((ad 9), .inl (cI, 16, .inl m_generation)), ((ad 10), .inl (cI, 12, .inl m_level))]) [0, 1] [2, 3] rfl rfl rfl rfl (by decide) (As := [.int v1, .int v2]) (rest := []) rfl hl.1 rfl (Nat.le_of_ble_eq_true rfl) dX10_partnerBox_3 (fun H locs hP hD hS => ?_)
  refine W.eq (g2 := F0 m 6 ls [.int r3]) rfl ?_
  have hP : va_P (dC, dI) vwCl [((ad 9), .inl (cI, 16, .inl m_generation)), ((ad 10), .inl (cI, 12, .inl m_level)), (ad 0, .inr (10, oM ad m_undoCount m_thrown m_hasSnapshot a_m_fam m_rows m_lineLength m_formattedLength m_bufferLength m_limit m_next m_beginsAt m_token m_error m_errorAt m_errorPosition m_nested m_codeCount)), (a_m_fam, .inl (cJ, 130, .inr (.inl m_fam)))] H := hP
  have hD : va_D A [((ad 9), .inl (cI, 16, .inl m_generation)), ((ad 10), .inl (cI, 12, .inl m_level)), (ad 0, .inr (10, oM ad m_undoCount m_thrown m_hasSnapshot a_m_fam m_rows m_lineLength m_formattedLength m_bufferLength m_limit m_next m_beginsAt m_token m_error m_errorAt m_errorPosition m_nested m_codeCount)), (a_m_fam, .inl (cJ, 130, .inr (.inl m_fam)))] := hD
  refine lv_istore_n (lv' := [(3, .int r3), (0, .ref (ad 0)), (1, .int v1), (2, .int v2)]) hx hb dX10_partnerBox_6 rfl hl (by decide) rfl (fun ls hl => ?_)
  refine lv_aload_n hx hb dX10_partnerBox_7 rfl (lv_at hl 1 rfl) ?_
  refine va_get (D := (dC, dI)) (ci := 10) (v := .ref (ad 9)) (C := RX10) (T := TX10) (N := 37) hx hb htg inX10 hown hE.1 hP 2 rfl rfl 8 (by decide) (htg _ tw1390) (fun _ h9 => h9) rfl dX10_partnerBox_8 ?_
  refine lv_iload_n hx hb dX10_partnerBox_11 rfl (lv_at hl 0 rfl) ?_
  obtain ⟨h9, hf⟩ := gd_s hf
  refine va_iald hx hb hE.1 hP 0 0 rfl rfl h9 dX10_partnerBox_12 ?_
  refine lv_aload_n hx hb dX10_partnerBox_13 rfl (lv_at hl 1 rfl) ?_
  refine va_get (D := (dC, dI)) (ci := 10) (v := .ref (ad 10)) (C := RX10) (T := TX10) (N := 37) hx hb htg inX10 hown hE.1 hP 2 rfl rfl 9 (by decide) (htg _ tw1391) (fun _ h9 => h9) rfl dX10_partnerBox_14 ?_
  refine lv_iload_n hx hb dX10_partnerBox_17 rfl (lv_at hl 2 rfl) ?_
  obtain ⟨h9, hf⟩ := gd_s hf
  refine va_iald hx hb hE.1 hP 1 0 rfl rfl h9 dX10_partnerBox_18 ?_
  refine lv_icmp_ge (tgt := 29) hx hb dX10_partnerBox_19 (by decide) (fun h9 => ?_) (fun h9 => ?_)
  · have hf := itt h9 hf
    refine lv_iload_n hx hb dX10_partnerBox_29 rfl (lv_at hl 0 rfl) ?_
    cases hf
    exact g_iret S hr hlocks (hP.sub [2, 3, 0, 1] rfl) (hD.sub [2, 3, 0, 1] (by decide) rfl) hS dX10_partnerBox_30
  · have hf := itf h9 hf
    refine lv_bipush (v := 16) hx hb dX10_partnerBox_22 (by decide) ?_
    refine lv_iload_n hx hb dX10_partnerBox_24 rfl (lv_at hl 2 rfl) ?_
    refine lv_iadd hx hb dX10_partnerBox_25 ?_
    refine lv_goto (tgt := 30) hx hb dX10_partnerBox_26 (by decide) ?_
    cases hf
    exact g_iret S hr hlocks (hP.sub [2, 3, 0, 1] rfl) (hD.sub [2, 3, 0, 1] (by decide) rfl) hS dX10_partnerBox_30
set_option maxHeartbeats 4000000 in
set_option maxRecDepth 100000 in
theorem c_X10_middle (ad : Nat → Nat) (a_m_fam : Nat) (m_undoCount : Int32) (m_thrown : Int32) (m_hasSnapshot : Bool) (m_rows : Int32) (m_lineLength : Int32) (m_formattedLength : Int32) (m_bufferLength : Int32) (m_limit : Int32) (m_next : Int32) (m_beginsAt : Int32) (m_token : Int32) (m_error : Int32) (m_errorAt : Int32) (m_errorPosition : Int32) (m_nested : Int32) (m_codeCount : Int32) (m_fam : Nat → Int64) (m_generation : Nat → Int32) (m_level : Nat → Int32) (v1 : Int32) (r9 : Int32) (hf : p10_middle m_fam m_generation m_level v1 = some r9) : gM l dC dI cI cJ cZ yX10_middle cX10_middle 2 (some .int) (2) (45) [.ref (ad 0), .int v1] [(ad 0, .inr (10, oM ad m_undoCount m_thrown m_hasSnapshot a_m_fam m_rows m_lineLength m_formattedLength m_bufferLength m_limit m_next m_beginsAt m_token m_error m_errorAt m_errorPosition m_nested m_codeCount)), (a_m_fam, .inl (cJ, 130, .inr (.inl m_fam))), ((ad 9), .inl (cI, 16, .inl m_generation)), ((ad 10), .inl (cI, 12, .inl m_level))] [(ad 0, .inr (10, oM ad m_undoCount m_thrown m_hasSnapshot a_m_fam m_rows m_lineLength m_formattedLength m_bufferLength m_limit m_next m_beginsAt m_token m_error m_errorAt m_errorPosition m_nested m_codeCount)), (a_m_fam, .inl (cJ, 130, .inr (.inl m_fam))), ((ad 9), .inl (cI, 16, .inl m_generation)), ((ad 10), .inl (cI, 12, .inl m_level))] (some (.int r9)) := by
  refine g_start (own := RX10) (by decide +kernel) rfl (Nat.le_of_ble_eq_true rfl) ?_
  intro p e s m below meth c A ls S hr hlocks hE hP hD hS hA hl hin
  have hx := S.1
  have hb := S.2.1
  have hml := S.2.2.1
  have hown := S.2.2.2.1
  have htg : ∀ z ∈ gw, z.before ([.ref (ad 0), .int v1] : List Value).toArray s = true := fun w h => S.2.2.2.2 w (List.mem_cons_of_mem _ h)
  have hl : lv_has ls 2 [(0, .ref (ad 0)), (1, .int v1)] := hl
  have hS0 := hS
  obtain ⟨H, hH⟩ : ∃ H, H = s.heap := ⟨_, rfl⟩
  obtain ⟨locs, hlc⟩ : ∃ locs : List Loc, locs = [] := ⟨_, rfl⟩
  have hS : va_S A s.heap H locs := by rw [hH, hlc]; exact hS0
  have hP : va_P (dC, dI) vwCl [(ad 0, .inr (10, oM ad m_undoCount m_thrown m_hasSnapshot a_m_fam m_rows m_lineLength m_formattedLength m_bufferLength m_limit m_next m_beginsAt m_token m_error m_errorAt m_errorPosition m_nested m_codeCount)), (a_m_fam, .inl (cJ, 130, .inr (.inl m_fam))), ((ad 9), .inl (cI, 16, .inl m_generation)), ((ad 10), .inl (cI, 12, .inl m_level))] H := by rw [hH]; exact hP
  suffices hgo : W p l e ({ frames := 2, cells := 0, slots := 0, locals := 45 }) s m ([.ref (ad 0), .int v1] : List Value).toArray below meth c H locs 0 0 (MQ below (gQ dC dI (some (.int r9)) A [(ad 0, .inr (10, oM ad m_undoCount m_thrown m_hasSnapshot a_m_fam m_rows m_lineLength m_formattedLength m_bufferLength m_limit m_next m_beginsAt m_token m_error m_errorAt m_errorPosition m_nested m_codeCount)), (a_m_fam, .inl (cJ, 130, .inr (.inl m_fam))), ((ad 9), .inl (cI, 16, .inl m_generation)), ((ad 10), .inl (cI, 12, .inl m_level))]) ([.ref (ad 0), .int v1] : List Value).toArray s 0 0 A) (F0 m 0 ls []) by rw [hH, hlc] at hgo; exact hgo
  rw [p10_middle] at hf
  refine lv_aload_n hx hb dX10_middle_0 rfl (lv_at hl 0 rfl) ?_
  refine lv_aload_n hx hb dX10_middle_1 rfl (lv_at hl 0 rfl) ?_
  refine lv_iload_n hx hb dX10_middle_2 rfl (lv_at hl 1 rfl) ?_
  refine lv_iconst (v := 0) hx hb dX10_middle_3 (by decide) ?_
  obtain ⟨r4, h9, hf⟩ := ob_s hf
  refine gcV (index := 150) S hE (c_X10_partnerBox ad a_m_fam m_undoCount m_thrown m_hasSnapshot m_rows m_lineLength m_formattedLength m_bufferLength m_limit m_next m_beginsAt m_token m_error m_errorAt m_errorPosition m_nested m_codeCount m_fam m_generation m_level v1 (0 : Int32) r4 h9) mX10_partnerBox tw1617 ⟨Nat.le_of_ble_eq_true rfl, Nat.le_of_ble_eq_true rfl⟩ hP hD hS hA ⟨Nat.zero_le _, Nat.zero_le _⟩ 0 10 rfl rfl rfl (wr := []) [0, 1, 2, 3] [] rfl rfl rfl rfl (by decide) (As := [.int v1, .int (0 : Int32)]) (rest := [.ref (ad 0)]) rfl hl.1 rfl (Nat.le_of_ble_eq_true rfl) dX10_middle_4 (fun H locs hP hD hS => ?_)
  refine W.eq (g2 := F0 m 7 ls [.int r4, .ref (ad 0)]) rfl ?_
  have hP : va_P (dC, dI) vwCl [(ad 0, .inr (10, oM ad m_undoCount m_thrown m_hasSnapshot a_m_fam m_rows m_lineLength m_formattedLength m_bufferLength m_limit m_next m_beginsAt m_token m_error m_errorAt m_errorPosition m_nested m_codeCount)), (a_m_fam, .inl (cJ, 130, .inr (.inl m_fam))), ((ad 9), .inl (cI, 16, .inl m_generation)), ((ad 10), .inl (cI, 12, .inl m_level))] H := hP
  have hD : va_D A [(ad 0, .inr (10, oM ad m_undoCount m_thrown m_hasSnapshot a_m_fam m_rows m_lineLength m_formattedLength m_bufferLength m_limit m_next m_beginsAt m_token m_error m_errorAt m_errorPosition m_nested m_codeCount)), (a_m_fam, .inl (cJ, 130, .inr (.inl m_fam))), ((ad 9), .inl (cI, 16, .inl m_generation)), ((ad 10), .inl (cI, 12, .inl m_level))] := hD
  obtain ⟨r7, h9, hf⟩ := ob_s hf
  refine gcV (index := 147) S hE (c_X10_placeOf ad a_m_fam m_undoCount m_thrown m_hasSnapshot m_rows m_lineLength m_formattedLength m_bufferLength m_limit m_next m_beginsAt m_token m_error m_errorAt m_errorPosition m_nested m_codeCount m_fam r4 r7 h9) mX10_placeOf tw1548 ⟨Nat.le_of_ble_eq_true rfl, Nat.le_of_ble_eq_true rfl⟩ hP hD hS hA ⟨Nat.zero_le _, Nat.zero_le _⟩ 0 10 rfl rfl rfl (wr := [((ad 9), .inl (cI, 16, .inl m_generation)), ((ad 10), .inl (cI, 12, .inl m_level))]) [0, 1] [2, 3] rfl rfl rfl rfl (by decide) (As := [.int r4]) (rest := []) rfl hl.1 rfl (Nat.le_of_ble_eq_true rfl) dX10_middle_7 (fun H locs hP hD hS => ?_)
  refine W.eq (g2 := F0 m 10 ls [.int r7]) rfl ?_
  have hP : va_P (dC, dI) vwCl [((ad 9), .inl (cI, 16, .inl m_generation)), ((ad 10), .inl (cI, 12, .inl m_level)), (ad 0, .inr (10, oM ad m_undoCount m_thrown m_hasSnapshot a_m_fam m_rows m_lineLength m_formattedLength m_bufferLength m_limit m_next m_beginsAt m_token m_error m_errorAt m_errorPosition m_nested m_codeCount)), (a_m_fam, .inl (cJ, 130, .inr (.inl m_fam)))] H := hP
  have hD : va_D A [((ad 9), .inl (cI, 16, .inl m_generation)), ((ad 10), .inl (cI, 12, .inl m_level)), (ad 0, .inr (10, oM ad m_undoCount m_thrown m_hasSnapshot a_m_fam m_rows m_lineLength m_formattedLength m_bufferLength m_limit m_next m_beginsAt m_token m_error m_errorAt m_errorPosition m_nested m_codeCount)), (a_m_fam, .inl (cJ, 130, .inr (.inl m_fam)))] := hD
  refine lv_aload_n hx hb dX10_middle_10 rfl (lv_at hl 0 rfl) ?_
  refine lv_aload_n hx hb dX10_middle_11 rfl (lv_at hl 0 rfl) ?_
  refine lv_iload_n hx hb dX10_middle_12 rfl (lv_at hl 1 rfl) ?_
  refine lv_iconst (v := 1) hx hb dX10_middle_13 (by decide) ?_
  obtain ⟨r14, h9, hf⟩ := ob_s hf
  refine gcV (index := 150) S hE (c_X10_partnerBox ad a_m_fam m_undoCount m_thrown m_hasSnapshot m_rows m_lineLength m_formattedLength m_bufferLength m_limit m_next m_beginsAt m_token m_error m_errorAt m_errorPosition m_nested m_codeCount m_fam m_generation m_level v1 (1 : Int32) r14 h9) mX10_partnerBox tw1617 ⟨Nat.le_of_ble_eq_true rfl, Nat.le_of_ble_eq_true rfl⟩ hP hD hS hA ⟨Nat.zero_le _, Nat.zero_le _⟩ 2 10 rfl rfl rfl (wr := []) [2, 3, 0, 1] [] rfl rfl rfl rfl (by decide) (As := [.int v1, .int (1 : Int32)]) (rest := [.ref (ad 0), .int r7]) rfl hl.1 rfl (Nat.le_of_ble_eq_true rfl) dX10_middle_14 (fun H locs hP hD hS => ?_)
  refine W.eq (g2 := F0 m 17 ls [.int r14, .ref (ad 0), .int r7]) rfl ?_
  have hP : va_P (dC, dI) vwCl [(ad 0, .inr (10, oM ad m_undoCount m_thrown m_hasSnapshot a_m_fam m_rows m_lineLength m_formattedLength m_bufferLength m_limit m_next m_beginsAt m_token m_error m_errorAt m_errorPosition m_nested m_codeCount)), (a_m_fam, .inl (cJ, 130, .inr (.inl m_fam))), ((ad 9), .inl (cI, 16, .inl m_generation)), ((ad 10), .inl (cI, 12, .inl m_level))] H := hP
  have hD : va_D A [(ad 0, .inr (10, oM ad m_undoCount m_thrown m_hasSnapshot a_m_fam m_rows m_lineLength m_formattedLength m_bufferLength m_limit m_next m_beginsAt m_token m_error m_errorAt m_errorPosition m_nested m_codeCount)), (a_m_fam, .inl (cJ, 130, .inr (.inl m_fam))), ((ad 9), .inl (cI, 16, .inl m_generation)), ((ad 10), .inl (cI, 12, .inl m_level))] := hD
  obtain ⟨r17, h9, hf⟩ := ob_s hf
  refine gcV (index := 147) S hE (c_X10_placeOf ad a_m_fam m_undoCount m_thrown m_hasSnapshot m_rows m_lineLength m_formattedLength m_bufferLength m_limit m_next m_beginsAt m_token m_error m_errorAt m_errorPosition m_nested m_codeCount m_fam r14 r17 h9) mX10_placeOf tw1548 ⟨Nat.le_of_ble_eq_true rfl, Nat.le_of_ble_eq_true rfl⟩ hP hD hS hA ⟨Nat.zero_le _, Nat.zero_le _⟩ 0 10 rfl rfl rfl (wr := [((ad 9), .inl (cI, 16, .inl m_generation)), ((ad 10), .inl (cI, 12, .inl m_level))]) [0, 1] [2, 3] rfl rfl rfl rfl (by decide) (As := [.int r14]) (rest := [.int r7]) rfl hl.1 rfl (Nat.le_of_ble_eq_true rfl) dX10_middle_17 (fun H locs hP hD hS => ?_)
  refine W.eq (g2 := F0 m 20 ls [.int r17, .int r7]) rfl ?_
  have hP : va_P (dC, dI) vwCl [((ad 9), .inl (cI, 16, .inl m_generation)), ((ad 10), .inl (cI, 12, .inl m_level)), (ad 0, .inr (10, oM ad m_undoCount m_thrown m_hasSnapshot a_m_fam m_rows m_lineLength m_formattedLength m_bufferLength m_limit m_next m_beginsAt m_token m_error m_errorAt m_errorPosition m_nested m_codeCount)), (a_m_fam, .inl (cJ, 130, .inr (.inl m_fam)))] H := hP
  have hD : va_D A [((ad 9), .inl (cI, 16, .inl m_generation)), ((ad 10), .inl (cI, 12, .inl m_level)), (ad 0, .inr (10, oM ad m_undoCount m_thrown m_hasSnapshot a_m_fam m_rows m_lineLength m_formattedLength m_bufferLength m_limit m_next m_beginsAt m_token m_error m_errorAt m_errorPosition m_nested m_codeCount)), (a_m_fam, .inl (cJ, 130, .inr (.inl m_fam)))] := hD
  refine lv_iadd hx hb dX10_middle_20 ?_
  cases hf
  exact g_iret S hr hlocks (hP.sub [2, 3, 0, 1] rfl) (hD.sub [2, 3, 0, 1] (by decide) rfl) hS dX10_middle_21
set_option maxHeartbeats 4000000 in
set_option maxRecDepth 100000 in
theorem c_X10_exchange (ad : Nat → Nat) (a_m_fam : Nat) (m_undoCount : Int32) (m_thrown : Int32) (m_hasSnapshot : Bool) (m_rows : Int32) (m_lineLength : Int32) (m_formattedLength : Int32) (m_bufferLength : Int32) (m_limit : Int32) (m_next : Int32) (m_beginsAt : Int32) (m_token : Int32) (m_error : Int32) (m_errorAt : Int32) (m_errorPosition : Int32) (m_nested : Int32) (m_codeCount : Int32) (m_boxAt : Nat → Int32) (m_fam : Nat → Int64) (v1 : Int32) (v2 : Int32) (v3 : Int32) (m_boxAt_9 : Nat → Int32) (m_fam_9 : Nat → Int64) (hf : p10_exchange m_boxAt m_fam v1 v2 v3 = some (m_boxAt_9, m_fam_9)) : gM l dC dI cI cJ cZ yX10_exchange cX10_exchange 6 none (1) (22) [.ref (ad 0), .int v1, .int v2, .int v3] [(ad 0, .inr (10, oM ad m_undoCount m_thrown m_hasSnapshot a_m_fam m_rows m_lineLength m_formattedLength m_bufferLength m_limit m_next m_beginsAt m_token m_error m_errorAt m_errorPosition m_nested m_codeCount)), ((ad 14), .inl (cI, 448, .inl m_boxAt)), (a_m_fam, .inl (cJ, 130, .inr (.inl m_fam)))] [(ad 0, .inr (10, oM ad m_undoCount m_thrown m_hasSnapshot a_m_fam m_rows m_lineLength m_formattedLength m_bufferLength m_limit m_next m_beginsAt m_token m_error m_errorAt m_errorPosition m_nested m_codeCount)), ((ad 14), .inl (cI, 448, .inl m_boxAt_9)), (a_m_fam, .inl (cJ, 130, .inr (.inl m_fam_9)))] none := by
  refine g_start (own := RX10) (by decide +kernel) rfl (Nat.le_of_ble_eq_true rfl) ?_
  intro p e s m below meth c A ls S hr hlocks hE hP hD hS hA hl hin
  have hx := S.1
  have hb := S.2.1
  have hml := S.2.2.1
  have hown := S.2.2.2.1
  have htg : ∀ z ∈ gw, z.before ([.ref (ad 0), .int v1, .int v2, .int v3] : List Value).toArray s = true := fun w h => S.2.2.2.2 w (List.mem_cons_of_mem _ h)
  have hl : lv_has ls 6 [(0, .ref (ad 0)), (1, .int v1), (2, .int v2), (3, .int v3)] := hl
  have hS0 := hS
  obtain ⟨H, hH⟩ : ∃ H, H = s.heap := ⟨_, rfl⟩
  obtain ⟨locs, hlc⟩ : ∃ locs : List Loc, locs = [] := ⟨_, rfl⟩
  have hS : va_S A s.heap H locs := by rw [hH, hlc]; exact hS0
  have hP : va_P (dC, dI) vwCl [(ad 0, .inr (10, oM ad m_undoCount m_thrown m_hasSnapshot a_m_fam m_rows m_lineLength m_formattedLength m_bufferLength m_limit m_next m_beginsAt m_token m_error m_errorAt m_errorPosition m_nested m_codeCount)), ((ad 14), .inl (cI, 448, .inl m_boxAt)), (a_m_fam, .inl (cJ, 130, .inr (.inl m_fam)))] H := by rw [hH]; exact hP
  suffices hgo : W p l e ({ frames := 1, cells := 0, slots := 0, locals := 22 }) s m ([.ref (ad 0), .int v1, .int v2, .int v3] : List Value).toArray below meth c H locs 0 0 (MQ below (gQ dC dI none A [(ad 0, .inr (10, oM ad m_undoCount m_thrown m_hasSnapshot a_m_fam m_rows m_lineLength m_formattedLength m_bufferLength m_limit m_next m_beginsAt m_token m_error m_errorAt m_errorPosition m_nested m_codeCount)), ((ad 14), .inl (cI, 448, .inl m_boxAt_9)), (a_m_fam, .inl (cJ, 130, .inr (.inl m_fam_9)))]) ([.ref (ad 0), .int v1, .int v2, .int v3] : List Value).toArray s 0 0 A) (F0 m 0 ls []) by rw [hH, hlc] at hgo; exact hgo
  rw [p10_exchange] at hf
  refine lv_aload_n hx hb dX10_exchange_0 rfl (lv_at hl 0 rfl) ?_
  refine lv_iload_n hx hb dX10_exchange_1 rfl (lv_at hl 1 rfl) ?_
  refine lv_iload_n hx hb dX10_exchange_2 rfl (lv_at hl 2 rfl) ?_
  obtain ⟨r3, h9, hf⟩ := ob_s hf
  refine gcV (index := 153) S hE (c_X10_boxIn ad a_m_fam m_undoCount m_thrown m_hasSnapshot m_rows m_lineLength m_formattedLength m_bufferLength m_limit m_next m_beginsAt m_token m_error m_errorAt m_errorPosition m_nested m_codeCount m_boxAt v1 v2 r3 h9) mX10_boxIn tw1605 ⟨Nat.le_of_ble_eq_true rfl, Nat.le_of_ble_eq_true rfl⟩ hP hD hS hA ⟨Nat.zero_le _, Nat.zero_le _⟩ 0 10 rfl rfl rfl (wr := [(a_m_fam, .inl (cJ, 130, .inr (.inl m_fam)))]) [0, 1] [2] rfl rfl rfl rfl (by decide) (As := [.int v1, .int v2]) (rest := []) rfl hl.1 rfl (Nat.le_of_ble_eq_true rfl) dX10_exchange_3 (fun H locs hP hD hS => ?_)
  refine W.eq (g2 := F0 m 6 ls [.int r3]) rfl ?_
  have hP : va_P (dC, dI) vwCl [(a_m_fam, .inl (cJ, 130, .inr (.inl m_fam))), (ad 0, .inr (10, oM ad m_undoCount m_thrown m_hasSnapshot a_m_fam m_rows m_lineLength m_formattedLength m_bufferLength m_limit m_next m_beginsAt m_token m_error m_errorAt m_errorPosition m_nested m_codeCount)), ((ad 14), .inl (cI, 448, .inl m_boxAt))] H := hP
  have hD : va_D A [(a_m_fam, .inl (cJ, 130, .inr (.inl m_fam))), (ad 0, .inr (10, oM ad m_undoCount m_thrown m_hasSnapshot a_m_fam m_rows m_lineLength m_formattedLength m_bufferLength m_limit m_next m_beginsAt m_token m_error m_errorAt m_errorPosition m_nested m_codeCount)), ((ad 14), .inl (cI, 448, .inl m_boxAt))] := hD
  refine lv_istore (lv' := [(4, .int r3), (0, .ref (ad 0)), (1, .int v1), (2, .int v2), (3, .int v3)]) hx hb dX10_exchange_6 hl (by decide) rfl (fun ls hl => ?_)
  refine lv_aload_n hx hb dX10_exchange_8 rfl (lv_at hl 1 rfl) ?_
  refine lv_iload_n hx hb dX10_exchange_9 rfl (lv_at hl 2 rfl) ?_
  refine lv_iload_n hx hb dX10_exchange_10 rfl (lv_at hl 4 rfl) ?_
  obtain ⟨r11, h9, hf⟩ := ob_s hf
  refine gcV (index := 153) S hE (c_X10_boxIn ad a_m_fam m_undoCount m_thrown m_hasSnapshot m_rows m_lineLength m_formattedLength m_bufferLength m_limit m_next m_beginsAt m_token m_error m_errorAt m_errorPosition m_nested m_codeCount m_boxAt v1 v3 r11 h9) mX10_boxIn tw1605 ⟨Nat.le_of_ble_eq_true rfl, Nat.le_of_ble_eq_true rfl⟩ hP hD hS hA ⟨Nat.zero_le _, Nat.zero_le _⟩ 1 10 rfl rfl rfl (wr := [(a_m_fam, .inl (cJ, 130, .inr (.inl m_fam)))]) [1, 2] [0] rfl rfl rfl rfl (by decide) (As := [.int v1, .int v3]) (rest := []) rfl hl.1 rfl (Nat.le_of_ble_eq_true rfl) dX10_exchange_11 (fun H locs hP hD hS => ?_)
  refine W.eq (g2 := F0 m 14 ls [.int r11]) rfl ?_
  have hP : va_P (dC, dI) vwCl [(a_m_fam, .inl (cJ, 130, .inr (.inl m_fam))), (ad 0, .inr (10, oM ad m_undoCount m_thrown m_hasSnapshot a_m_fam m_rows m_lineLength m_formattedLength m_bufferLength m_limit m_next m_beginsAt m_token m_error m_errorAt m_errorPosition m_nested m_codeCount)), ((ad 14), .inl (cI, 448, .inl m_boxAt))] H := hP
  have hD : va_D A [(a_m_fam, .inl (cJ, 130, .inr (.inl m_fam))), (ad 0, .inr (10, oM ad m_undoCount m_thrown m_hasSnapshot a_m_fam m_rows m_lineLength m_formattedLength m_bufferLength m_limit m_next m_beginsAt m_token m_error m_errorAt m_errorPosition m_nested m_codeCount)), ((ad 14), .inl (cI, 448, .inl m_boxAt))] := hD
  refine lv_istore (lv' := [(5, .int r11), (4, .int r3), (0, .ref (ad 0)), (1, .int v1), (2, .int v2), (3, .int v3)]) hx hb dX10_exchange_14 hl (by decide) rfl (fun ls hl => ?_)
  refine lv_aload_n hx hb dX10_exchange_16 rfl (lv_at hl 2 rfl) ?_
  refine va_get (D := (dC, dI)) (ci := 10) (v := .ref a_m_fam) (C := RX10) (T := TX10) (N := 37) hx hb htg inX10 hown hE.1 hP 1 rfl rfl 7 (by decide) (htg _ tw1389) (fun _ h9 => h9) rfl dX10_exchange_17 ?_
  refine lv_bipush (v := 102) hx hb dX10_exchange_20 (by decide) ?_
  refine lv_iload hx hb dX10_exchange_22 (lv_at hl 1 rfl) ?_
  refine lv_iadd hx hb dX10_exchange_24 ?_
  refine lv_iload_n hx hb dX10_exchange_25 rfl (lv_at hl 5 rfl) ?_
  refine lv_i2l hx hb dX10_exchange_26 rfl ?_
  obtain ⟨h9, hf⟩ := gd_s hf
  refine va_last hx hb hE.1 hP hD hS 0 1 rfl rfl h9 dX10_exchange_27 (fun H locs hP hD hS => ?_)
  obtain ⟨g27, h9⟩ : ∃ z, z = (vp_updL m_fam ((102 : Int32) + r3).toNatClampNeg v3.toInt64) := ⟨_, rfl⟩
  have hf := lb_e h9 hf
  have hP : va_P (dC, dI) vwCl [(a_m_fam, .inl (cJ, 130, .inr (.inl g27))), (ad 0, .inr (10, oM ad m_undoCount m_thrown m_hasSnapshot a_m_fam m_rows m_lineLength m_formattedLength m_bufferLength m_limit m_next m_beginsAt m_token m_error m_errorAt m_errorPosition m_nested m_codeCount)), ((ad 14), .inl (cI, 448, .inl m_boxAt))] H := by rw [h9]; exact hP
  have hD : va_D A [(a_m_fam, .inl (cJ, 130, .inr (.inl g27))), (ad 0, .inr (10, oM ad m_undoCount m_thrown m_hasSnapshot a_m_fam m_rows m_lineLength m_formattedLength m_bufferLength m_limit m_next m_beginsAt m_token m_error m_errorAt m_errorPosition m_nested m_codeCount)), ((ad 14), .inl (cI, 448, .inl m_boxAt))] := by rw [h9]; exact hD
  refine lv_aload_n hx hb dX10_exchange_28 rfl (lv_at hl 2 rfl) ?_
  refine va_get (D := (dC, dI)) (ci := 10) (v := .ref a_m_fam) (C := RX10) (T := TX10) (N := 37) hx hb htg inX10 hown hE.1 hP 1 rfl rfl 7 (by decide) (htg _ tw1389) (fun _ h9 => h9) rfl dX10_exchange_29 ?_
  refine lv_bipush (v := 102) hx hb dX10_exchange_32 (by decide) ?_
  refine lv_iload hx hb dX10_exchange_34 (lv_at hl 0 rfl) ?_
  refine lv_iadd hx hb dX10_exchange_36 ?_
  refine lv_iload_n hx hb dX10_exchange_37 rfl (lv_at hl 4 rfl) ?_
  refine lv_i2l hx hb dX10_exchange_38 rfl ?_
  obtain ⟨h9, hf⟩ := gd_s hf
  refine va_last hx hb hE.1 hP hD hS 0 1 rfl rfl h9 dX10_exchange_39 (fun H locs hP hD hS => ?_)
  obtain ⟨g39, h9⟩ : ∃ z, z = (vp_updL g27 ((102 : Int32) + r11).toNatClampNeg v2.toInt64) := ⟨_, rfl⟩
  have hf := lb_e h9 hf
  have hP : va_P (dC, dI) vwCl [(a_m_fam, .inl (cJ, 130, .inr (.inl g39))), (ad 0, .inr (10, oM ad m_undoCount m_thrown m_hasSnapshot a_m_fam m_rows m_lineLength m_formattedLength m_bufferLength m_limit m_next m_beginsAt m_token m_error m_errorAt m_errorPosition m_nested m_codeCount)), ((ad 14), .inl (cI, 448, .inl m_boxAt))] H := by rw [h9]; exact hP
  have hD : va_D A [(a_m_fam, .inl (cJ, 130, .inr (.inl g39))), (ad 0, .inr (10, oM ad m_undoCount m_thrown m_hasSnapshot a_m_fam m_rows m_lineLength m_formattedLength m_bufferLength m_limit m_next m_beginsAt m_token m_error m_errorAt m_errorPosition m_nested m_codeCount)), ((ad 14), .inl (cI, 448, .inl m_boxAt))] := by rw [h9]; exact hD
  refine lv_aload_n hx hb dX10_exchange_40 rfl (lv_at hl 2 rfl) ?_
  refine va_get (D := (dC, dI)) (ci := 10) (v := .ref (ad 14)) (C := RX10) (T := TX10) (N := 37) hx hb htg inX10 hown hE.1 hP 1 rfl rfl 13 (by decide) (htg _ tw1395) (fun _ h9 => h9) rfl dX10_exchange_41 ?_
  refine lv_bipush (v := 28) hx hb dX10_exchange_44 (by decide) ?_
  refine lv_iload_n hx hb dX10_exchange_46 rfl (lv_at hl 3 rfl) ?_
  refine lv_imul hx hb dX10_exchange_47 ?_
  refine lv_iload_n hx hb dX10_exchange_48 rfl (lv_at hl 4 rfl) ?_
  refine lv_iadd hx hb dX10_exchange_49 ?_
  refine lv_iload hx hb dX10_exchange_50 (lv_at hl 0 rfl) ?_
  obtain ⟨h9, hf⟩ := gd_s hf
  refine va_iast hx hb hE.1 hP hD hS 2 0 rfl rfl h9 dX10_exchange_52 (fun H locs hP hD hS => ?_)
  obtain ⟨g52, h9⟩ : ∃ z, z = (upd m_boxAt (((28 : Int32) * v1) + v2).toNatClampNeg r11) := ⟨_, rfl⟩
  have hf := lb_e h9 hf
  have hP : va_P (dC, dI) vwCl [(a_m_fam, .inl (cJ, 130, .inr (.inl g39))), (ad 0, .inr (10, oM ad m_undoCount m_thrown m_hasSnapshot a_m_fam m_rows m_lineLength m_formattedLength m_bufferLength m_limit m_next m_beginsAt m_token m_error m_errorAt m_errorPosition m_nested m_codeCount)), ((ad 14), .inl (cI, 448, .inl g52))] H := by rw [h9]; exact hP
  have hD : va_D A [(a_m_fam, .inl (cJ, 130, .inr (.inl g39))), (ad 0, .inr (10, oM ad m_undoCount m_thrown m_hasSnapshot a_m_fam m_rows m_lineLength m_formattedLength m_bufferLength m_limit m_next m_beginsAt m_token m_error m_errorAt m_errorPosition m_nested m_codeCount)), ((ad 14), .inl (cI, 448, .inl g52))] := by rw [h9]; exact hD
  refine lv_aload_n hx hb dX10_exchange_53 rfl (lv_at hl 2 rfl) ?_
  refine va_get (D := (dC, dI)) (ci := 10) (v := .ref (ad 14)) (C := RX10) (T := TX10) (N := 37) hx hb htg inX10 hown hE.1 hP 1 rfl rfl 13 (by decide) (htg _ tw1395) (fun _ h9 => h9) rfl dX10_exchange_54 ?_
  refine lv_bipush (v := 28) hx hb dX10_exchange_57 (by decide) ?_
  refine lv_iload_n hx hb dX10_exchange_59 rfl (lv_at hl 3 rfl) ?_
  refine lv_imul hx hb dX10_exchange_60 ?_
  refine lv_iload_n hx hb dX10_exchange_61 rfl (lv_at hl 5 rfl) ?_
  refine lv_iadd hx hb dX10_exchange_62 ?_
  refine lv_iload hx hb dX10_exchange_63 (lv_at hl 1 rfl) ?_
  obtain ⟨h9, hf⟩ := gd_s hf
  refine va_iast hx hb hE.1 hP hD hS 2 0 rfl rfl h9 dX10_exchange_65 (fun H locs hP hD hS => ?_)
  obtain ⟨g65, h9⟩ : ∃ z, z = (upd g52 (((28 : Int32) * v1) + v3).toNatClampNeg r3) := ⟨_, rfl⟩
  have hf := lb_e h9 hf
  have hP : va_P (dC, dI) vwCl [(a_m_fam, .inl (cJ, 130, .inr (.inl g39))), (ad 0, .inr (10, oM ad m_undoCount m_thrown m_hasSnapshot a_m_fam m_rows m_lineLength m_formattedLength m_bufferLength m_limit m_next m_beginsAt m_token m_error m_errorAt m_errorPosition m_nested m_codeCount)), ((ad 14), .inl (cI, 448, .inl g65))] H := by rw [h9]; exact hP
  have hD : va_D A [(a_m_fam, .inl (cJ, 130, .inr (.inl g39))), (ad 0, .inr (10, oM ad m_undoCount m_thrown m_hasSnapshot a_m_fam m_rows m_lineLength m_formattedLength m_bufferLength m_limit m_next m_beginsAt m_token m_error m_errorAt m_errorPosition m_nested m_codeCount)), ((ad 14), .inl (cI, 448, .inl g65))] := by rw [h9]; exact hD
  cases hf
  exact g_vret S hr hlocks (hP.sub [1, 2, 0] rfl) (hD.sub [1, 2, 0] (by decide) rfl) hS dX10_exchange_66
set_option maxHeartbeats 4000000 in
set_option maxRecDepth 100000 in
theorem c_X10_isBetween (v0 : Int32) (v1 : Int32) (v2 : Int32) (r9 : Bool) (hf : p10_isBetween v0 v1 v2 = r9) : gM l dC dI cI cJ cZ yX10_isBetween cX10_isBetween 3 (some .boolean) (1) (21) [.int v0, .int v1, .int v2] [] [] (some (.int (bI r9))) := by
  refine g_start (own := RX10) (by decide +kernel) rfl (Nat.le_of_ble_eq_true rfl) ?_
  intro p e s m below meth c A ls S hr hlocks hE hP hD hS hA hl hin
  have hx := S.1
  have hb := S.2.1
  have hml := S.2.2.1
  have hown := S.2.2.2.1
  have htg : ∀ z ∈ gw, z.before ([.int v0, .int v1, .int v2] : List Value).toArray s = true := fun w h => S.2.2.2.2 w (List.mem_cons_of_mem _ h)
  have hl : lv_has ls 3 [(0, .int v0), (1, .int v1), (2, .int v2)] := hl
  have hS0 := hS
  obtain ⟨H, hH⟩ : ∃ H, H = s.heap := ⟨_, rfl⟩
  obtain ⟨locs, hlc⟩ : ∃ locs : List Loc, locs = [] := ⟨_, rfl⟩
  have hS : va_S A s.heap H locs := by rw [hH, hlc]; exact hS0
  have hP : va_P (dC, dI) vwCl [] H := by rw [hH]; exact hP
  suffices hgo : W p l e ({ frames := 1, cells := 0, slots := 0, locals := 21 }) s m ([.int v0, .int v1, .int v2] : List Value).toArray below meth c H locs 0 0 (MQ below (gQ dC dI (some (.int (bI r9))) A []) ([.int v0, .int v1, .int v2] : List Value).toArray s 0 0 A) (F0 m 0 ls []) by rw [hH, hlc] at hgo; exact hgo
  rw [p10_isBetween] at hf
  refine lv_iload_n hx hb dX10_isBetween_0 rfl (lv_at hl 0 rfl) ?_
  refine lv_iload_n hx hb dX10_isBetween_1 rfl (lv_at hl 1 rfl) ?_
  refine lv_iload_n hx hb dX10_isBetween_2 rfl (lv_at hl 2 rfl) ?_
  refine va_mmin hx hb (hml.trans hl.1.symm) hown (htg _ tw1752) (htg _ tw454) (htg _ tw16) (htg _ tw455) (Nat.le_of_ble_eq_true rfl) (Nat.le_of_ble_eq_true rfl) (Nat.zero_le _) (Nat.zero_le _) dX10_isBetween_3 ?_
  refine W.eq (g2 := F0 m 6 ls [.int (imin v1 v2), .int v0]) rfl ?_
  refine lv_icmp_le (tgt := 22) hx hb dX10_isBetween_6 (by decide) (fun h9 => ?_) (fun h9 => ?_)
  · have hf := itt h9 hf
    refine lv_iconst (v := 0) hx hb dX10_isBetween_22 (by decide) ?_
    cases hf
    exact g_zret S hr (nar_bI false) hlocks hP hD hS dX10_isBetween_23
  · have hf := itf h9 hf
    refine lv_iload_n hx hb dX10_isBetween_9 rfl (lv_at hl 0 rfl) ?_
    refine lv_iload_n hx hb dX10_isBetween_10 rfl (lv_at hl 1 rfl) ?_
    refine lv_iload_n hx hb dX10_isBetween_11 rfl (lv_at hl 2 rfl) ?_
    refine va_mmax hx hb (hml.trans hl.1.symm) hown (htg _ tw1531) (htg _ tw457) (htg _ tw16) (htg _ tw458) (Nat.le_of_ble_eq_true rfl) (Nat.le_of_ble_eq_true rfl) (Nat.zero_le _) (Nat.zero_le _) dX10_isBetween_12 ?_
    refine W.eq (g2 := F0 m 15 ls [.int (imax v1 v2), .int v0]) rfl ?_
    refine lv_icmp_ge (tgt := 22) hx hb dX10_isBetween_15 (by decide) (fun h9 => ?_) (fun h9 => ?_)
    · have hf := itt h9 hf
      refine lv_iconst (v := 0) hx hb dX10_isBetween_22 (by decide) ?_
      cases hf
      exact g_zret S hr (nar_bI false) hlocks hP hD hS dX10_isBetween_23
    · have hf := itf h9 hf
      refine lv_iconst (v := 1) hx hb dX10_isBetween_18 (by decide) ?_
      refine lv_goto (tgt := 23) hx hb dX10_isBetween_19 (by decide) ?_
      cases hf
      exact g_zret S hr (nar_bI true) hlocks hP hD hS dX10_isBetween_23
set_option maxHeartbeats 4000000 in
set_option maxRecDepth 100000 in
theorem c_X10_doCross (ad : Nat → Nat) (a_m_fam : Nat) (m_undoCount : Int32) (m_thrown : Int32) (m_hasSnapshot : Bool) (m_rows : Int32) (m_lineLength : Int32) (m_formattedLength : Int32) (m_bufferLength : Int32) (m_limit : Int32) (m_next : Int32) (m_beginsAt : Int32) (m_token : Int32) (m_error : Int32) (m_errorAt : Int32) (m_errorPosition : Int32) (m_nested : Int32) (m_codeCount : Int32) (m_fam : Nat → Int64) (m_generation : Nat → Int32) (m_level : Nat → Int32) (v1 : Int32) (v2 : Int32) (r9 : Bool) (hf : p10_doCross m_fam m_generation m_level v1 v2 = some r9) : gM l dC dI cI cJ cZ yX10_doCross cX10_doCross 8 (some .boolean) (2) (45) [.ref (ad 0), .int v1, .int v2] [(ad 0, .inr (10, oM ad m_undoCount m_thrown m_hasSnapshot a_m_fam m_rows m_lineLength m_formattedLength m_bufferLength m_limit m_next m_beginsAt m_token m_error m_errorAt m_errorPosition m_nested m_codeCount)), (a_m_fam, .inl (cJ, 130, .inr (.inl m_fam))), ((ad 9), .inl (cI, 16, .inl m_generation)), ((ad 10), .inl (cI, 12, .inl m_level))] [(ad 0, .inr (10, oM ad m_undoCount m_thrown m_hasSnapshot a_m_fam m_rows m_lineLength m_formattedLength m_bufferLength m_limit m_next m_beginsAt m_token m_error m_errorAt m_errorPosition m_nested m_codeCount)), (a_m_fam, .inl (cJ, 130, .inr (.inl m_fam))), ((ad 9), .inl (cI, 16, .inl m_generation)), ((ad 10), .inl (cI, 12, .inl m_level))] (some (.int (bI r9))) := by
  refine g_start (own := RX10) (by decide +kernel) rfl (Nat.le_of_ble_eq_true rfl) ?_
  intro p e s m below meth c A ls S hr hlocks hE hP hD hS hA hl hin
  have hx := S.1
  have hb := S.2.1
  have hml := S.2.2.1
  have hown := S.2.2.2.1
  have htg : ∀ z ∈ gw, z.before ([.ref (ad 0), .int v1, .int v2] : List Value).toArray s = true := fun w h => S.2.2.2.2 w (List.mem_cons_of_mem _ h)
  have hl : lv_has ls 8 [(0, .ref (ad 0)), (1, .int v1), (2, .int v2)] := hl
  have hS0 := hS
  obtain ⟨H, hH⟩ : ∃ H, H = s.heap := ⟨_, rfl⟩
  obtain ⟨locs, hlc⟩ : ∃ locs : List Loc, locs = [] := ⟨_, rfl⟩
  have hS : va_S A s.heap H locs := by rw [hH, hlc]; exact hS0
  have hP : va_P (dC, dI) vwCl [(ad 0, .inr (10, oM ad m_undoCount m_thrown m_hasSnapshot a_m_fam m_rows m_lineLength m_formattedLength m_bufferLength m_limit m_next m_beginsAt m_token m_error m_errorAt m_errorPosition m_nested m_codeCount)), (a_m_fam, .inl (cJ, 130, .inr (.inl m_fam))), ((ad 9), .inl (cI, 16, .inl m_generation)), ((ad 10), .inl (cI, 12, .inl m_level))] H := by rw [hH]; exact hP
  suffices hgo : W p l e ({ frames := 2, cells := 0, slots := 0, locals := 45 }) s m ([.ref (ad 0), .int v1, .int v2] : List Value).toArray below meth c H locs 0 0 (MQ below (gQ dC dI (some (.int (bI r9))) A [(ad 0, .inr (10, oM ad m_undoCount m_thrown m_hasSnapshot a_m_fam m_rows m_lineLength m_formattedLength m_bufferLength m_limit m_next m_beginsAt m_token m_error m_errorAt m_errorPosition m_nested m_codeCount)), (a_m_fam, .inl (cJ, 130, .inr (.inl m_fam))), ((ad 9), .inl (cI, 16, .inl m_generation)), ((ad 10), .inl (cI, 12, .inl m_level))]) ([.ref (ad 0), .int v1, .int v2] : List Value).toArray s 0 0 A) (F0 m 0 ls []) by rw [hH, hlc] at hgo; exact hgo
  rw [p10_doCross] at hf
  have J80 : ∀ (v3_80 : Int32) (v4_80 : Int32) (v5_80 : Int32) (v6_80 : Int32) (v7_80 : Bool) (H : Heap) (locs : List Loc) (ls : Array Slot), p10_doCross_J80 v3_80 v4_80 v5_80 v6_80 v7_80 = some r9 → va_P (dC, dI) vwCl [(ad 0, .inr (10, oM ad m_undoCount m_thrown m_hasSnapshot a_m_fam m_rows m_lineLength m_formattedLength m_bufferLength m_limit m_next m_beginsAt m_token m_error m_errorAt m_errorPosition m_nested m_codeCount)), (a_m_fam, .inl (cJ, 130, .inr (.inl m_fam))), ((ad 9), .inl (cI, 16, .inl m_generation)), ((ad 10), .inl (cI, 12, .inl m_level))] H → va_D A [(ad 0, .inr (10, oM ad m_undoCount m_thrown m_hasSnapshot a_m_fam m_rows m_lineLength m_formattedLength m_bufferLength m_limit m_next m_beginsAt m_token m_error m_errorAt m_errorPosition m_nested m_codeCount)), (a_m_fam, .inl (cJ, 130, .inr (.inl m_fam))), ((ad 9), .inl (cI, 16, .inl m_generation)), ((ad 10), .inl (cI, 12, .inl m_level))] → va_S A s.heap H locs → lv_has ls 8 [(3, .int v3_80), (4, .int v4_80), (5, .int v5_80), (6, .int v6_80), (7, .int (bI v7_80))] → W p l e ({ frames := 2, cells := 0, slots := 0, locals := 45 }) s m ([.ref (ad 0), .int v1, .int v2] : List Value).toArray below meth c H locs 0 0 (MQ below (gQ dC dI (some (.int (bI r9))) A [(ad 0, .inr (10, oM ad m_undoCount m_thrown m_hasSnapshot a_m_fam m_rows m_lineLength m_formattedLength m_bufferLength m_limit m_next m_beginsAt m_token m_error m_errorAt m_errorPosition m_nested m_codeCount)), (a_m_fam, .inl (cJ, 130, .inr (.inl m_fam))), ((ad 9), .inl (cI, 16, .inl m_generation)), ((ad 10), .inl (cI, 12, .inl m_level))]) ([.ref (ad 0), .int v1, .int v2] : List Value).toArray s 0 0 A) (F0 m 80 ls []) := by
    intro v3_80 v4_80 v5_80 v6_80 v7_80 H locs ls hf hP hD hS hl
    rw [p10_doCross_J80] at hf
    refine lv_iload hx hb dX10_doCross_80 (lv_at hl 4 rfl) ?_
    refine lv_if_eq (tgt := 108) hx hb dX10_doCross_82 (by decide) (fun h9 => ?_) (fun h9 => ?_)
    · have hf := ctf (bI_0 h9) hf
      refine lv_iconst (v := 0) hx hb dX10_doCross_108 (by decide) ?_
      cases hf
      exact g_zret S hr (nar_bI false) hlocks hP hD hS dX10_doCross_109
    · have hf := ctt (bI_1 h9) hf
      refine lv_iload hx hb dX10_doCross_85 (lv_at hl 2 rfl) ?_
      refine lv_iload_n hx hb dX10_doCross_87 rfl (lv_at hl 0 rfl) ?_
      refine lv_iload hx hb dX10_doCross_88 (lv_at hl 1 rfl) ?_
      refine gcS (index := 159) S hE (c_X10_isBetween v5_80 v3_80 v4_80 (p10_isBetween v5_80 v3_80 v4_80) rfl) mX10_isBetween tw1749 ⟨Nat.le_of_ble_eq_true rfl, Nat.le_of_ble_eq_true rfl⟩ hP hD hS hA ⟨Nat.zero_le _, Nat.zero_le _⟩ (wr := [(ad 0, .inr (10, oM ad m_undoCount m_thrown m_hasSnapshot a_m_fam m_rows m_lineLength m_formattedLength m_bufferLength m_limit m_next m_beginsAt m_token m_error m_errorAt m_errorPosition m_nested m_codeCount)), (a_m_fam, .inl (cJ, 130, .inr (.inl m_fam))), ((ad 9), .inl (cI, 16, .inl m_generation)), ((ad 10), .inl (cI, 12, .inl m_level))]) [] [0, 1, 2, 3] rfl rfl rfl rfl (by decide) (As := [.int v5_80, .int v3_80, .int v4_80]) (rest := []) rfl hl.1 rfl (Nat.le_of_ble_eq_true rfl) dX10_doCross_90 (fun H locs hP hD hS => ?_)
      refine W.eq (g2 := F0 m 93 ls [.int (bI (p10_isBetween v5_80 v3_80 v4_80))]) rfl ?_
      have hP : va_P (dC, dI) vwCl [(ad 0, .inr (10, oM ad m_undoCount m_thrown m_hasSnapshot a_m_fam m_rows m_lineLength m_formattedLength m_bufferLength m_limit m_next m_beginsAt m_token m_error m_errorAt m_errorPosition m_nested m_codeCount)), (a_m_fam, .inl (cJ, 130, .inr (.inl m_fam))), ((ad 9), .inl (cI, 16, .inl m_generation)), ((ad 10), .inl (cI, 12, .inl m_level))] H := hP
      have hD : va_D A [(ad 0, .inr (10, oM ad m_undoCount m_thrown m_hasSnapshot a_m_fam m_rows m_lineLength m_formattedLength m_bufferLength m_limit m_next m_beginsAt m_token m_error m_errorAt m_errorPosition m_nested m_codeCount)), (a_m_fam, .inl (cJ, 130, .inr (.inl m_fam))), ((ad 9), .inl (cI, 16, .inl m_generation)), ((ad 10), .inl (cI, 12, .inl m_level))] := hD
      refine lv_iload hx hb dX10_doCross_93 (lv_at hl 3 rfl) ?_
      refine lv_iload_n hx hb dX10_doCross_95 rfl (lv_at hl 0 rfl) ?_
      refine lv_iload hx hb dX10_doCross_96 (lv_at hl 1 rfl) ?_
      refine gcS (index := 159) S hE (c_X10_isBetween v6_80 v3_80 v4_80 (p10_isBetween v6_80 v3_80 v4_80) rfl) mX10_isBetween tw1749 ⟨Nat.le_of_ble_eq_true rfl, Nat.le_of_ble_eq_true rfl⟩ hP hD hS hA ⟨Nat.zero_le _, Nat.zero_le _⟩ (wr := [(ad 0, .inr (10, oM ad m_undoCount m_thrown m_hasSnapshot a_m_fam m_rows m_lineLength m_formattedLength m_bufferLength m_limit m_next m_beginsAt m_token m_error m_errorAt m_errorPosition m_nested m_codeCount)), (a_m_fam, .inl (cJ, 130, .inr (.inl m_fam))), ((ad 9), .inl (cI, 16, .inl m_generation)), ((ad 10), .inl (cI, 12, .inl m_level))]) [] [0, 1, 2, 3] rfl rfl rfl rfl (by decide) (As := [.int v6_80, .int v3_80, .int v4_80]) (rest := [.int (bI (p10_isBetween v5_80 v3_80 v4_80))]) rfl hl.1 rfl (Nat.le_of_ble_eq_true rfl) dX10_doCross_98 (fun H locs hP hD hS => ?_)
      refine W.eq (g2 := F0 m 101 ls [.int (bI (p10_isBetween v6_80 v3_80 v4_80)), .int (bI (p10_isBetween v5_80 v3_80 v4_80))]) rfl ?_
      have hP : va_P (dC, dI) vwCl [(ad 0, .inr (10, oM ad m_undoCount m_thrown m_hasSnapshot a_m_fam m_rows m_lineLength m_formattedLength m_bufferLength m_limit m_next m_beginsAt m_token m_error m_errorAt m_errorPosition m_nested m_codeCount)), (a_m_fam, .inl (cJ, 130, .inr (.inl m_fam))), ((ad 9), .inl (cI, 16, .inl m_generation)), ((ad 10), .inl (cI, 12, .inl m_level))] H := hP
      have hD : va_D A [(ad 0, .inr (10, oM ad m_undoCount m_thrown m_hasSnapshot a_m_fam m_rows m_lineLength m_formattedLength m_bufferLength m_limit m_next m_beginsAt m_token m_error m_errorAt m_errorPosition m_nested m_codeCount)), (a_m_fam, .inl (cJ, 130, .inr (.inl m_fam))), ((ad 9), .inl (cI, 16, .inl m_generation)), ((ad 10), .inl (cI, 12, .inl m_level))] := hD
      refine lv_icmp_eq (tgt := 108) hx hb dX10_doCross_101 (by decide) (fun h9 => ?_) (fun h9 => ?_)
      · have hf := itt h9 hf
        refine lv_iconst (v := 0) hx hb dX10_doCross_108 (by decide) ?_
        cases hf
        exact g_zret S hr (nar_bI false) hlocks hP hD hS dX10_doCross_109
      · have hf := itf h9 hf
        refine lv_iconst (v := 1) hx hb dX10_doCross_104 (by decide) ?_
        refine lv_goto (tgt := 109) hx hb dX10_doCross_105 (by decide) ?_
        cases hf
        exact g_zret S hr (nar_bI true) hlocks hP hD hS dX10_doCross_109
  have J77 : ∀ (v3_77 : Int32) (v4_77 : Int32) (v5_77 : Int32) (v6_77 : Int32) (H : Heap) (locs : List Loc) (ls : Array Slot), p10_doCross_J77 v3_77 v4_77 v5_77 v6_77 = some r9 → va_P (dC, dI) vwCl [(ad 0, .inr (10, oM ad m_undoCount m_thrown m_hasSnapshot a_m_fam m_rows m_lineLength m_formattedLength m_bufferLength m_limit m_next m_beginsAt m_token m_error m_errorAt m_errorPosition m_nested m_codeCount)), (a_m_fam, .inl (cJ, 130, .inr (.inl m_fam))), ((ad 9), .inl (cI, 16, .inl m_generation)), ((ad 10), .inl (cI, 12, .inl m_level))] H → va_D A [(ad 0, .inr (10, oM ad m_undoCount m_thrown m_hasSnapshot a_m_fam m_rows m_lineLength m_formattedLength m_bufferLength m_limit m_next m_beginsAt m_token m_error m_errorAt m_errorPosition m_nested m_codeCount)), (a_m_fam, .inl (cJ, 130, .inr (.inl m_fam))), ((ad 9), .inl (cI, 16, .inl m_generation)), ((ad 10), .inl (cI, 12, .inl m_level))] → va_S A s.heap H locs → lv_has ls 8 [(3, .int v3_77), (4, .int v4_77), (5, .int v5_77), (6, .int v6_77)] → W p l e ({ frames := 2, cells := 0, slots := 0, locals := 45 }) s m ([.ref (ad 0), .int v1, .int v2] : List Value).toArray below meth c H locs 0 0 (MQ below (gQ dC dI (some (.int (bI r9))) A [(ad 0, .inr (10, oM ad m_undoCount m_thrown m_hasSnapshot a_m_fam m_rows m_lineLength m_formattedLength m_bufferLength m_limit m_next m_beginsAt m_token m_error m_errorAt m_errorPosition m_nested m_codeCount)), (a_m_fam, .inl (cJ, 130, .inr (.inl m_fam))), ((ad 9), .inl (cI, 16, .inl m_generation)), ((ad 10), .inl (cI, 12, .inl m_level))]) ([.ref (ad 0), .int v1, .int v2] : List Value).toArray s 0 0 A) (F0 m 77 ls []) := by
    intro v3_77 v4_77 v5_77 v6_77 H locs ls hf hP hD hS hl
    rw [p10_doCross_J77] at hf
    refine lv_iconst (v := 0) hx hb dX10_doCross_77 (by decide) ?_
    refine lv_istore (lv' := [(7, .int (0 : Int32)), (3, .int v3_77), (4, .int v4_77), (5, .int v5_77), (6, .int v6_77)]) hx hb dX10_doCross_78 hl (by decide) rfl (fun ls hl => ?_)
    exact J80 v3_77 v4_77 v5_77 v6_77 false H locs ls hf hP hD hS (lv_sub hl [1, 2, 3, 4, 0] rfl)
  refine lv_aload_n hx hb dX10_doCross_0 rfl (lv_at hl 0 rfl) ?_
  refine lv_aload_n hx hb dX10_doCross_1 rfl (lv_at hl 0 rfl) ?_
  refine lv_iload_n hx hb dX10_doCross_2 rfl (lv_at hl 1 rfl) ?_
  refine lv_iconst (v := 0) hx hb dX10_doCross_3 (by decide) ?_
  obtain ⟨r4, h9, hf⟩ := ob_s hf
  refine gcV (index := 150) S hE (c_X10_partnerBox ad a_m_fam m_undoCount m_thrown m_hasSnapshot m_rows m_lineLength m_formattedLength m_bufferLength m_limit m_next m_beginsAt m_token m_error m_errorAt m_errorPosition m_nested m_codeCount m_fam m_generation m_level v1 (0 : Int32) r4 h9) mX10_partnerBox tw1617 ⟨Nat.le_of_ble_eq_true rfl, Nat.le_of_ble_eq_true rfl⟩ hP hD hS hA ⟨Nat.zero_le _, Nat.zero_le _⟩ 0 10 rfl rfl rfl (wr := []) [0, 1, 2, 3] [] rfl rfl rfl rfl (by decide) (As := [.int v1, .int (0 : Int32)]) (rest := [.ref (ad 0)]) rfl hl.1 rfl (Nat.le_of_ble_eq_true rfl) dX10_doCross_4 (fun H locs hP hD hS => ?_)
  refine W.eq (g2 := F0 m 7 ls [.int r4, .ref (ad 0)]) rfl ?_
  have hP : va_P (dC, dI) vwCl [(ad 0, .inr (10, oM ad m_undoCount m_thrown m_hasSnapshot a_m_fam m_rows m_lineLength m_formattedLength m_bufferLength m_limit m_next m_beginsAt m_token m_error m_errorAt m_errorPosition m_nested m_codeCount)), (a_m_fam, .inl (cJ, 130, .inr (.inl m_fam))), ((ad 9), .inl (cI, 16, .inl m_generation)), ((ad 10), .inl (cI, 12, .inl m_level))] H := hP
  have hD : va_D A [(ad 0, .inr (10, oM ad m_undoCount m_thrown m_hasSnapshot a_m_fam m_rows m_lineLength m_formattedLength m_bufferLength m_limit m_next m_beginsAt m_token m_error m_errorAt m_errorPosition m_nested m_codeCount)), (a_m_fam, .inl (cJ, 130, .inr (.inl m_fam))), ((ad 9), .inl (cI, 16, .inl m_generation)), ((ad 10), .inl (cI, 12, .inl m_level))] := hD
  obtain ⟨r7, h9, hf⟩ := ob_s hf
  refine gcV (index := 147) S hE (c_X10_placeOf ad a_m_fam m_undoCount m_thrown m_hasSnapshot m_rows m_lineLength m_formattedLength m_bufferLength m_limit m_next m_beginsAt m_token m_error m_errorAt m_errorPosition m_nested m_codeCount m_fam r4 r7 h9) mX10_placeOf tw1548 ⟨Nat.le_of_ble_eq_true rfl, Nat.le_of_ble_eq_true rfl⟩ hP hD hS hA ⟨Nat.zero_le _, Nat.zero_le _⟩ 0 10 rfl rfl rfl (wr := [((ad 9), .inl (cI, 16, .inl m_generation)), ((ad 10), .inl (cI, 12, .inl m_level))]) [0, 1] [2, 3] rfl rfl rfl rfl (by decide) (As := [.int r4]) (rest := []) rfl hl.1 rfl (Nat.le_of_ble_eq_true rfl) dX10_doCross_7 (fun H locs hP hD hS => ?_)
  refine W.eq (g2 := F0 m 10 ls [.int r7]) rfl ?_
  have hP : va_P (dC, dI) vwCl [((ad 9), .inl (cI, 16, .inl m_generation)), ((ad 10), .inl (cI, 12, .inl m_level)), (ad 0, .inr (10, oM ad m_undoCount m_thrown m_hasSnapshot a_m_fam m_rows m_lineLength m_formattedLength m_bufferLength m_limit m_next m_beginsAt m_token m_error m_errorAt m_errorPosition m_nested m_codeCount)), (a_m_fam, .inl (cJ, 130, .inr (.inl m_fam)))] H := hP
  have hD : va_D A [((ad 9), .inl (cI, 16, .inl m_generation)), ((ad 10), .inl (cI, 12, .inl m_level)), (ad 0, .inr (10, oM ad m_undoCount m_thrown m_hasSnapshot a_m_fam m_rows m_lineLength m_formattedLength m_bufferLength m_limit m_next m_beginsAt m_token m_error m_errorAt m_errorPosition m_nested m_codeCount)), (a_m_fam, .inl (cJ, 130, .inr (.inl m_fam)))] := hD
  refine lv_istore_n (lv' := [(3, .int r7), (0, .ref (ad 0)), (1, .int v1), (2, .int v2)]) hx hb dX10_doCross_10 rfl hl (by decide) rfl (fun ls hl => ?_)
  refine lv_aload_n hx hb dX10_doCross_11 rfl (lv_at hl 1 rfl) ?_
  refine lv_aload_n hx hb dX10_doCross_12 rfl (lv_at hl 1 rfl) ?_
  refine lv_iload_n hx hb dX10_doCross_13 rfl (lv_at hl 2 rfl) ?_
  refine lv_iconst (v := 1) hx hb dX10_doCross_14 (by decide) ?_
  obtain ⟨r15, h9, hf⟩ := ob_s hf
  refine gcV (index := 150) S hE (c_X10_partnerBox ad a_m_fam m_undoCount m_thrown m_hasSnapshot m_rows m_lineLength m_formattedLength m_bufferLength m_limit m_next m_beginsAt m_token m_error m_errorAt m_errorPosition m_nested m_codeCount m_fam m_generation m_level v1 (1 : Int32) r15 h9) mX10_partnerBox tw1617 ⟨Nat.le_of_ble_eq_true rfl, Nat.le_of_ble_eq_true rfl⟩ hP hD hS hA ⟨Nat.zero_le _, Nat.zero_le _⟩ 2 10 rfl rfl rfl (wr := []) [2, 3, 0, 1] [] rfl rfl rfl rfl (by decide) (As := [.int v1, .int (1 : Int32)]) (rest := [.ref (ad 0)]) rfl hl.1 rfl (Nat.le_of_ble_eq_true rfl) dX10_doCross_15 (fun H locs hP hD hS => ?_)
  refine W.eq (g2 := F0 m 18 ls [.int r15, .ref (ad 0)]) rfl ?_
  have hP : va_P (dC, dI) vwCl [(ad 0, .inr (10, oM ad m_undoCount m_thrown m_hasSnapshot a_m_fam m_rows m_lineLength m_formattedLength m_bufferLength m_limit m_next m_beginsAt m_token m_error m_errorAt m_errorPosition m_nested m_codeCount)), (a_m_fam, .inl (cJ, 130, .inr (.inl m_fam))), ((ad 9), .inl (cI, 16, .inl m_generation)), ((ad 10), .inl (cI, 12, .inl m_level))] H := hP
  have hD : va_D A [(ad 0, .inr (10, oM ad m_undoCount m_thrown m_hasSnapshot a_m_fam m_rows m_lineLength m_formattedLength m_bufferLength m_limit m_next m_beginsAt m_token m_error m_errorAt m_errorPosition m_nested m_codeCount)), (a_m_fam, .inl (cJ, 130, .inr (.inl m_fam))), ((ad 9), .inl (cI, 16, .inl m_generation)), ((ad 10), .inl (cI, 12, .inl m_level))] := hD
  obtain ⟨r18, h9, hf⟩ := ob_s hf
  refine gcV (index := 147) S hE (c_X10_placeOf ad a_m_fam m_undoCount m_thrown m_hasSnapshot m_rows m_lineLength m_formattedLength m_bufferLength m_limit m_next m_beginsAt m_token m_error m_errorAt m_errorPosition m_nested m_codeCount m_fam r15 r18 h9) mX10_placeOf tw1548 ⟨Nat.le_of_ble_eq_true rfl, Nat.le_of_ble_eq_true rfl⟩ hP hD hS hA ⟨Nat.zero_le _, Nat.zero_le _⟩ 0 10 rfl rfl rfl (wr := [((ad 9), .inl (cI, 16, .inl m_generation)), ((ad 10), .inl (cI, 12, .inl m_level))]) [0, 1] [2, 3] rfl rfl rfl rfl (by decide) (As := [.int r15]) (rest := []) rfl hl.1 rfl (Nat.le_of_ble_eq_true rfl) dX10_doCross_18 (fun H locs hP hD hS => ?_)
  refine W.eq (g2 := F0 m 21 ls [.int r18]) rfl ?_
  have hP : va_P (dC, dI) vwCl [((ad 9), .inl (cI, 16, .inl m_generation)), ((ad 10), .inl (cI, 12, .inl m_level)), (ad 0, .inr (10, oM ad m_undoCount m_thrown m_hasSnapshot a_m_fam m_rows m_lineLength m_formattedLength m_bufferLength m_limit m_next m_beginsAt m_token m_error m_errorAt m_errorPosition m_nested m_codeCount)), (a_m_fam, .inl (cJ, 130, .inr (.inl m_fam)))] H := hP
  have hD : va_D A [((ad 9), .inl (cI, 16, .inl m_generation)), ((ad 10), .inl (cI, 12, .inl m_level)), (ad 0, .inr (10, oM ad m_undoCount m_thrown m_hasSnapshot a_m_fam m_rows m_lineLength m_formattedLength m_bufferLength m_limit m_next m_beginsAt m_token m_error m_errorAt m_errorPosition m_nested m_codeCount)), (a_m_fam, .inl (cJ, 130, .inr (.inl m_fam)))] := hD
  refine lv_istore (lv' := [(4, .int r18), (3, .int r7), (0, .ref (ad 0)), (1, .int v1), (2, .int v2)]) hx hb dX10_doCross_21 hl (by decide) rfl (fun ls hl => ?_)
  refine lv_aload_n hx hb dX10_doCross_23 rfl (lv_at hl 2 rfl) ?_
  refine lv_aload_n hx hb dX10_doCross_24 rfl (lv_at hl 2 rfl) ?_
  refine lv_iload_n hx hb dX10_doCross_25 rfl (lv_at hl 4 rfl) ?_
  refine lv_iconst (v := 0) hx hb dX10_doCross_26 (by decide) ?_
  obtain ⟨r27, h9, hf⟩ := ob_s hf
  refine gcV (index := 150) S hE (c_X10_partnerBox ad a_m_fam m_undoCount m_thrown m_hasSnapshot m_rows m_lineLength m_formattedLength m_bufferLength m_limit m_next m_beginsAt m_token m_error m_errorAt m_errorPosition m_nested m_codeCount m_fam m_generation m_level v2 (0 : Int32) r27 h9) mX10_partnerBox tw1617 ⟨Nat.le_of_ble_eq_true rfl, Nat.le_of_ble_eq_true rfl⟩ hP hD hS hA ⟨Nat.zero_le _, Nat.zero_le _⟩ 2 10 rfl rfl rfl (wr := []) [2, 3, 0, 1] [] rfl rfl rfl rfl (by decide) (As := [.int v2, .int (0 : Int32)]) (rest := [.ref (ad 0)]) rfl hl.1 rfl (Nat.le_of_ble_eq_true rfl) dX10_doCross_27 (fun H locs hP hD hS => ?_)
  refine W.eq (g2 := F0 m 30 ls [.int r27, .ref (ad 0)]) rfl ?_
  have hP : va_P (dC, dI) vwCl [(ad 0, .inr (10, oM ad m_undoCount m_thrown m_hasSnapshot a_m_fam m_rows m_lineLength m_formattedLength m_bufferLength m_limit m_next m_beginsAt m_token m_error m_errorAt m_errorPosition m_nested m_codeCount)), (a_m_fam, .inl (cJ, 130, .inr (.inl m_fam))), ((ad 9), .inl (cI, 16, .inl m_generation)), ((ad 10), .inl (cI, 12, .inl m_level))] H := hP
  have hD : va_D A [(ad 0, .inr (10, oM ad m_undoCount m_thrown m_hasSnapshot a_m_fam m_rows m_lineLength m_formattedLength m_bufferLength m_limit m_next m_beginsAt m_token m_error m_errorAt m_errorPosition m_nested m_codeCount)), (a_m_fam, .inl (cJ, 130, .inr (.inl m_fam))), ((ad 9), .inl (cI, 16, .inl m_generation)), ((ad 10), .inl (cI, 12, .inl m_level))] := hD
  obtain ⟨r30, h9, hf⟩ := ob_s hf
  refine gcV (index := 147) S hE (c_X10_placeOf ad a_m_fam m_undoCount m_thrown m_hasSnapshot m_rows m_lineLength m_formattedLength m_bufferLength m_limit m_next m_beginsAt m_token m_error m_errorAt m_errorPosition m_nested m_codeCount m_fam r27 r30 h9) mX10_placeOf tw1548 ⟨Nat.le_of_ble_eq_true rfl, Nat.le_of_ble_eq_true rfl⟩ hP hD hS hA ⟨Nat.zero_le _, Nat.zero_le _⟩ 0 10 rfl rfl rfl (wr := [((ad 9), .inl (cI, 16, .inl m_generation)), ((ad 10), .inl (cI, 12, .inl m_level))]) [0, 1] [2, 3] rfl rfl rfl rfl (by decide) (As := [.int r27]) (rest := []) rfl hl.1 rfl (Nat.le_of_ble_eq_true rfl) dX10_doCross_30 (fun H locs hP hD hS => ?_)
  refine W.eq (g2 := F0 m 33 ls [.int r30]) rfl ?_
  have hP : va_P (dC, dI) vwCl [((ad 9), .inl (cI, 16, .inl m_generation)), ((ad 10), .inl (cI, 12, .inl m_level)), (ad 0, .inr (10, oM ad m_undoCount m_thrown m_hasSnapshot a_m_fam m_rows m_lineLength m_formattedLength m_bufferLength m_limit m_next m_beginsAt m_token m_error m_errorAt m_errorPosition m_nested m_codeCount)), (a_m_fam, .inl (cJ, 130, .inr (.inl m_fam)))] H := hP
  have hD : va_D A [((ad 9), .inl (cI, 16, .inl m_generation)), ((ad 10), .inl (cI, 12, .inl m_level)), (ad 0, .inr (10, oM ad m_undoCount m_thrown m_hasSnapshot a_m_fam m_rows m_lineLength m_formattedLength m_bufferLength m_limit m_next m_beginsAt m_token m_error m_errorAt m_errorPosition m_nested m_codeCount)), (a_m_fam, .inl (cJ, 130, .inr (.inl m_fam)))] := hD
  refine lv_istore (lv' := [(5, .int r30), (4, .int r18), (3, .int r7), (0, .ref (ad 0)), (1, .int v1), (2, .int v2)]) hx hb dX10_doCross_33 hl (by decide) rfl (fun ls hl => ?_)
  refine lv_aload_n hx hb dX10_doCross_35 rfl (lv_at hl 3 rfl) ?_
  refine lv_aload_n hx hb dX10_doCross_36 rfl (lv_at hl 3 rfl) ?_
  refine lv_iload_n hx hb dX10_doCross_37 rfl (lv_at hl 5 rfl) ?_
  refine lv_iconst (v := 1) hx hb dX10_doCross_38 (by decide) ?_
  obtain ⟨r39, h9, hf⟩ := ob_s hf
  refine gcV (index := 150) S hE (c_X10_partnerBox ad a_m_fam m_undoCount m_thrown m_hasSnapshot m_rows m_lineLength m_formattedLength m_bufferLength m_limit m_next m_beginsAt m_token m_error m_errorAt m_errorPosition m_nested m_codeCount m_fam m_generation m_level v2 (1 : Int32) r39 h9) mX10_partnerBox tw1617 ⟨Nat.le_of_ble_eq_true rfl, Nat.le_of_ble_eq_true rfl⟩ hP hD hS hA ⟨Nat.zero_le _, Nat.zero_le _⟩ 2 10 rfl rfl rfl (wr := []) [2, 3, 0, 1] [] rfl rfl rfl rfl (by decide) (As := [.int v2, .int (1 : Int32)]) (rest := [.ref (ad 0)]) rfl hl.1 rfl (Nat.le_of_ble_eq_true rfl) dX10_doCross_39 (fun H locs hP hD hS => ?_)
  refine W.eq (g2 := F0 m 42 ls [.int r39, .ref (ad 0)]) rfl ?_
  have hP : va_P (dC, dI) vwCl [(ad 0, .inr (10, oM ad m_undoCount m_thrown m_hasSnapshot a_m_fam m_rows m_lineLength m_formattedLength m_bufferLength m_limit m_next m_beginsAt m_token m_error m_errorAt m_errorPosition m_nested m_codeCount)), (a_m_fam, .inl (cJ, 130, .inr (.inl m_fam))), ((ad 9), .inl (cI, 16, .inl m_generation)), ((ad 10), .inl (cI, 12, .inl m_level))] H := hP
  have hD : va_D A [(ad 0, .inr (10, oM ad m_undoCount m_thrown m_hasSnapshot a_m_fam m_rows m_lineLength m_formattedLength m_bufferLength m_limit m_next m_beginsAt m_token m_error m_errorAt m_errorPosition m_nested m_codeCount)), (a_m_fam, .inl (cJ, 130, .inr (.inl m_fam))), ((ad 9), .inl (cI, 16, .inl m_generation)), ((ad 10), .inl (cI, 12, .inl m_level))] := hD
  obtain ⟨r42, h9, hf⟩ := ob_s hf
  refine gcV (index := 147) S hE (c_X10_placeOf ad a_m_fam m_undoCount m_thrown m_hasSnapshot m_rows m_lineLength m_formattedLength m_bufferLength m_limit m_next m_beginsAt m_token m_error m_errorAt m_errorPosition m_nested m_codeCount m_fam r39 r42 h9) mX10_placeOf tw1548 ⟨Nat.le_of_ble_eq_true rfl, Nat.le_of_ble_eq_true rfl⟩ hP hD hS hA ⟨Nat.zero_le _, Nat.zero_le _⟩ 0 10 rfl rfl rfl (wr := [((ad 9), .inl (cI, 16, .inl m_generation)), ((ad 10), .inl (cI, 12, .inl m_level))]) [0, 1] [2, 3] rfl rfl rfl rfl (by decide) (As := [.int r39]) (rest := []) rfl hl.1 rfl (Nat.le_of_ble_eq_true rfl) dX10_doCross_42 (fun H locs hP hD hS => ?_)
  refine W.eq (g2 := F0 m 45 ls [.int r42]) rfl ?_
  have hP : va_P (dC, dI) vwCl [((ad 9), .inl (cI, 16, .inl m_generation)), ((ad 10), .inl (cI, 12, .inl m_level)), (ad 0, .inr (10, oM ad m_undoCount m_thrown m_hasSnapshot a_m_fam m_rows m_lineLength m_formattedLength m_bufferLength m_limit m_next m_beginsAt m_token m_error m_errorAt m_errorPosition m_nested m_codeCount)), (a_m_fam, .inl (cJ, 130, .inr (.inl m_fam)))] H := hP
  have hD : va_D A [((ad 9), .inl (cI, 16, .inl m_generation)), ((ad 10), .inl (cI, 12, .inl m_level)), (ad 0, .inr (10, oM ad m_undoCount m_thrown m_hasSnapshot a_m_fam m_rows m_lineLength m_formattedLength m_bufferLength m_limit m_next m_beginsAt m_token m_error m_errorAt m_errorPosition m_nested m_codeCount)), (a_m_fam, .inl (cJ, 130, .inr (.inl m_fam)))] := hD
  refine lv_istore (lv' := [(6, .int r42), (5, .int r30), (4, .int r18), (3, .int r7), (0, .ref (ad 0)), (1, .int v1), (2, .int v2)]) hx hb dX10_doCross_45 hl (by decide) rfl (fun ls hl => ?_)
  refine lv_iload_n hx hb dX10_doCross_47 rfl (lv_at hl 3 rfl) ?_
  refine lv_iload hx hb dX10_doCross_48 (lv_at hl 1 rfl) ?_
  refine lv_icmp_eq (tgt := 77) hx hb dX10_doCross_50 (by decide) (fun h9 => ?_) (fun h9 => ?_)
  · have hf := itt h9 hf
    exact J77 r7 r18 r30 r42 H locs ls hf (hP.sub [2, 3, 0, 1] rfl) (hD.sub [2, 3, 0, 1] (by decide) rfl) hS (lv_sub hl [3, 2, 1, 0] rfl)
  · have hf := itf h9 hf
    refine lv_iload_n hx hb dX10_doCross_53 rfl (lv_at hl 3 rfl) ?_
    refine lv_iload hx hb dX10_doCross_54 (lv_at hl 0 rfl) ?_
    refine lv_icmp_eq (tgt := 77) hx hb dX10_doCross_56 (by decide) (fun h9 => ?_) (fun h9 => ?_)
    · have hf := itt h9 hf
      exact J77 r7 r18 r30 r42 H locs ls hf (hP.sub [2, 3, 0, 1] rfl) (hD.sub [2, 3, 0, 1] (by decide) rfl) hS (lv_sub hl [3, 2, 1, 0] rfl)
    · have hf := itf h9 hf
      refine lv_iload hx hb dX10_doCross_59 (lv_at hl 2 rfl) ?_
      refine lv_iload hx hb dX10_doCross_61 (lv_at hl 1 rfl) ?_
      refine lv_icmp_eq (tgt := 77) hx hb dX10_doCross_63 (by decide) (fun h9 => ?_) (fun h9 => ?_)
      · have hf := itt h9 hf
        exact J77 r7 r18 r30 r42 H locs ls hf (hP.sub [2, 3, 0, 1] rfl) (hD.sub [2, 3, 0, 1] (by decide) rfl) hS (lv_sub hl [3, 2, 1, 0] rfl)
      · have hf := itf h9 hf
        refine lv_iload hx hb dX10_doCross_66 (lv_at hl 2 rfl) ?_
        refine lv_iload hx hb dX10_doCross_68 (lv_at hl 0 rfl) ?_
        refine lv_icmp_eq (tgt := 77) hx hb dX10_doCross_70 (by decide) (fun h9 => ?_) (fun h9 => ?_)
        · have hf := itt h9 hf
          exact J77 r7 r18 r30 r42 H locs ls hf (hP.sub [2, 3, 0, 1] rfl) (hD.sub [2, 3, 0, 1] (by decide) rfl) hS (lv_sub hl [3, 2, 1, 0] rfl)
        · have hf := itf h9 hf
          refine lv_iconst (v := 1) hx hb dX10_doCross_73 (by decide) ?_
          refine lv_goto (tgt := 78) hx hb dX10_doCross_74 (by decide) ?_
          refine lv_istore (lv' := [(7, .int (1 : Int32)), (6, .int r42), (5, .int r30), (4, .int r18), (3, .int r7), (0, .ref (ad 0)), (1, .int v1), (2, .int v2)]) hx hb dX10_doCross_78 hl (by decide) rfl (fun ls hl => ?_)
          exact J80 r7 r18 r30 r42 true H locs ls hf (hP.sub [2, 3, 0, 1] rfl) (hD.sub [2, 3, 0, 1] (by decide) rfl) hS (lv_sub hl [4, 3, 2, 1, 0] rfl)
set_option maxHeartbeats 4000000 in
set_option maxRecDepth 100000 in
theorem c_X10_crossingsIn (ad : Nat → Nat) (a_m_fam : Nat) (m_undoCount : Int32) (m_thrown : Int32) (m_hasSnapshot : Bool) (m_rows : Int32) (m_lineLength : Int32) (m_formattedLength : Int32) (m_bufferLength : Int32) (m_limit : Int32) (m_next : Int32) (m_beginsAt : Int32) (m_token : Int32) (m_error : Int32) (m_errorAt : Int32) (m_errorPosition : Int32) (m_nested : Int32) (m_codeCount : Int32) (m_fam : Nat → Int64) (m_generation : Nat → Int32) (m_level : Nat → Int32) (v1 : Int32) (r9 : Int32) (hf : p10_crossingsIn m_fam m_generation m_level v1 = some r9) : gM l dC dI cI cJ cZ yX10_crossingsIn cX10_crossingsIn 5 (some .int) (3) (72) [.ref (ad 0), .int v1] [(ad 0, .inr (10, oM ad m_undoCount m_thrown m_hasSnapshot a_m_fam m_rows m_lineLength m_formattedLength m_bufferLength m_limit m_next m_beginsAt m_token m_error m_errorAt m_errorPosition m_nested m_codeCount)), (a_m_fam, .inl (cJ, 130, .inr (.inl m_fam))), ((ad 9), .inl (cI, 16, .inl m_generation)), ((ad 10), .inl (cI, 12, .inl m_level))] [(ad 0, .inr (10, oM ad m_undoCount m_thrown m_hasSnapshot a_m_fam m_rows m_lineLength m_formattedLength m_bufferLength m_limit m_next m_beginsAt m_token m_error m_errorAt m_errorPosition m_nested m_codeCount)), (a_m_fam, .inl (cJ, 130, .inr (.inl m_fam))), ((ad 9), .inl (cI, 16, .inl m_generation)), ((ad 10), .inl (cI, 12, .inl m_level))] (some (.int r9)) := by
  refine g_start (own := RX10) (by decide +kernel) rfl (Nat.le_of_ble_eq_true rfl) ?_
  intro p e s m below meth c A ls S hr hlocks hE hP hD hS hA hl hin
  have hx := S.1
  have hb := S.2.1
  have hml := S.2.2.1
  have hown := S.2.2.2.1
  have htg : ∀ z ∈ gw, z.before ([.ref (ad 0), .int v1] : List Value).toArray s = true := fun w h => S.2.2.2.2 w (List.mem_cons_of_mem _ h)
  have hl : lv_has ls 5 [(0, .ref (ad 0)), (1, .int v1)] := hl
  have hS0 := hS
  obtain ⟨H, hH⟩ : ∃ H, H = s.heap := ⟨_, rfl⟩
  obtain ⟨locs, hlc⟩ : ∃ locs : List Loc, locs = [] := ⟨_, rfl⟩
  have hS : va_S A s.heap H locs := by rw [hH, hlc]; exact hS0
  have hP : va_P (dC, dI) vwCl [(ad 0, .inr (10, oM ad m_undoCount m_thrown m_hasSnapshot a_m_fam m_rows m_lineLength m_formattedLength m_bufferLength m_limit m_next m_beginsAt m_token m_error m_errorAt m_errorPosition m_nested m_codeCount)), (a_m_fam, .inl (cJ, 130, .inr (.inl m_fam))), ((ad 9), .inl (cI, 16, .inl m_generation)), ((ad 10), .inl (cI, 12, .inl m_level))] H := by rw [hH]; exact hP
  suffices hgo : W p l e ({ frames := 3, cells := 0, slots := 0, locals := 72 }) s m ([.ref (ad 0), .int v1] : List Value).toArray below meth c H locs 0 0 (MQ below (gQ dC dI (some (.int r9)) A [(ad 0, .inr (10, oM ad m_undoCount m_thrown m_hasSnapshot a_m_fam m_rows m_lineLength m_formattedLength m_bufferLength m_limit m_next m_beginsAt m_token m_error m_errorAt m_errorPosition m_nested m_codeCount)), (a_m_fam, .inl (cJ, 130, .inr (.inl m_fam))), ((ad 9), .inl (cI, 16, .inl m_generation)), ((ad 10), .inl (cI, 12, .inl m_level))]) ([.ref (ad 0), .int v1] : List Value).toArray s 0 0 A) (F0 m 0 ls []) by rw [hH, hlc] at hgo; exact hgo
  rw [p10_crossingsIn] at hf
  have J72 : ∀ (v2_72 : Int32) (H : Heap) (locs : List Loc) (ls : Array Slot), p10_crossingsIn_J72 v2_72 = some r9 → va_P (dC, dI) vwCl [(ad 0, .inr (10, oM ad m_undoCount m_thrown m_hasSnapshot a_m_fam m_rows m_lineLength m_formattedLength m_bufferLength m_limit m_next m_beginsAt m_token m_error m_errorAt m_errorPosition m_nested m_codeCount)), (a_m_fam, .inl (cJ, 130, .inr (.inl m_fam))), ((ad 9), .inl (cI, 16, .inl m_generation)), ((ad 10), .inl (cI, 12, .inl m_level))] H → va_D A [(ad 0, .inr (10, oM ad m_undoCount m_thrown m_hasSnapshot a_m_fam m_rows m_lineLength m_formattedLength m_bufferLength m_limit m_next m_beginsAt m_token m_error m_errorAt m_errorPosition m_nested m_codeCount)), (a_m_fam, .inl (cJ, 130, .inr (.inl m_fam))), ((ad 9), .inl (cI, 16, .inl m_generation)), ((ad 10), .inl (cI, 12, .inl m_level))] → va_S A s.heap H locs → lv_has ls 5 [(2, .int v2_72)] → W p l e ({ frames := 3, cells := 0, slots := 0, locals := 72 }) s m ([.ref (ad 0), .int v1] : List Value).toArray below meth c H locs 0 0 (MQ below (gQ dC dI (some (.int r9)) A [(ad 0, .inr (10, oM ad m_undoCount m_thrown m_hasSnapshot a_m_fam m_rows m_lineLength m_formattedLength m_bufferLength m_limit m_next m_beginsAt m_token m_error m_errorAt m_errorPosition m_nested m_codeCount)), (a_m_fam, .inl (cJ, 130, .inr (.inl m_fam))), ((ad 9), .inl (cI, 16, .inl m_generation)), ((ad 10), .inl (cI, 12, .inl m_level))]) ([.ref (ad 0), .int v1] : List Value).toArray s 0 0 A) (F0 m 72 ls []) := by
    intro v2_72 H locs ls hf hP hD hS hl
    rw [p10_crossingsIn_J72] at hf
    refine lv_iload_n hx hb dX10_crossingsIn_72 rfl (lv_at hl 0 rfl) ?_
    cases hf
    exact g_iret S hr hlocks hP hD hS dX10_crossingsIn_73
  refine lv_iconst (v := 0) hx hb dX10_crossingsIn_0 (by decide) ?_
  refine lv_istore_n (lv' := [(2, .int (0 : Int32)), (0, .ref (ad 0)), (1, .int v1)]) hx hb dX10_crossingsIn_1 rfl hl (by decide) rfl (fun ls hl => ?_)
  refine lv_iconst (v := 0) hx hb dX10_crossingsIn_2 (by decide) ?_
  refine lv_istore_n (lv' := [(3, .int (0 : Int32)), (2, .int (0 : Int32)), (0, .ref (ad 0)), (1, .int v1)]) hx hb dX10_crossingsIn_3 rfl hl (by decide) rfl (fun ls hl => ?_)
  have K4 : ∀ (n4 : Nat) (v2_4 : Int32) (v3_4 : Int32) (ex4 : Int32) (H : Heap) (locs : List Loc) (ls : Array Slot), p10_crossingsIn_L4 m_fam m_generation m_level v1 n4 v2_4 v3_4 = some ex4 → (fun v2_x4 => p10_crossingsIn_J72 v2_x4) ex4 = some r9 → va_P (dC, dI) vwCl [(ad 0, .inr (10, oM ad m_undoCount m_thrown m_hasSnapshot a_m_fam m_rows m_lineLength m_formattedLength m_bufferLength m_limit m_next m_beginsAt m_token m_error m_errorAt m_errorPosition m_nested m_codeCount)), (a_m_fam, .inl (cJ, 130, .inr (.inl m_fam))), ((ad 9), .inl (cI, 16, .inl m_generation)), ((ad 10), .inl (cI, 12, .inl m_level))] H → va_D A [(ad 0, .inr (10, oM ad m_undoCount m_thrown m_hasSnapshot a_m_fam m_rows m_lineLength m_formattedLength m_bufferLength m_limit m_next m_beginsAt m_token m_error m_errorAt m_errorPosition m_nested m_codeCount)), (a_m_fam, .inl (cJ, 130, .inr (.inl m_fam))), ((ad 9), .inl (cI, 16, .inl m_generation)), ((ad 10), .inl (cI, 12, .inl m_level))] → va_S A s.heap H locs → lv_has ls 5 [(0, .ref (ad 0)), (1, .int v1), (2, .int v2_4), (3, .int v3_4)] → W p l e ({ frames := 3, cells := 0, slots := 0, locals := 72 }) s m ([.ref (ad 0), .int v1] : List Value).toArray below meth c H locs 0 0 (MQ below (gQ dC dI (some (.int r9)) A [(ad 0, .inr (10, oM ad m_undoCount m_thrown m_hasSnapshot a_m_fam m_rows m_lineLength m_formattedLength m_bufferLength m_limit m_next m_beginsAt m_token m_error m_errorAt m_errorPosition m_nested m_codeCount)), (a_m_fam, .inl (cJ, 130, .inr (.inl m_fam))), ((ad 9), .inl (cI, 16, .inl m_generation)), ((ad 10), .inl (cI, 12, .inl m_level))]) ([.ref (ad 0), .int v1] : List Value).toArray s 0 0 A) (F0 m 4 ls []) := by
    intro n4
    induction n4 with
    | zero => intro v2_4 v3_4 ex4 H locs ls hf; rw [p10_crossingsIn_L4] at hf; cases hf
    | succ n4 ih4 =>
      intro v2_4 v3_4 ex4 H locs ls hf hk4 hP hD hS hl
      rw [p10_crossingsIn_L4, p10_crossingsIn_L4_B] at hf
      have J66 : ∀ (v2_66 : Int32) (H : Heap) (locs : List Loc) (ls : Array Slot), p10_crossingsIn_J66 (p10_crossingsIn_L4 m_fam m_generation m_level v1 n4) v3_4 v2_66 = some ex4 → va_P (dC, dI) vwCl [(ad 0, .inr (10, oM ad m_undoCount m_thrown m_hasSnapshot a_m_fam m_rows m_lineLength m_formattedLength m_bufferLength m_limit m_next m_beginsAt m_token m_error m_errorAt m_errorPosition m_nested m_codeCount)), (a_m_fam, .inl (cJ, 130, .inr (.inl m_fam))), ((ad 9), .inl (cI, 16, .inl m_generation)), ((ad 10), .inl (cI, 12, .inl m_level))] H → va_D A [(ad 0, .inr (10, oM ad m_undoCount m_thrown m_hasSnapshot a_m_fam m_rows m_lineLength m_formattedLength m_bufferLength m_limit m_next m_beginsAt m_token m_error m_errorAt m_errorPosition m_nested m_codeCount)), (a_m_fam, .inl (cJ, 130, .inr (.inl m_fam))), ((ad 9), .inl (cI, 16, .inl m_generation)), ((ad 10), .inl (cI, 12, .inl m_level))] → va_S A s.heap H locs → lv_has ls 5 [(0, .ref (ad 0)), (1, .int v1), (2, .int v2_66), (3, .int v3_4)] → W p l e ({ frames := 3, cells := 0, slots := 0, locals := 72 }) s m ([.ref (ad 0), .int v1] : List Value).toArray below meth c H locs 0 0 (MQ below (gQ dC dI (some (.int r9)) A [(ad 0, .inr (10, oM ad m_undoCount m_thrown m_hasSnapshot a_m_fam m_rows m_lineLength m_formattedLength m_bufferLength m_limit m_next m_beginsAt m_token m_error m_errorAt m_errorPosition m_nested m_codeCount)), (a_m_fam, .inl (cJ, 130, .inr (.inl m_fam))), ((ad 9), .inl (cI, 16, .inl m_generation)), ((ad 10), .inl (cI, 12, .inl m_level))]) ([.ref (ad 0), .int v1] : List Value).toArray s 0 0 A) (F0 m 66 ls []) := by
        intro v2_66 H locs ls hf hP hD hS hl
        rw [p10_crossingsIn_J66] at hf
        obtain ⟨t66, h9⟩ : ∃ z : Int32, z = (v3_4 + (1 : Int32)) := ⟨_, rfl⟩
        have hf := lb_e h9 hf
        refine lv_iinc (v := t66) (lv' := [(3, .int t66), (0, .ref (ad 0)), (1, .int v1), (2, .int v2_66)]) hx hb dX10_crossingsIn_66 hl (k := 3) rfl (by rw [h9]; rfl) (by decide) rfl (fun ls hl => ?_)
        refine lv_goto (tgt := 4) hx hb dX10_crossingsIn_69 (by decide) ?_
        exact ih4 v2_66 t66 ex4 H locs ls hf hk4 hP hD hS (lv_sub hl [1, 2, 3, 0] rfl)
      refine lv_iload_n hx hb dX10_crossingsIn_4 rfl (lv_at hl 3 rfl) ?_
      refine lv_aload_n hx hb dX10_crossingsIn_5 rfl (lv_at hl 0 rfl) ?_
      obtain ⟨r6, h9, hf⟩ := ob_s hf
      refine gcV (index := 110) S hE (c_X10_unions ad a_m_fam m_undoCount m_thrown m_hasSnapshot m_rows m_lineLength m_formattedLength m_bufferLength m_limit m_next m_beginsAt m_token m_error m_errorAt m_errorPosition m_nested m_codeCount m_fam r6 h9) mX10_unions tw1532 ⟨Nat.le_of_ble_eq_true rfl, Nat.le_of_ble_eq_true rfl⟩ hP hD hS hA ⟨Nat.zero_le _, Nat.zero_le _⟩ 0 10 rfl rfl rfl (wr := [((ad 9), .inl (cI, 16, .inl m_generation)), ((ad 10), .inl (cI, 12, .inl m_level))]) [0, 1] [2, 3] rfl rfl rfl rfl (by decide) (As := []) (rest := [.int v3_4]) rfl hl.1 rfl (Nat.le_of_ble_eq_true rfl) dX10_crossingsIn_6 (fun H locs hP hD hS => ?_)
      refine W.eq (g2 := F0 m 9 ls [.int r6, .int v3_4]) rfl ?_
      have hP : va_P (dC, dI) vwCl [((ad 9), .inl (cI, 16, .inl m_generation)), ((ad 10), .inl (cI, 12, .inl m_level)), (ad 0, .inr (10, oM ad m_undoCount m_thrown m_hasSnapshot a_m_fam m_rows m_lineLength m_formattedLength m_bufferLength m_limit m_next m_beginsAt m_token m_error m_errorAt m_errorPosition m_nested m_codeCount)), (a_m_fam, .inl (cJ, 130, .inr (.inl m_fam)))] H := hP
      have hD : va_D A [((ad 9), .inl (cI, 16, .inl m_generation)), ((ad 10), .inl (cI, 12, .inl m_level)), (ad 0, .inr (10, oM ad m_undoCount m_thrown m_hasSnapshot a_m_fam m_rows m_lineLength m_formattedLength m_bufferLength m_limit m_next m_beginsAt m_token m_error m_errorAt m_errorPosition m_nested m_codeCount)), (a_m_fam, .inl (cJ, 130, .inr (.inl m_fam)))] := hD
      refine lv_icmp_ge (tgt := 72) hx hb dX10_crossingsIn_9 (by decide) (fun h9 => ?_) (fun h9 => ?_)
      · have hf := itt h9 hf
        cases hf
        have hf := hk4
        exact J72 v2_4 H locs ls hf (hP.sub [2, 3, 0, 1] rfl) (hD.sub [2, 3, 0, 1] (by decide) rfl) hS (lv_sub hl [2] rfl)
      · have hf := itf h9 hf
        refine lv_iconst (v := 0) hx hb dX10_crossingsIn_12 (by decide) ?_
        refine lv_istore (lv' := [(4, .int (0 : Int32)), (0, .ref (ad 0)), (1, .int v1), (2, .int v2_4), (3, .int v3_4)]) hx hb dX10_crossingsIn_13 hl (by decide) rfl (fun ls hl => ?_)
        have K15 : ∀ (n15 : Nat) (v2_15 : Int32) (v4_15 : Int32) (ex15 : Int32) (H : Heap) (locs : List Loc) (ls : Array Slot), p10_crossingsIn_L15 m_fam m_generation m_level v1 v3_4 n15 v2_15 v4_15 = some ex15 → (fun v2_x15 => p10_crossingsIn_J66 (p10_crossingsIn_L4 m_fam m_generation m_level v1 n4) v3_4 v2_x15) ex15 = some ex4 → va_P (dC, dI) vwCl [(ad 0, .inr (10, oM ad m_undoCount m_thrown m_hasSnapshot a_m_fam m_rows m_lineLength m_formattedLength m_bufferLength m_limit m_next m_beginsAt m_token m_error m_errorAt m_errorPosition m_nested m_codeCount)), (a_m_fam, .inl (cJ, 130, .inr (.inl m_fam))), ((ad 9), .inl (cI, 16, .inl m_generation)), ((ad 10), .inl (cI, 12, .inl m_level))] H → va_D A [(ad 0, .inr (10, oM ad m_undoCount m_thrown m_hasSnapshot a_m_fam m_rows m_lineLength m_formattedLength m_bufferLength m_limit m_next m_beginsAt m_token m_error m_errorAt m_errorPosition m_nested m_codeCount)), (a_m_fam, .inl (cJ, 130, .inr (.inl m_fam))), ((ad 9), .inl (cI, 16, .inl m_generation)), ((ad 10), .inl (cI, 12, .inl m_level))] → va_S A s.heap H locs → lv_has ls 5 [(0, .ref (ad 0)), (1, .int v1), (2, .int v2_15), (3, .int v3_4), (4, .int v4_15)] → W p l e ({ frames := 3, cells := 0, slots := 0, locals := 72 }) s m ([.ref (ad 0), .int v1] : List Value).toArray below meth c H locs 0 0 (MQ below (gQ dC dI (some (.int r9)) A [(ad 0, .inr (10, oM ad m_undoCount m_thrown m_hasSnapshot a_m_fam m_rows m_lineLength m_formattedLength m_bufferLength m_limit m_next m_beginsAt m_token m_error m_errorAt m_errorPosition m_nested m_codeCount)), (a_m_fam, .inl (cJ, 130, .inr (.inl m_fam))), ((ad 9), .inl (cI, 16, .inl m_generation)), ((ad 10), .inl (cI, 12, .inl m_level))]) ([.ref (ad 0), .int v1] : List Value).toArray s 0 0 A) (F0 m 15 ls []) := by
          intro n15
          induction n15 with
          | zero => intro v2_15 v4_15 ex15 H locs ls hf; rw [p10_crossingsIn_L15] at hf; cases hf
          | succ n15 ih15 =>
            intro v2_15 v4_15 ex15 H locs ls hf hk15 hP hD hS hl
            rw [p10_crossingsIn_L15, p10_crossingsIn_L15_B] at hf
            refine lv_iload hx hb dX10_crossingsIn_15 (lv_at hl 4 rfl) ?_
            refine lv_iload_n hx hb dX10_crossingsIn_17 rfl (lv_at hl 3 rfl) ?_
            refine lv_icmp_ge (tgt := 66) hx hb dX10_crossingsIn_18 (by decide) (fun h9 => ?_) (fun h9 => ?_)
            · have hf := itt h9 hf
              cases hf
              have hf := hk15
              exact J66 v2_15 H locs ls hf hP hD hS (lv_sub hl [0, 1, 2, 3] rfl)
            · have hf := itf h9 hf
              refine lv_aload_n hx hb dX10_crossingsIn_21 rfl (lv_at hl 0 rfl) ?_
              refine va_get (D := (dC, dI)) (ci := 10) (v := .ref (ad 10)) (C := RX10) (T := TX10) (N := 37) hx hb htg inX10 hown hE.1 hP 0 rfl rfl 9 (by decide) (htg _ tw1391) (fun _ h9 => h9) rfl dX10_crossingsIn_22 ?_
              refine lv_iload_n hx hb dX10_crossingsIn_25 rfl (lv_at hl 3 rfl) ?_
              obtain ⟨h9, hf⟩ := gd_s hf
              refine va_iald hx hb hE.1 hP 3 0 rfl rfl h9 dX10_crossingsIn_26 ?_
              refine lv_iload_n hx hb dX10_crossingsIn_27 rfl (lv_at hl 1 rfl) ?_
              refine lv_icmp_ne (tgt := 66) hx hb dX10_crossingsIn_28 (by decide) (fun h9 => ?_) (fun h9 => ?_)
              · have hf := itf h9 hf
                cases hf
                have hf := hk15
                exact J66 v2_15 H locs ls hf hP hD hS (lv_sub hl [0, 1, 2, 3] rfl)
              · have hf := itt h9 hf
                refine lv_iload_n hx hb dX10_crossingsIn_31 rfl (lv_at hl 2 rfl) ?_
                refine lv_aload_n hx hb dX10_crossingsIn_32 rfl (lv_at hl 0 rfl) ?_
                refine va_get (D := (dC, dI)) (ci := 10) (v := .ref (ad 10)) (C := RX10) (T := TX10) (N := 37) hx hb htg inX10 hown hE.1 hP 0 rfl rfl 9 (by decide) (htg _ tw1391) (fun _ h9 => h9) rfl dX10_crossingsIn_33 ?_
                refine lv_iload hx hb dX10_crossingsIn_36 (lv_at hl 4 rfl) ?_
                obtain ⟨h9, hf⟩ := gd_s hf
                refine va_iald hx hb hE.1 hP 3 0 rfl rfl h9 dX10_crossingsIn_38 ?_
                refine lv_iload_n hx hb dX10_crossingsIn_39 rfl (lv_at hl 1 rfl) ?_
                refine lv_icmp_ne (tgt := 57) hx hb dX10_crossingsIn_40 (by decide) (fun h9 => ?_) (fun h9 => ?_)
                · have hf := itf h9 hf
                  refine lv_iconst (v := 0) hx hb dX10_crossingsIn_57 (by decide) ?_
                  refine lv_iadd hx hb dX10_crossingsIn_58 ?_
                  refine lv_topi (fun t59 h9 => ?_)
                  have hf := lb_e h9 hf
                  refine lv_istore_n (lv' := [(2, .int t59), (0, .ref (ad 0)), (1, .int v1), (3, .int v3_4), (4, .int v4_15)]) hx hb dX10_crossingsIn_59 rfl hl (by decide) rfl (fun ls hl => ?_)
                  obtain ⟨t60, h9⟩ : ∃ z : Int32, z = (v4_15 + (1 : Int32)) := ⟨_, rfl⟩
                  have hf := lb_e h9 hf
                  refine lv_iinc (v := t60) (lv' := [(4, .int t60), (2, .int t59), (0, .ref (ad 0)), (1, .int v1), (3, .int v3_4)]) hx hb dX10_crossingsIn_60 hl (k := 4) rfl (by rw [h9]; rfl) (by decide) rfl (fun ls hl => ?_)
                  refine lv_goto (tgt := 15) hx hb dX10_crossingsIn_63 (by decide) ?_
                  exact ih15 t59 t60 ex15 H locs ls hf hk15 hP hD hS (lv_sub hl [2, 3, 1, 4, 0] rfl)
                · have hf := itt h9 hf
                  refine lv_aload_n hx hb dX10_crossingsIn_43 rfl (lv_at hl 0 rfl) ?_
                  refine lv_iload_n hx hb dX10_crossingsIn_44 rfl (lv_at hl 3 rfl) ?_
                  refine lv_iload hx hb dX10_crossingsIn_45 (lv_at hl 4 rfl) ?_
                  obtain ⟨r47, h9, hf⟩ := ob_s hf
                  refine gcV (index := 163) S hE (c_X10_doCross ad a_m_fam m_undoCount m_thrown m_hasSnapshot m_rows m_lineLength m_formattedLength m_bufferLength m_limit m_next m_beginsAt m_token m_error m_errorAt m_errorPosition m_nested m_codeCount m_fam m_generation m_level v3_4 v4_15 r47 h9) mX10_doCross tw1745 ⟨Nat.le_of_ble_eq_true rfl, Nat.le_of_ble_eq_true rfl⟩ hP hD hS hA ⟨Nat.zero_le _, Nat.zero_le _⟩ 0 10 rfl rfl rfl (wr := []) [0, 1, 2, 3] [] rfl rfl rfl rfl (by decide) (As := [.int v3_4, .int v4_15]) (rest := [.int v2_15]) rfl hl.1 rfl (Nat.le_of_ble_eq_true rfl) dX10_crossingsIn_47 (fun H locs hP hD hS => ?_)
                  refine W.eq (g2 := F0 m 50 ls [.int (bI r47), .int v2_15]) rfl ?_
                  have hP : va_P (dC, dI) vwCl [(ad 0, .inr (10, oM ad m_undoCount m_thrown m_hasSnapshot a_m_fam m_rows m_lineLength m_formattedLength m_bufferLength m_limit m_next m_beginsAt m_token m_error m_errorAt m_errorPosition m_nested m_codeCount)), (a_m_fam, .inl (cJ, 130, .inr (.inl m_fam))), ((ad 9), .inl (cI, 16, .inl m_generation)), ((ad 10), .inl (cI, 12, .inl m_level))] H := hP
                  have hD : va_D A [(ad 0, .inr (10, oM ad m_undoCount m_thrown m_hasSnapshot a_m_fam m_rows m_lineLength m_formattedLength m_bufferLength m_limit m_next m_beginsAt m_token m_error m_errorAt m_errorPosition m_nested m_codeCount)), (a_m_fam, .inl (cJ, 130, .inr (.inl m_fam))), ((ad 9), .inl (cI, 16, .inl m_generation)), ((ad 10), .inl (cI, 12, .inl m_level))] := hD
                  refine lv_if_eq (tgt := 57) hx hb dX10_crossingsIn_50 (by decide) (fun h9 => ?_) (fun h9 => ?_)
                  · have hf := ctf (bI_0 h9) hf
                    refine lv_iconst (v := 0) hx hb dX10_crossingsIn_57 (by decide) ?_
                    refine lv_iadd hx hb dX10_crossingsIn_58 ?_
                    refine lv_topi (fun t59 h9 => ?_)
                    have hf := lb_e h9 hf
                    refine lv_istore_n (lv' := [(2, .int t59), (0, .ref (ad 0)), (1, .int v1), (3, .int v3_4), (4, .int v4_15)]) hx hb dX10_crossingsIn_59 rfl hl (by decide) rfl (fun ls hl => ?_)
                    obtain ⟨t60, h9⟩ : ∃ z : Int32, z = (v4_15 + (1 : Int32)) := ⟨_, rfl⟩
                    have hf := lb_e h9 hf
                    refine lv_iinc (v := t60) (lv' := [(4, .int t60), (2, .int t59), (0, .ref (ad 0)), (1, .int v1), (3, .int v3_4)]) hx hb dX10_crossingsIn_60 hl (k := 4) rfl (by rw [h9]; rfl) (by decide) rfl (fun ls hl => ?_)
                    refine lv_goto (tgt := 15) hx hb dX10_crossingsIn_63 (by decide) ?_
                    exact ih15 t59 t60 ex15 H locs ls hf hk15 hP hD hS (lv_sub hl [2, 3, 1, 4, 0] rfl)
                  · have hf := ctt (bI_1 h9) hf
                    refine lv_iconst (v := 1) hx hb dX10_crossingsIn_53 (by decide) ?_
                    refine lv_goto (tgt := 58) hx hb dX10_crossingsIn_54 (by decide) ?_
                    refine lv_iadd hx hb dX10_crossingsIn_58 ?_
                    refine lv_topi (fun t59 h9 => ?_)
                    have hf := lb_e h9 hf
                    refine lv_istore_n (lv' := [(2, .int t59), (0, .ref (ad 0)), (1, .int v1), (3, .int v3_4), (4, .int v4_15)]) hx hb dX10_crossingsIn_59 rfl hl (by decide) rfl (fun ls hl => ?_)
                    obtain ⟨t60, h9⟩ : ∃ z : Int32, z = (v4_15 + (1 : Int32)) := ⟨_, rfl⟩
                    have hf := lb_e h9 hf
                    refine lv_iinc (v := t60) (lv' := [(4, .int t60), (2, .int t59), (0, .ref (ad 0)), (1, .int v1), (3, .int v3_4)]) hx hb dX10_crossingsIn_60 hl (k := 4) rfl (by rw [h9]; rfl) (by decide) rfl (fun ls hl => ?_)
                    refine lv_goto (tgt := 15) hx hb dX10_crossingsIn_63 (by decide) ?_
                    exact ih15 t59 t60 ex15 H locs ls hf hk15 hP hD hS (lv_sub hl [2, 3, 1, 4, 0] rfl)
        obtain ⟨ex, h9, hf⟩ := ob_s hf
        exact K15 FU v2_4 (0 : Int32) ex H locs ls h9 hf (hP.sub [2, 3, 0, 1] rfl) (hD.sub [2, 3, 0, 1] (by decide) rfl) hS (lv_sub hl [1, 2, 3, 4, 0] rfl)
  obtain ⟨ex, h9, hf⟩ := ob_s hf
  exact K4 FU (0 : Int32) (0 : Int32) ex H locs ls h9 hf hP hD hS (lv_sub hl [2, 3, 1, 0] rfl)
set_option maxHeartbeats 4000000 in
set_option maxRecDepth 100000 in
theorem c_X10_isChildAt (ad : Nat → Nat) (a_m_fam : Nat) (m_undoCount : Int32) (m_thrown : Int32) (m_hasSnapshot : Bool) (m_rows : Int32) (m_lineLength : Int32) (m_formattedLength : Int32) (m_bufferLength : Int32) (m_limit : Int32) (m_next : Int32) (m_beginsAt : Int32) (m_token : Int32) (m_error : Int32) (m_errorAt : Int32) (m_errorPosition : Int32) (m_nested : Int32) (m_codeCount : Int32) (m_fam : Nat → Int64) (m_level : Nat → Int32) (v1 : Int32) (v2 : Int32) (r9 : Bool) (hf : p10_isChildAt m_fam m_level v1 v2 = some r9) : gM l dC dI cI cJ cZ yX10_isChildAt cX10_isChildAt 3 (some .boolean) (2) (43) [.ref (ad 0), .int v1, .int v2] [(ad 0, .inr (10, oM ad m_undoCount m_thrown m_hasSnapshot a_m_fam m_rows m_lineLength m_formattedLength m_bufferLength m_limit m_next m_beginsAt m_token m_error m_errorAt m_errorPosition m_nested m_codeCount)), (a_m_fam, .inl (cJ, 130, .inr (.inl m_fam))), ((ad 10), .inl (cI, 12, .inl m_level))] [(ad 0, .inr (10, oM ad m_undoCount m_thrown m_hasSnapshot a_m_fam m_rows m_lineLength m_formattedLength m_bufferLength m_limit m_next m_beginsAt m_token m_error m_errorAt m_errorPosition m_nested m_codeCount)), (a_m_fam, .inl (cJ, 130, .inr (.inl m_fam))), ((ad 10), .inl (cI, 12, .inl m_level))] (some (.int (bI r9))) := by
  refine g_start (own := RX10) (by decide +kernel) rfl (Nat.le_of_ble_eq_true rfl) ?_
  intro p e s m below meth c A ls S hr hlocks hE hP hD hS hA hl hin
  have hx := S.1
  have hb := S.2.1
  have hml := S.2.2.1
  have hown := S.2.2.2.1
  have htg : ∀ z ∈ gw, z.before ([.ref (ad 0), .int v1, .int v2] : List Value).toArray s = true := fun w h => S.2.2.2.2 w (List.mem_cons_of_mem _ h)
  have hl : lv_has ls 3 [(0, .ref (ad 0)), (1, .int v1), (2, .int v2)] := hl
  have hS0 := hS
  obtain ⟨H, hH⟩ : ∃ H, H = s.heap := ⟨_, rfl⟩
  obtain ⟨locs, hlc⟩ : ∃ locs : List Loc, locs = [] := ⟨_, rfl⟩
  have hS : va_S A s.heap H locs := by rw [hH, hlc]; exact hS0
  have hP : va_P (dC, dI) vwCl [(ad 0, .inr (10, oM ad m_undoCount m_thrown m_hasSnapshot a_m_fam m_rows m_lineLength m_formattedLength m_bufferLength m_limit m_next m_beginsAt m_token m_error m_errorAt m_errorPosition m_nested m_codeCount)), (a_m_fam, .inl (cJ, 130, .inr (.inl m_fam))), ((ad 10), .inl (cI, 12, .inl m_level))] H := by rw [hH]; exact hP
  suffices hgo : W p l e ({ frames := 2, cells := 0, slots := 0, locals := 43 }) s m ([.ref (ad 0), .int v1, .int v2] : List Value).toArray below meth c H locs 0 0 (MQ below (gQ dC dI (some (.int (bI r9))) A [(ad 0, .inr (10, oM ad m_undoCount m_thrown m_hasSnapshot a_m_fam m_rows m_lineLength m_formattedLength m_bufferLength m_limit m_next m_beginsAt m_token m_error m_errorAt m_errorPosition m_nested m_codeCount)), (a_m_fam, .inl (cJ, 130, .inr (.inl m_fam))), ((ad 10), .inl (cI, 12, .inl m_level))]) ([.ref (ad 0), .int v1, .int v2] : List Value).toArray s 0 0 A) (F0 m 0 ls []) by rw [hH, hlc] at hgo; exact hgo
  rw [p10_isChildAt] at hf
  refine lv_aload_n hx hb dX10_isChildAt_0 rfl (lv_at hl 0 rfl) ?_
  refine lv_iload_n hx hb dX10_isChildAt_1 rfl (lv_at hl 1 rfl) ?_
  obtain ⟨r2, h9, hf⟩ := ob_s hf
  refine gcV (index := 117) S hE (c_X10_parentsOf ad a_m_fam m_undoCount m_thrown m_hasSnapshot m_rows m_lineLength m_formattedLength m_bufferLength m_limit m_next m_beginsAt m_token m_error m_errorAt m_errorPosition m_nested m_codeCount m_fam v1 r2 h9) mX10_parentsOf tw1515 ⟨Nat.le_of_ble_eq_true rfl, Nat.le_of_ble_eq_true rfl⟩ hP hD hS hA ⟨Nat.zero_le _, Nat.zero_le _⟩ 0 10 rfl rfl rfl (wr := [((ad 10), .inl (cI, 12, .inl m_level))]) [0, 1] [2] rfl rfl rfl rfl (by decide) (As := [.int v1]) (rest := []) rfl hl.1 rfl (Nat.le_of_ble_eq_true rfl) dX10_isChildAt_2 (fun H locs hP hD hS => ?_)
  refine W.eq (g2 := F0 m 5 ls [.int r2]) rfl ?_
  have hP : va_P (dC, dI) vwCl [((ad 10), .inl (cI, 12, .inl m_level)), (ad 0, .inr (10, oM ad m_undoCount m_thrown m_hasSnapshot a_m_fam m_rows m_lineLength m_formattedLength m_bufferLength m_limit m_next m_beginsAt m_token m_error m_errorAt m_errorPosition m_nested m_codeCount)), (a_m_fam, .inl (cJ, 130, .inr (.inl m_fam)))] H := hP
  have hD : va_D A [((ad 10), .inl (cI, 12, .inl m_level)), (ad 0, .inr (10, oM ad m_undoCount m_thrown m_hasSnapshot a_m_fam m_rows m_lineLength m_formattedLength m_bufferLength m_limit m_next m_beginsAt m_token m_error m_errorAt m_errorPosition m_nested m_codeCount)), (a_m_fam, .inl (cJ, 130, .inr (.inl m_fam)))] := hD
  refine lv_iconst (v := -1) hx hb dX10_isChildAt_5 (by decide) ?_
  refine lv_icmp_eq (tgt := 27) hx hb dX10_isChildAt_6 (by decide) (fun h9 => ?_) (fun h9 => ?_)
  · have hf := itt h9 hf
    refine lv_iconst (v := 0) hx hb dX10_isChildAt_27 (by decide) ?_
    cases hf
    exact g_zret S hr (nar_bI false) hlocks (hP.sub [1, 2, 0] rfl) (hD.sub [1, 2, 0] (by decide) rfl) hS dX10_isChildAt_28
  · have hf := itf h9 hf
    refine lv_aload_n hx hb dX10_isChildAt_9 rfl (lv_at hl 0 rfl) ?_
    refine va_get (D := (dC, dI)) (ci := 10) (v := .ref (ad 10)) (C := RX10) (T := TX10) (N := 37) hx hb htg inX10 hown hE.1 hP 1 rfl rfl 9 (by decide) (htg _ tw1391) (fun _ h9 => h9) rfl dX10_isChildAt_10 ?_
    refine lv_aload_n hx hb dX10_isChildAt_13 rfl (lv_at hl 0 rfl) ?_
    refine lv_iload_n hx hb dX10_isChildAt_14 rfl (lv_at hl 1 rfl) ?_
    obtain ⟨r15, h9, hf⟩ := ob_s hf
    refine gcV (index := 117) S hE (c_X10_parentsOf ad a_m_fam m_undoCount m_thrown m_hasSnapshot m_rows m_lineLength m_formattedLength m_bufferLength m_limit m_next m_beginsAt m_token m_error m_errorAt m_errorPosition m_nested m_codeCount m_fam v1 r15 h9) mX10_parentsOf tw1515 ⟨Nat.le_of_ble_eq_true rfl, Nat.le_of_ble_eq_true rfl⟩ hP hD hS hA ⟨Nat.zero_le _, Nat.zero_le _⟩ 1 10 rfl rfl rfl (wr := [((ad 10), .inl (cI, 12, .inl m_level))]) [1, 2] [0] rfl rfl rfl rfl (by decide) (As := [.int v1]) (rest := [.ref (ad 10)]) rfl hl.1 rfl (Nat.le_of_ble_eq_true rfl) dX10_isChildAt_15 (fun H locs hP hD hS => ?_)
    refine W.eq (g2 := F0 m 18 ls [.int r15, .ref (ad 10)]) rfl ?_
    have hP : va_P (dC, dI) vwCl [((ad 10), .inl (cI, 12, .inl m_level)), (ad 0, .inr (10, oM ad m_undoCount m_thrown m_hasSnapshot a_m_fam m_rows m_lineLength m_formattedLength m_bufferLength m_limit m_next m_beginsAt m_token m_error m_errorAt m_errorPosition m_nested m_codeCount)), (a_m_fam, .inl (cJ, 130, .inr (.inl m_fam)))] H := hP
    have hD : va_D A [((ad 10), .inl (cI, 12, .inl m_level)), (ad 0, .inr (10, oM ad m_undoCount m_thrown m_hasSnapshot a_m_fam m_rows m_lineLength m_formattedLength m_bufferLength m_limit m_next m_beginsAt m_token m_error m_errorAt m_errorPosition m_nested m_codeCount)), (a_m_fam, .inl (cJ, 130, .inr (.inl m_fam)))] := hD
    obtain ⟨h9, hf⟩ := gd_s hf
    refine va_iald hx hb hE.1 hP 0 0 rfl rfl h9 dX10_isChildAt_18 ?_
    refine lv_iload_n hx hb dX10_isChildAt_19 rfl (lv_at hl 2 rfl) ?_
    refine lv_icmp_ne (tgt := 27) hx hb dX10_isChildAt_20 (by decide) (fun h9 => ?_) (fun h9 => ?_)
    · have hf := itf h9 hf
      refine lv_iconst (v := 0) hx hb dX10_isChildAt_27 (by decide) ?_
      cases hf
      exact g_zret S hr (nar_bI false) hlocks (hP.sub [1, 2, 0] rfl) (hD.sub [1, 2, 0] (by decide) rfl) hS dX10_isChildAt_28
    · have hf := itt h9 hf
      refine lv_iconst (v := 1) hx hb dX10_isChildAt_23 (by decide) ?_
      refine lv_goto (tgt := 28) hx hb dX10_isChildAt_24 (by decide) ?_
      cases hf
      exact g_zret S hr (nar_bI true) hlocks (hP.sub [1, 2, 0] rfl) (hD.sub [1, 2, 0] (by decide) rfl) hS dX10_isChildAt_28
end G_31_FamilyChartModel00
